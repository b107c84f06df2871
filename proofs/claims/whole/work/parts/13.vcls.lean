-- X0_seek cuts [16, 43]
set_option maxRecDepth 20000 in
set_option maxHeartbeats 2000000 in
theorem wX0_seek {d bc bs : Nat} {h : HS} {P : Option AV → HS → Prop} {l1 : Int32} {l2 : Int32} {l3 : Int32} (k : V true mX0_seek (d + 3) bc bs 16 [(0, aR 21 0), (1, aI l1), (3, aI l3), (4, aI (minF l2 8)), (5, aI 0)] [] (sI h 21 0 4 (-1)) P) : Cl true mX0_seek (d + 3) bc bs [aR 21 0, aI l1, aI l2, aI l3] h P := by
  refine Cl_of (by decide) (Nat.le_of_ble_eq_true rfl) ?_
  show V true mX0_seek (d + 3) bc bs 0 [(0, aR 21 0), (1, aI l1), (2, aI l2), (3, aI l3)] [] h P
  refine V_iload_n 2 dX0_seek_0 rfl rfl ?_
  refine V_bipush 8 dX0_seek_1 (by decide) ?_
  refine V_callS (mc := 0) (ms := 0) (as := [aI l2, aI 8]) (st := []) dX0_seek_3 okJ9_min_7cf53 stJ9_min_7cf53 lkX0_31 rfl (Nat.le_of_ble_eq_true rfl) (Nat.zero_le _) (Nat.zero_le _) (cJ9_min_ ?_)
  show V true mX0_seek (d + 3) _ _ 6 [(0, aR 21 0), (1, aI l1), (2, aI l2), (3, aI l3)] [aI (minF l2 8)] h P
  refine V_istore 4 dX0_seek_6 (by decide) rfl ?_
  refine V_aload_n 0 dX0_seek_8 rfl rfl ?_
  refine V_iconst (-1) dX0_seek_9 (by decide) ?_
  refine PI_21_4 dX0_seek_10 lkX0_24 ?_
  refine V_iconst 0 dX0_seek_13 (by decide) ?_
  refine V_istore 5 dX0_seek_14 (by decide) rfl ?_
  exact V_lv [2, 3, 5, 1, 0] rfl k
set_option maxRecDepth 20000 in
set_option maxHeartbeats 2000000 in
theorem wX0_seek_16 {d bc bs : Nat} {h : HS} {P : Option AV → HS → Prop} {l1 : Int32} {l3 : Int32} {l4 : Int32} {l5 : Int32} (k : ((l4 ≤ l5) → (V true mX0_seek (d + 3) bc bs 43 [(0, aR 21 0), (1, aI l1), (4, aI l4), (5, aI 1), (6, aI 0)] [] h P)) ∧ ((¬ l4 ≤ l5) → (vp_in l5 8 ∧ (V true mX0_seek (d + 3) bc bs 16 [(0, aR 21 0), (1, aI l1), (3, aI l3), (4, aI l4), (5, aI (l5 + 1))] [] (sI h 24 0 l5.toNatClampNeg l3) P)))) : V true mX0_seek (d + 3) bc bs 16 [(0, aR 21 0), (1, aI l1), (3, aI l3), (4, aI l4), (5, aI l5)] [] h P := by
  refine V_iload 5 dX0_seek_16 rfl ?_
  refine V_iload 4 dX0_seek_18 rfl ?_
  refine V_icmp_ge 37 dX0_seek_20 (by decide) ⟨fun z => ?_, fun z => ?_⟩
  · replace k := k.1 z
    refine V_iconst 1 dX0_seek_37 (by decide) ?_
    refine V_istore 5 dX0_seek_38 (by decide) rfl ?_
    refine V_iconst 0 dX0_seek_40 (by decide) ?_
    refine V_istore 6 dX0_seek_41 (by decide) rfl ?_
    exact V_lv [2, 3, 5, 1, 0] rfl k
  · replace k := k.2 z
    refine V_aload_n 0 dX0_seek_23 rfl rfl ?_
    refine GS_21_2 dX0_seek_24 lkX0_18 ?_
    refine V_iload 5 dX0_seek_27 rfl ?_
    refine V_iload_n 3 dX0_seek_29 rfl rfl ?_
    refine V_iast (by decide) rt_24 dX0_seek_30 k.1 ?_
    replace k := k.2
    refine V_iinc 5 (v := l5 + 1) dX0_seek_31 rfl rfl (by decide) rfl ?_
    refine V_goto 16 dX0_seek_34 (by decide) ?_
    exact V_lv [1, 2, 3, 4, 0] rfl k
set_option maxRecDepth 20000 in
set_option maxHeartbeats 2000000 in
theorem wX0_seek_43 {d bc bs : Nat} {h : HS} {P : Option AV → HS → Prop} {l1 : Int32} {l4 : Int32} {l5 : Int32} {l6 : Int32} (k : ((65536 ≤ l6) → (P none h)) ∧ ((¬ 65536 ≤ l6) → (((l5 = 0) → (P none h)) ∧ ((¬ l5 = 0) → (Cl true mX0_tryRow (d + 2) 0 0 [aR 21 0, aI l1, aI l4] h (fun r1 h2 => r1 = none ∧ (Cl true mX0_stepRow (d + 2) 0 0 [aR 21 0, aI l4] h2 (fun r3 h4 => ∃ x5 : Int32, r3 = some (aI x5) ∧ (V true mX0_seek (d + 3) bc bs 43 [(0, aR 21 0), (1, aI l1), (4, aI l4), (5, aI x5), (6, aI (l6 + 1))] [] h4 P))))))))) : V true mX0_seek (d + 3) bc bs 43 [(0, aR 21 0), (1, aI l1), (4, aI l4), (5, aI l5), (6, aI l6)] [] h P := by
  refine V_iload 6 dX0_seek_43 rfl ?_
  refine V_ldc 65536 dX0_seek_45 lkX0_37 ?_
  refine V_icmp_ge 76 dX0_seek_47 (by decide) ⟨fun z => ?_, fun z => ?_⟩
  · replace k := k.1 z
    exact V_return dX0_seek_76 rfl k
  · replace k := k.2 z
    refine V_iload 5 dX0_seek_50 rfl ?_
    refine V_if_eq 76 dX0_seek_52 (by decide) ⟨fun z => ?_, fun z => ?_⟩
    · replace k := k.1 z
      exact V_return dX0_seek_76 rfl k
    · replace k := k.2 z
      refine V_aload_n 0 dX0_seek_55 rfl rfl ?_
      refine V_iload_n 1 dX0_seek_56 rfl rfl ?_
      refine V_iload 4 dX0_seek_57 rfl ?_
      refine V_callV (mc := 0) (ms := 0) (as := [aI l1, aI l4]) (st := []) (by decide) rt_21 rfl dX0_seek_59 okX0_tryRow inX0_tryRow seX0_tryRow lkX0_38 rfl (Nat.le_of_ble_eq_true rfl) (Nat.zero_le _) (Nat.zero_le _) (Cl.mono (fun r1 h2 z => ?_) k)
      obtain ⟨rfl, k⟩ := z
      refine V_aload_n 0 dX0_seek_62 rfl rfl ?_
      refine V_iload 4 dX0_seek_63 rfl ?_
      refine V_callV (mc := 0) (ms := 0) (as := [aI l4]) (st := []) (by decide) rt_21 rfl dX0_seek_65 okX0_stepRow inX0_stepRow seX0_stepRow lkX0_42 rfl (Nat.le_of_ble_eq_true rfl) (Nat.zero_le _) (Nat.zero_le _) (Cl.mono (fun r3 h4 z => ?_) k)
      obtain ⟨x5, rfl, k⟩ := z
      refine V_istore 5 dX0_seek_68 (by decide) rfl ?_
      refine V_iinc 6 (v := l6 + 1) dX0_seek_70 rfl rfl (by decide) rfl ?_
      refine V_goto 43 dX0_seek_73 (by decide) ?_
      exact V_lv [2, 3, 4, 1, 0] rfl k
-- X0_tryRow cuts [8]
set_option maxRecDepth 20000 in
set_option maxHeartbeats 2000000 in
theorem wX0_tryRow {d bc bs : Nat} {h : HS} {P : Option AV → HS → Prop} {l1 : Int32} {l2 : Int32} (k : V true mX0_tryRow (d + 3) bc bs 8 [(0, aR 21 0), (2, aI l2), (3, aI l1), (4, aI 0), (5, aI 0)] [] h P) : Cl true mX0_tryRow (d + 3) bc bs [aR 21 0, aI l1, aI l2] h P := by
  refine Cl_of (by decide) (Nat.le_of_ble_eq_true rfl) ?_
  show V true mX0_tryRow (d + 3) bc bs 0 [(0, aR 21 0), (1, aI l1), (2, aI l2)] [] h P
  refine V_iload_n 1 dX0_tryRow_0 rfl rfl ?_
  refine V_istore_n 3 dX0_tryRow_1 rfl (by decide) rfl ?_
  refine V_iconst 0 dX0_tryRow_2 (by decide) ?_
  refine V_istore 4 dX0_tryRow_3 (by decide) rfl ?_
  refine V_iconst 0 dX0_tryRow_5 (by decide) ?_
  refine V_istore 5 dX0_tryRow_6 (by decide) rfl ?_
  exact V_lv [3, 5, 2, 1, 0] rfl k
set_option maxRecDepth 20000 in
set_option maxHeartbeats 2000000 in
theorem wX0_tryRow_8 {d bc bs : Nat} {h : HS} {P : Option AV → HS → Prop} {l2 : Int32} {l3 : Int32} {l4 : Int32} {l5 : Int32} (k : ((l2 ≤ l5) → (((l4 ≤ (gI h 21 0 4)) → (P none h)) ∧ ((¬ l4 ≤ (gI h 21 0 4)) → (Cl true mX0_keepRow (d + 2) 0 0 [aR 21 0, aI l2] (sI (sI h 21 0 4 l4) 21 0 5 l3) (fun r1 h2 => r1 = none ∧ (P none h2)))))) ∧ ((¬ l2 ≤ l5) → (((8 ≤ l5) → (((l4 ≤ (gI h 21 0 4)) → (P none h)) ∧ ((¬ l4 ≤ (gI h 21 0 4)) → (Cl true mX0_keepRow (d + 2) 0 0 [aR 21 0, aI l2] (sI (sI h 21 0 4 l4) 21 0 5 l3) (fun r3 h4 => r3 = none ∧ (P none h4)))))) ∧ ((¬ 8 ≤ l5) → (vp_in l5 8 ∧ ((((gI h 24 0 l5.toNatClampNeg) < 0) → (V true mX0_tryRow (d + 3) bc bs 8 [(0, aR 21 0), (2, aI l2), (3, aI l3), (4, aI l4), (5, aI (l5 + 1))] [] h P)) ∧ ((¬ (gI h 24 0 l5.toNatClampNeg) < 0) → (((4 ≤ (gI h 24 0 l5.toNatClampNeg)) → (V true mX0_tryRow (d + 3) bc bs 8 [(0, aR 21 0), (2, aI l2), (3, aI l3), (4, aI l4), (5, aI (l5 + 1))] [] h P)) ∧ ((¬ 4 ≤ (gI h 24 0 l5.toNatClampNeg)) → (vp_in (gI h 24 0 l5.toNatClampNeg) 4 ∧ (vp_in (gI h 24 0 l5.toNatClampNeg) 4 ∧ (V true mX0_tryRow (d + 3) bc bs 8 [(0, aR 21 0), (2, aI l2), (3, aI (l3 - (minF (gI h 23 0 (gI h 24 0 l5.toNatClampNeg).toNatClampNeg) l3))), (4, aI (l4 + ((minF (gI h 23 0 (gI h 24 0 l5.toNatClampNeg).toNatClampNeg) l3) * (gI h 22 0 (gI h 24 0 l5.toNatClampNeg).toNatClampNeg)))), (5, aI (l5 + 1))] [] h P)))))))))))) : V true mX0_tryRow (d + 3) bc bs 8 [(0, aR 21 0), (2, aI l2), (3, aI l3), (4, aI l4), (5, aI l5)] [] h P := by
  refine V_iload 5 dX0_tryRow_8 rfl ?_
  refine V_iload_n 2 dX0_tryRow_10 rfl rfl ?_
  refine V_icmp_ge 80 dX0_tryRow_11 (by decide) ⟨fun z => ?_, fun z => ?_⟩
  · replace k := k.1 z
    refine V_iload 4 dX0_tryRow_80 rfl ?_
    refine V_aload_n 0 dX0_tryRow_82 rfl rfl ?_
    refine GI_21_4 dX0_tryRow_83 lkX0_24 ?_
    refine V_icmp_le 105 dX0_tryRow_86 (by decide) ⟨fun z => ?_, fun z => ?_⟩
    · replace k := k.1 z
      exact V_return dX0_tryRow_105 rfl k
    · replace k := k.2 z
      refine V_aload_n 0 dX0_tryRow_89 rfl rfl ?_
      refine V_iload 4 dX0_tryRow_90 rfl ?_
      refine PI_21_4 dX0_tryRow_92 lkX0_24 ?_
      refine V_aload_n 0 dX0_tryRow_95 rfl rfl ?_
      refine V_iload_n 3 dX0_tryRow_96 rfl rfl ?_
      refine PI_21_5 dX0_tryRow_97 lkX0_28 ?_
      refine V_aload_n 0 dX0_tryRow_100 rfl rfl ?_
      refine V_iload_n 2 dX0_tryRow_101 rfl rfl ?_
      refine V_callV (mc := 0) (ms := 0) (as := [aI l2]) (st := []) (by decide) rt_21 rfl dX0_tryRow_102 okX0_keepRow inX0_keepRow seX0_keepRow lkX0_46 rfl (Nat.le_of_ble_eq_true rfl) (Nat.zero_le _) (Nat.zero_le _) (Cl.mono (fun r1 h2 z => ?_) k)
      obtain ⟨rfl, k⟩ := z
      exact V_return dX0_tryRow_105 rfl k
  · replace k := k.2 z
    refine V_iload 5 dX0_tryRow_14 rfl ?_
    refine V_bipush 8 dX0_tryRow_16 (by decide) ?_
    refine V_icmp_ge 80 dX0_tryRow_18 (by decide) ⟨fun z => ?_, fun z => ?_⟩
    · replace k := k.1 z
      refine V_iload 4 dX0_tryRow_80 rfl ?_
      refine V_aload_n 0 dX0_tryRow_82 rfl rfl ?_
      refine GI_21_4 dX0_tryRow_83 lkX0_24 ?_
      refine V_icmp_le 105 dX0_tryRow_86 (by decide) ⟨fun z => ?_, fun z => ?_⟩
      · replace k := k.1 z
        exact V_return dX0_tryRow_105 rfl k
      · replace k := k.2 z
        refine V_aload_n 0 dX0_tryRow_89 rfl rfl ?_
        refine V_iload 4 dX0_tryRow_90 rfl ?_
        refine PI_21_4 dX0_tryRow_92 lkX0_24 ?_
        refine V_aload_n 0 dX0_tryRow_95 rfl rfl ?_
        refine V_iload_n 3 dX0_tryRow_96 rfl rfl ?_
        refine PI_21_5 dX0_tryRow_97 lkX0_28 ?_
        refine V_aload_n 0 dX0_tryRow_100 rfl rfl ?_
        refine V_iload_n 2 dX0_tryRow_101 rfl rfl ?_
        refine V_callV (mc := 0) (ms := 0) (as := [aI l2]) (st := []) (by decide) rt_21 rfl dX0_tryRow_102 okX0_keepRow inX0_keepRow seX0_keepRow lkX0_46 rfl (Nat.le_of_ble_eq_true rfl) (Nat.zero_le _) (Nat.zero_le _) (Cl.mono (fun r3 h4 z => ?_) k)
        obtain ⟨rfl, k⟩ := z
        exact V_return dX0_tryRow_105 rfl k
    · replace k := k.2 z
      refine V_aload_n 0 dX0_tryRow_21 rfl rfl ?_
      refine GS_21_2 dX0_tryRow_22 lkX0_18 ?_
      refine V_iload 5 dX0_tryRow_25 rfl ?_
      refine V_iald (by decide) rt_24 dX0_tryRow_27 k.1 ?_
      replace k := k.2
      refine V_istore 6 dX0_tryRow_28 (by decide) rfl ?_
      refine V_iload 6 dX0_tryRow_30 rfl ?_
      refine V_if_lt 74 dX0_tryRow_32 (by decide) ⟨fun z => ?_, fun z => ?_⟩
      · replace k := k.1 z
        refine V_iinc 5 (v := l5 + 1) dX0_tryRow_74 rfl rfl (by decide) rfl ?_
        refine V_goto 8 dX0_tryRow_77 (by decide) ?_
        exact V_lv [2, 3, 4, 5, 0] rfl k
      · replace k := k.2 z
        refine V_iload 6 dX0_tryRow_35 rfl ?_
        refine V_iconst 4 dX0_tryRow_37 (by decide) ?_
        refine V_icmp_ge 74 dX0_tryRow_38 (by decide) ⟨fun z => ?_, fun z => ?_⟩
        · replace k := k.1 z
          refine V_iinc 5 (v := l5 + 1) dX0_tryRow_74 rfl rfl (by decide) rfl ?_
          refine V_goto 8 dX0_tryRow_77 (by decide) ?_
          exact V_lv [2, 3, 4, 5, 0] rfl k
        · replace k := k.2 z
          refine V_aload_n 0 dX0_tryRow_41 rfl rfl ?_
          refine GS_21_1 dX0_tryRow_42 lkX0_15 ?_
          refine V_iload 6 dX0_tryRow_45 rfl ?_
          refine V_iald (by decide) rt_23 dX0_tryRow_47 k.1 ?_
          replace k := k.2
          refine V_iload_n 3 dX0_tryRow_48 rfl rfl ?_
          refine V_callS (mc := 0) (ms := 0) (as := [aI (gI h 23 0 (gI h 24 0 l5.toNatClampNeg).toNatClampNeg), aI l3]) (st := []) dX0_tryRow_49 okJ9_min_7cf53 stJ9_min_7cf53 lkX0_31 rfl (Nat.le_of_ble_eq_true rfl) (Nat.zero_le _) (Nat.zero_le _) (cJ9_min_ ?_)
          show V true mX0_tryRow (d + 3) _ _ 52 [(6, aI (gI h 24 0 l5.toNatClampNeg)), (0, aR 21 0), (2, aI l2), (3, aI l3), (4, aI l4), (5, aI l5)] [aI (minF (gI h 23 0 (gI h 24 0 l5.toNatClampNeg).toNatClampNeg) l3)] h P
          refine V_istore 7 dX0_tryRow_52 (by decide) rfl ?_
          refine V_iload_n 3 dX0_tryRow_54 rfl rfl ?_
          refine V_iload 7 dX0_tryRow_55 rfl ?_
          refine V_isub dX0_tryRow_57 ?_
          refine V_istore_n 3 dX0_tryRow_58 rfl (by decide) rfl ?_
          refine V_iload 4 dX0_tryRow_59 rfl ?_
          refine V_iload 7 dX0_tryRow_61 rfl ?_
          refine V_aload_n 0 dX0_tryRow_63 rfl rfl ?_
          refine GS_21_0 dX0_tryRow_64 lkX0_9 ?_
          refine V_iload 6 dX0_tryRow_67 rfl ?_
          refine V_iald (by decide) rt_22 dX0_tryRow_69 k.1 ?_
          replace k := k.2
          refine V_imul dX0_tryRow_70 ?_
          refine V_iadd dX0_tryRow_71 ?_
          refine V_istore 4 dX0_tryRow_72 (by decide) rfl ?_
          refine V_iinc 5 (v := l5 + 1) dX0_tryRow_74 rfl rfl (by decide) rfl ?_
          refine V_goto 8 dX0_tryRow_77 (by decide) ?_
          exact V_lv [5, 6, 2, 1, 0] rfl k
-- X0_keepRow cuts [2]
set_option maxRecDepth 20000 in
set_option maxHeartbeats 2000000 in
theorem wX0_keepRow {d bc bs : Nat} {h : HS} {P : Option AV → HS → Prop} {l1 : Int32} (k : V true mX0_keepRow (d + 3) bc bs 2 [(0, aR 21 0), (1, aI l1), (2, aI 0)] [] h P) : Cl true mX0_keepRow (d + 3) bc bs [aR 21 0, aI l1] h P := by
  refine Cl_of (by decide) (Nat.le_of_ble_eq_true rfl) ?_
  show V true mX0_keepRow (d + 3) bc bs 0 [(0, aR 21 0), (1, aI l1)] [] h P
  refine V_iconst 0 dX0_keepRow_0 (by decide) ?_
  refine V_istore_n 2 dX0_keepRow_1 rfl (by decide) rfl ?_
  exact V_lv [1, 2, 0] rfl k
set_option maxRecDepth 20000 in
set_option maxHeartbeats 2000000 in
theorem wX0_keepRow_2 {d bc bs : Nat} {h : HS} {P : Option AV → HS → Prop} {l1 : Int32} {l2 : Int32} (k : ((l1 ≤ l2) → (P none h)) ∧ ((¬ l1 ≤ l2) → (((8 ≤ l2) → (P none h)) ∧ ((¬ 8 ≤ l2) → (vp_in l2 8 ∧ (vp_in l2 8 ∧ (V true mX0_keepRow (d + 3) bc bs 2 [(0, aR 21 0), (1, aI l1), (2, aI (l2 + 1))] [] (sI h 25 0 l2.toNatClampNeg (gI h 24 0 l2.toNatClampNeg)) P))))))) : V true mX0_keepRow (d + 3) bc bs 2 [(0, aR 21 0), (1, aI l1), (2, aI l2)] [] h P := by
  refine V_iload_n 2 dX0_keepRow_2 rfl rfl ?_
  refine V_iload_n 1 dX0_keepRow_3 rfl rfl ?_
  refine V_icmp_ge 31 dX0_keepRow_4 (by decide) ⟨fun z => ?_, fun z => ?_⟩
  · replace k := k.1 z
    exact V_return dX0_keepRow_31 rfl k
  · replace k := k.2 z
    refine V_iload_n 2 dX0_keepRow_7 rfl rfl ?_
    refine V_bipush 8 dX0_keepRow_8 (by decide) ?_
    refine V_icmp_ge 31 dX0_keepRow_10 (by decide) ⟨fun z => ?_, fun z => ?_⟩
    · replace k := k.1 z
      exact V_return dX0_keepRow_31 rfl k
    · replace k := k.2 z
      refine V_aload_n 0 dX0_keepRow_13 rfl rfl ?_
      refine GS_21_3 dX0_keepRow_14 lkX0_21 ?_
      refine V_iload_n 2 dX0_keepRow_17 rfl rfl ?_
      refine V_aload_n 0 dX0_keepRow_18 rfl rfl ?_
      refine GS_21_2 dX0_keepRow_19 lkX0_18 ?_
      refine V_iload_n 2 dX0_keepRow_22 rfl rfl ?_
      refine V_iald (by decide) rt_24 dX0_keepRow_23 k.1 ?_
      replace k := k.2
      refine V_iast (by decide) rt_25 dX0_keepRow_24 k.1 ?_
      replace k := k.2
      refine V_iinc 2 (v := l2 + 1) dX0_keepRow_25 rfl rfl (by decide) rfl ?_
      refine V_goto 2 dX0_keepRow_28 (by decide) ?_
      exact V_lv [1, 2, 0] rfl k
-- X0_stepRow cuts [11, 38]
set_option maxRecDepth 20000 in
set_option maxHeartbeats 2000000 in
theorem wX0_stepRow {d bc bs : Nat} {h : HS} {P : Option AV → HS → Prop} {l1 : Int32} (k : V true mX0_stepRow (d + 3) bc bs 11 [(0, aR 21 0), (2, aI ((minF l1 8) - 1)), (3, aI ((minF l1 8) - 1))] [] h P) : Cl true mX0_stepRow (d + 3) bc bs [aR 21 0, aI l1] h P := by
  refine Cl_of (by decide) (Nat.le_of_ble_eq_true rfl) ?_
  show V true mX0_stepRow (d + 3) bc bs 0 [(0, aR 21 0), (1, aI l1)] [] h P
  refine V_iload_n 1 dX0_stepRow_0 rfl rfl ?_
  refine V_bipush 8 dX0_stepRow_1 (by decide) ?_
  refine V_callS (mc := 0) (ms := 0) (as := [aI l1, aI 8]) (st := []) dX0_stepRow_3 okJ9_min_7cf53 stJ9_min_7cf53 lkX0_31 rfl (Nat.le_of_ble_eq_true rfl) (Nat.zero_le _) (Nat.zero_le _) (cJ9_min_ ?_)
  show V true mX0_stepRow (d + 3) _ _ 6 [(0, aR 21 0), (1, aI l1)] [aI (minF l1 8)] h P
  refine V_iconst 1 dX0_stepRow_6 (by decide) ?_
  refine V_isub dX0_stepRow_7 ?_
  refine V_istore_n 2 dX0_stepRow_8 rfl (by decide) rfl ?_
  refine V_iload_n 2 dX0_stepRow_9 rfl rfl ?_
  refine V_istore_n 3 dX0_stepRow_10 rfl (by decide) rfl ?_
  exact V_lv [2, 1, 0] rfl k
set_option maxRecDepth 20000 in
set_option maxHeartbeats 2000000 in
theorem wX0_stepRow_11 {d bc bs : Nat} {h : HS} {P : Option AV → HS → Prop} {l2 : Int32} {l3 : Int32} (k : ((l3 < 0) → (P (some (aI 0)) h)) ∧ ((¬ l3 < 0) → (vp_in l3 8 ∧ (((3 ≤ (gI h 24 0 l3.toNatClampNeg)) → (V true mX0_stepRow (d + 3) bc bs 11 [(0, aR 21 0), (2, aI l2), (3, aI (l3 + (-1)))] [] h P)) ∧ ((¬ 3 ≤ (gI h 24 0 l3.toNatClampNeg)) → (vp_in l3 8 ∧ (V true mX0_stepRow (d + 3) bc bs 38 [(0, aR 21 0), (2, aI l2), (4, aI ((gI h 24 0 l3.toNatClampNeg) + 1)), (5, aI l3)] [] h P))))))) : V true mX0_stepRow (d + 3) bc bs 11 [(0, aR 21 0), (2, aI l2), (3, aI l3)] [] h P := by
  refine V_iload_n 3 dX0_stepRow_11 rfl rfl ?_
  refine V_if_lt 67 dX0_stepRow_12 (by decide) ⟨fun z => ?_, fun z => ?_⟩
  · replace k := k.1 z
    refine V_iconst 0 dX0_stepRow_67 (by decide) ?_
    exact V_zreturn dX0_stepRow_68 rfl (by decide) k
  · replace k := k.2 z
    refine V_aload_n 0 dX0_stepRow_15 rfl rfl ?_
    refine GS_21_2 dX0_stepRow_16 lkX0_18 ?_
    refine V_iload_n 3 dX0_stepRow_19 rfl rfl ?_
    refine V_iald (by decide) rt_24 dX0_stepRow_20 k.1 ?_
    replace k := k.2
    refine V_iconst 3 dX0_stepRow_21 (by decide) ?_
    refine V_icmp_ge 61 dX0_stepRow_22 (by decide) ⟨fun z => ?_, fun z => ?_⟩
    · replace k := k.1 z
      refine V_iinc 3 (v := l3 + (-1)) dX0_stepRow_61 rfl rfl (by decide) rfl ?_
      refine V_goto 11 dX0_stepRow_64 (by decide) ?_
      exact V_lv [1, 2, 0] rfl k
    · replace k := k.2 z
      refine V_aload_n 0 dX0_stepRow_25 rfl rfl ?_
      refine GS_21_2 dX0_stepRow_26 lkX0_18 ?_
      refine V_iload_n 3 dX0_stepRow_29 rfl rfl ?_
      refine V_iald (by decide) rt_24 dX0_stepRow_30 k.1 ?_
      replace k := k.2
      refine V_iconst 1 dX0_stepRow_31 (by decide) ?_
      refine V_iadd dX0_stepRow_32 ?_
      refine V_istore 4 dX0_stepRow_33 (by decide) rfl ?_
      refine V_iload_n 3 dX0_stepRow_35 rfl rfl ?_
      refine V_istore 5 dX0_stepRow_36 (by decide) rfl ?_
      exact V_lv [2, 3, 1, 0] rfl k
set_option maxRecDepth 20000 in
set_option maxHeartbeats 2000000 in
theorem wX0_stepRow_38 {d bc bs : Nat} {h : HS} {P : Option AV → HS → Prop} {l2 : Int32} {l4 : Int32} {l5 : Int32} (k : ((l2 < l5) → (P (some (aI 1)) h)) ∧ ((¬ l2 < l5) → (vp_in l5 8 ∧ (V true mX0_stepRow (d + 3) bc bs 38 [(0, aR 21 0), (2, aI l2), (4, aI l4), (5, aI (l5 + 1))] [] (sI h 24 0 l5.toNatClampNeg l4) P)))) : V true mX0_stepRow (d + 3) bc bs 38 [(0, aR 21 0), (2, aI l2), (4, aI l4), (5, aI l5)] [] h P := by
  refine V_iload 5 dX0_stepRow_38 rfl ?_
  refine V_iload_n 2 dX0_stepRow_40 rfl rfl ?_
  refine V_icmp_gt 59 dX0_stepRow_41 (by decide) ⟨fun z => ?_, fun z => ?_⟩
  · replace k := k.1 z
    refine V_iconst 1 dX0_stepRow_59 (by decide) ?_
    exact V_zreturn dX0_stepRow_60 rfl (by decide) k
  · replace k := k.2 z
    refine V_aload_n 0 dX0_stepRow_44 rfl rfl ?_
    refine GS_21_2 dX0_stepRow_45 lkX0_18 ?_
    refine V_iload 5 dX0_stepRow_48 rfl ?_
    refine V_iload 4 dX0_stepRow_50 rfl ?_
    refine V_iast (by decide) rt_24 dX0_stepRow_52 k.1 ?_
    replace k := k.2
    refine V_iinc 5 (v := l5 + 1) dX0_stepRow_53 rfl rfl (by decide) rfl ?_
    refine V_goto 38 dX0_stepRow_56 (by decide) ?_
    exact V_lv [1, 2, 3, 0] rfl k
-- X1_clear cuts []
set_option maxRecDepth 20000 in
set_option maxHeartbeats 2000000 in
theorem wX1_clear {d bc bs : Nat} {h : HS} {P : Option AV → HS → Prop} {i0 : Nat} (k : P none (sI (sI h 12 i0 6 0) 12 i0 7 0)) : Cl true mX1_clear (d + 3) bc bs [aR 12 i0] h P := by
  refine Cl_of (by decide) (Nat.le_of_ble_eq_true rfl) ?_
  show V true mX1_clear (d + 3) bc bs 0 [(0, aR 12 i0)] [] h P
  refine V_aload_n 0 dX1_clear_0 rfl rfl ?_
  refine V_iconst 0 dX1_clear_1 (by decide) ?_
  refine PI_12_6 dX1_clear_2 lkX1_30 ?_
  refine V_aload_n 0 dX1_clear_5 rfl rfl ?_
  refine V_iconst 0 dX1_clear_6 (by decide) ?_
  refine PI_12_7 dX1_clear_7 lkX1_34 ?_
  exact V_return dX1_clear_10 rfl k
-- X1_addStep cuts []
set_option maxRecDepth 20000 in
set_option maxHeartbeats 2000000 in
theorem wX1_addStep {d bc bs : Nat} {h : HS} {P : Option AV → HS → Prop} {i0 : Nat} {l1 : Int32} {l2 : Int32} (k : (((gI h 12 i0 6) < 0) → (P none h)) ∧ ((¬ (gI h 12 i0 6) < 0) → (((400 ≤ (gI h 12 i0 6)) → (P none h)) ∧ ((¬ 400 ≤ (gI h 12 i0 6)) → (vp_in (gI h 12 i0 6) 400 ∧ (vp_in (gI h 12 i0 6) 400 ∧ (P none (sI (sI (sI h 13 i0 (gI h 12 i0 6).toNatClampNeg l1) 14 i0 (gI h 12 i0 6).toNatClampNeg l2) 12 i0 6 ((gI h 12 i0 6) + 1))))))))) : Cl true mX1_addStep (d + 3) bc bs [aR 12 i0, aI l1, aI l2] h P := by
  refine Cl_of (by decide) (Nat.le_of_ble_eq_true rfl) ?_
  show V true mX1_addStep (d + 3) bc bs 0 [(0, aR 12 i0), (1, aI l1), (2, aI l2)] [] h P
  refine V_aload_n 0 dX1_addStep_0 rfl rfl ?_
  refine GI_12_6 dX1_addStep_1 lkX1_30 ?_
  refine V_if_lt 47 dX1_addStep_4 (by decide) ⟨fun z => ?_, fun z => ?_⟩
  · replace k := k.1 z
    exact V_return dX1_addStep_47 rfl k
  · replace k := k.2 z
    refine V_aload_n 0 dX1_addStep_7 rfl rfl ?_
    refine GI_12_6 dX1_addStep_8 lkX1_30 ?_
    refine V_sipush 400 dX1_addStep_11 (by decide) ?_
    refine V_icmp_ge 47 dX1_addStep_14 (by decide) ⟨fun z => ?_, fun z => ?_⟩
    · replace k := k.1 z
      exact V_return dX1_addStep_47 rfl k
    · replace k := k.2 z
      refine V_aload_n 0 dX1_addStep_17 rfl rfl ?_
      refine GS_12_0 dX1_addStep_18 lkX1_9 ?_
      refine V_aload_n 0 dX1_addStep_21 rfl rfl ?_
      refine GI_12_6 dX1_addStep_22 lkX1_30 ?_
      refine V_iload_n 1 dX1_addStep_25 rfl rfl ?_
      refine V_iast (by decide) rt_13 dX1_addStep_26 k.1 ?_
      replace k := k.2
      refine V_aload_n 0 dX1_addStep_27 rfl rfl ?_
      refine GS_12_1 dX1_addStep_28 lkX1_15 ?_
      refine V_aload_n 0 dX1_addStep_31 rfl rfl ?_
      refine GI_12_6 dX1_addStep_32 lkX1_30 ?_
      refine V_re (y := gI h 12 i0 6) rfl ?_
      refine V_iload_n 2 dX1_addStep_35 rfl rfl ?_
      refine V_iast (by decide) rt_14 dX1_addStep_36 k.1 ?_
      replace k := k.2
      refine V_aload_n 0 dX1_addStep_37 rfl rfl ?_
      refine V_dup dX1_addStep_38 rfl ?_
      refine GI_12_6 dX1_addStep_39 lkX1_30 ?_
      refine V_re (y := gI h 12 i0 6) rfl ?_
      refine V_iconst 1 dX1_addStep_42 (by decide) ?_
      refine V_iadd dX1_addStep_43 ?_
      refine PI_12_6 dX1_addStep_44 lkX1_30 ?_
      exact V_return dX1_addStep_47 rfl k
-- X1_addLine cuts []
set_option maxRecDepth 20000 in
set_option maxHeartbeats 2000000 in
theorem wX1_addLine {d bc bs : Nat} {h : HS} {P : Option AV → HS → Prop} {i0 : Nat} {l1 : Int32} {l2 : Int32} (k : (((gI h 12 i0 7) < 0) → (P none h)) ∧ ((¬ (gI h 12 i0 7) < 0) → (((8 ≤ (gI h 12 i0 7)) → (P none h)) ∧ ((¬ 8 ≤ (gI h 12 i0 7)) → (vp_in (gI h 12 i0 7) 8 ∧ (vp_in (gI h 12 i0 7) 8 ∧ (vp_in (gI h 12 i0 7) 8 ∧ (P none (sI (sI (sI (sI h 15 i0 (gI h 12 i0 7).toNatClampNeg l1) 16 i0 (gI h 12 i0 7).toNatClampNeg l2) 17 i0 (gI h 12 i0 7).toNatClampNeg (gI h 12 i0 6)) 12 i0 7 ((gI h 12 i0 7) + 1)))))))))) : Cl true mX1_addLine (d + 3) bc bs [aR 12 i0, aI l1, aI l2] h P := by
  refine Cl_of (by decide) (Nat.le_of_ble_eq_true rfl) ?_
  show V true mX1_addLine (d + 3) bc bs 0 [(0, aR 12 i0), (1, aI l1), (2, aI l2)] [] h P
  refine V_aload_n 0 dX1_addLine_0 rfl rfl ?_
  refine GI_12_7 dX1_addLine_1 lkX1_34 ?_
  refine V_if_lt 59 dX1_addLine_4 (by decide) ⟨fun z => ?_, fun z => ?_⟩
  · replace k := k.1 z
    exact V_return dX1_addLine_59 rfl k
  · replace k := k.2 z
    refine V_aload_n 0 dX1_addLine_7 rfl rfl ?_
    refine GI_12_7 dX1_addLine_8 lkX1_34 ?_
    refine V_bipush 8 dX1_addLine_11 (by decide) ?_
    refine V_icmp_ge 59 dX1_addLine_13 (by decide) ⟨fun z => ?_, fun z => ?_⟩
    · replace k := k.1 z
      exact V_return dX1_addLine_59 rfl k
    · replace k := k.2 z
      refine V_aload_n 0 dX1_addLine_16 rfl rfl ?_
      refine GS_12_2 dX1_addLine_17 lkX1_18 ?_
      refine V_aload_n 0 dX1_addLine_20 rfl rfl ?_
      refine GI_12_7 dX1_addLine_21 lkX1_34 ?_
      refine V_iload_n 1 dX1_addLine_24 rfl rfl ?_
      refine V_iast (by decide) rt_15 dX1_addLine_25 k.1 ?_
      replace k := k.2
      refine V_aload_n 0 dX1_addLine_26 rfl rfl ?_
      refine GS_12_3 dX1_addLine_27 lkX1_21 ?_
      refine V_aload_n 0 dX1_addLine_30 rfl rfl ?_
      refine GI_12_7 dX1_addLine_31 lkX1_34 ?_
      refine V_re (y := gI h 12 i0 7) rfl ?_
      refine V_iload_n 2 dX1_addLine_34 rfl rfl ?_
      refine V_iast (by decide) rt_16 dX1_addLine_35 k.1 ?_
      replace k := k.2
      refine V_aload_n 0 dX1_addLine_36 rfl rfl ?_
      refine GS_12_4 dX1_addLine_37 lkX1_24 ?_
      refine V_aload_n 0 dX1_addLine_40 rfl rfl ?_
      refine GI_12_7 dX1_addLine_41 lkX1_34 ?_
      refine V_re (y := gI h 12 i0 7) rfl ?_
      refine V_aload_n 0 dX1_addLine_44 rfl rfl ?_
      refine GI_12_6 dX1_addLine_45 lkX1_30 ?_
      refine V_re (y := gI h 12 i0 6) rfl ?_
      refine V_iast (by decide) rt_17 dX1_addLine_48 k.1 ?_
      replace k := k.2
      refine V_aload_n 0 dX1_addLine_49 rfl rfl ?_
      refine V_dup dX1_addLine_50 rfl ?_
      refine GI_12_7 dX1_addLine_51 lkX1_34 ?_
      refine V_re (y := gI h 12 i0 7) rfl ?_
      refine V_iconst 1 dX1_addLine_54 (by decide) ?_
      refine V_iadd dX1_addLine_55 ?_
      refine PI_12_7 dX1_addLine_56 lkX1_34 ?_
      exact V_return dX1_addLine_59 rfl k
-- X1_lineFor cuts [2]
set_option maxRecDepth 20000 in
set_option maxHeartbeats 2000000 in
theorem wX1_lineFor {d bc bs : Nat} {h : HS} {P : Option AV → HS → Prop} {i0 : Nat} (k : V true mX1_lineFor (d + 3) bc bs 2 [(0, aR 12 i0), (1, aR 20 0), (2, aI 0)] [] h P) : Cl true mX1_lineFor (d + 3) bc bs [aR 12 i0, aR 20 0] h P := by
  refine Cl_of (by decide) (Nat.le_of_ble_eq_true rfl) ?_
  show V true mX1_lineFor (d + 3) bc bs 0 [(0, aR 12 i0), (1, aR 20 0)] [] h P
  refine V_iconst 0 dX1_lineFor_0 (by decide) ?_
  refine V_istore_n 2 dX1_lineFor_1 rfl (by decide) rfl ?_
  exact V_lv [1, 2, 0] rfl k
set_option maxRecDepth 20000 in
set_option maxHeartbeats 2000000 in
theorem wX1_lineFor_2 {d bc bs : Nat} {h : HS} {P : Option AV → HS → Prop} {i0 : Nat} {l2 : Int32} (k : (((gI h 12 i0 7) ≤ l2) → (P (some (aI (-1))) h)) ∧ ((¬ (gI h 12 i0 7) ≤ l2) → (((8 ≤ l2) → (P (some (aI (-1))) h)) ∧ ((¬ 8 ≤ l2) → (vp_in l2 8 ∧ (vp_in l2 8 ∧ (Cl true mX1_valueOf (d + 2) 0 0 [aR 12 i0, aI (gI h 16 i0 l2.toNatClampNeg), aI (gI h 17 i0 l2.toNatClampNeg), aR 20 0] h (fun r1 h2 => ∃ x3 : Int32, r1 = some (aI x3) ∧ (((x3 = 0) → (V true mX1_lineFor (d + 3) bc bs 2 [(0, aR 12 i0), (1, aR 20 0), (2, aI (l2 + 1))] [] h2 P)) ∧ ((¬ x3 = 0) → (P (some (aI l2)) h2))))))))))) : V true mX1_lineFor (d + 3) bc bs 2 [(0, aR 12 i0), (1, aR 20 0), (2, aI l2)] [] h P := by
  refine V_iload_n 2 dX1_lineFor_2 rfl rfl ?_
  refine V_aload_n 0 dX1_lineFor_3 rfl rfl ?_
  refine GI_12_7 dX1_lineFor_4 lkX1_34 ?_
  refine V_icmp_ge 44 dX1_lineFor_7 (by decide) ⟨fun z => ?_, fun z => ?_⟩
  · replace k := k.1 z
    refine V_iconst (-1) dX1_lineFor_44 (by decide) ?_
    exact V_ireturn dX1_lineFor_45 rfl k
  · replace k := k.2 z
    refine V_iload_n 2 dX1_lineFor_10 rfl rfl ?_
    refine V_bipush 8 dX1_lineFor_11 (by decide) ?_
    refine V_icmp_ge 44 dX1_lineFor_13 (by decide) ⟨fun z => ?_, fun z => ?_⟩
    · replace k := k.1 z
      refine V_iconst (-1) dX1_lineFor_44 (by decide) ?_
      exact V_ireturn dX1_lineFor_45 rfl k
    · replace k := k.2 z
      refine V_aload_n 0 dX1_lineFor_16 rfl rfl ?_
      refine V_aload_n 0 dX1_lineFor_17 rfl rfl ?_
      refine GS_12_3 dX1_lineFor_18 lkX1_21 ?_
      refine V_iload_n 2 dX1_lineFor_21 rfl rfl ?_
      refine V_iald (by decide) rt_16 dX1_lineFor_22 k.1 ?_
      replace k := k.2
      refine V_aload_n 0 dX1_lineFor_23 rfl rfl ?_
      refine GS_12_4 dX1_lineFor_24 lkX1_24 ?_
      refine V_iload_n 2 dX1_lineFor_27 rfl rfl ?_
      refine V_iald (by decide) rt_17 dX1_lineFor_28 k.1 ?_
      replace k := k.2
      refine V_aload_n 1 dX1_lineFor_29 rfl rfl ?_
      refine V_callV (mc := 0) (ms := 0) (as := [aI (gI h 16 i0 l2.toNatClampNeg), aI (gI h 17 i0 l2.toNatClampNeg), aR 20 0]) (st := []) (by decide) rt_12 rfl dX1_lineFor_30 okX1_valueOf inX1_valueOf seX1_valueOf lkX1_40 rfl (Nat.le_of_ble_eq_true rfl) (Nat.zero_le _) (Nat.zero_le _) (Cl.mono (fun r1 h2 z => ?_) k)
      obtain ⟨x3, rfl, k⟩ := z
      refine V_if_eq 38 dX1_lineFor_33 (by decide) ⟨fun z => ?_, fun z => ?_⟩
      · replace k := k.1 z
        refine V_iinc 2 (v := l2 + 1) dX1_lineFor_38 rfl rfl (by decide) rfl ?_
        refine V_goto 2 dX1_lineFor_41 (by decide) ?_
        exact V_lv [1, 2, 0] rfl k
      · replace k := k.2 z
        refine V_iload_n 2 dX1_lineFor_36 rfl rfl ?_
        exact V_ireturn dX1_lineFor_37 rfl k
-- X1_payFor cuts []
set_option maxRecDepth 20000 in
set_option maxHeartbeats 2000000 in
theorem wX1_payFor {d bc bs : Nat} {h : HS} {P : Option AV → HS → Prop} {i0 : Nat} (k : Cl true mX1_lineFor (d + 2) 0 0 [aR 12 i0, aR 20 0] h (fun r1 h2 => ∃ x3 : Int32, r1 = some (aI x3) ∧ (((x3 < 0) → (P (some (aI 0)) h2)) ∧ ((¬ x3 < 0) → (((x3 < 8) → (vp_in x3 8 ∧ (vp_in x3 8 ∧ (Cl true mX1_valueOf (d + 2) 0 0 [aR 12 i0, aI (gI h2 15 i0 x3.toNatClampNeg), aI (gI h2 16 i0 x3.toNatClampNeg), aR 20 0] h2 (fun r4 h5 => ∃ x6 : Int32, r4 = some (aI x6) ∧ (P (some (aI x6)) h5)))))) ∧ ((¬ x3 < 8) → (P (some (aI 0)) h2))))))) : Cl true mX1_payFor (d + 3) bc bs [aR 12 i0, aR 20 0] h P := by
  refine Cl_of (by decide) (Nat.le_of_ble_eq_true rfl) ?_
  show V true mX1_payFor (d + 3) bc bs 0 [(0, aR 12 i0), (1, aR 20 0)] [] h P
  refine V_aload_n 0 dX1_payFor_0 rfl rfl ?_
  refine V_aload_n 1 dX1_payFor_1 rfl rfl ?_
  refine V_callV (mc := 0) (ms := 0) (as := [aR 20 0]) (st := []) (by decide) rt_12 rfl dX1_payFor_2 okX1_lineFor inX1_lineFor seX1_lineFor lkX1_44 rfl (Nat.le_of_ble_eq_true rfl) (Nat.zero_le _) (Nat.zero_le _) (Cl.mono (fun r1 h2 z => ?_) k)
  obtain ⟨x3, rfl, k⟩ := z
  refine V_istore_n 2 dX1_payFor_5 rfl (by decide) rfl ?_
  refine V_iload_n 2 dX1_payFor_6 rfl rfl ?_
  refine V_if_lt 16 dX1_payFor_7 (by decide) ⟨fun z => ?_, fun z => ?_⟩
  · replace k := k.1 z
    refine V_iconst 0 dX1_payFor_16 (by decide) ?_
    exact V_ireturn dX1_payFor_17 rfl k
  · replace k := k.2 z
    refine V_iload_n 2 dX1_payFor_10 rfl rfl ?_
    refine V_bipush 8 dX1_payFor_11 (by decide) ?_
    refine V_icmp_lt 18 dX1_payFor_13 (by decide) ⟨fun z => ?_, fun z => ?_⟩
    · replace k := k.1 z
      refine V_aload_n 0 dX1_payFor_18 rfl rfl ?_
      refine V_aload_n 0 dX1_payFor_19 rfl rfl ?_
      refine GS_12_2 dX1_payFor_20 lkX1_18 ?_
      refine V_iload_n 2 dX1_payFor_23 rfl rfl ?_
      refine V_iald (by decide) rt_15 dX1_payFor_24 k.1 ?_
      replace k := k.2
      refine V_aload_n 0 dX1_payFor_25 rfl rfl ?_
      refine GS_12_3 dX1_payFor_26 lkX1_21 ?_
      refine V_iload_n 2 dX1_payFor_29 rfl rfl ?_
      refine V_iald (by decide) rt_16 dX1_payFor_30 k.1 ?_
      replace k := k.2
      refine V_aload_n 1 dX1_payFor_31 rfl rfl ?_
      refine V_callV (mc := 0) (ms := 0) (as := [aI (gI h2 15 i0 x3.toNatClampNeg), aI (gI h2 16 i0 x3.toNatClampNeg), aR 20 0]) (st := []) (by decide) rt_12 rfl dX1_payFor_32 okX1_valueOf inX1_valueOf seX1_valueOf lkX1_40 rfl (Nat.le_of_ble_eq_true rfl) (Nat.zero_le _) (Nat.zero_le _) (Cl.mono (fun r4 h5 z => ?_) k)
      obtain ⟨x6, rfl, k⟩ := z
      exact V_ireturn dX1_payFor_35 rfl k
    · replace k := k.2 z
      refine V_iconst 0 dX1_payFor_16 (by decide) ?_
      exact V_ireturn dX1_payFor_17 rfl k
-- X1_valueOf cuts [12]
set_option maxRecDepth 20000 in
set_option maxHeartbeats 2000000 in
theorem wX1_valueOf {d bc bs : Nat} {h : HS} {P : Option AV → HS → Prop} {i0 : Nat} {l1 : Int32} {l2 : Int32} (k : V true mX1_valueOf (d + 3) bc bs 12 [(0, aR 12 i0), (2, aI l2), (3, aR 20 0), (4, aI (maxF l1 0))] [] (sI h 12 i0 8 0) P) : Cl true mX1_valueOf (d + 3) bc bs [aR 12 i0, aI l1, aI l2, aR 20 0] h P := by
  refine Cl_of (by decide) (Nat.le_of_ble_eq_true rfl) ?_
  show V true mX1_valueOf (d + 3) bc bs 0 [(0, aR 12 i0), (1, aI l1), (2, aI l2), (3, aR 20 0)] [] h P
  refine V_aload_n 0 dX1_valueOf_0 rfl rfl ?_
  refine V_iconst 0 dX1_valueOf_1 (by decide) ?_
  refine PI_12_8 dX1_valueOf_2 lkX1_37 ?_
  refine V_iload_n 1 dX1_valueOf_5 rfl rfl ?_
  refine V_iconst 0 dX1_valueOf_6 (by decide) ?_
  refine V_callS (mc := 0) (ms := 0) (as := [aI l1, aI 0]) (st := []) dX1_valueOf_7 okJ9_max_7cf53 stJ9_max_7cf53 lkX1_48 rfl (Nat.le_of_ble_eq_true rfl) (Nat.zero_le _) (Nat.zero_le _) (cJ9_max_ ?_)
  show V true mX1_valueOf (d + 3) _ _ 10 [(0, aR 12 i0), (1, aI l1), (2, aI l2), (3, aR 20 0)] [aI (maxF l1 0)] (sI h 12 i0 8 0) P
  refine V_istore 4 dX1_valueOf_10 (by decide) rfl ?_
  exact V_lv [1, 3, 4, 0] rfl k
set_option maxRecDepth 20000 in
set_option maxHeartbeats 2000000 in
theorem wX1_valueOf_12 {d bc bs : Nat} {h : HS} {P : Option AV → HS → Prop} {i0 : Nat} {l2 : Int32} {l4 : Int32} (k : ((l2 ≤ l4) → (Cl true mX1_pop (d + 2) 0 0 [aR 12 i0] h (fun r1 h2 => ∃ x3 : Int32, r1 = some (aI x3) ∧ (P (some (aI x3)) h2)))) ∧ ((¬ l2 ≤ l4) → (((400 ≤ l4) → (Cl true mX1_pop (d + 2) 0 0 [aR 12 i0] h (fun r4 h5 => ∃ x6 : Int32, r4 = some (aI x6) ∧ (P (some (aI x6)) h5)))) ∧ ((¬ 400 ≤ l4) → (vp_in l4 400 ∧ (((¬ (gI h 13 i0 l4.toNatClampNeg) = 47) → (vp_in l4 400 ∧ (((¬ (gI h 13 i0 l4.toNatClampNeg) = 258) → (vp_in l4 400 ∧ ((((gI h 13 i0 l4.toNatClampNeg) < 262) → (Cl true mX1_pop (d + 2) 0 0 [aR 12 i0] h (fun r7 h8 => ∃ x9 : Int32, r7 = some (aI x9) ∧ (vp_in l4 400 ∧ (Cl true mX1_pop (d + 2) 0 0 [aR 12 i0] h8 (fun r10 h11 => ∃ x12 : Int32, r10 = some (aI x12) ∧ (Cl true mX1_push (d + 2) 0 0 [aR 12 i0, aI (joinF (gI h8 13 i0 l4.toNatClampNeg) x12 x9)] h11 (fun r15 h16 => r15 = none ∧ (V true mX1_valueOf (d + 3) bc bs 12 [(0, aR 12 i0), (2, aI l2), (3, aR 20 0), (4, aI (l4 + 1))] [] h16 P))))))))) ∧ ((¬ (gI h 13 i0 l4.toNatClampNeg) < 262) → (vp_in l4 400 ∧ (Cl true mX1_push (d + 2) 0 0 [aR 12 i0, aI (vwF h (gI h 13 i0 l4.toNatClampNeg))] h (fun r19 h20 => r19 = none ∧ (V true mX1_valueOf (d + 3) bc bs 12 [(0, aR 12 i0), (2, aI l2), (3, aR 20 0), (4, aI (l4 + 1))] [] h20 P)))))))) ∧ (((gI h 13 i0 l4.toNatClampNeg) = 258) → (vp_in l4 400 ∧ (Cl true mX1_push (d + 2) 0 0 [aR 12 i0, aI (gI h 14 i0 l4.toNatClampNeg)] h (fun r21 h22 => r21 = none ∧ (V true mX1_valueOf (d + 3) bc bs 12 [(0, aR 12 i0), (2, aI l2), (3, aR 20 0), (4, aI (l4 + 1))] [] h22 P)))))))) ∧ (((gI h 13 i0 l4.toNatClampNeg) = 47) → (Cl true mX1_pop (d + 2) 0 0 [aR 12 i0] h (fun r23 h24 => ∃ x25 : Int32, r23 = some (aI x25) ∧ (vp_in l4 400 ∧ (Cl true mX1_push (d + 2) 0 0 [aR 12 i0, aI (partF x25 (gI h24 14 i0 l4.toNatClampNeg))] h24 (fun r28 h29 => r28 = none ∧ (V true mX1_valueOf (d + 3) bc bs 12 [(0, aR 12 i0), (2, aI l2), (3, aR 20 0), (4, aI (l4 + 1))] [] h29 P))))))))))))) : V true mX1_valueOf (d + 3) bc bs 12 [(0, aR 12 i0), (2, aI l2), (3, aR 20 0), (4, aI l4)] [] h P := by
  refine V_iload 4 dX1_valueOf_12 rfl ?_
  refine V_iload_n 2 dX1_valueOf_14 rfl rfl ?_
  refine V_icmp_ge 149 dX1_valueOf_15 (by decide) ⟨fun z => ?_, fun z => ?_⟩
  · replace k := k.1 z
    refine V_aload_n 0 dX1_valueOf_149 rfl rfl ?_
    refine V_callV (mc := 0) (ms := 0) (as := []) (st := []) (by decide) rt_12 rfl dX1_valueOf_150 okX1_pop inX1_pop seX1_pop lkX1_54 rfl (Nat.le_of_ble_eq_true rfl) (Nat.zero_le _) (Nat.zero_le _) (Cl.mono (fun r1 h2 z => ?_) k)
    obtain ⟨x3, rfl, k⟩ := z
    exact V_ireturn dX1_valueOf_153 rfl k
  · replace k := k.2 z
    refine V_iload 4 dX1_valueOf_18 rfl ?_
    refine V_sipush 400 dX1_valueOf_20 (by decide) ?_
    refine V_icmp_ge 149 dX1_valueOf_23 (by decide) ⟨fun z => ?_, fun z => ?_⟩
    · replace k := k.1 z
      refine V_aload_n 0 dX1_valueOf_149 rfl rfl ?_
      refine V_callV (mc := 0) (ms := 0) (as := []) (st := []) (by decide) rt_12 rfl dX1_valueOf_150 okX1_pop inX1_pop seX1_pop lkX1_54 rfl (Nat.le_of_ble_eq_true rfl) (Nat.zero_le _) (Nat.zero_le _) (Cl.mono (fun r4 h5 z => ?_) k)
      obtain ⟨x6, rfl, k⟩ := z
      exact V_ireturn dX1_valueOf_153 rfl k
    · replace k := k.2 z
      refine V_aload_n 0 dX1_valueOf_26 rfl rfl ?_
      refine GS_12_0 dX1_valueOf_27 lkX1_9 ?_
      refine V_iload 4 dX1_valueOf_30 rfl ?_
      refine V_iald (by decide) rt_13 dX1_valueOf_32 k.1 ?_
      replace k := k.2
      refine V_bipush 47 dX1_valueOf_33 (by decide) ?_
      refine V_icmp_ne 59 dX1_valueOf_35 (by decide) ⟨fun z => ?_, fun z => ?_⟩
      · replace k := k.1 z
        refine V_aload_n 0 dX1_valueOf_59 rfl rfl ?_
        refine GS_12_0 dX1_valueOf_60 lkX1_9 ?_
        refine V_iload 4 dX1_valueOf_63 rfl ?_
        refine V_iald (by decide) rt_13 dX1_valueOf_65 k.1 ?_
        replace k := k.2
        refine V_sipush 258 dX1_valueOf_66 (by decide) ?_
        refine V_icmp_ne 86 dX1_valueOf_69 (by decide) ⟨fun z => ?_, fun z => ?_⟩
        · replace k := k.1 z
          refine V_aload_n 0 dX1_valueOf_86 rfl rfl ?_
          refine GS_12_0 dX1_valueOf_87 lkX1_9 ?_
          refine V_iload 4 dX1_valueOf_90 rfl ?_
          refine V_iald (by decide) rt_13 dX1_valueOf_92 k.1 ?_
          replace k := k.2
          refine V_sipush 262 dX1_valueOf_93 (by decide) ?_
          refine V_icmp_lt 117 dX1_valueOf_96 (by decide) ⟨fun z => ?_, fun z => ?_⟩
          · replace k := k.1 z
            refine V_aload_n 0 dX1_valueOf_117 rfl rfl ?_
            refine V_callV (mc := 0) (ms := 0) (as := []) (st := []) (by decide) rt_12 rfl dX1_valueOf_118 okX1_pop inX1_pop seX1_pop lkX1_54 rfl (Nat.le_of_ble_eq_true rfl) (Nat.zero_le _) (Nat.zero_le _) (Cl.mono (fun r7 h8 z => ?_) k)
            obtain ⟨x9, rfl, k⟩ := z
            refine V_istore 5 dX1_valueOf_121 (by decide) rfl ?_
            refine V_aload_n 0 dX1_valueOf_123 rfl rfl ?_
            refine V_aload_n 0 dX1_valueOf_124 rfl rfl ?_
            refine GS_12_0 dX1_valueOf_125 lkX1_9 ?_
            refine V_iload 4 dX1_valueOf_128 rfl ?_
            refine V_iald (by decide) rt_13 dX1_valueOf_130 k.1 ?_
            replace k := k.2
            refine V_aload_n 0 dX1_valueOf_131 rfl rfl ?_
            refine V_callV (mc := 0) (ms := 0) (as := []) (st := [aI (gI h8 13 i0 l4.toNatClampNeg), aR 12 i0]) (by decide) rt_12 rfl dX1_valueOf_132 okX1_pop inX1_pop seX1_pop lkX1_54 rfl (Nat.le_of_ble_eq_true rfl) (Nat.zero_le _) (Nat.zero_le _) (Cl.mono (fun r10 h11 z => ?_) k)
            obtain ⟨x12, rfl, k⟩ := z
            refine V_iload 5 dX1_valueOf_135 rfl ?_
            refine V_callS (mc := 0) (ms := 0) (as := [aI (gI h8 13 i0 l4.toNatClampNeg), aI x12, aI x9]) (st := [aR 12 i0]) dX1_valueOf_137 okX1_joined stX1_joined lkX1_73 rfl (Nat.le_of_ble_eq_true rfl) (Nat.zero_le _) (Nat.zero_le _) (cX1_joined_ ?_)
            show V true mX1_valueOf (d + 3) _ _ 140 [(5, aI x9), (0, aR 12 i0), (2, aI l2), (3, aR 20 0), (4, aI l4)] [aI (joinF (gI h8 13 i0 l4.toNatClampNeg) x12 x9), aR 12 i0] h11 P
            refine V_callV (mc := 0) (ms := 0) (as := [aI (joinF (gI h8 13 i0 l4.toNatClampNeg) x12 x9)]) (st := []) (by decide) rt_12 rfl dX1_valueOf_140 okX1_push inX1_push seX1_push lkX1_61 rfl (Nat.le_of_ble_eq_true rfl) (Nat.zero_le _) (Nat.zero_le _) (Cl.mono (fun r15 h16 z => ?_) k)
            obtain ⟨rfl, k⟩ := z
            refine V_iinc 4 (v := l4 + 1) dX1_valueOf_143 rfl rfl (by decide) rfl ?_
            refine V_goto 12 dX1_valueOf_146 (by decide) ?_
            exact V_lv [2, 3, 4, 0] rfl k
          · replace k := k.2 z
            refine V_aload_n 0 dX1_valueOf_99 rfl rfl ?_
            refine V_aload_n 3 dX1_valueOf_100 rfl rfl ?_
            refine V_aload_n 0 dX1_valueOf_101 rfl rfl ?_
            refine GS_12_0 dX1_valueOf_102 lkX1_9 ?_
            refine V_iload 4 dX1_valueOf_105 rfl ?_
            refine V_iald (by decide) rt_13 dX1_valueOf_107 k.1 ?_
            replace k := k.2
            refine V_callV (mc := 0) (ms := 0) (as := [aI (gI h 13 i0 l4.toNatClampNeg)]) (st := [aR 12 i0]) (by decide) rt_20 rfl dX1_valueOf_108 okX4_valueOfWord inX4_valueOfWord seX4_valueOfWord lkX1_67 rfl (Nat.le_of_ble_eq_true rfl) (Nat.zero_le _) (Nat.zero_le _) (cX4_valueOfWord_ ?_)
            show V true mX1_valueOf (d + 3) _ _ 111 [(0, aR 12 i0), (2, aI l2), (3, aR 20 0), (4, aI l4)] [aI (vwF h (gI h 13 i0 l4.toNatClampNeg)), aR 12 i0] h P
            refine V_callV (mc := 0) (ms := 0) (as := [aI (vwF h (gI h 13 i0 l4.toNatClampNeg))]) (st := []) (by decide) rt_12 rfl dX1_valueOf_111 okX1_push inX1_push seX1_push lkX1_61 rfl (Nat.le_of_ble_eq_true rfl) (Nat.zero_le _) (Nat.zero_le _) (Cl.mono (fun r19 h20 z => ?_) k)
            obtain ⟨rfl, k⟩ := z
            refine V_goto 143 dX1_valueOf_114 (by decide) ?_
            refine V_iinc 4 (v := l4 + 1) dX1_valueOf_143 rfl rfl (by decide) rfl ?_
            refine V_goto 12 dX1_valueOf_146 (by decide) ?_
            exact V_lv [1, 2, 3, 0] rfl k
        · replace k := k.2 z
          refine V_aload_n 0 dX1_valueOf_72 rfl rfl ?_
          refine V_aload_n 0 dX1_valueOf_73 rfl rfl ?_
          refine GS_12_1 dX1_valueOf_74 lkX1_15 ?_
          refine V_iload 4 dX1_valueOf_77 rfl ?_
          refine V_iald (by decide) rt_14 dX1_valueOf_79 k.1 ?_
          replace k := k.2
          refine V_callV (mc := 0) (ms := 0) (as := [aI (gI h 14 i0 l4.toNatClampNeg)]) (st := []) (by decide) rt_12 rfl dX1_valueOf_80 okX1_push inX1_push seX1_push lkX1_61 rfl (Nat.le_of_ble_eq_true rfl) (Nat.zero_le _) (Nat.zero_le _) (Cl.mono (fun r21 h22 z => ?_) k)
          obtain ⟨rfl, k⟩ := z
          refine V_goto 143 dX1_valueOf_83 (by decide) ?_
          refine V_iinc 4 (v := l4 + 1) dX1_valueOf_143 rfl rfl (by decide) rfl ?_
          refine V_goto 12 dX1_valueOf_146 (by decide) ?_
          exact V_lv [1, 2, 3, 0] rfl k
      · replace k := k.2 z
        refine V_aload_n 0 dX1_valueOf_38 rfl rfl ?_
        refine V_aload_n 0 dX1_valueOf_39 rfl rfl ?_
        refine V_callV (mc := 0) (ms := 0) (as := []) (st := [aR 12 i0]) (by decide) rt_12 rfl dX1_valueOf_40 okX1_pop inX1_pop seX1_pop lkX1_54 rfl (Nat.le_of_ble_eq_true rfl) (Nat.zero_le _) (Nat.zero_le _) (Cl.mono (fun r23 h24 z => ?_) k)
        obtain ⟨x25, rfl, k⟩ := z
        refine V_aload_n 0 dX1_valueOf_43 rfl rfl ?_
        refine GS_12_1 dX1_valueOf_44 lkX1_15 ?_
        refine V_iload 4 dX1_valueOf_47 rfl ?_
        refine V_iald (by decide) rt_14 dX1_valueOf_49 k.1 ?_
        replace k := k.2
        refine V_callS (mc := 0) (ms := 0) (as := [aI x25, aI (gI h24 14 i0 l4.toNatClampNeg)]) (st := [aR 12 i0]) dX1_valueOf_50 okX1_part stX1_part lkX1_58 rfl (Nat.le_of_ble_eq_true rfl) (Nat.zero_le _) (Nat.zero_le _) (cX1_part_ ?_)
        show V true mX1_valueOf (d + 3) _ _ 53 [(0, aR 12 i0), (2, aI l2), (3, aR 20 0), (4, aI l4)] [aI (partF x25 (gI h24 14 i0 l4.toNatClampNeg)), aR 12 i0] h24 P
        refine V_callV (mc := 0) (ms := 0) (as := [aI (partF x25 (gI h24 14 i0 l4.toNatClampNeg))]) (st := []) (by decide) rt_12 rfl dX1_valueOf_53 okX1_push inX1_push seX1_push lkX1_61 rfl (Nat.le_of_ble_eq_true rfl) (Nat.zero_le _) (Nat.zero_le _) (Cl.mono (fun r28 h29 z => ?_) k)
        obtain ⟨rfl, k⟩ := z
        refine V_goto 143 dX1_valueOf_56 (by decide) ?_
        refine V_iinc 4 (v := l4 + 1) dX1_valueOf_143 rfl rfl (by decide) rfl ?_
        refine V_goto 12 dX1_valueOf_146 (by decide) ?_
        exact V_lv [1, 2, 3, 0] rfl k
-- X1_push cuts []
set_option maxRecDepth 20000 in
set_option maxHeartbeats 2000000 in
theorem wX1_push {d bc bs : Nat} {h : HS} {P : Option AV → HS → Prop} {i0 : Nat} {l1 : Int32} (k : (((gI h 12 i0 8) < 0) → (P none h)) ∧ ((¬ (gI h 12 i0 8) < 0) → (((64 ≤ (gI h 12 i0 8)) → (P none h)) ∧ ((¬ 64 ≤ (gI h 12 i0 8)) → (vp_in (gI h 12 i0 8) 64 ∧ (P none (sI (sI h 18 i0 (gI h 12 i0 8).toNatClampNeg l1) 12 i0 8 ((gI h 12 i0 8) + 1)))))))) : Cl true mX1_push (d + 3) bc bs [aR 12 i0, aI l1] h P := by
  refine Cl_of (by decide) (Nat.le_of_ble_eq_true rfl) ?_
  show V true mX1_push (d + 3) bc bs 0 [(0, aR 12 i0), (1, aI l1)] [] h P
  refine V_aload_n 0 dX1_push_0 rfl rfl ?_
  refine GI_12_8 dX1_push_1 lkX1_37 ?_
  refine V_if_lt 36 dX1_push_4 (by decide) ⟨fun z => ?_, fun z => ?_⟩
  · replace k := k.1 z
    exact V_return dX1_push_36 rfl k
  · replace k := k.2 z
    refine V_aload_n 0 dX1_push_7 rfl rfl ?_
    refine GI_12_8 dX1_push_8 lkX1_37 ?_
    refine V_bipush 64 dX1_push_11 (by decide) ?_
    refine V_icmp_ge 36 dX1_push_13 (by decide) ⟨fun z => ?_, fun z => ?_⟩
    · replace k := k.1 z
      exact V_return dX1_push_36 rfl k
    · replace k := k.2 z
      refine V_aload_n 0 dX1_push_16 rfl rfl ?_
      refine GS_12_5 dX1_push_17 lkX1_27 ?_
      refine V_aload_n 0 dX1_push_20 rfl rfl ?_
      refine GI_12_8 dX1_push_21 lkX1_37 ?_
      refine V_iload_n 1 dX1_push_24 rfl rfl ?_
      refine V_iast (by decide) rt_18 dX1_push_25 k.1 ?_
      replace k := k.2
      refine V_aload_n 0 dX1_push_26 rfl rfl ?_
      refine V_dup dX1_push_27 rfl ?_
      refine GI_12_8 dX1_push_28 lkX1_37 ?_
      refine V_re (y := gI h 12 i0 8) rfl ?_
      refine V_iconst 1 dX1_push_31 (by decide) ?_
      refine V_iadd dX1_push_32 ?_
      refine PI_12_8 dX1_push_33 lkX1_37 ?_
      exact V_return dX1_push_36 rfl k
-- X1_pop cuts []
set_option maxRecDepth 20000 in
set_option maxHeartbeats 2000000 in
theorem wX1_pop {d bc bs : Nat} {h : HS} {P : Option AV → HS → Prop} {i0 : Nat} (k : (((gI h 12 i0 8) ≤ 0) → (P (some (aI 0)) h)) ∧ ((¬ (gI h 12 i0 8) ≤ 0) → ((((gI h 12 i0 8) ≤ 64) → (vp_in ((gI h 12 i0 8) - 1) 64 ∧ (P (some (aI (gI h 18 i0 ((gI h 12 i0 8) - 1).toNatClampNeg))) (sI h 12 i0 8 ((gI h 12 i0 8) - 1))))) ∧ ((¬ (gI h 12 i0 8) ≤ 64) → (P (some (aI 0)) h))))) : Cl true mX1_pop (d + 3) bc bs [aR 12 i0] h P := by
  refine Cl_of (by decide) (Nat.le_of_ble_eq_true rfl) ?_
  show V true mX1_pop (d + 3) bc bs 0 [(0, aR 12 i0)] [] h P
  refine V_aload_n 0 dX1_pop_0 rfl rfl ?_
  refine GI_12_8 dX1_pop_1 lkX1_37 ?_
  refine V_if_le 16 dX1_pop_4 (by decide) ⟨fun z => ?_, fun z => ?_⟩
  · replace k := k.1 z
    refine V_iconst 0 dX1_pop_16 (by decide) ?_
    exact V_ireturn dX1_pop_17 rfl k
  · replace k := k.2 z
    refine V_aload_n 0 dX1_pop_7 rfl rfl ?_
    refine GI_12_8 dX1_pop_8 lkX1_37 ?_
    refine V_bipush 64 dX1_pop_11 (by decide) ?_
    refine V_icmp_le 18 dX1_pop_13 (by decide) ⟨fun z => ?_, fun z => ?_⟩
    · replace k := k.1 z
      refine V_aload_n 0 dX1_pop_18 rfl rfl ?_
      refine V_dup dX1_pop_19 rfl ?_
      refine GI_12_8 dX1_pop_20 lkX1_37 ?_
      refine V_iconst 1 dX1_pop_23 (by decide) ?_
      refine V_isub dX1_pop_24 ?_
      refine PI_12_8 dX1_pop_25 lkX1_37 ?_
      refine V_aload_n 0 dX1_pop_28 rfl rfl ?_
      refine GS_12_5 dX1_pop_29 lkX1_27 ?_
      refine V_aload_n 0 dX1_pop_32 rfl rfl ?_
      refine GI_12_8 dX1_pop_33 lkX1_37 ?_
      refine V_re (y := ((gI h 12 i0 8) - 1)) (gI_same (h := h) (c := 12) (i := i0) (k := 8) (v := ((gI h 12 i0 8) - 1))) ?_
      refine V_iald (by decide) rt_18 dX1_pop_36 k.1 ?_
      replace k := k.2
      refine V_re (y := gI h 18 i0 ((gI h 12 i0 8) - 1).toNatClampNeg) rfl ?_
      exact V_ireturn dX1_pop_37 rfl k
    · replace k := k.2 z
      refine V_iconst 0 dX1_pop_16 (by decide) ?_
      exact V_ireturn dX1_pop_17 rfl k
-- X2_read cuts [33]
set_option maxRecDepth 20000 in
set_option maxHeartbeats 2000000 in
theorem wX2_read {d bc bs : Nat} {h : HS} {P : Option AV → HS → Prop} {i1 : Nat} (k : ∃ t1, gR (sR h 19 0 1 (some (12, i1))) 19 0 1 = some (12, t1) ∧ (Cl true mX1_clear (d + 2) 0 0 [aR 12 t1] (sR h 19 0 1 (some (12, i1))) (fun r2 h3 => r2 = none ∧ (V true mX2_read (d + 3) bc bs 33 [(0, aR 19 0), (2, aI 0)] [] (sI (sI (sI h3 19 0 2 0) 19 0 3 0) 19 0 4 (-1)) P)))) : Cl true mX2_read (d + 3) bc bs [aR 19 0, aR 12 i1] h P := by
  refine Cl_of (by decide) (Nat.le_of_ble_eq_true rfl) ?_
  show V true mX2_read (d + 3) bc bs 0 [(0, aR 19 0), (1, aR 12 i1)] [] h P
  refine V_aload_n 1 dX2_read_0 rfl rfl ?_
  refine V_ifnull dX2_read_1 ?_
  refine V_aload_n 0 dX2_read_4 rfl rfl ?_
  refine V_aload_n 1 dX2_read_5 rfl rfl ?_
  refine V_putR (k := 1) (by decide) rt_19 rfl (by decide) rfl (Or.inl rfl) (Or.inr rfl) dX2_read_6 lkX2_15 ?_
  refine V_aload_n 0 dX2_read_9 rfl rfl ?_
  obtain ⟨t1, kg, k⟩ := k
  refine V_getR (k := 1) (some (12, t1)) (by decide) rt_19 rfl (by decide) rfl dX2_read_10 lkX2_15 kg ?_
  refine V_callV (mc := 0) (ms := 0) (as := []) (st := []) (by decide) rt_12 rfl dX2_read_13 okX1_clear inX1_clear seX1_clear lkX2_29 rfl (Nat.le_of_ble_eq_true rfl) (Nat.zero_le _) (Nat.zero_le _) (Cl.mono (fun r2 h3 z => ?_) k)
  obtain ⟨rfl, k⟩ := z
  refine V_aload_n 0 dX2_read_16 rfl rfl ?_
  refine V_iconst 0 dX2_read_17 (by decide) ?_
  refine PI_19_2 dX2_read_18 lkX2_19 ?_
  refine V_aload_n 0 dX2_read_21 rfl rfl ?_
  refine V_iconst 0 dX2_read_22 (by decide) ?_
  refine PI_19_3 dX2_read_23 lkX2_23 ?_
  refine V_aload_n 0 dX2_read_26 rfl rfl ?_
  refine V_iconst (-1) dX2_read_27 (by decide) ?_
  refine PI_19_4 dX2_read_28 lkX2_26 ?_
  refine V_iconst 0 dX2_read_31 (by decide) ?_
  refine V_istore_n 2 dX2_read_32 rfl (by decide) rfl ?_
  exact V_lv [1, 0] rfl k
set_option maxRecDepth 20000 in
set_option maxHeartbeats 2000000 in
theorem wX2_read_33 {d bc bs : Nat} {h : HS} {P : Option AV → HS → Prop} {l2 : Int32} (k : ((8 < l2) → (P (some (aI 0)) h)) ∧ ((¬ 8 < l2) → (((¬ (knF h) = 256) → (Cl true mX2_readLine (d + 2) 0 0 [aR 19 0, aI l2] h (fun r3 h4 => ∃ x5 : Int32, r3 = some (aI x5) ∧ (((¬ x5 = 0) → (V true mX2_read (d + 3) bc bs 33 [(0, aR 19 0), (2, aI (l2 + 1))] [] h4 P)) ∧ ((x5 = 0) → (P (some (aI 0)) h4)))))) ∧ (((knF h) = 256) → (P (some (aI 1)) h))))) : V true mX2_read (d + 3) bc bs 33 [(0, aR 19 0), (2, aI l2)] [] h P := by
  refine V_iload_n 2 dX2_read_33 rfl rfl ?_
  refine V_bipush 8 dX2_read_34 (by decide) ?_
  refine V_icmp_gt 67 dX2_read_36 (by decide) ⟨fun z => ?_, fun z => ?_⟩
  · replace k := k.1 z
    refine V_iconst 0 dX2_read_67 (by decide) ?_
    exact V_zreturn dX2_read_68 rfl (by decide) k
  · replace k := k.2 z
    refine V_aload_n 0 dX2_read_39 rfl rfl ?_
    refine V_callV (mc := 0) (ms := 0) (as := []) (st := []) (by decide) rt_19 rfl dX2_read_40 okX2_kind inX2_kind seX2_kind lkX2_34 rfl (Nat.le_of_ble_eq_true rfl) (Nat.zero_le _) (Nat.zero_le _) (cX2_kind_ ?_)
    show V true mX2_read (d + 3) _ _ 43 [(0, aR 19 0), (2, aI l2)] [aI (knF h)] h P
    refine V_sipush 256 dX2_read_43 (by decide) ?_
    refine V_icmp_ne 51 dX2_read_46 (by decide) ⟨fun z => ?_, fun z => ?_⟩
    · replace k := k.1 z
      refine V_aload_n 0 dX2_read_51 rfl rfl ?_
      refine V_iload_n 2 dX2_read_52 rfl rfl ?_
      refine V_callV (mc := 0) (ms := 0) (as := [aI l2]) (st := []) (by decide) rt_19 rfl dX2_read_53 okX2_readLine inX2_readLine seX2_readLine lkX2_40 rfl (Nat.le_of_ble_eq_true rfl) (Nat.zero_le _) (Nat.zero_le _) (Cl.mono (fun r3 h4 z => ?_) k)
      obtain ⟨x5, rfl, k⟩ := z
      refine V_if_ne 61 dX2_read_56 (by decide) ⟨fun z => ?_, fun z => ?_⟩
      · replace k := k.1 z
        refine V_iinc 2 (v := l2 + 1) dX2_read_61 rfl rfl (by decide) rfl ?_
        refine V_goto 33 dX2_read_64 (by decide) ?_
        exact V_lv [1, 0] rfl k
      · replace k := k.2 z
        refine V_iconst 0 dX2_read_59 (by decide) ?_
        exact V_zreturn dX2_read_60 rfl (by decide) k
    · replace k := k.2 z
      refine V_iconst 1 dX2_read_49 (by decide) ?_
      exact V_zreturn dX2_read_50 rfl (by decide) k
-- X2_readLine cuts []
set_option maxRecDepth 20000 in
set_option maxHeartbeats 2000000 in
theorem wX2_readLine {d bc bs : Nat} {h : HS} {P : Option AV → HS → Prop} {l1 : Int32} (k : (((knF h) = 259) → (((l1 < 8) → (∃ t3, gR (sI h 19 0 2 ((gI h 19 0 2) + 1)) 19 0 1 = some (12, t3) ∧ (Cl true mX2_readSum (d + 2) 0 0 [aR 19 0, aI 0] (sI h 19 0 2 ((gI h 19 0 2) + 1)) (fun r4 h5 => ∃ x6 : Int32, r4 = some (aI x6) ∧ (((x6 = 0) → (P (some (aI 0)) h5)) ∧ ((¬ x6 = 0) → (Cl true mX2_pass (d + 2) 0 0 [aR 19 0, aI 260] h5 (fun r7 h8 => ∃ x9 : Int32, r7 = some (aI x9) ∧ (((¬ x9 = 0) → (∃ t10, gR h8 19 0 1 = some (12, t10) ∧ (Cl true mX2_readCondition (d + 2) 0 0 [aR 19 0] h8 (fun r11 h12 => ∃ x13 : Int32, r11 = some (aI x13) ∧ (((x13 = 0) → (P (some (aI 0)) h12)) ∧ ((¬ x13 = 0) → (Cl true mX2_pass (d + 2) 0 0 [aR 19 0, aI 59] h12 (fun r14 h15 => ∃ x16 : Int32, r14 = some (aI x16) ∧ (((¬ x16 = 0) → (∃ t17, gR h15 19 0 1 = some (12, t17) ∧ (Cl true mX1_addLine (d + 2) 0 0 [aR 12 t17, aI (gI h 12 t3 6), aI (gI h8 12 t10 6)] h15 (fun r18 h19 => r18 = none ∧ (P (some (aI 1)) h19))))) ∧ ((x16 = 0) → (P (some (aI 0)) h15))))))))))) ∧ ((x9 = 0) → (P (some (aI 0)) h8))))))))))) ∧ ((¬ l1 < 8) → (Cl true mX2_fail (d + 2) 0 0 [aR 19 0, aI 3] h (fun r20 h21 => ∃ x22 : Int32, r20 = some (aI x22) ∧ ((x22 = 0 ∨ x22 = 1) ∧ P (some (aI x22)) h21)))))) ∧ ((¬ (knF h) = 259) → (Cl true mX2_fail (d + 2) 0 0 [aR 19 0, aI 1] h (fun r23 h24 => ∃ x25 : Int32, r23 = some (aI x25) ∧ ((x25 = 0 ∨ x25 = 1) ∧ P (some (aI x25)) h24))))) : Cl true mX2_readLine (d + 3) bc bs [aR 19 0, aI l1] h P := by
  refine Cl_of (by decide) (Nat.le_of_ble_eq_true rfl) ?_
  show V true mX2_readLine (d + 3) bc bs 0 [(0, aR 19 0), (1, aI l1)] [] h P
  refine V_aload_n 0 dX2_readLine_0 rfl rfl ?_
  refine V_callV (mc := 0) (ms := 0) (as := []) (st := []) (by decide) rt_19 rfl dX2_readLine_1 okX2_kind inX2_kind seX2_kind lkX2_34 rfl (Nat.le_of_ble_eq_true rfl) (Nat.zero_le _) (Nat.zero_le _) (cX2_kind_ ?_)
  show V true mX2_readLine (d + 3) _ _ 4 [(0, aR 19 0), (1, aI l1)] [aI (knF h)] h P
  refine V_sipush 259 dX2_readLine_4 (by decide) ?_
  refine V_icmp_eq 16 dX2_readLine_7 (by decide) ⟨fun z => ?_, fun z => ?_⟩
  · replace k := k.1 z
    refine V_iload_n 1 dX2_readLine_16 rfl rfl ?_
    refine V_bipush 8 dX2_readLine_17 (by decide) ?_
    refine V_icmp_lt 28 dX2_readLine_19 (by decide) ⟨fun z => ?_, fun z => ?_⟩
    · replace k := k.1 z
      refine V_aload_n 0 dX2_readLine_28 rfl rfl ?_
      refine V_dup dX2_readLine_29 rfl ?_
      refine GI_19_2 dX2_readLine_30 lkX2_19 ?_
      refine V_iconst 1 dX2_readLine_33 (by decide) ?_
      refine V_iadd dX2_readLine_34 ?_
      refine PI_19_2 dX2_readLine_35 lkX2_19 ?_
      refine V_aload_n 0 dX2_readLine_38 rfl rfl ?_
      obtain ⟨t3, kg, k⟩ := k
      refine V_getR (k := 1) (some (12, t3)) (by decide) rt_19 rfl (by decide) rfl dX2_readLine_39 lkX2_15 kg ?_
      refine GI_12_6 dX2_readLine_42 lkX2_47 ?_
      refine V_re (y := gI h 12 t3 6) rfl ?_
      refine V_istore_n 2 dX2_readLine_45 rfl (by decide) rfl ?_
      refine V_aload_n 0 dX2_readLine_46 rfl rfl ?_
      refine V_iconst 0 dX2_readLine_47 (by decide) ?_
      refine V_callV (mc := 0) (ms := 0) (as := [aI 0]) (st := []) (by decide) rt_19 rfl dX2_readLine_48 okX2_readSum inX2_readSum seX2_readSum lkX2_50 rfl (Nat.le_of_ble_eq_true rfl) (Nat.zero_le _) (Nat.zero_le _) (Cl.mono (fun r4 h5 z => ?_) k)
      obtain ⟨x6, rfl, k⟩ := z
      refine V_if_eq 64 dX2_readLine_51 (by decide) ⟨fun z => ?_, fun z => ?_⟩
      · replace k := k.1 z
        refine V_iconst 0 dX2_readLine_64 (by decide) ?_
        exact V_zreturn dX2_readLine_65 rfl (by decide) k
      · replace k := k.2 z
        refine V_aload_n 0 dX2_readLine_54 rfl rfl ?_
        refine V_sipush 260 dX2_readLine_55 (by decide) ?_
        refine V_callV (mc := 0) (ms := 0) (as := [aI 260]) (st := []) (by decide) rt_19 rfl dX2_readLine_58 okX2_pass inX2_pass seX2_pass lkX2_53 rfl (Nat.le_of_ble_eq_true rfl) (Nat.zero_le _) (Nat.zero_le _) (Cl.mono (fun r7 h8 z => ?_) k)
        obtain ⟨x9, rfl, k⟩ := z
        refine V_if_ne 66 dX2_readLine_61 (by decide) ⟨fun z => ?_, fun z => ?_⟩
        · replace k := k.1 z
          refine V_aload_n 0 dX2_readLine_66 rfl rfl ?_
          obtain ⟨t10, kg, k⟩ := k
          refine V_getR (k := 1) (some (12, t10)) (by decide) rt_19 rfl (by decide) rfl dX2_readLine_67 lkX2_15 kg ?_
          refine GI_12_6 dX2_readLine_70 lkX2_47 ?_
          refine V_istore_n 3 dX2_readLine_73 rfl (by decide) rfl ?_
          refine V_aload_n 0 dX2_readLine_74 rfl rfl ?_
          refine V_callV (mc := 0) (ms := 0) (as := []) (st := []) (by decide) rt_19 rfl dX2_readLine_75 okX2_readCondition inX2_readCondition seX2_readCondition lkX2_56 rfl (Nat.le_of_ble_eq_true rfl) (Nat.zero_le _) (Nat.zero_le _) (Cl.mono (fun r11 h12 z => ?_) k)
          obtain ⟨x13, rfl, k⟩ := z
          refine V_if_eq 90 dX2_readLine_78 (by decide) ⟨fun z => ?_, fun z => ?_⟩
          · replace k := k.1 z
            refine V_iconst 0 dX2_readLine_90 (by decide) ?_
            exact V_zreturn dX2_readLine_91 rfl (by decide) k
          · replace k := k.2 z
            refine V_aload_n 0 dX2_readLine_81 rfl rfl ?_
            refine V_bipush 59 dX2_readLine_82 (by decide) ?_
            refine V_callV (mc := 0) (ms := 0) (as := [aI 59]) (st := []) (by decide) rt_19 rfl dX2_readLine_84 okX2_pass inX2_pass seX2_pass lkX2_53 rfl (Nat.le_of_ble_eq_true rfl) (Nat.zero_le _) (Nat.zero_le _) (Cl.mono (fun r14 h15 z => ?_) k)
            obtain ⟨x16, rfl, k⟩ := z
            refine V_if_ne 92 dX2_readLine_87 (by decide) ⟨fun z => ?_, fun z => ?_⟩
            · replace k := k.1 z
              refine V_aload_n 0 dX2_readLine_92 rfl rfl ?_
              obtain ⟨t17, kg, k⟩ := k
              refine V_getR (k := 1) (some (12, t17)) (by decide) rt_19 rfl (by decide) rfl dX2_readLine_93 lkX2_15 kg ?_
              refine V_iload_n 2 dX2_readLine_96 rfl rfl ?_
              refine V_iload_n 3 dX2_readLine_97 rfl rfl ?_
              refine V_callV (mc := 0) (ms := 0) (as := [aI (gI h 12 t3 6), aI (gI h8 12 t10 6)]) (st := []) (by decide) rt_12 rfl dX2_readLine_98 okX1_addLine inX1_addLine seX1_addLine lkX2_60 rfl (Nat.le_of_ble_eq_true rfl) (Nat.zero_le _) (Nat.zero_le _) (Cl.mono (fun r18 h19 z => ?_) k)
              obtain ⟨rfl, k⟩ := z
              refine V_iconst 1 dX2_readLine_101 (by decide) ?_
              exact V_zreturn dX2_readLine_102 rfl (by decide) k
            · replace k := k.2 z
              refine V_iconst 0 dX2_readLine_90 (by decide) ?_
              exact V_zreturn dX2_readLine_91 rfl (by decide) k
        · replace k := k.2 z
          refine V_iconst 0 dX2_readLine_64 (by decide) ?_
          exact V_zreturn dX2_readLine_65 rfl (by decide) k
    · replace k := k.2 z
      refine V_aload_n 0 dX2_readLine_22 rfl rfl ?_
      refine V_iconst 3 dX2_readLine_23 (by decide) ?_
      refine V_callV (mc := 0) (ms := 0) (as := [aI 3]) (st := []) (by decide) rt_19 rfl dX2_readLine_24 okX2_fail inX2_fail seX2_fail lkX2_44 rfl (Nat.le_of_ble_eq_true rfl) (Nat.zero_le _) (Nat.zero_le _) (Cl.mono (fun r20 h21 z => ?_) k)
      obtain ⟨x22, rfl, k⟩ := z
      exact V_zreturn dX2_readLine_27 rfl k.1 k.2
  · replace k := k.2 z
    refine V_aload_n 0 dX2_readLine_10 rfl rfl ?_
    refine V_iconst 1 dX2_readLine_11 (by decide) ?_
    refine V_callV (mc := 0) (ms := 0) (as := [aI 1]) (st := []) (by decide) rt_19 rfl dX2_readLine_12 okX2_fail inX2_fail seX2_fail lkX2_44 rfl (Nat.le_of_ble_eq_true rfl) (Nat.zero_le _) (Nat.zero_le _) (Cl.mono (fun r23 h24 z => ?_) k)
    obtain ⟨x25, rfl, k⟩ := z
    exact V_zreturn dX2_readLine_15 rfl k.1 k.2
-- X2_readCondition cuts [2]
set_option maxRecDepth 20000 in
set_option maxHeartbeats 2000000 in
theorem wX2_readCondition {d bc bs : Nat} {h : HS} {P : Option AV → HS → Prop}  (k : V true mX2_readCondition (d + 3) bc bs 2 [(0, aR 19 0), (1, aI 0)] [] h P) : Cl true mX2_readCondition (d + 3) bc bs [aR 19 0] h P := by
  refine Cl_of (by decide) (Nat.le_of_ble_eq_true rfl) ?_
  show V true mX2_readCondition (d + 3) bc bs 0 [(0, aR 19 0)] [] h P
  refine V_iconst 0 dX2_readCondition_0 (by decide) ?_
  refine V_istore_n 1 dX2_readCondition_1 rfl (by decide) rfl ?_
  exact V_lv [1, 0] rfl k
set_option maxRecDepth 20000 in
set_option maxHeartbeats 2000000 in
theorem wX2_readCondition_2 {d bc bs : Nat} {h : HS} {P : Option AV → HS → Prop} {l1 : Int32} (k : ((400 < l1) → (Cl true mX2_fail (d + 2) 0 0 [aR 19 0, aI 1] h (fun r1 h2 => ∃ x3 : Int32, r1 = some (aI x3) ∧ ((x3 = 0 ∨ x3 = 1) ∧ P (some (aI x3)) h2)))) ∧ ((¬ 400 < l1) → (Cl true mX2_readSum (d + 2) 0 0 [aR 19 0, aI 0] h (fun r4 h5 => ∃ x6 : Int32, r4 = some (aI x6) ∧ (((¬ x6 = 0) → ((((knF h5) = 60) → (Cl true mX2_readSum (d + 2) 0 0 [aR 19 0, aI 0] (sI h5 19 0 2 ((gI h5 19 0 2) + 1)) (fun r9 h10 => ∃ x11 : Int32, r9 = some (aI x11) ∧ (((¬ x11 = 0) → (∃ t12, gR h10 19 0 1 = some (12, t12) ∧ (Cl true mX1_addStep (d + 2) 0 0 [aR 12 t12, aI (knF h5), aI 0] h10 (fun r13 h14 => r13 = none ∧ (((l1 ≤ 0) → ((((knF h14) = 261) → (V true mX2_readCondition (d + 3) bc bs 2 [(0, aR 19 0), (1, aI (l1 + 1))] [] (sI h14 19 0 2 ((gI h14 19 0 2) + 1)) P)) ∧ ((¬ (knF h14) = 261) → (P (some (aI 1)) h14)))) ∧ ((¬ l1 ≤ 0) → (∃ t17, gR h14 19 0 1 = some (12, t17) ∧ (Cl true mX1_addStep (d + 2) 0 0 [aR 12 t17, aI 261, aI 0] h14 (fun r18 h19 => r18 = none ∧ ((((knF h19) = 261) → (V true mX2_readCondition (d + 3) bc bs 2 [(0, aR 19 0), (1, aI (l1 + 1))] [] (sI h19 19 0 2 ((gI h19 19 0 2) + 1)) P)) ∧ ((¬ (knF h19) = 261) → (P (some (aI 1)) h19)))))))))))) ∧ ((x11 = 0) → (P (some (aI 0)) h10)))))) ∧ ((¬ (knF h5) = 60) → ((((knF h5) = 61) → (Cl true mX2_readSum (d + 2) 0 0 [aR 19 0, aI 0] (sI h5 19 0 2 ((gI h5 19 0 2) + 1)) (fun r22 h23 => ∃ x24 : Int32, r22 = some (aI x24) ∧ (((¬ x24 = 0) → (∃ t25, gR h23 19 0 1 = some (12, t25) ∧ (Cl true mX1_addStep (d + 2) 0 0 [aR 12 t25, aI (knF h5), aI 0] h23 (fun r26 h27 => r26 = none ∧ (((l1 ≤ 0) → ((((knF h27) = 261) → (V true mX2_readCondition (d + 3) bc bs 2 [(0, aR 19 0), (1, aI (l1 + 1))] [] (sI h27 19 0 2 ((gI h27 19 0 2) + 1)) P)) ∧ ((¬ (knF h27) = 261) → (P (some (aI 1)) h27)))) ∧ ((¬ l1 ≤ 0) → (∃ t30, gR h27 19 0 1 = some (12, t30) ∧ (Cl true mX1_addStep (d + 2) 0 0 [aR 12 t30, aI 261, aI 0] h27 (fun r31 h32 => r31 = none ∧ ((((knF h32) = 261) → (V true mX2_readCondition (d + 3) bc bs 2 [(0, aR 19 0), (1, aI (l1 + 1))] [] (sI h32 19 0 2 ((gI h32 19 0 2) + 1)) P)) ∧ ((¬ (knF h32) = 261) → (P (some (aI 1)) h32)))))))))))) ∧ ((x24 = 0) → (P (some (aI 0)) h23)))))) ∧ ((¬ (knF h5) = 61) → ((((knF h5) = 62) → (Cl true mX2_readSum (d + 2) 0 0 [aR 19 0, aI 0] (sI h5 19 0 2 ((gI h5 19 0 2) + 1)) (fun r35 h36 => ∃ x37 : Int32, r35 = some (aI x37) ∧ (((¬ x37 = 0) → (∃ t38, gR h36 19 0 1 = some (12, t38) ∧ (Cl true mX1_addStep (d + 2) 0 0 [aR 12 t38, aI (knF h5), aI 0] h36 (fun r39 h40 => r39 = none ∧ (((l1 ≤ 0) → ((((knF h40) = 261) → (V true mX2_readCondition (d + 3) bc bs 2 [(0, aR 19 0), (1, aI (l1 + 1))] [] (sI h40 19 0 2 ((gI h40 19 0 2) + 1)) P)) ∧ ((¬ (knF h40) = 261) → (P (some (aI 1)) h40)))) ∧ ((¬ l1 ≤ 0) → (∃ t43, gR h40 19 0 1 = some (12, t43) ∧ (Cl true mX1_addStep (d + 2) 0 0 [aR 12 t43, aI 261, aI 0] h40 (fun r44 h45 => r44 = none ∧ ((((knF h45) = 261) → (V true mX2_readCondition (d + 3) bc bs 2 [(0, aR 19 0), (1, aI (l1 + 1))] [] (sI h45 19 0 2 ((gI h45 19 0 2) + 1)) P)) ∧ ((¬ (knF h45) = 261) → (P (some (aI 1)) h45)))))))))))) ∧ ((x37 = 0) → (P (some (aI 0)) h36)))))) ∧ ((¬ (knF h5) = 62) → (Cl true mX2_fail (d + 2) 0 0 [aR 19 0, aI 1] h5 (fun r48 h49 => ∃ x50 : Int32, r48 = some (aI x50) ∧ ((x50 = 0 ∨ x50 = 1) ∧ P (some (aI x50)) h49)))))))))) ∧ ((x6 = 0) → (P (some (aI 0)) h5))))))) : V true mX2_readCondition (d + 3) bc bs 2 [(0, aR 19 0), (1, aI l1)] [] h P := by
  refine V_iload_n 1 dX2_readCondition_2 rfl rfl ?_
  refine V_sipush 400 dX2_readCondition_3 (by decide) ?_
  refine V_icmp_gt 120 dX2_readCondition_6 (by decide) ⟨fun z => ?_, fun z => ?_⟩
  · replace k := k.1 z
    refine V_aload_n 0 dX2_readCondition_120 rfl rfl ?_
    refine V_iconst 1 dX2_readCondition_121 (by decide) ?_
    refine V_callV (mc := 0) (ms := 0) (as := [aI 1]) (st := []) (by decide) rt_19 rfl dX2_readCondition_122 okX2_fail inX2_fail seX2_fail lkX2_44 rfl (Nat.le_of_ble_eq_true rfl) (Nat.zero_le _) (Nat.zero_le _) (Cl.mono (fun r1 h2 z => ?_) k)
    obtain ⟨x3, rfl, k⟩ := z
    exact V_zreturn dX2_readCondition_125 rfl k.1 k.2
  · replace k := k.2 z
    refine V_aload_n 0 dX2_readCondition_9 rfl rfl ?_
    refine V_iconst 0 dX2_readCondition_10 (by decide) ?_
    refine V_callV (mc := 0) (ms := 0) (as := [aI 0]) (st := []) (by decide) rt_19 rfl dX2_readCondition_11 okX2_readSum inX2_readSum seX2_readSum lkX2_50 rfl (Nat.le_of_ble_eq_true rfl) (Nat.zero_le _) (Nat.zero_le _) (Cl.mono (fun r4 h5 z => ?_) k)
    obtain ⟨x6, rfl, k⟩ := z
    refine V_if_ne 19 dX2_readCondition_14 (by decide) ⟨fun z => ?_, fun z => ?_⟩
    · replace k := k.1 z
      refine V_aload_n 0 dX2_readCondition_19 rfl rfl ?_
      refine V_callV (mc := 0) (ms := 0) (as := []) (st := []) (by decide) rt_19 rfl dX2_readCondition_20 okX2_kind inX2_kind seX2_kind lkX2_34 rfl (Nat.le_of_ble_eq_true rfl) (Nat.zero_le _) (Nat.zero_le _) (cX2_kind_ ?_)
      show V true mX2_readCondition (d + 3) _ _ 23 [(0, aR 19 0), (1, aI l1)] [aI (knF h5)] h5 P
      refine V_istore_n 2 dX2_readCondition_23 rfl (by decide) rfl ?_
      refine V_iload_n 2 dX2_readCondition_24 rfl rfl ?_
      refine V_bipush 60 dX2_readCondition_25 (by decide) ?_
      refine V_icmp_eq 48 dX2_readCondition_27 (by decide) ⟨fun z => ?_, fun z => ?_⟩
      · replace k := k.1 z
        refine V_aload_n 0 dX2_readCondition_48 rfl rfl ?_
        refine V_dup dX2_readCondition_49 rfl ?_
        refine GI_19_2 dX2_readCondition_50 lkX2_19 ?_
        refine V_iconst 1 dX2_readCondition_53 (by decide) ?_
        refine V_iadd dX2_readCondition_54 ?_
        refine PI_19_2 dX2_readCondition_55 lkX2_19 ?_
        refine V_aload_n 0 dX2_readCondition_58 rfl rfl ?_
        refine V_iconst 0 dX2_readCondition_59 (by decide) ?_
        refine V_callV (mc := 0) (ms := 0) (as := [aI 0]) (st := []) (by decide) rt_19 rfl dX2_readCondition_60 okX2_readSum inX2_readSum seX2_readSum lkX2_50 rfl (Nat.le_of_ble_eq_true rfl) (Nat.zero_le _) (Nat.zero_le _) (Cl.mono (fun r9 h10 z => ?_) k)
        obtain ⟨x11, rfl, k⟩ := z
        refine V_if_ne 68 dX2_readCondition_63 (by decide) ⟨fun z => ?_, fun z => ?_⟩
        · replace k := k.1 z
          refine V_aload_n 0 dX2_readCondition_68 rfl rfl ?_
          obtain ⟨t12, kg, k⟩ := k
          refine V_getR (k := 1) (some (12, t12)) (by decide) rt_19 rfl (by decide) rfl dX2_readCondition_69 lkX2_15 kg ?_
          refine V_iload_n 2 dX2_readCondition_72 rfl rfl ?_
          refine V_iconst 0 dX2_readCondition_73 (by decide) ?_
          refine V_callV (mc := 0) (ms := 0) (as := [aI (knF h5), aI 0]) (st := []) (by decide) rt_12 rfl dX2_readCondition_74 okX1_addStep inX1_addStep seX1_addStep lkX2_64 rfl (Nat.le_of_ble_eq_true rfl) (Nat.zero_le _) (Nat.zero_le _) (Cl.mono (fun r13 h14 z => ?_) k)
          obtain ⟨rfl, k⟩ := z
          refine V_iload_n 1 dX2_readCondition_77 rfl rfl ?_
          refine V_if_le 92 dX2_readCondition_78 (by decide) ⟨fun z => ?_, fun z => ?_⟩
          · replace k := k.1 z
            refine V_aload_n 0 dX2_readCondition_92 rfl rfl ?_
            refine V_callV (mc := 0) (ms := 0) (as := []) (st := []) (by decide) rt_19 rfl dX2_readCondition_93 okX2_kind inX2_kind seX2_kind lkX2_34 rfl (Nat.le_of_ble_eq_true rfl) (Nat.zero_le _) (Nat.zero_le _) (cX2_kind_ ?_)
            show V true mX2_readCondition (d + 3) _ _ 96 [(2, aI (knF h5)), (0, aR 19 0), (1, aI l1)] [aI (knF h14)] h14 P
            refine V_sipush 261 dX2_readCondition_96 (by decide) ?_
            refine V_icmp_eq 104 dX2_readCondition_99 (by decide) ⟨fun z => ?_, fun z => ?_⟩
            · replace k := k.1 z
              refine V_aload_n 0 dX2_readCondition_104 rfl rfl ?_
              refine V_dup dX2_readCondition_105 rfl ?_
              refine GI_19_2 dX2_readCondition_106 lkX2_19 ?_
              refine V_iconst 1 dX2_readCondition_109 (by decide) ?_
              refine V_iadd dX2_readCondition_110 ?_
              refine PI_19_2 dX2_readCondition_111 lkX2_19 ?_
              refine V_iinc 1 (v := l1 + 1) dX2_readCondition_114 rfl rfl (by decide) rfl ?_
              refine V_goto 2 dX2_readCondition_117 (by decide) ?_
              exact V_lv [2, 0] rfl k
            · replace k := k.2 z
              refine V_iconst 1 dX2_readCondition_102 (by decide) ?_
              exact V_zreturn dX2_readCondition_103 rfl (by decide) k
          · replace k := k.2 z
            refine V_aload_n 0 dX2_readCondition_81 rfl rfl ?_
            obtain ⟨t17, kg, k⟩ := k
            refine V_getR (k := 1) (some (12, t17)) (by decide) rt_19 rfl (by decide) rfl dX2_readCondition_82 lkX2_15 kg ?_
            refine V_sipush 261 dX2_readCondition_85 (by decide) ?_
            refine V_iconst 0 dX2_readCondition_88 (by decide) ?_
            refine V_callV (mc := 0) (ms := 0) (as := [aI 261, aI 0]) (st := []) (by decide) rt_12 rfl dX2_readCondition_89 okX1_addStep inX1_addStep seX1_addStep lkX2_64 rfl (Nat.le_of_ble_eq_true rfl) (Nat.zero_le _) (Nat.zero_le _) (Cl.mono (fun r18 h19 z => ?_) k)
            obtain ⟨rfl, k⟩ := z
            refine V_aload_n 0 dX2_readCondition_92 rfl rfl ?_
            refine V_callV (mc := 0) (ms := 0) (as := []) (st := []) (by decide) rt_19 rfl dX2_readCondition_93 okX2_kind inX2_kind seX2_kind lkX2_34 rfl (Nat.le_of_ble_eq_true rfl) (Nat.zero_le _) (Nat.zero_le _) (cX2_kind_ ?_)
            show V true mX2_readCondition (d + 3) _ _ 96 [(2, aI (knF h5)), (0, aR 19 0), (1, aI l1)] [aI (knF h19)] h19 P
            refine V_sipush 261 dX2_readCondition_96 (by decide) ?_
            refine V_icmp_eq 104 dX2_readCondition_99 (by decide) ⟨fun z => ?_, fun z => ?_⟩
            · replace k := k.1 z
              refine V_aload_n 0 dX2_readCondition_104 rfl rfl ?_
              refine V_dup dX2_readCondition_105 rfl ?_
              refine GI_19_2 dX2_readCondition_106 lkX2_19 ?_
              refine V_iconst 1 dX2_readCondition_109 (by decide) ?_
              refine V_iadd dX2_readCondition_110 ?_
              refine PI_19_2 dX2_readCondition_111 lkX2_19 ?_
              refine V_iinc 1 (v := l1 + 1) dX2_readCondition_114 rfl rfl (by decide) rfl ?_
              refine V_goto 2 dX2_readCondition_117 (by decide) ?_
              exact V_lv [2, 0] rfl k
            · replace k := k.2 z
              refine V_iconst 1 dX2_readCondition_102 (by decide) ?_
              exact V_zreturn dX2_readCondition_103 rfl (by decide) k
        · replace k := k.2 z
          refine V_iconst 0 dX2_readCondition_66 (by decide) ?_
          exact V_zreturn dX2_readCondition_67 rfl (by decide) k
      · replace k := k.2 z
        refine V_iload_n 2 dX2_readCondition_30 rfl rfl ?_
        refine V_bipush 61 dX2_readCondition_31 (by decide) ?_
        refine V_icmp_eq 48 dX2_readCondition_33 (by decide) ⟨fun z => ?_, fun z => ?_⟩
        · replace k := k.1 z
          refine V_aload_n 0 dX2_readCondition_48 rfl rfl ?_
          refine V_dup dX2_readCondition_49 rfl ?_
          refine GI_19_2 dX2_readCondition_50 lkX2_19 ?_
          refine V_iconst 1 dX2_readCondition_53 (by decide) ?_
          refine V_iadd dX2_readCondition_54 ?_
          refine PI_19_2 dX2_readCondition_55 lkX2_19 ?_
          refine V_aload_n 0 dX2_readCondition_58 rfl rfl ?_
          refine V_iconst 0 dX2_readCondition_59 (by decide) ?_
          refine V_callV (mc := 0) (ms := 0) (as := [aI 0]) (st := []) (by decide) rt_19 rfl dX2_readCondition_60 okX2_readSum inX2_readSum seX2_readSum lkX2_50 rfl (Nat.le_of_ble_eq_true rfl) (Nat.zero_le _) (Nat.zero_le _) (Cl.mono (fun r22 h23 z => ?_) k)
          obtain ⟨x24, rfl, k⟩ := z
          refine V_if_ne 68 dX2_readCondition_63 (by decide) ⟨fun z => ?_, fun z => ?_⟩
          · replace k := k.1 z
            refine V_aload_n 0 dX2_readCondition_68 rfl rfl ?_
            obtain ⟨t25, kg, k⟩ := k
            refine V_getR (k := 1) (some (12, t25)) (by decide) rt_19 rfl (by decide) rfl dX2_readCondition_69 lkX2_15 kg ?_
            refine V_iload_n 2 dX2_readCondition_72 rfl rfl ?_
            refine V_iconst 0 dX2_readCondition_73 (by decide) ?_
            refine V_callV (mc := 0) (ms := 0) (as := [aI (knF h5), aI 0]) (st := []) (by decide) rt_12 rfl dX2_readCondition_74 okX1_addStep inX1_addStep seX1_addStep lkX2_64 rfl (Nat.le_of_ble_eq_true rfl) (Nat.zero_le _) (Nat.zero_le _) (Cl.mono (fun r26 h27 z => ?_) k)
            obtain ⟨rfl, k⟩ := z
            refine V_iload_n 1 dX2_readCondition_77 rfl rfl ?_
            refine V_if_le 92 dX2_readCondition_78 (by decide) ⟨fun z => ?_, fun z => ?_⟩
            · replace k := k.1 z
              refine V_aload_n 0 dX2_readCondition_92 rfl rfl ?_
              refine V_callV (mc := 0) (ms := 0) (as := []) (st := []) (by decide) rt_19 rfl dX2_readCondition_93 okX2_kind inX2_kind seX2_kind lkX2_34 rfl (Nat.le_of_ble_eq_true rfl) (Nat.zero_le _) (Nat.zero_le _) (cX2_kind_ ?_)
              show V true mX2_readCondition (d + 3) _ _ 96 [(2, aI (knF h5)), (0, aR 19 0), (1, aI l1)] [aI (knF h27)] h27 P
              refine V_sipush 261 dX2_readCondition_96 (by decide) ?_
              refine V_icmp_eq 104 dX2_readCondition_99 (by decide) ⟨fun z => ?_, fun z => ?_⟩
              · replace k := k.1 z
                refine V_aload_n 0 dX2_readCondition_104 rfl rfl ?_
                refine V_dup dX2_readCondition_105 rfl ?_
                refine GI_19_2 dX2_readCondition_106 lkX2_19 ?_
                refine V_iconst 1 dX2_readCondition_109 (by decide) ?_
                refine V_iadd dX2_readCondition_110 ?_
                refine PI_19_2 dX2_readCondition_111 lkX2_19 ?_
                refine V_iinc 1 (v := l1 + 1) dX2_readCondition_114 rfl rfl (by decide) rfl ?_
                refine V_goto 2 dX2_readCondition_117 (by decide) ?_
                exact V_lv [2, 0] rfl k
              · replace k := k.2 z
                refine V_iconst 1 dX2_readCondition_102 (by decide) ?_
                exact V_zreturn dX2_readCondition_103 rfl (by decide) k
            · replace k := k.2 z
              refine V_aload_n 0 dX2_readCondition_81 rfl rfl ?_
              obtain ⟨t30, kg, k⟩ := k
              refine V_getR (k := 1) (some (12, t30)) (by decide) rt_19 rfl (by decide) rfl dX2_readCondition_82 lkX2_15 kg ?_
              refine V_sipush 261 dX2_readCondition_85 (by decide) ?_
              refine V_iconst 0 dX2_readCondition_88 (by decide) ?_
              refine V_callV (mc := 0) (ms := 0) (as := [aI 261, aI 0]) (st := []) (by decide) rt_12 rfl dX2_readCondition_89 okX1_addStep inX1_addStep seX1_addStep lkX2_64 rfl (Nat.le_of_ble_eq_true rfl) (Nat.zero_le _) (Nat.zero_le _) (Cl.mono (fun r31 h32 z => ?_) k)
              obtain ⟨rfl, k⟩ := z
              refine V_aload_n 0 dX2_readCondition_92 rfl rfl ?_
              refine V_callV (mc := 0) (ms := 0) (as := []) (st := []) (by decide) rt_19 rfl dX2_readCondition_93 okX2_kind inX2_kind seX2_kind lkX2_34 rfl (Nat.le_of_ble_eq_true rfl) (Nat.zero_le _) (Nat.zero_le _) (cX2_kind_ ?_)
              show V true mX2_readCondition (d + 3) _ _ 96 [(2, aI (knF h5)), (0, aR 19 0), (1, aI l1)] [aI (knF h32)] h32 P
              refine V_sipush 261 dX2_readCondition_96 (by decide) ?_
              refine V_icmp_eq 104 dX2_readCondition_99 (by decide) ⟨fun z => ?_, fun z => ?_⟩
              · replace k := k.1 z
                refine V_aload_n 0 dX2_readCondition_104 rfl rfl ?_
                refine V_dup dX2_readCondition_105 rfl ?_
                refine GI_19_2 dX2_readCondition_106 lkX2_19 ?_
                refine V_iconst 1 dX2_readCondition_109 (by decide) ?_
                refine V_iadd dX2_readCondition_110 ?_
                refine PI_19_2 dX2_readCondition_111 lkX2_19 ?_
                refine V_iinc 1 (v := l1 + 1) dX2_readCondition_114 rfl rfl (by decide) rfl ?_
                refine V_goto 2 dX2_readCondition_117 (by decide) ?_
                exact V_lv [2, 0] rfl k
              · replace k := k.2 z
                refine V_iconst 1 dX2_readCondition_102 (by decide) ?_
                exact V_zreturn dX2_readCondition_103 rfl (by decide) k
          · replace k := k.2 z
            refine V_iconst 0 dX2_readCondition_66 (by decide) ?_
            exact V_zreturn dX2_readCondition_67 rfl (by decide) k
        · replace k := k.2 z
          refine V_iload_n 2 dX2_readCondition_36 rfl rfl ?_
          refine V_bipush 62 dX2_readCondition_37 (by decide) ?_
          refine V_icmp_eq 48 dX2_readCondition_39 (by decide) ⟨fun z => ?_, fun z => ?_⟩
          · replace k := k.1 z
            refine V_aload_n 0 dX2_readCondition_48 rfl rfl ?_
            refine V_dup dX2_readCondition_49 rfl ?_
            refine GI_19_2 dX2_readCondition_50 lkX2_19 ?_
            refine V_iconst 1 dX2_readCondition_53 (by decide) ?_
            refine V_iadd dX2_readCondition_54 ?_
            refine PI_19_2 dX2_readCondition_55 lkX2_19 ?_
            refine V_aload_n 0 dX2_readCondition_58 rfl rfl ?_
            refine V_iconst 0 dX2_readCondition_59 (by decide) ?_
            refine V_callV (mc := 0) (ms := 0) (as := [aI 0]) (st := []) (by decide) rt_19 rfl dX2_readCondition_60 okX2_readSum inX2_readSum seX2_readSum lkX2_50 rfl (Nat.le_of_ble_eq_true rfl) (Nat.zero_le _) (Nat.zero_le _) (Cl.mono (fun r35 h36 z => ?_) k)
            obtain ⟨x37, rfl, k⟩ := z
            refine V_if_ne 68 dX2_readCondition_63 (by decide) ⟨fun z => ?_, fun z => ?_⟩
            · replace k := k.1 z
              refine V_aload_n 0 dX2_readCondition_68 rfl rfl ?_
              obtain ⟨t38, kg, k⟩ := k
              refine V_getR (k := 1) (some (12, t38)) (by decide) rt_19 rfl (by decide) rfl dX2_readCondition_69 lkX2_15 kg ?_
              refine V_iload_n 2 dX2_readCondition_72 rfl rfl ?_
              refine V_iconst 0 dX2_readCondition_73 (by decide) ?_
              refine V_callV (mc := 0) (ms := 0) (as := [aI (knF h5), aI 0]) (st := []) (by decide) rt_12 rfl dX2_readCondition_74 okX1_addStep inX1_addStep seX1_addStep lkX2_64 rfl (Nat.le_of_ble_eq_true rfl) (Nat.zero_le _) (Nat.zero_le _) (Cl.mono (fun r39 h40 z => ?_) k)
              obtain ⟨rfl, k⟩ := z
              refine V_iload_n 1 dX2_readCondition_77 rfl rfl ?_
              refine V_if_le 92 dX2_readCondition_78 (by decide) ⟨fun z => ?_, fun z => ?_⟩
              · replace k := k.1 z
                refine V_aload_n 0 dX2_readCondition_92 rfl rfl ?_
                refine V_callV (mc := 0) (ms := 0) (as := []) (st := []) (by decide) rt_19 rfl dX2_readCondition_93 okX2_kind inX2_kind seX2_kind lkX2_34 rfl (Nat.le_of_ble_eq_true rfl) (Nat.zero_le _) (Nat.zero_le _) (cX2_kind_ ?_)
                show V true mX2_readCondition (d + 3) _ _ 96 [(2, aI (knF h5)), (0, aR 19 0), (1, aI l1)] [aI (knF h40)] h40 P
                refine V_sipush 261 dX2_readCondition_96 (by decide) ?_
                refine V_icmp_eq 104 dX2_readCondition_99 (by decide) ⟨fun z => ?_, fun z => ?_⟩
                · replace k := k.1 z
                  refine V_aload_n 0 dX2_readCondition_104 rfl rfl ?_
                  refine V_dup dX2_readCondition_105 rfl ?_
                  refine GI_19_2 dX2_readCondition_106 lkX2_19 ?_
                  refine V_iconst 1 dX2_readCondition_109 (by decide) ?_
                  refine V_iadd dX2_readCondition_110 ?_
                  refine PI_19_2 dX2_readCondition_111 lkX2_19 ?_
                  refine V_iinc 1 (v := l1 + 1) dX2_readCondition_114 rfl rfl (by decide) rfl ?_
                  refine V_goto 2 dX2_readCondition_117 (by decide) ?_
                  exact V_lv [2, 0] rfl k
                · replace k := k.2 z
                  refine V_iconst 1 dX2_readCondition_102 (by decide) ?_
                  exact V_zreturn dX2_readCondition_103 rfl (by decide) k
              · replace k := k.2 z
                refine V_aload_n 0 dX2_readCondition_81 rfl rfl ?_
                obtain ⟨t43, kg, k⟩ := k
                refine V_getR (k := 1) (some (12, t43)) (by decide) rt_19 rfl (by decide) rfl dX2_readCondition_82 lkX2_15 kg ?_
                refine V_sipush 261 dX2_readCondition_85 (by decide) ?_
                refine V_iconst 0 dX2_readCondition_88 (by decide) ?_
                refine V_callV (mc := 0) (ms := 0) (as := [aI 261, aI 0]) (st := []) (by decide) rt_12 rfl dX2_readCondition_89 okX1_addStep inX1_addStep seX1_addStep lkX2_64 rfl (Nat.le_of_ble_eq_true rfl) (Nat.zero_le _) (Nat.zero_le _) (Cl.mono (fun r44 h45 z => ?_) k)
                obtain ⟨rfl, k⟩ := z
                refine V_aload_n 0 dX2_readCondition_92 rfl rfl ?_
                refine V_callV (mc := 0) (ms := 0) (as := []) (st := []) (by decide) rt_19 rfl dX2_readCondition_93 okX2_kind inX2_kind seX2_kind lkX2_34 rfl (Nat.le_of_ble_eq_true rfl) (Nat.zero_le _) (Nat.zero_le _) (cX2_kind_ ?_)
                show V true mX2_readCondition (d + 3) _ _ 96 [(2, aI (knF h5)), (0, aR 19 0), (1, aI l1)] [aI (knF h45)] h45 P
                refine V_sipush 261 dX2_readCondition_96 (by decide) ?_
                refine V_icmp_eq 104 dX2_readCondition_99 (by decide) ⟨fun z => ?_, fun z => ?_⟩
                · replace k := k.1 z
                  refine V_aload_n 0 dX2_readCondition_104 rfl rfl ?_
                  refine V_dup dX2_readCondition_105 rfl ?_
                  refine GI_19_2 dX2_readCondition_106 lkX2_19 ?_
                  refine V_iconst 1 dX2_readCondition_109 (by decide) ?_
                  refine V_iadd dX2_readCondition_110 ?_
                  refine PI_19_2 dX2_readCondition_111 lkX2_19 ?_
                  refine V_iinc 1 (v := l1 + 1) dX2_readCondition_114 rfl rfl (by decide) rfl ?_
                  refine V_goto 2 dX2_readCondition_117 (by decide) ?_
                  exact V_lv [2, 0] rfl k
                · replace k := k.2 z
                  refine V_iconst 1 dX2_readCondition_102 (by decide) ?_
                  exact V_zreturn dX2_readCondition_103 rfl (by decide) k
            · replace k := k.2 z
              refine V_iconst 0 dX2_readCondition_66 (by decide) ?_
              exact V_zreturn dX2_readCondition_67 rfl (by decide) k
          · replace k := k.2 z
            refine V_aload_n 0 dX2_readCondition_42 rfl rfl ?_
            refine V_iconst 1 dX2_readCondition_43 (by decide) ?_
            refine V_callV (mc := 0) (ms := 0) (as := [aI 1]) (st := []) (by decide) rt_19 rfl dX2_readCondition_44 okX2_fail inX2_fail seX2_fail lkX2_44 rfl (Nat.le_of_ble_eq_true rfl) (Nat.zero_le _) (Nat.zero_le _) (Cl.mono (fun r48 h49 z => ?_) k)
            obtain ⟨x50, rfl, k⟩ := z
            exact V_zreturn dX2_readCondition_47 rfl k.1 k.2
    · replace k := k.2 z
      refine V_iconst 0 dX2_readCondition_17 (by decide) ?_
      exact V_zreturn dX2_readCondition_18 rfl (by decide) k
-- X2_readSum cuts [12]
set_option maxRecDepth 20000 in
set_option maxHeartbeats 2000000 in
theorem wX2_readSum {d bc bs : Nat} {h : HS} {P : Option AV → HS → Prop} {l1 : Int32} (k : Cl true mX2_readTerm (d + 2) 0 0 [aR 19 0, aI l1] h (fun r1 h2 => ∃ x3 : Int32, r1 = some (aI x3) ∧ (((¬ x3 = 0) → (V true mX2_readSum (d + 3) bc bs 12 [(0, aR 19 0), (1, aI l1), (2, aI 0)] [] h2 P)) ∧ ((x3 = 0) → (P (some (aI 0)) h2))))) : Cl true mX2_readSum (d + 3) bc bs [aR 19 0, aI l1] h P := by
  refine Cl_of (by decide) (Nat.le_of_ble_eq_true rfl) ?_
  show V true mX2_readSum (d + 3) bc bs 0 [(0, aR 19 0), (1, aI l1)] [] h P
  refine V_aload_n 0 dX2_readSum_0 rfl rfl ?_
  refine V_iload_n 1 dX2_readSum_1 rfl rfl ?_
  refine V_callV (mc := 0) (ms := 0) (as := [aI l1]) (st := []) (by decide) rt_19 rfl dX2_readSum_2 okX2_readTerm inX2_readTerm seX2_readTerm lkX2_67 rfl (Nat.le_of_ble_eq_true rfl) (Nat.zero_le _) (Nat.zero_le _) (Cl.mono (fun r1 h2 z => ?_) k)
  obtain ⟨x3, rfl, k⟩ := z
  refine V_if_ne 10 dX2_readSum_5 (by decide) ⟨fun z => ?_, fun z => ?_⟩
  · replace k := k.1 z
    refine V_iconst 0 dX2_readSum_10 (by decide) ?_
    refine V_istore_n 2 dX2_readSum_11 rfl (by decide) rfl ?_
    exact V_lv [1, 2, 0] rfl k
  · replace k := k.2 z
    refine V_iconst 0 dX2_readSum_8 (by decide) ?_
    exact V_zreturn dX2_readSum_9 rfl (by decide) k
set_option maxRecDepth 20000 in
set_option maxHeartbeats 2000000 in
theorem wX2_readSum_12 {d bc bs : Nat} {h : HS} {P : Option AV → HS → Prop} {l1 : Int32} {l2 : Int32} (k : ((400 < l2) → (Cl true mX2_fail (d + 2) 0 0 [aR 19 0, aI 1] h (fun r1 h2 => ∃ x3 : Int32, r1 = some (aI x3) ∧ ((x3 = 0 ∨ x3 = 1) ∧ P (some (aI x3)) h2)))) ∧ ((¬ 400 < l2) → ((((knF h) = 43) → (Cl true mX2_readTerm (d + 2) 0 0 [aR 19 0, aI l1] (sI h 19 0 2 ((gI h 19 0 2) + 1)) (fun r6 h7 => ∃ x8 : Int32, r6 = some (aI x8) ∧ (((¬ x8 = 0) → (∃ t9, gR h7 19 0 1 = some (12, t9) ∧ (Cl true mX1_addStep (d + 2) 0 0 [aR 12 t9, aI (knF h), aI 0] h7 (fun r10 h11 => r10 = none ∧ (V true mX2_readSum (d + 3) bc bs 12 [(0, aR 19 0), (1, aI l1), (2, aI (l2 + 1))] [] h11 P))))) ∧ ((x8 = 0) → (P (some (aI 0)) h7)))))) ∧ ((¬ (knF h) = 43) → ((((knF h) = 45) → (Cl true mX2_readTerm (d + 2) 0 0 [aR 19 0, aI l1] (sI h 19 0 2 ((gI h 19 0 2) + 1)) (fun r12 h13 => ∃ x14 : Int32, r12 = some (aI x14) ∧ (((¬ x14 = 0) → (∃ t15, gR h13 19 0 1 = some (12, t15) ∧ (Cl true mX1_addStep (d + 2) 0 0 [aR 12 t15, aI (knF h), aI 0] h13 (fun r16 h17 => r16 = none ∧ (V true mX2_readSum (d + 3) bc bs 12 [(0, aR 19 0), (1, aI l1), (2, aI (l2 + 1))] [] h17 P))))) ∧ ((x14 = 0) → (P (some (aI 0)) h13)))))) ∧ ((¬ (knF h) = 45) → (P (some (aI 1)) h))))))) : V true mX2_readSum (d + 3) bc bs 12 [(0, aR 19 0), (1, aI l1), (2, aI l2)] [] h P := by
  refine V_iload_n 2 dX2_readSum_12 rfl rfl ?_
  refine V_sipush 400 dX2_readSum_13 (by decide) ?_
  refine V_icmp_gt 73 dX2_readSum_16 (by decide) ⟨fun z => ?_, fun z => ?_⟩
  · replace k := k.1 z
    refine V_aload_n 0 dX2_readSum_73 rfl rfl ?_
    refine V_iconst 1 dX2_readSum_74 (by decide) ?_
    refine V_callV (mc := 0) (ms := 0) (as := [aI 1]) (st := []) (by decide) rt_19 rfl dX2_readSum_75 okX2_fail inX2_fail seX2_fail lkX2_44 rfl (Nat.le_of_ble_eq_true rfl) (Nat.zero_le _) (Nat.zero_le _) (Cl.mono (fun r1 h2 z => ?_) k)
    obtain ⟨x3, rfl, k⟩ := z
    exact V_zreturn dX2_readSum_78 rfl k.1 k.2
  · replace k := k.2 z
    refine V_aload_n 0 dX2_readSum_19 rfl rfl ?_
    refine V_callV (mc := 0) (ms := 0) (as := []) (st := []) (by decide) rt_19 rfl dX2_readSum_20 okX2_kind inX2_kind seX2_kind lkX2_34 rfl (Nat.le_of_ble_eq_true rfl) (Nat.zero_le _) (Nat.zero_le _) (cX2_kind_ ?_)
    show V true mX2_readSum (d + 3) _ _ 23 [(0, aR 19 0), (1, aI l1), (2, aI l2)] [aI (knF h)] h P
    refine V_istore_n 3 dX2_readSum_23 rfl (by decide) rfl ?_
    refine V_iload_n 3 dX2_readSum_24 rfl rfl ?_
    refine V_bipush 43 dX2_readSum_25 (by decide) ?_
    refine V_icmp_eq 38 dX2_readSum_27 (by decide) ⟨fun z => ?_, fun z => ?_⟩
    · replace k := k.1 z
      refine V_aload_n 0 dX2_readSum_38 rfl rfl ?_
      refine V_dup dX2_readSum_39 rfl ?_
      refine GI_19_2 dX2_readSum_40 lkX2_19 ?_
      refine V_iconst 1 dX2_readSum_43 (by decide) ?_
      refine V_iadd dX2_readSum_44 ?_
      refine PI_19_2 dX2_readSum_45 lkX2_19 ?_
      refine V_aload_n 0 dX2_readSum_48 rfl rfl ?_
      refine V_iload_n 1 dX2_readSum_49 rfl rfl ?_
      refine V_callV (mc := 0) (ms := 0) (as := [aI l1]) (st := []) (by decide) rt_19 rfl dX2_readSum_50 okX2_readTerm inX2_readTerm seX2_readTerm lkX2_67 rfl (Nat.le_of_ble_eq_true rfl) (Nat.zero_le _) (Nat.zero_le _) (Cl.mono (fun r6 h7 z => ?_) k)
      obtain ⟨x8, rfl, k⟩ := z
      refine V_if_ne 58 dX2_readSum_53 (by decide) ⟨fun z => ?_, fun z => ?_⟩
      · replace k := k.1 z
        refine V_aload_n 0 dX2_readSum_58 rfl rfl ?_
        obtain ⟨t9, kg, k⟩ := k
        refine V_getR (k := 1) (some (12, t9)) (by decide) rt_19 rfl (by decide) rfl dX2_readSum_59 lkX2_15 kg ?_
        refine V_iload_n 3 dX2_readSum_62 rfl rfl ?_
        refine V_iconst 0 dX2_readSum_63 (by decide) ?_
        refine V_callV (mc := 0) (ms := 0) (as := [aI (knF h), aI 0]) (st := []) (by decide) rt_12 rfl dX2_readSum_64 okX1_addStep inX1_addStep seX1_addStep lkX2_64 rfl (Nat.le_of_ble_eq_true rfl) (Nat.zero_le _) (Nat.zero_le _) (Cl.mono (fun r10 h11 z => ?_) k)
        obtain ⟨rfl, k⟩ := z
        refine V_iinc 2 (v := l2 + 1) dX2_readSum_67 rfl rfl (by decide) rfl ?_
        refine V_goto 12 dX2_readSum_70 (by decide) ?_
        exact V_lv [2, 3, 0] rfl k
      · replace k := k.2 z
        refine V_iconst 0 dX2_readSum_56 (by decide) ?_
        exact V_zreturn dX2_readSum_57 rfl (by decide) k
    · replace k := k.2 z
      refine V_iload_n 3 dX2_readSum_30 rfl rfl ?_
      refine V_bipush 45 dX2_readSum_31 (by decide) ?_
      refine V_icmp_eq 38 dX2_readSum_33 (by decide) ⟨fun z => ?_, fun z => ?_⟩
      · replace k := k.1 z
        refine V_aload_n 0 dX2_readSum_38 rfl rfl ?_
        refine V_dup dX2_readSum_39 rfl ?_
        refine GI_19_2 dX2_readSum_40 lkX2_19 ?_
        refine V_iconst 1 dX2_readSum_43 (by decide) ?_
        refine V_iadd dX2_readSum_44 ?_
        refine PI_19_2 dX2_readSum_45 lkX2_19 ?_
        refine V_aload_n 0 dX2_readSum_48 rfl rfl ?_
        refine V_iload_n 1 dX2_readSum_49 rfl rfl ?_
        refine V_callV (mc := 0) (ms := 0) (as := [aI l1]) (st := []) (by decide) rt_19 rfl dX2_readSum_50 okX2_readTerm inX2_readTerm seX2_readTerm lkX2_67 rfl (Nat.le_of_ble_eq_true rfl) (Nat.zero_le _) (Nat.zero_le _) (Cl.mono (fun r12 h13 z => ?_) k)
        obtain ⟨x14, rfl, k⟩ := z
        refine V_if_ne 58 dX2_readSum_53 (by decide) ⟨fun z => ?_, fun z => ?_⟩
        · replace k := k.1 z
          refine V_aload_n 0 dX2_readSum_58 rfl rfl ?_
          obtain ⟨t15, kg, k⟩ := k
          refine V_getR (k := 1) (some (12, t15)) (by decide) rt_19 rfl (by decide) rfl dX2_readSum_59 lkX2_15 kg ?_
          refine V_iload_n 3 dX2_readSum_62 rfl rfl ?_
          refine V_iconst 0 dX2_readSum_63 (by decide) ?_
          refine V_callV (mc := 0) (ms := 0) (as := [aI (knF h), aI 0]) (st := []) (by decide) rt_12 rfl dX2_readSum_64 okX1_addStep inX1_addStep seX1_addStep lkX2_64 rfl (Nat.le_of_ble_eq_true rfl) (Nat.zero_le _) (Nat.zero_le _) (Cl.mono (fun r16 h17 z => ?_) k)
          obtain ⟨rfl, k⟩ := z
          refine V_iinc 2 (v := l2 + 1) dX2_readSum_67 rfl rfl (by decide) rfl ?_
          refine V_goto 12 dX2_readSum_70 (by decide) ?_
          exact V_lv [2, 3, 0] rfl k
        · replace k := k.2 z
          refine V_iconst 0 dX2_readSum_56 (by decide) ?_
          exact V_zreturn dX2_readSum_57 rfl (by decide) k
      · replace k := k.2 z
        refine V_iconst 1 dX2_readSum_36 (by decide) ?_
        exact V_zreturn dX2_readSum_37 rfl (by decide) k
-- X2_readTerm cuts [12]
set_option maxRecDepth 20000 in
set_option maxHeartbeats 2000000 in
theorem wX2_readTerm {d bc bs : Nat} {h : HS} {P : Option AV → HS → Prop} {l1 : Int32} (k : Cl true mX2_readUnit (d + 2) 0 0 [aR 19 0, aI l1] h (fun r1 h2 => ∃ x3 : Int32, r1 = some (aI x3) ∧ (((¬ x3 = 0) → (V true mX2_readTerm (d + 3) bc bs 12 [(0, aR 19 0), (1, aI l1), (2, aI 0)] [] h2 P)) ∧ ((x3 = 0) → (P (some (aI 0)) h2))))) : Cl true mX2_readTerm (d + 3) bc bs [aR 19 0, aI l1] h P := by
  refine Cl_of (by decide) (Nat.le_of_ble_eq_true rfl) ?_
  show V true mX2_readTerm (d + 3) bc bs 0 [(0, aR 19 0), (1, aI l1)] [] h P
  refine V_aload_n 0 dX2_readTerm_0 rfl rfl ?_
  refine V_iload_n 1 dX2_readTerm_1 rfl rfl ?_
  refine V_callV (mc := 0) (ms := 0) (as := [aI l1]) (st := []) (by decide) rt_19 rfl dX2_readTerm_2 okX2_readUnit inX2_readUnit seX2_readUnit lkX2_70 rfl (Nat.le_of_ble_eq_true rfl) (Nat.zero_le _) (Nat.zero_le _) (Cl.mono (fun r1 h2 z => ?_) k)
  obtain ⟨x3, rfl, k⟩ := z
  refine V_if_ne 10 dX2_readTerm_5 (by decide) ⟨fun z => ?_, fun z => ?_⟩
  · replace k := k.1 z
    refine V_iconst 0 dX2_readTerm_10 (by decide) ?_
    refine V_istore_n 2 dX2_readTerm_11 rfl (by decide) rfl ?_
    exact V_lv [1, 2, 0] rfl k
  · replace k := k.2 z
    refine V_iconst 0 dX2_readTerm_8 (by decide) ?_
    exact V_zreturn dX2_readTerm_9 rfl (by decide) k
set_option maxRecDepth 20000 in
set_option maxHeartbeats 2000000 in
theorem wX2_readTerm_12 {d bc bs : Nat} {h : HS} {P : Option AV → HS → Prop} {l1 : Int32} {l2 : Int32} (k : ((400 < l2) → (Cl true mX2_fail (d + 2) 0 0 [aR 19 0, aI 1] h (fun r1 h2 => ∃ x3 : Int32, r1 = some (aI x3) ∧ ((x3 = 0 ∨ x3 = 1) ∧ P (some (aI x3)) h2)))) ∧ ((¬ 400 < l2) → (((¬ (knF h) = 42) → (((¬ (knF h) = 47) → (P (some (aI 1)) h)) ∧ (((knF h) = 47) → (Cl true mX2_readDivisor (d + 2) 0 0 [aR 19 0] (sI h 19 0 2 ((gI h 19 0 2) + 1)) (fun r6 h7 => ∃ x8 : Int32, r6 = some (aI x8) ∧ (((¬ x8 = 0) → (V true mX2_readTerm (d + 3) bc bs 12 [(0, aR 19 0), (1, aI l1), (2, aI (l2 + 1))] [] h7 P)) ∧ ((x8 = 0) → (P (some (aI 0)) h7)))))))) ∧ (((knF h) = 42) → (Cl true mX2_readUnit (d + 2) 0 0 [aR 19 0, aI l1] (sI h 19 0 2 ((gI h 19 0 2) + 1)) (fun r9 h10 => ∃ x11 : Int32, r9 = some (aI x11) ∧ (((¬ x11 = 0) → (∃ t12, gR h10 19 0 1 = some (12, t12) ∧ (Cl true mX1_addStep (d + 2) 0 0 [aR 12 t12, aI 42, aI 0] h10 (fun r13 h14 => r13 = none ∧ (V true mX2_readTerm (d + 3) bc bs 12 [(0, aR 19 0), (1, aI l1), (2, aI (l2 + 1))] [] h14 P))))) ∧ ((x11 = 0) → (P (some (aI 0)) h10))))))))) : V true mX2_readTerm (d + 3) bc bs 12 [(0, aR 19 0), (1, aI l1), (2, aI l2)] [] h P := by
  refine V_iload_n 2 dX2_readTerm_12 rfl rfl ?_
  refine V_sipush 400 dX2_readTerm_13 (by decide) ?_
  refine V_icmp_gt 96 dX2_readTerm_16 (by decide) ⟨fun z => ?_, fun z => ?_⟩
  · replace k := k.1 z
    refine V_aload_n 0 dX2_readTerm_96 rfl rfl ?_
    refine V_iconst 1 dX2_readTerm_97 (by decide) ?_
    refine V_callV (mc := 0) (ms := 0) (as := [aI 1]) (st := []) (by decide) rt_19 rfl dX2_readTerm_98 okX2_fail inX2_fail seX2_fail lkX2_44 rfl (Nat.le_of_ble_eq_true rfl) (Nat.zero_le _) (Nat.zero_le _) (Cl.mono (fun r1 h2 z => ?_) k)
    obtain ⟨x3, rfl, k⟩ := z
    exact V_zreturn dX2_readTerm_101 rfl k.1 k.2
  · replace k := k.2 z
    refine V_aload_n 0 dX2_readTerm_19 rfl rfl ?_
    refine V_callV (mc := 0) (ms := 0) (as := []) (st := []) (by decide) rt_19 rfl dX2_readTerm_20 okX2_kind inX2_kind seX2_kind lkX2_34 rfl (Nat.le_of_ble_eq_true rfl) (Nat.zero_le _) (Nat.zero_le _) (cX2_kind_ ?_)
    show V true mX2_readTerm (d + 3) _ _ 23 [(0, aR 19 0), (1, aI l1), (2, aI l2)] [aI (knF h)] h P
    refine V_istore_n 3 dX2_readTerm_23 rfl (by decide) rfl ?_
    refine V_iload_n 3 dX2_readTerm_24 rfl rfl ?_
    refine V_bipush 42 dX2_readTerm_25 (by decide) ?_
    refine V_icmp_ne 63 dX2_readTerm_27 (by decide) ⟨fun z => ?_, fun z => ?_⟩
    · replace k := k.1 z
      refine V_iload_n 3 dX2_readTerm_63 rfl rfl ?_
      refine V_bipush 47 dX2_readTerm_64 (by decide) ?_
      refine V_icmp_ne 88 dX2_readTerm_66 (by decide) ⟨fun z => ?_, fun z => ?_⟩
      · replace k := k.1 z
        refine V_iconst 1 dX2_readTerm_88 (by decide) ?_
        exact V_zreturn dX2_readTerm_89 rfl (by decide) k
      · replace k := k.2 z
        refine V_aload_n 0 dX2_readTerm_69 rfl rfl ?_
        refine V_dup dX2_readTerm_70 rfl ?_
        refine GI_19_2 dX2_readTerm_71 lkX2_19 ?_
        refine V_iconst 1 dX2_readTerm_74 (by decide) ?_
        refine V_iadd dX2_readTerm_75 ?_
        refine PI_19_2 dX2_readTerm_76 lkX2_19 ?_
        refine V_aload_n 0 dX2_readTerm_79 rfl rfl ?_
        refine V_callV (mc := 0) (ms := 0) (as := []) (st := []) (by decide) rt_19 rfl dX2_readTerm_80 okX2_readDivisor inX2_readDivisor seX2_readDivisor lkX2_73 rfl (Nat.le_of_ble_eq_true rfl) (Nat.zero_le _) (Nat.zero_le _) (Cl.mono (fun r6 h7 z => ?_) k)
        obtain ⟨x8, rfl, k⟩ := z
        refine V_if_ne 90 dX2_readTerm_83 (by decide) ⟨fun z => ?_, fun z => ?_⟩
        · replace k := k.1 z
          refine V_iinc 2 (v := l2 + 1) dX2_readTerm_90 rfl rfl (by decide) rfl ?_
          refine V_goto 12 dX2_readTerm_93 (by decide) ?_
          exact V_lv [2, 3, 0] rfl k
        · replace k := k.2 z
          refine V_iconst 0 dX2_readTerm_86 (by decide) ?_
          exact V_zreturn dX2_readTerm_87 rfl (by decide) k
    · replace k := k.2 z
      refine V_aload_n 0 dX2_readTerm_30 rfl rfl ?_
      refine V_dup dX2_readTerm_31 rfl ?_
      refine GI_19_2 dX2_readTerm_32 lkX2_19 ?_
      refine V_iconst 1 dX2_readTerm_35 (by decide) ?_
      refine V_iadd dX2_readTerm_36 ?_
      refine PI_19_2 dX2_readTerm_37 lkX2_19 ?_
      refine V_aload_n 0 dX2_readTerm_40 rfl rfl ?_
      refine V_iload_n 1 dX2_readTerm_41 rfl rfl ?_
      refine V_callV (mc := 0) (ms := 0) (as := [aI l1]) (st := []) (by decide) rt_19 rfl dX2_readTerm_42 okX2_readUnit inX2_readUnit seX2_readUnit lkX2_70 rfl (Nat.le_of_ble_eq_true rfl) (Nat.zero_le _) (Nat.zero_le _) (Cl.mono (fun r9 h10 z => ?_) k)
      obtain ⟨x11, rfl, k⟩ := z
      refine V_if_ne 50 dX2_readTerm_45 (by decide) ⟨fun z => ?_, fun z => ?_⟩
      · replace k := k.1 z
        refine V_aload_n 0 dX2_readTerm_50 rfl rfl ?_
        obtain ⟨t12, kg, k⟩ := k
        refine V_getR (k := 1) (some (12, t12)) (by decide) rt_19 rfl (by decide) rfl dX2_readTerm_51 lkX2_15 kg ?_
        refine V_bipush 42 dX2_readTerm_54 (by decide) ?_
        refine V_iconst 0 dX2_readTerm_56 (by decide) ?_
        refine V_callV (mc := 0) (ms := 0) (as := [aI 42, aI 0]) (st := []) (by decide) rt_12 rfl dX2_readTerm_57 okX1_addStep inX1_addStep seX1_addStep lkX2_64 rfl (Nat.le_of_ble_eq_true rfl) (Nat.zero_le _) (Nat.zero_le _) (Cl.mono (fun r13 h14 z => ?_) k)
        obtain ⟨rfl, k⟩ := z
        refine V_goto 90 dX2_readTerm_60 (by decide) ?_
        refine V_iinc 2 (v := l2 + 1) dX2_readTerm_90 rfl rfl (by decide) rfl ?_
        refine V_goto 12 dX2_readTerm_93 (by decide) ?_
        exact V_lv [2, 3, 0] rfl k
      · replace k := k.2 z
        refine V_iconst 0 dX2_readTerm_48 (by decide) ?_
        exact V_zreturn dX2_readTerm_49 rfl (by decide) k
-- X2_readDivisor cuts []
set_option maxRecDepth 20000 in
set_option maxHeartbeats 2000000 in
theorem wX2_readDivisor {d bc bs : Nat} {h : HS} {P : Option AV → HS → Prop}  (k : (((knF h) = 258) → (((¬ (nbF h) = 0) → (∃ t5, gR h 19 0 1 = some (12, t5) ∧ (Cl true mX1_addStep (d + 2) 0 0 [aR 12 t5, aI 47, aI (nbF h)] h (fun r8 h9 => r8 = none ∧ (P (some (aI 1)) (sI h9 19 0 2 ((gI h9 19 0 2) + 1))))))) ∧ (((nbF h) = 0) → (Cl true mX2_fail (d + 2) 0 0 [aR 19 0, aI 2] h (fun r10 h11 => ∃ x12 : Int32, r10 = some (aI x12) ∧ ((x12 = 0 ∨ x12 = 1) ∧ P (some (aI x12)) h11)))))) ∧ ((¬ (knF h) = 258) → (Cl true mX2_fail (d + 2) 0 0 [aR 19 0, aI 1] h (fun r13 h14 => ∃ x15 : Int32, r13 = some (aI x15) ∧ ((x15 = 0 ∨ x15 = 1) ∧ P (some (aI x15)) h14))))) : Cl true mX2_readDivisor (d + 3) bc bs [aR 19 0] h P := by
  refine Cl_of (by decide) (Nat.le_of_ble_eq_true rfl) ?_
  show V true mX2_readDivisor (d + 3) bc bs 0 [(0, aR 19 0)] [] h P
  refine V_aload_n 0 dX2_readDivisor_0 rfl rfl ?_
  refine V_callV (mc := 0) (ms := 0) (as := []) (st := []) (by decide) rt_19 rfl dX2_readDivisor_1 okX2_kind inX2_kind seX2_kind lkX2_34 rfl (Nat.le_of_ble_eq_true rfl) (Nat.zero_le _) (Nat.zero_le _) (cX2_kind_ ?_)
  show V true mX2_readDivisor (d + 3) _ _ 4 [(0, aR 19 0)] [aI (knF h)] h P
  refine V_sipush 258 dX2_readDivisor_4 (by decide) ?_
  refine V_icmp_eq 16 dX2_readDivisor_7 (by decide) ⟨fun z => ?_, fun z => ?_⟩
  · replace k := k.1 z
    refine V_aload_n 0 dX2_readDivisor_16 rfl rfl ?_
    refine V_callV (mc := 0) (ms := 0) (as := []) (st := []) (by decide) rt_19 rfl dX2_readDivisor_17 okX2_number inX2_number seX2_number lkX2_76 rfl (Nat.le_of_ble_eq_true rfl) (Nat.zero_le _) (Nat.zero_le _) (cX2_number_ ?_)
    show V true mX2_readDivisor (d + 3) _ _ 20 [(0, aR 19 0)] [aI (nbF h)] h P
    refine V_if_ne 29 dX2_readDivisor_20 (by decide) ⟨fun z => ?_, fun z => ?_⟩
    · replace k := k.1 z
      refine V_aload_n 0 dX2_readDivisor_29 rfl rfl ?_
      obtain ⟨t5, kg, k⟩ := k
      refine V_getR (k := 1) (some (12, t5)) (by decide) rt_19 rfl (by decide) rfl dX2_readDivisor_30 lkX2_15 kg ?_
      refine V_bipush 47 dX2_readDivisor_33 (by decide) ?_
      refine V_aload_n 0 dX2_readDivisor_35 rfl rfl ?_
      refine V_callV (mc := 0) (ms := 0) (as := []) (st := [aI 47, aR 12 t5]) (by decide) rt_19 rfl dX2_readDivisor_36 okX2_number inX2_number seX2_number lkX2_76 rfl (Nat.le_of_ble_eq_true rfl) (Nat.zero_le _) (Nat.zero_le _) (cX2_number_ ?_)
      show V true mX2_readDivisor (d + 3) _ _ 39 [(0, aR 19 0)] [aI (nbF h), aI 47, aR 12 t5] h P
      refine V_callV (mc := 0) (ms := 0) (as := [aI 47, aI (nbF h)]) (st := []) (by decide) rt_12 rfl dX2_readDivisor_39 okX1_addStep inX1_addStep seX1_addStep lkX2_64 rfl (Nat.le_of_ble_eq_true rfl) (Nat.zero_le _) (Nat.zero_le _) (Cl.mono (fun r8 h9 z => ?_) k)
      obtain ⟨rfl, k⟩ := z
      refine V_aload_n 0 dX2_readDivisor_42 rfl rfl ?_
      refine V_dup dX2_readDivisor_43 rfl ?_
      refine GI_19_2 dX2_readDivisor_44 lkX2_19 ?_
      refine V_iconst 1 dX2_readDivisor_47 (by decide) ?_
      refine V_iadd dX2_readDivisor_48 ?_
      refine PI_19_2 dX2_readDivisor_49 lkX2_19 ?_
      refine V_iconst 1 dX2_readDivisor_52 (by decide) ?_
      exact V_zreturn dX2_readDivisor_53 rfl (by decide) k
    · replace k := k.2 z
      refine V_aload_n 0 dX2_readDivisor_23 rfl rfl ?_
      refine V_iconst 2 dX2_readDivisor_24 (by decide) ?_
      refine V_callV (mc := 0) (ms := 0) (as := [aI 2]) (st := []) (by decide) rt_19 rfl dX2_readDivisor_25 okX2_fail inX2_fail seX2_fail lkX2_44 rfl (Nat.le_of_ble_eq_true rfl) (Nat.zero_le _) (Nat.zero_le _) (Cl.mono (fun r10 h11 z => ?_) k)
      obtain ⟨x12, rfl, k⟩ := z
      exact V_zreturn dX2_readDivisor_28 rfl k.1 k.2
  · replace k := k.2 z
    refine V_aload_n 0 dX2_readDivisor_10 rfl rfl ?_
    refine V_iconst 1 dX2_readDivisor_11 (by decide) ?_
    refine V_callV (mc := 0) (ms := 0) (as := [aI 1]) (st := []) (by decide) rt_19 rfl dX2_readDivisor_12 okX2_fail inX2_fail seX2_fail lkX2_44 rfl (Nat.le_of_ble_eq_true rfl) (Nat.zero_le _) (Nat.zero_le _) (Cl.mono (fun r13 h14 z => ?_) k)
    obtain ⟨x15, rfl, k⟩ := z
    exact V_zreturn dX2_readDivisor_15 rfl k.1 k.2
-- X2_readUnit cuts []
set_option maxRecDepth 20000 in
set_option maxHeartbeats 2000000 in
theorem wX2_readUnit {d bc bs : Nat} {h : HS} {P : Option AV → HS → Prop} {l1 : Int32} (k : (((knF h) = 258) → (∃ t3, gR h 19 0 1 = some (12, t3) ∧ (Cl true mX1_addStep (d + 2) 0 0 [aR 12 t3, aI (knF h), aI (nbF h)] h (fun r6 h7 => r6 = none ∧ (P (some (aI 1)) (sI h7 19 0 2 ((gI h7 19 0 2) + 1))))))) ∧ ((¬ (knF h) = 258) → ((((knF h) < 262) → ((((knF h) = 40) → (((l1 < 8) → (Cl true mX2_readSum (d + 2) 0 0 [aR 19 0, aI (l1 + 1)] (sI h 19 0 2 ((gI h 19 0 2) + 1)) (fun r8 h9 => ∃ x10 : Int32, r8 = some (aI x10) ∧ (((¬ x10 = 0) → ((((knF h9) = 41) → (P (some (aI 1)) (sI h9 19 0 2 ((gI h9 19 0 2) + 1)))) ∧ ((¬ (knF h9) = 41) → (Cl true mX2_fail (d + 2) 0 0 [aR 19 0, aI 1] h9 (fun r13 h14 => ∃ x15 : Int32, r13 = some (aI x15) ∧ ((x15 = 0 ∨ x15 = 1) ∧ P (some (aI x15)) h14)))))) ∧ ((x10 = 0) → (P (some (aI 0)) h9)))))) ∧ ((¬ l1 < 8) → (Cl true mX2_fail (d + 2) 0 0 [aR 19 0, aI 3] h (fun r16 h17 => ∃ x18 : Int32, r16 = some (aI x18) ∧ ((x18 = 0 ∨ x18 = 1) ∧ P (some (aI x18)) h17)))))) ∧ ((¬ (knF h) = 40) → (Cl true mX2_fail (d + 2) 0 0 [aR 19 0, aI 1] h (fun r19 h20 => ∃ x21 : Int32, r19 = some (aI x21) ∧ ((x21 = 0 ∨ x21 = 1) ∧ P (some (aI x21)) h20)))))) ∧ ((¬ (knF h) < 262) → (((265 < (knF h)) → ((((knF h) = 40) → (((l1 < 8) → (Cl true mX2_readSum (d + 2) 0 0 [aR 19 0, aI (l1 + 1)] (sI h 19 0 2 ((gI h 19 0 2) + 1)) (fun r22 h23 => ∃ x24 : Int32, r22 = some (aI x24) ∧ (((¬ x24 = 0) → ((((knF h23) = 41) → (P (some (aI 1)) (sI h23 19 0 2 ((gI h23 19 0 2) + 1)))) ∧ ((¬ (knF h23) = 41) → (Cl true mX2_fail (d + 2) 0 0 [aR 19 0, aI 1] h23 (fun r27 h28 => ∃ x29 : Int32, r27 = some (aI x29) ∧ ((x29 = 0 ∨ x29 = 1) ∧ P (some (aI x29)) h28)))))) ∧ ((x24 = 0) → (P (some (aI 0)) h23)))))) ∧ ((¬ l1 < 8) → (Cl true mX2_fail (d + 2) 0 0 [aR 19 0, aI 3] h (fun r30 h31 => ∃ x32 : Int32, r30 = some (aI x32) ∧ ((x32 = 0 ∨ x32 = 1) ∧ P (some (aI x32)) h31)))))) ∧ ((¬ (knF h) = 40) → (Cl true mX2_fail (d + 2) 0 0 [aR 19 0, aI 1] h (fun r33 h34 => ∃ x35 : Int32, r33 = some (aI x35) ∧ ((x35 = 0 ∨ x35 = 1) ∧ P (some (aI x35)) h34)))))) ∧ ((¬ 265 < (knF h)) → (∃ t36, gR h 19 0 1 = some (12, t36) ∧ (Cl true mX1_addStep (d + 2) 0 0 [aR 12 t36, aI (knF h), aI (nbF h)] h (fun r39 h40 => r39 = none ∧ (P (some (aI 1)) (sI h40 19 0 2 ((gI h40 19 0 2) + 1)))))))))))) : Cl true mX2_readUnit (d + 3) bc bs [aR 19 0, aI l1] h P := by
  refine Cl_of (by decide) (Nat.le_of_ble_eq_true rfl) ?_
  show V true mX2_readUnit (d + 3) bc bs 0 [(0, aR 19 0), (1, aI l1)] [] h P
  refine V_aload_n 0 dX2_readUnit_0 rfl rfl ?_
  refine V_callV (mc := 0) (ms := 0) (as := []) (st := []) (by decide) rt_19 rfl dX2_readUnit_1 okX2_kind inX2_kind seX2_kind lkX2_34 rfl (Nat.le_of_ble_eq_true rfl) (Nat.zero_le _) (Nat.zero_le _) (cX2_kind_ ?_)
  show V true mX2_readUnit (d + 3) _ _ 4 [(0, aR 19 0), (1, aI l1)] [aI (knF h)] h P
  refine V_istore_n 2 dX2_readUnit_4 rfl (by decide) rfl ?_
  refine V_iload_n 2 dX2_readUnit_5 rfl rfl ?_
  refine V_sipush 258 dX2_readUnit_6 (by decide) ?_
  refine V_icmp_eq 26 dX2_readUnit_9 (by decide) ⟨fun z => ?_, fun z => ?_⟩
  · replace k := k.1 z
    refine V_aload_n 0 dX2_readUnit_26 rfl rfl ?_
    obtain ⟨t3, kg, k⟩ := k
    refine V_getR (k := 1) (some (12, t3)) (by decide) rt_19 rfl (by decide) rfl dX2_readUnit_27 lkX2_15 kg ?_
    refine V_iload_n 2 dX2_readUnit_30 rfl rfl ?_
    refine V_aload_n 0 dX2_readUnit_31 rfl rfl ?_
    refine V_callV (mc := 0) (ms := 0) (as := []) (st := [aI (knF h), aR 12 t3]) (by decide) rt_19 rfl dX2_readUnit_32 okX2_number inX2_number seX2_number lkX2_76 rfl (Nat.le_of_ble_eq_true rfl) (Nat.zero_le _) (Nat.zero_le _) (cX2_number_ ?_)
    show V true mX2_readUnit (d + 3) _ _ 35 [(2, aI (knF h)), (0, aR 19 0), (1, aI l1)] [aI (nbF h), aI (knF h), aR 12 t3] h P
    refine V_callV (mc := 0) (ms := 0) (as := [aI (knF h), aI (nbF h)]) (st := []) (by decide) rt_12 rfl dX2_readUnit_35 okX1_addStep inX1_addStep seX1_addStep lkX2_64 rfl (Nat.le_of_ble_eq_true rfl) (Nat.zero_le _) (Nat.zero_le _) (Cl.mono (fun r6 h7 z => ?_) k)
    obtain ⟨rfl, k⟩ := z
    refine V_aload_n 0 dX2_readUnit_38 rfl rfl ?_
    refine V_dup dX2_readUnit_39 rfl ?_
    refine GI_19_2 dX2_readUnit_40 lkX2_19 ?_
    refine V_iconst 1 dX2_readUnit_43 (by decide) ?_
    refine V_iadd dX2_readUnit_44 ?_
    refine PI_19_2 dX2_readUnit_45 lkX2_19 ?_
    refine V_iconst 1 dX2_readUnit_48 (by decide) ?_
    exact V_zreturn dX2_readUnit_49 rfl (by decide) k
  · replace k := k.2 z
    refine V_iload_n 2 dX2_readUnit_12 rfl rfl ?_
    refine V_sipush 262 dX2_readUnit_13 (by decide) ?_
    refine V_icmp_lt 50 dX2_readUnit_16 (by decide) ⟨fun z => ?_, fun z => ?_⟩
    · replace k := k.1 z
      refine V_iload_n 2 dX2_readUnit_50 rfl rfl ?_
      refine V_bipush 40 dX2_readUnit_51 (by decide) ?_
      refine V_icmp_eq 62 dX2_readUnit_53 (by decide) ⟨fun z => ?_, fun z => ?_⟩
      · replace k := k.1 z
        refine V_iload_n 1 dX2_readUnit_62 rfl rfl ?_
        refine V_bipush 8 dX2_readUnit_63 (by decide) ?_
        refine V_icmp_lt 74 dX2_readUnit_65 (by decide) ⟨fun z => ?_, fun z => ?_⟩
        · replace k := k.1 z
          refine V_aload_n 0 dX2_readUnit_74 rfl rfl ?_
          refine V_dup dX2_readUnit_75 rfl ?_
          refine GI_19_2 dX2_readUnit_76 lkX2_19 ?_
          refine V_iconst 1 dX2_readUnit_79 (by decide) ?_
          refine V_iadd dX2_readUnit_80 ?_
          refine PI_19_2 dX2_readUnit_81 lkX2_19 ?_
          refine V_aload_n 0 dX2_readUnit_84 rfl rfl ?_
          refine V_iload_n 1 dX2_readUnit_85 rfl rfl ?_
          refine V_iconst 1 dX2_readUnit_86 (by decide) ?_
          refine V_iadd dX2_readUnit_87 ?_
          refine V_callV (mc := 0) (ms := 0) (as := [aI (l1 + 1)]) (st := []) (by decide) rt_19 rfl dX2_readUnit_88 okX2_readSum inX2_readSum seX2_readSum lkX2_50 rfl (Nat.le_of_ble_eq_true rfl) (Nat.zero_le _) (Nat.zero_le _) (Cl.mono (fun r8 h9 z => ?_) k)
          obtain ⟨x10, rfl, k⟩ := z
          refine V_if_ne 96 dX2_readUnit_91 (by decide) ⟨fun z => ?_, fun z => ?_⟩
          · replace k := k.1 z
            refine V_aload_n 0 dX2_readUnit_96 rfl rfl ?_
            refine V_callV (mc := 0) (ms := 0) (as := []) (st := []) (by decide) rt_19 rfl dX2_readUnit_97 okX2_kind inX2_kind seX2_kind lkX2_34 rfl (Nat.le_of_ble_eq_true rfl) (Nat.zero_le _) (Nat.zero_le _) (cX2_kind_ ?_)
            show V true mX2_readUnit (d + 3) _ _ 100 [(2, aI (knF h)), (0, aR 19 0), (1, aI l1)] [aI (knF h9)] h9 P
            refine V_bipush 41 dX2_readUnit_100 (by decide) ?_
            refine V_icmp_eq 111 dX2_readUnit_102 (by decide) ⟨fun z => ?_, fun z => ?_⟩
            · replace k := k.1 z
              refine V_aload_n 0 dX2_readUnit_111 rfl rfl ?_
              refine V_dup dX2_readUnit_112 rfl ?_
              refine GI_19_2 dX2_readUnit_113 lkX2_19 ?_
              refine V_iconst 1 dX2_readUnit_116 (by decide) ?_
              refine V_iadd dX2_readUnit_117 ?_
              refine PI_19_2 dX2_readUnit_118 lkX2_19 ?_
              refine V_iconst 1 dX2_readUnit_121 (by decide) ?_
              exact V_zreturn dX2_readUnit_122 rfl (by decide) k
            · replace k := k.2 z
              refine V_aload_n 0 dX2_readUnit_105 rfl rfl ?_
              refine V_iconst 1 dX2_readUnit_106 (by decide) ?_
              refine V_callV (mc := 0) (ms := 0) (as := [aI 1]) (st := []) (by decide) rt_19 rfl dX2_readUnit_107 okX2_fail inX2_fail seX2_fail lkX2_44 rfl (Nat.le_of_ble_eq_true rfl) (Nat.zero_le _) (Nat.zero_le _) (Cl.mono (fun r13 h14 z => ?_) k)
              obtain ⟨x15, rfl, k⟩ := z
              exact V_zreturn dX2_readUnit_110 rfl k.1 k.2
          · replace k := k.2 z
            refine V_iconst 0 dX2_readUnit_94 (by decide) ?_
            exact V_zreturn dX2_readUnit_95 rfl (by decide) k
        · replace k := k.2 z
          refine V_aload_n 0 dX2_readUnit_68 rfl rfl ?_
          refine V_iconst 3 dX2_readUnit_69 (by decide) ?_
          refine V_callV (mc := 0) (ms := 0) (as := [aI 3]) (st := []) (by decide) rt_19 rfl dX2_readUnit_70 okX2_fail inX2_fail seX2_fail lkX2_44 rfl (Nat.le_of_ble_eq_true rfl) (Nat.zero_le _) (Nat.zero_le _) (Cl.mono (fun r16 h17 z => ?_) k)
          obtain ⟨x18, rfl, k⟩ := z
          exact V_zreturn dX2_readUnit_73 rfl k.1 k.2
      · replace k := k.2 z
        refine V_aload_n 0 dX2_readUnit_56 rfl rfl ?_
        refine V_iconst 1 dX2_readUnit_57 (by decide) ?_
        refine V_callV (mc := 0) (ms := 0) (as := [aI 1]) (st := []) (by decide) rt_19 rfl dX2_readUnit_58 okX2_fail inX2_fail seX2_fail lkX2_44 rfl (Nat.le_of_ble_eq_true rfl) (Nat.zero_le _) (Nat.zero_le _) (Cl.mono (fun r19 h20 z => ?_) k)
        obtain ⟨x21, rfl, k⟩ := z
        exact V_zreturn dX2_readUnit_61 rfl k.1 k.2
    · replace k := k.2 z
      refine V_iload_n 2 dX2_readUnit_19 rfl rfl ?_
      refine V_sipush 265 dX2_readUnit_20 (by decide) ?_
      refine V_icmp_gt 50 dX2_readUnit_23 (by decide) ⟨fun z => ?_, fun z => ?_⟩
      · replace k := k.1 z
        refine V_iload_n 2 dX2_readUnit_50 rfl rfl ?_
        refine V_bipush 40 dX2_readUnit_51 (by decide) ?_
        refine V_icmp_eq 62 dX2_readUnit_53 (by decide) ⟨fun z => ?_, fun z => ?_⟩
        · replace k := k.1 z
          refine V_iload_n 1 dX2_readUnit_62 rfl rfl ?_
          refine V_bipush 8 dX2_readUnit_63 (by decide) ?_
          refine V_icmp_lt 74 dX2_readUnit_65 (by decide) ⟨fun z => ?_, fun z => ?_⟩
          · replace k := k.1 z
            refine V_aload_n 0 dX2_readUnit_74 rfl rfl ?_
            refine V_dup dX2_readUnit_75 rfl ?_
            refine GI_19_2 dX2_readUnit_76 lkX2_19 ?_
            refine V_iconst 1 dX2_readUnit_79 (by decide) ?_
            refine V_iadd dX2_readUnit_80 ?_
            refine PI_19_2 dX2_readUnit_81 lkX2_19 ?_
            refine V_aload_n 0 dX2_readUnit_84 rfl rfl ?_
            refine V_iload_n 1 dX2_readUnit_85 rfl rfl ?_
            refine V_iconst 1 dX2_readUnit_86 (by decide) ?_
            refine V_iadd dX2_readUnit_87 ?_
            refine V_callV (mc := 0) (ms := 0) (as := [aI (l1 + 1)]) (st := []) (by decide) rt_19 rfl dX2_readUnit_88 okX2_readSum inX2_readSum seX2_readSum lkX2_50 rfl (Nat.le_of_ble_eq_true rfl) (Nat.zero_le _) (Nat.zero_le _) (Cl.mono (fun r22 h23 z => ?_) k)
            obtain ⟨x24, rfl, k⟩ := z
            refine V_if_ne 96 dX2_readUnit_91 (by decide) ⟨fun z => ?_, fun z => ?_⟩
            · replace k := k.1 z
              refine V_aload_n 0 dX2_readUnit_96 rfl rfl ?_
              refine V_callV (mc := 0) (ms := 0) (as := []) (st := []) (by decide) rt_19 rfl dX2_readUnit_97 okX2_kind inX2_kind seX2_kind lkX2_34 rfl (Nat.le_of_ble_eq_true rfl) (Nat.zero_le _) (Nat.zero_le _) (cX2_kind_ ?_)
              show V true mX2_readUnit (d + 3) _ _ 100 [(2, aI (knF h)), (0, aR 19 0), (1, aI l1)] [aI (knF h23)] h23 P
              refine V_bipush 41 dX2_readUnit_100 (by decide) ?_
              refine V_icmp_eq 111 dX2_readUnit_102 (by decide) ⟨fun z => ?_, fun z => ?_⟩
              · replace k := k.1 z
                refine V_aload_n 0 dX2_readUnit_111 rfl rfl ?_
                refine V_dup dX2_readUnit_112 rfl ?_
                refine GI_19_2 dX2_readUnit_113 lkX2_19 ?_
                refine V_iconst 1 dX2_readUnit_116 (by decide) ?_
                refine V_iadd dX2_readUnit_117 ?_
                refine PI_19_2 dX2_readUnit_118 lkX2_19 ?_
                refine V_iconst 1 dX2_readUnit_121 (by decide) ?_
                exact V_zreturn dX2_readUnit_122 rfl (by decide) k
              · replace k := k.2 z
                refine V_aload_n 0 dX2_readUnit_105 rfl rfl ?_
                refine V_iconst 1 dX2_readUnit_106 (by decide) ?_
                refine V_callV (mc := 0) (ms := 0) (as := [aI 1]) (st := []) (by decide) rt_19 rfl dX2_readUnit_107 okX2_fail inX2_fail seX2_fail lkX2_44 rfl (Nat.le_of_ble_eq_true rfl) (Nat.zero_le _) (Nat.zero_le _) (Cl.mono (fun r27 h28 z => ?_) k)
                obtain ⟨x29, rfl, k⟩ := z
                exact V_zreturn dX2_readUnit_110 rfl k.1 k.2
            · replace k := k.2 z
              refine V_iconst 0 dX2_readUnit_94 (by decide) ?_
              exact V_zreturn dX2_readUnit_95 rfl (by decide) k
          · replace k := k.2 z
            refine V_aload_n 0 dX2_readUnit_68 rfl rfl ?_
            refine V_iconst 3 dX2_readUnit_69 (by decide) ?_
            refine V_callV (mc := 0) (ms := 0) (as := [aI 3]) (st := []) (by decide) rt_19 rfl dX2_readUnit_70 okX2_fail inX2_fail seX2_fail lkX2_44 rfl (Nat.le_of_ble_eq_true rfl) (Nat.zero_le _) (Nat.zero_le _) (Cl.mono (fun r30 h31 z => ?_) k)
            obtain ⟨x32, rfl, k⟩ := z
            exact V_zreturn dX2_readUnit_73 rfl k.1 k.2
        · replace k := k.2 z
          refine V_aload_n 0 dX2_readUnit_56 rfl rfl ?_
          refine V_iconst 1 dX2_readUnit_57 (by decide) ?_
          refine V_callV (mc := 0) (ms := 0) (as := [aI 1]) (st := []) (by decide) rt_19 rfl dX2_readUnit_58 okX2_fail inX2_fail seX2_fail lkX2_44 rfl (Nat.le_of_ble_eq_true rfl) (Nat.zero_le _) (Nat.zero_le _) (Cl.mono (fun r33 h34 z => ?_) k)
          obtain ⟨x35, rfl, k⟩ := z
          exact V_zreturn dX2_readUnit_61 rfl k.1 k.2
      · replace k := k.2 z
        refine V_aload_n 0 dX2_readUnit_26 rfl rfl ?_
        obtain ⟨t36, kg, k⟩ := k
        refine V_getR (k := 1) (some (12, t36)) (by decide) rt_19 rfl (by decide) rfl dX2_readUnit_27 lkX2_15 kg ?_
        refine V_iload_n 2 dX2_readUnit_30 rfl rfl ?_
        refine V_aload_n 0 dX2_readUnit_31 rfl rfl ?_
        refine V_callV (mc := 0) (ms := 0) (as := []) (st := [aI (knF h), aR 12 t36]) (by decide) rt_19 rfl dX2_readUnit_32 okX2_number inX2_number seX2_number lkX2_76 rfl (Nat.le_of_ble_eq_true rfl) (Nat.zero_le _) (Nat.zero_le _) (cX2_number_ ?_)
        show V true mX2_readUnit (d + 3) _ _ 35 [(2, aI (knF h)), (0, aR 19 0), (1, aI l1)] [aI (nbF h), aI (knF h), aR 12 t36] h P
        refine V_callV (mc := 0) (ms := 0) (as := [aI (knF h), aI (nbF h)]) (st := []) (by decide) rt_12 rfl dX2_readUnit_35 okX1_addStep inX1_addStep seX1_addStep lkX2_64 rfl (Nat.le_of_ble_eq_true rfl) (Nat.zero_le _) (Nat.zero_le _) (Cl.mono (fun r39 h40 z => ?_) k)
        obtain ⟨rfl, k⟩ := z
        refine V_aload_n 0 dX2_readUnit_38 rfl rfl ?_
        refine V_dup dX2_readUnit_39 rfl ?_
        refine GI_19_2 dX2_readUnit_40 lkX2_19 ?_
        refine V_iconst 1 dX2_readUnit_43 (by decide) ?_
        refine V_iadd dX2_readUnit_44 ?_
        refine PI_19_2 dX2_readUnit_45 lkX2_19 ?_
        refine V_iconst 1 dX2_readUnit_48 (by decide) ?_
        exact V_zreturn dX2_readUnit_49 rfl (by decide) k
-- X2_pass cuts []
set_option maxRecDepth 20000 in
set_option maxHeartbeats 2000000 in
theorem wX2_pass {d bc bs : Nat} {h : HS} {P : Option AV → HS → Prop} {l1 : Int32} (k : (((knF h) = l1) → (P (some (aI 1)) (sI h 19 0 2 ((gI h 19 0 2) + 1)))) ∧ ((¬ (knF h) = l1) → (Cl true mX2_fail (d + 2) 0 0 [aR 19 0, aI 1] h (fun r3 h4 => ∃ x5 : Int32, r3 = some (aI x5) ∧ ((x5 = 0 ∨ x5 = 1) ∧ P (some (aI x5)) h4))))) : Cl true mX2_pass (d + 3) bc bs [aR 19 0, aI l1] h P := by
  refine Cl_of (by decide) (Nat.le_of_ble_eq_true rfl) ?_
  show V true mX2_pass (d + 3) bc bs 0 [(0, aR 19 0), (1, aI l1)] [] h P
  refine V_aload_n 0 dX2_pass_0 rfl rfl ?_
  refine V_callV (mc := 0) (ms := 0) (as := []) (st := []) (by decide) rt_19 rfl dX2_pass_1 okX2_kind inX2_kind seX2_kind lkX2_34 rfl (Nat.le_of_ble_eq_true rfl) (Nat.zero_le _) (Nat.zero_le _) (cX2_kind_ ?_)
  show V true mX2_pass (d + 3) _ _ 4 [(0, aR 19 0), (1, aI l1)] [aI (knF h)] h P
  refine V_iload_n 1 dX2_pass_4 rfl rfl ?_
  refine V_icmp_eq 14 dX2_pass_5 (by decide) ⟨fun z => ?_, fun z => ?_⟩
  · replace k := k.1 z
    refine V_aload_n 0 dX2_pass_14 rfl rfl ?_
    refine V_dup dX2_pass_15 rfl ?_
    refine GI_19_2 dX2_pass_16 lkX2_19 ?_
    refine V_iconst 1 dX2_pass_19 (by decide) ?_
    refine V_iadd dX2_pass_20 ?_
    refine PI_19_2 dX2_pass_21 lkX2_19 ?_
    refine V_iconst 1 dX2_pass_24 (by decide) ?_
    exact V_zreturn dX2_pass_25 rfl (by decide) k
  · replace k := k.2 z
    refine V_aload_n 0 dX2_pass_8 rfl rfl ?_
    refine V_iconst 1 dX2_pass_9 (by decide) ?_
    refine V_callV (mc := 0) (ms := 0) (as := [aI 1]) (st := []) (by decide) rt_19 rfl dX2_pass_10 okX2_fail inX2_fail seX2_fail lkX2_44 rfl (Nat.le_of_ble_eq_true rfl) (Nat.zero_le _) (Nat.zero_le _) (Cl.mono (fun r3 h4 z => ?_) k)
    obtain ⟨x5, rfl, k⟩ := z
    exact V_zreturn dX2_pass_13 rfl k.1 k.2
-- X2_fail cuts []
set_option maxRecDepth 20000 in
set_option maxHeartbeats 2000000 in
theorem wX2_fail {d bc bs : Nat} {h : HS} {P : Option AV → HS → Prop} {l1 : Int32} (k : (((gI h 19 0 2) < 0) → (P (some (aI 0)) (sI (sI h 19 0 3 l1) 19 0 4 (-1)))) ∧ ((¬ (gI h 19 0 2) < 0) → ((((gI h 8 0 3) ≤ (gI h 19 0 2)) → (P (some (aI 0)) (sI (sI h 19 0 3 l1) 19 0 4 (-1)))) ∧ ((¬ (gI h 8 0 3) ≤ (gI h 19 0 2)) → (((400 < (gI h 19 0 2)) → (P (some (aI 0)) (sI (sI h 19 0 3 l1) 19 0 4 (-1)))) ∧ ((¬ 400 < (gI h 19 0 2)) → (vp_in (gI h 19 0 2) 401 ∧ (P (some (aI 0)) (sI (sI h 19 0 3 l1) 19 0 4 (gI h 10 0 (gI h 19 0 2).toNatClampNeg)))))))))) : Cl true mX2_fail (d + 3) bc bs [aR 19 0, aI l1] h P := by
  refine Cl_of (by decide) (Nat.le_of_ble_eq_true rfl) ?_
  show V true mX2_fail (d + 3) bc bs 0 [(0, aR 19 0), (1, aI l1)] [] h P
  refine V_aload_n 0 dX2_fail_0 rfl rfl ?_
  refine V_iload_n 1 dX2_fail_1 rfl rfl ?_
  refine PI_19_3 dX2_fail_2 lkX2_23 ?_
  refine V_aload_n 0 dX2_fail_5 rfl rfl ?_
  refine V_aload_n 0 dX2_fail_6 rfl rfl ?_
  refine GI_19_2 dX2_fail_7 lkX2_19 ?_
  refine V_re (y := gI h 19 0 2) rfl ?_
  refine V_if_lt 52 dX2_fail_10 (by decide) ⟨fun z => ?_, fun z => ?_⟩
  · replace k := k.1 z
    refine V_iconst (-1) dX2_fail_52 (by decide) ?_
    refine PI_19_4 dX2_fail_53 lkX2_26 ?_
    refine V_iconst 0 dX2_fail_56 (by decide) ?_
    exact V_zreturn dX2_fail_57 rfl (by decide) k
  · replace k := k.2 z
    refine V_aload_n 0 dX2_fail_13 rfl rfl ?_
    refine GI_19_2 dX2_fail_14 lkX2_19 ?_
    refine V_re (y := gI h 19 0 2) rfl ?_
    refine V_aload_n 0 dX2_fail_17 rfl rfl ?_
    refine GS_19_0 dX2_fail_18 lkX2_9 ?_
    refine GI_8_3 dX2_fail_21 lkX2_79 ?_
    refine V_re (y := gI h 8 0 3) rfl ?_
    refine V_icmp_ge 52 dX2_fail_24 (by decide) ⟨fun z => ?_, fun z => ?_⟩
    · replace k := k.1 z
      refine V_iconst (-1) dX2_fail_52 (by decide) ?_
      refine PI_19_4 dX2_fail_53 lkX2_26 ?_
      refine V_iconst 0 dX2_fail_56 (by decide) ?_
      exact V_zreturn dX2_fail_57 rfl (by decide) k
    · replace k := k.2 z
      refine V_aload_n 0 dX2_fail_27 rfl rfl ?_
      refine GI_19_2 dX2_fail_28 lkX2_19 ?_
      refine V_re (y := gI h 19 0 2) rfl ?_
      refine V_sipush 400 dX2_fail_31 (by decide) ?_
      refine V_icmp_gt 52 dX2_fail_34 (by decide) ⟨fun z => ?_, fun z => ?_⟩
      · replace k := k.1 z
        refine V_iconst (-1) dX2_fail_52 (by decide) ?_
        refine PI_19_4 dX2_fail_53 lkX2_26 ?_
        refine V_iconst 0 dX2_fail_56 (by decide) ?_
        exact V_zreturn dX2_fail_57 rfl (by decide) k
      · replace k := k.2 z
        refine V_aload_n 0 dX2_fail_37 rfl rfl ?_
        refine GS_19_0 dX2_fail_38 lkX2_9 ?_
        refine GS_8_1 dX2_fail_41 lkX2_89 ?_
        refine V_aload_n 0 dX2_fail_44 rfl rfl ?_
        refine GI_19_2 dX2_fail_45 lkX2_19 ?_
        refine V_re (y := gI h 19 0 2) rfl ?_
        refine V_iald (by decide) rt_10 dX2_fail_48 k.1 ?_
        replace k := k.2
        refine V_re (y := gI h 10 0 (gI h 19 0 2).toNatClampNeg) rfl ?_
        refine V_goto 53 dX2_fail_49 (by decide) ?_
        refine PI_19_4 dX2_fail_53 lkX2_26 ?_
        refine V_iconst 0 dX2_fail_56 (by decide) ?_
        exact V_zreturn dX2_fail_57 rfl (by decide) k
-- X3_sellBy cuts []
set_option maxRecDepth 20000 in
set_option maxHeartbeats 2000000 in
theorem wX3_sellBy {d bc bs : Nat} {h : HS} {P : Option AV → HS → Prop} {i0 : Nat} {l1 : Int32} (k : ((¬ (gI h 62 i0 0) = 2) → (((¬ (stF h i0) = 1) → (P none h)) ∧ (((stF h i0) = 1) → (((l1 < (gI h 62 i0 6)) → (P none h)) ∧ ((¬ l1 < (gI h 62 i0 6)) → (P none (sI h 62 i0 9 (gI h 62 i0 6)))))))) ∧ (((gI h 62 i0 0) = 2) → (((¬ (stF h i0) = 1) → (P none h)) ∧ (((stF h i0) = 1) → (((l1 < ((gI h 62 i0 6) + 7)) → (P none h)) ∧ ((¬ l1 < ((gI h 62 i0 6) + 7)) → (P none (sI h 62 i0 9 ((gI h 62 i0 6) + 7))))))))) : Cl true mX3_sellBy (d + 3) bc bs [aR 62 i0, aI l1] h P := by
  refine Cl_of (by decide) (Nat.le_of_ble_eq_true rfl) ?_
  show V true mX3_sellBy (d + 3) bc bs 0 [(0, aR 62 i0), (1, aI l1)] [] h P
  refine V_aload_n 0 dX3_sellBy_0 rfl rfl ?_
  refine GI_62_0 dX3_sellBy_1 lkX3_9 ?_
  refine V_iconst 2 dX3_sellBy_4 (by decide) ?_
  refine V_icmp_ne 18 dX3_sellBy_5 (by decide) ⟨fun z => ?_, fun z => ?_⟩
  · replace k := k.1 z
    refine V_aload_n 0 dX3_sellBy_18 rfl rfl ?_
    refine GI_62_6 dX3_sellBy_19 lkX3_31 ?_
    refine V_istore_n 2 dX3_sellBy_22 rfl (by decide) rfl ?_
    refine V_aload_n 0 dX3_sellBy_23 rfl rfl ?_
    refine V_callV (mc := 0) (ms := 0) (as := []) (st := []) (by decide) rt_62 rfl dX3_sellBy_24 okX3_state inX3_state seX3_state lkX3_55 rfl (Nat.le_of_ble_eq_true rfl) (Nat.zero_le _) (Nat.zero_le _) (cX3_state_ ?_)
    show V true mX3_sellBy (d + 3) _ _ 27 [(2, aI (gI h 62 i0 6)), (0, aR 62 i0), (1, aI l1)] [aI (stF h i0)] h P
    refine V_iconst 1 dX3_sellBy_27 (by decide) ?_
    refine V_icmp_ne 41 dX3_sellBy_28 (by decide) ⟨fun z => ?_, fun z => ?_⟩
    · replace k := k.1 z
      exact V_return dX3_sellBy_41 rfl k
    · replace k := k.2 z
      refine V_iload_n 2 dX3_sellBy_31 rfl rfl ?_
      refine V_iload_n 1 dX3_sellBy_32 rfl rfl ?_
      refine V_icmp_gt 41 dX3_sellBy_33 (by decide) ⟨fun z => ?_, fun z => ?_⟩
      · replace k := k.1 z
        exact V_return dX3_sellBy_41 rfl k
      · replace k := k.2 z
        refine V_aload_n 0 dX3_sellBy_36 rfl rfl ?_
        refine V_iload_n 2 dX3_sellBy_37 rfl rfl ?_
        refine PI_62_9 dX3_sellBy_38 lkX3_46 ?_
        exact V_return dX3_sellBy_41 rfl k
  · replace k := k.2 z
    refine V_aload_n 0 dX3_sellBy_8 rfl rfl ?_
    refine GI_62_6 dX3_sellBy_9 lkX3_31 ?_
    refine V_bipush 7 dX3_sellBy_12 (by decide) ?_
    refine V_iadd dX3_sellBy_14 ?_
    refine V_goto 22 dX3_sellBy_15 (by decide) ?_
    refine V_istore_n 2 dX3_sellBy_22 rfl (by decide) rfl ?_
    refine V_aload_n 0 dX3_sellBy_23 rfl rfl ?_
    refine V_callV (mc := 0) (ms := 0) (as := []) (st := []) (by decide) rt_62 rfl dX3_sellBy_24 okX3_state inX3_state seX3_state lkX3_55 rfl (Nat.le_of_ble_eq_true rfl) (Nat.zero_le _) (Nat.zero_le _) (cX3_state_ ?_)
    show V true mX3_sellBy (d + 3) _ _ 27 [(2, aI ((gI h 62 i0 6) + 7)), (0, aR 62 i0), (1, aI l1)] [aI (stF h i0)] h P
    refine V_iconst 1 dX3_sellBy_27 (by decide) ?_
    refine V_icmp_ne 41 dX3_sellBy_28 (by decide) ⟨fun z => ?_, fun z => ?_⟩
    · replace k := k.1 z
      exact V_return dX3_sellBy_41 rfl k
    · replace k := k.2 z
      refine V_iload_n 2 dX3_sellBy_31 rfl rfl ?_
      refine V_iload_n 1 dX3_sellBy_32 rfl rfl ?_
      refine V_icmp_gt 41 dX3_sellBy_33 (by decide) ⟨fun z => ?_, fun z => ?_⟩
      · replace k := k.1 z
        exact V_return dX3_sellBy_41 rfl k
      · replace k := k.2 z
        refine V_aload_n 0 dX3_sellBy_36 rfl rfl ?_
        refine V_iload_n 2 dX3_sellBy_37 rfl rfl ?_
        refine PI_62_9 dX3_sellBy_38 lkX3_46 ?_
        exact V_return dX3_sellBy_41 rfl k
-- X4_gather cuts [23]
set_option maxRecDepth 20000 in
set_option maxHeartbeats 2000000 in
theorem wX4_gather {d bc bs : Nat} {h : HS} {P : Option AV → HS → Prop} {l2 : Int32} {l3 : Int32} (k : V true mX4_gather (d + 3) bc bs 23 [(0, aR 20 0), (1, aR 2 0), (2, aI l2), (4, aI 0)] [] (sI (sI (sI (sI h 20 0 0 0) 20 0 1 0) 20 0 2 0) 20 0 3 l3) P) : Cl true mX4_gather (d + 3) bc bs [aR 20 0, aR 2 0, aI l2, aI l3] h P := by
  refine Cl_of (by decide) (Nat.le_of_ble_eq_true rfl) ?_
  show V true mX4_gather (d + 3) bc bs 0 [(0, aR 20 0), (1, aR 2 0), (2, aI l2), (3, aI l3)] [] h P
  refine V_aload_n 0 dX4_gather_0 rfl rfl ?_
  refine V_iconst 0 dX4_gather_1 (by decide) ?_
  refine PI_20_0 dX4_gather_2 lkX4_7 ?_
  refine V_aload_n 0 dX4_gather_5 rfl rfl ?_
  refine V_iconst 0 dX4_gather_6 (by decide) ?_
  refine PI_20_1 dX4_gather_7 lkX4_13 ?_
  refine V_aload_n 0 dX4_gather_10 rfl rfl ?_
  refine V_iconst 0 dX4_gather_11 (by decide) ?_
  refine PI_20_2 dX4_gather_12 lkX4_16 ?_
  refine V_aload_n 0 dX4_gather_15 rfl rfl ?_
  refine V_iload_n 3 dX4_gather_16 rfl rfl ?_
  refine PI_20_3 dX4_gather_17 lkX4_19 ?_
  refine V_iconst 0 dX4_gather_20 (by decide) ?_
  refine V_istore 4 dX4_gather_21 (by decide) rfl ?_
  exact V_lv [1, 2, 3, 0] rfl k
set_option maxRecDepth 20000 in
set_option maxHeartbeats 2000000 in
theorem wX4_gather_23 {d bc bs : Nat} {h : HS} {P : Option AV → HS → Prop} {l2 : Int32} {l4 : Int32} (k : (((gI h 2 0 2) ≤ l4) → (P none h)) ∧ ((¬ (gI h 2 0 2) ≤ l4) → (Cl true mJx4a65c_get_915e3 (d + 2) 0 0 [aR 2 0, aI l4] h (fun r3 h4 => ∃ t5, r3 = some (aR 62 t5) ∧ (((¬ (gI h4 62 t5 1) = l2) → (V true mX4_gather (d + 3) bc bs 23 [(0, aR 20 0), (1, aR 2 0), (2, aI l2), (4, aI (l4 + 1))] [] h4 P)) ∧ (((gI h4 62 t5 1) = l2) → (Cl true mX4_addSlip (d + 2) 0 0 [aR 20 0, aR 62 t5] h4 (fun r6 h7 => r6 = none ∧ (V true mX4_gather (d + 3) bc bs 23 [(0, aR 20 0), (1, aR 2 0), (2, aI l2), (4, aI (l4 + 1))] [] h7 P))))))))) : V true mX4_gather (d + 3) bc bs 23 [(0, aR 20 0), (1, aR 2 0), (2, aI l2), (4, aI l4)] [] h P := by
  refine V_iload 4 dX4_gather_23 rfl ?_
  refine V_aload_n 1 dX4_gather_25 rfl rfl ?_
  refine V_callV (mc := 0) (ms := 0) (as := []) (st := [aI l4]) (by decide) rt_2 rfl dX4_gather_26 okJx4a65c_size_8abf5 inJx4a65c_size_8abf5 seJx4a65c_size_8abf5 lkX4_22 rfl (Nat.le_of_ble_eq_true rfl) (Nat.zero_le _) (Nat.zero_le _) (cList_size_2 ?_)
  show V true mX4_gather (d + 3) _ _ 29 [(0, aR 20 0), (1, aR 2 0), (2, aI l2), (4, aI l4)] [aI (gI h 2 0 2), aI l4] h P
  refine V_icmp_ge 64 dX4_gather_29 (by decide) ⟨fun z => ?_, fun z => ?_⟩
  · replace k := k.1 z
    exact V_return dX4_gather_64 rfl k
  · replace k := k.2 z
    refine V_aload_n 1 dX4_gather_32 rfl rfl ?_
    refine V_iload 4 dX4_gather_33 rfl ?_
    refine V_callV (mc := 0) (ms := 0) (as := [aI l4]) (st := []) (by decide) rt_2 rfl dX4_gather_35 okJx4a65c_get_915e3 inJx4a65c_get_915e3 seJx4a65c_get_915e3 lkX4_28 rfl (Nat.le_of_ble_eq_true rfl) (Nat.zero_le _) (Nat.zero_le _) (Cl.mono (fun r3 h4 z => ?_) k)
    obtain ⟨t5, rfl, k⟩ := z
    refine V_cast (by decide) rt_62 rfl lkX4_32 dX4_gather_38 ?_
    refine V_astore 5 dX4_gather_41 (by decide) rfl ?_
    refine V_aload 5 dX4_gather_43 rfl ?_
    refine GI_62_1 dX4_gather_45 lkX4_34 ?_
    refine V_iload_n 2 dX4_gather_48 rfl rfl ?_
    refine V_icmp_ne 58 dX4_gather_49 (by decide) ⟨fun z => ?_, fun z => ?_⟩
    · replace k := k.1 z
      refine V_iinc 4 (v := l4 + 1) dX4_gather_58 rfl rfl (by decide) rfl ?_
      refine V_goto 23 dX4_gather_61 (by decide) ?_
      exact V_lv [2, 3, 4, 0] rfl k
    · replace k := k.2 z
      refine V_aload_n 0 dX4_gather_52 rfl rfl ?_
      refine V_aload 5 dX4_gather_53 rfl ?_
      refine V_callV (mc := 0) (ms := 0) (as := [aR 62 t5]) (st := []) (by decide) rt_20 rfl dX4_gather_55 okX4_addSlip inX4_addSlip seX4_addSlip lkX4_37 rfl (Nat.le_of_ble_eq_true rfl) (Nat.zero_le _) (Nat.zero_le _) (Cl.mono (fun r6 h7 z => ?_) k)
      obtain ⟨rfl, k⟩ := z
      refine V_iinc 4 (v := l4 + 1) dX4_gather_58 rfl rfl (by decide) rfl ?_
      refine V_goto 23 dX4_gather_61 (by decide) ?_
      exact V_lv [2, 3, 4, 0] rfl k
-- X4_addSlip cuts []
set_option maxRecDepth 20000 in
set_option maxHeartbeats 2000000 in
theorem wX4_addSlip {d bc bs : Nat} {h : HS} {P : Option AV → HS → Prop} {i1 : Nat} (k : ((¬ (isOfP (gI h 62 i1 9) (gI h 20 0 3))) → (((¬ (¬ gI h 62 i1 9 = (-1) ∧ isOfP (gI h 62 i1 10) (gI h 20 0 3))) → (P none h)) ∧ (((¬ gI h 62 i1 9 = (-1) ∧ isOfP (gI h 62 i1 10) (gI h 20 0 3))) → (P none (sI (sI h 20 0 0 ((gI h 20 0 0) - (gI h 62 i1 7))) 20 0 2 ((gI h 20 0 2) + (gI h 62 i1 7))))))) ∧ (((isOfP (gI h 62 i1 9) (gI h 20 0 3))) → (((¬ (¬ gI (sI (sI h 20 0 0 ((gI h 20 0 0) + (gI h 62 i1 7))) 20 0 1 ((gI h 20 0 1) + 1)) 62 i1 9 = (-1) ∧ isOfP (gI (sI (sI h 20 0 0 ((gI h 20 0 0) + (gI h 62 i1 7))) 20 0 1 ((gI h 20 0 1) + 1)) 62 i1 10) (gI h 20 0 3))) → (P none (sI (sI h 20 0 0 ((gI h 20 0 0) + (gI h 62 i1 7))) 20 0 1 ((gI h 20 0 1) + 1)))) ∧ (((¬ gI (sI (sI h 20 0 0 ((gI h 20 0 0) + (gI h 62 i1 7))) 20 0 1 ((gI h 20 0 1) + 1)) 62 i1 9 = (-1) ∧ isOfP (gI (sI (sI h 20 0 0 ((gI h 20 0 0) + (gI h 62 i1 7))) 20 0 1 ((gI h 20 0 1) + 1)) 62 i1 10) (gI h 20 0 3))) → (P none (sI (sI (sI (sI h 20 0 0 ((gI h 20 0 0) + (gI h 62 i1 7))) 20 0 1 ((gI h 20 0 1) + 1)) 20 0 0 (((gI h 20 0 0) + (gI h 62 i1 7)) - (gI h 62 i1 7))) 20 0 2 ((gI h 20 0 2) + (gI h 62 i1 7)))))))) : Cl true mX4_addSlip (d + 3) bc bs [aR 20 0, aR 62 i1] h P := by
  refine Cl_of (by decide) (Nat.le_of_ble_eq_true rfl) ?_
  show V true mX4_addSlip (d + 3) bc bs 0 [(0, aR 20 0), (1, aR 62 i1)] [] h P
  refine V_aload_n 1 dX4_addSlip_0 rfl rfl ?_
  refine V_aload_n 0 dX4_addSlip_1 rfl rfl ?_
  refine GI_20_3 dX4_addSlip_2 lkX4_19 ?_
  refine V_callV (mc := 0) (ms := 0) (as := [aI (gI h 20 0 3)]) (st := []) (by decide) rt_62 rfl dX4_addSlip_5 okX3_wasSoldIn inX3_wasSoldIn seX3_wasSoldIn lkX4_41 rfl (Nat.le_of_ble_eq_true rfl) (Nat.zero_le _) (Nat.zero_le _) (cX3_wasSoldIn_ ?_)
  show V true mX4_addSlip (d + 3) _ _ 8 [(0, aR 20 0), (1, aR 62 i1)] [aI (bI (isOfP (gI h 62 i1 9) (gI h 20 0 3)))] h P
  refine V_if_eq 34 dX4_addSlip_8 (by decide) ⟨fun z => ?_, fun z => ?_⟩
  · replace k := k.1 (bI_0 z)
    refine V_aload_n 1 dX4_addSlip_34 rfl rfl ?_
    refine V_aload_n 0 dX4_addSlip_35 rfl rfl ?_
    refine GI_20_3 dX4_addSlip_36 lkX4_19 ?_
    refine V_callV (mc := 0) (ms := 0) (as := [aI (gI h 20 0 3)]) (st := []) (by decide) rt_62 rfl dX4_addSlip_39 okX3_cameBackSoldIn inX3_cameBackSoldIn seX3_cameBackSoldIn lkX4_48 rfl (Nat.le_of_ble_eq_true rfl) (Nat.zero_le _) (Nat.zero_le _) (cX3_cameBackSoldIn_ ?_)
    show V true mX4_addSlip (d + 3) _ _ 42 [(0, aR 20 0), (1, aR 62 i1)] [aI (bI (¬ gI h 62 i1 9 = (-1) ∧ isOfP (gI h 62 i1 10) (gI h 20 0 3)))] h P
    refine V_if_eq 71 dX4_addSlip_42 (by decide) ⟨fun z => ?_, fun z => ?_⟩
    · replace k := k.1 (bI_0 z)
      exact V_return dX4_addSlip_71 rfl k
    · replace k := k.2 (bI_1 z)
      refine V_aload_n 0 dX4_addSlip_45 rfl rfl ?_
      refine V_dup dX4_addSlip_46 rfl ?_
      refine GI_20_0 dX4_addSlip_47 lkX4_7 ?_
      refine V_aload_n 1 dX4_addSlip_50 rfl rfl ?_
      refine GI_62_7 dX4_addSlip_51 lkX4_45 ?_
      refine V_isub dX4_addSlip_54 ?_
      refine PI_20_0 dX4_addSlip_55 lkX4_7 ?_
      refine V_aload_n 0 dX4_addSlip_58 rfl rfl ?_
      refine V_dup dX4_addSlip_59 rfl ?_
      refine GI_20_2 dX4_addSlip_60 lkX4_16 ?_
      refine V_re (y := gI h 20 0 2) rfl ?_
      refine V_aload_n 1 dX4_addSlip_63 rfl rfl ?_
      refine GI_62_7 dX4_addSlip_64 lkX4_45 ?_
      refine V_re (y := gI h 62 i1 7) rfl ?_
      refine V_iadd dX4_addSlip_67 ?_
      refine PI_20_2 dX4_addSlip_68 lkX4_16 ?_
      exact V_return dX4_addSlip_71 rfl k
  · replace k := k.2 (bI_1 z)
    refine V_aload_n 0 dX4_addSlip_11 rfl rfl ?_
    refine V_dup dX4_addSlip_12 rfl ?_
    refine GI_20_0 dX4_addSlip_13 lkX4_7 ?_
    refine V_aload_n 1 dX4_addSlip_16 rfl rfl ?_
    refine GI_62_7 dX4_addSlip_17 lkX4_45 ?_
    refine V_iadd dX4_addSlip_20 ?_
    refine PI_20_0 dX4_addSlip_21 lkX4_7 ?_
    refine V_aload_n 0 dX4_addSlip_24 rfl rfl ?_
    refine V_dup dX4_addSlip_25 rfl ?_
    refine GI_20_1 dX4_addSlip_26 lkX4_13 ?_
    refine V_re (y := gI h 20 0 1) rfl ?_
    refine V_iconst 1 dX4_addSlip_29 (by decide) ?_
    refine V_iadd dX4_addSlip_30 ?_
    refine PI_20_1 dX4_addSlip_31 lkX4_13 ?_
    refine V_aload_n 1 dX4_addSlip_34 rfl rfl ?_
    refine V_aload_n 0 dX4_addSlip_35 rfl rfl ?_
    refine GI_20_3 dX4_addSlip_36 lkX4_19 ?_
    refine V_re (y := gI h 20 0 3) rfl ?_
    refine V_callV (mc := 0) (ms := 0) (as := [aI (gI h 20 0 3)]) (st := []) (by decide) rt_62 rfl dX4_addSlip_39 okX3_cameBackSoldIn inX3_cameBackSoldIn seX3_cameBackSoldIn lkX4_48 rfl (Nat.le_of_ble_eq_true rfl) (Nat.zero_le _) (Nat.zero_le _) (cX3_cameBackSoldIn_ ?_)
    show V true mX4_addSlip (d + 3) _ _ 42 [(0, aR 20 0), (1, aR 62 i1)] [aI (bI (¬ gI (sI (sI h 20 0 0 ((gI h 20 0 0) + (gI h 62 i1 7))) 20 0 1 ((gI h 20 0 1) + 1)) 62 i1 9 = (-1) ∧ isOfP (gI (sI (sI h 20 0 0 ((gI h 20 0 0) + (gI h 62 i1 7))) 20 0 1 ((gI h 20 0 1) + 1)) 62 i1 10) (gI h 20 0 3)))] (sI (sI h 20 0 0 ((gI h 20 0 0) + (gI h 62 i1 7))) 20 0 1 ((gI h 20 0 1) + 1)) P
    refine V_if_eq 71 dX4_addSlip_42 (by decide) ⟨fun z => ?_, fun z => ?_⟩
    · replace k := k.1 (bI_0 z)
      exact V_return dX4_addSlip_71 rfl k
    · replace k := k.2 (bI_1 z)
      refine V_aload_n 0 dX4_addSlip_45 rfl rfl ?_
      refine V_dup dX4_addSlip_46 rfl ?_
      refine GI_20_0 dX4_addSlip_47 lkX4_7 ?_
      refine V_re (y := ((gI h 20 0 0) + (gI h 62 i1 7))) rfl ?_
      refine V_aload_n 1 dX4_addSlip_50 rfl rfl ?_
      refine GI_62_7 dX4_addSlip_51 lkX4_45 ?_
      refine V_re (y := gI h 62 i1 7) rfl ?_
      refine V_isub dX4_addSlip_54 ?_
      refine PI_20_0 dX4_addSlip_55 lkX4_7 ?_
      refine V_aload_n 0 dX4_addSlip_58 rfl rfl ?_
      refine V_dup dX4_addSlip_59 rfl ?_
      refine GI_20_2 dX4_addSlip_60 lkX4_16 ?_
      refine V_re (y := gI h 20 0 2) rfl ?_
      refine V_aload_n 1 dX4_addSlip_63 rfl rfl ?_
      refine GI_62_7 dX4_addSlip_64 lkX4_45 ?_
      refine V_re (y := gI h 62 i1 7) rfl ?_
      refine V_iadd dX4_addSlip_67 ?_
      refine PI_20_2 dX4_addSlip_68 lkX4_16 ?_
      exact V_return dX4_addSlip_71 rfl k
-- X5_append cuts [3]
set_option maxRecDepth 20000 in
set_option maxHeartbeats 2000000 in
theorem wX5_append {d bc bs : Nat} {h : HS} {P : Option AV → HS → Prop} {l1 : Int32} (k : V true mX5_append (d + 3) bc bs 3 [(0, aR 6 0), (1, aI l1), (2, aI 24)] [] h P) : Cl true mX5_append (d + 3) bc bs [aR 6 0, aI l1] h P := by
  refine Cl_of (by decide) (Nat.le_of_ble_eq_true rfl) ?_
  show V true mX5_append (d + 3) bc bs 0 [(0, aR 6 0), (1, aI l1)] [] h P
  refine V_bipush 24 dX5_append_0 (by decide) ?_
  refine V_istore_n 2 dX5_append_2 rfl (by decide) rfl ?_
  exact V_lv [1, 2, 0] rfl k
set_option maxRecDepth 20000 in
set_option maxHeartbeats 2000000 in
theorem wX5_append_3 {d bc bs : Nat} {h : HS} {P : Option AV → HS → Prop} {l1 : Int32} {l2 : Int32} (k : ((l2 < 0) → (P none h)) ∧ ((¬ l2 < 0) → ((((gI h 6 0 1) < 0) → (V true mX5_append (d + 3) bc bs 3 [(0, aR 6 0), (1, aI l1), (2, aI (l2 + (-8)))] [] h P)) ∧ ((¬ (gI h 6 0 1) < 0) → (((400 ≤ (gI h 6 0 1)) → (V true mX5_append (d + 3) bc bs 3 [(0, aR 6 0), (1, aI l1), (2, aI (l2 + (-8)))] [] h P)) ∧ ((¬ 400 ≤ (gI h 6 0 1)) → (vp_in (gI h 6 0 1) 400 ∧ (V true mX5_append (d + 3) bc bs 3 [(0, aR 6 0), (1, aI l1), (2, aI (l2 + (-8)))] [] (sI (sI h 7 0 (gI h 6 0 1).toNatClampNeg (vp_nar .byte (((l1.toUInt32 >>> (l2.toUInt32 &&& Int32.toUInt32 31)).toInt32).toInt8.toInt32))) 6 0 1 ((gI h 6 0 1) + 1)) P)))))))) : V true mX5_append (d + 3) bc bs 3 [(0, aR 6 0), (1, aI l1), (2, aI l2)] [] h P := by
  refine V_iload_n 2 dX5_append_3 rfl rfl ?_
  refine V_if_lt 53 dX5_append_4 (by decide) ⟨fun z => ?_, fun z => ?_⟩
  · replace k := k.1 z
    exact V_return dX5_append_53 rfl k
  · replace k := k.2 z
    refine V_aload_n 0 dX5_append_7 rfl rfl ?_
    refine GI_6_1 dX5_append_8 lkX5_15 ?_
    refine V_if_lt 47 dX5_append_11 (by decide) ⟨fun z => ?_, fun z => ?_⟩
    · replace k := k.1 z
      refine V_iinc 2 (v := l2 + (-8)) dX5_append_47 rfl rfl (by decide) rfl ?_
      refine V_goto 3 dX5_append_50 (by decide) ?_
      exact V_lv [1, 2, 0] rfl k
    · replace k := k.2 z
      refine V_aload_n 0 dX5_append_14 rfl rfl ?_
      refine GI_6_1 dX5_append_15 lkX5_15 ?_
      refine V_sipush 400 dX5_append_18 (by decide) ?_
      refine V_icmp_ge 47 dX5_append_21 (by decide) ⟨fun z => ?_, fun z => ?_⟩
      · replace k := k.1 z
        refine V_iinc 2 (v := l2 + (-8)) dX5_append_47 rfl rfl (by decide) rfl ?_
        refine V_goto 3 dX5_append_50 (by decide) ?_
        exact V_lv [1, 2, 0] rfl k
      · replace k := k.2 z
        refine V_aload_n 0 dX5_append_24 rfl rfl ?_
        refine GS_6_0 dX5_append_25 lkX5_9 ?_
        refine V_aload_n 0 dX5_append_28 rfl rfl ?_
        refine GI_6_1 dX5_append_29 lkX5_15 ?_
        refine V_iload_n 1 dX5_append_32 rfl rfl ?_
        refine V_iload_n 2 dX5_append_33 rfl rfl ?_
        refine V_iushr dX5_append_34 ?_
        refine V_i2b dX5_append_35 ?_
        refine V_bast (by decide) rt_7 dX5_append_36 k.1 ?_
        replace k := k.2
        refine V_aload_n 0 dX5_append_37 rfl rfl ?_
        refine V_dup dX5_append_38 rfl ?_
        refine GI_6_1 dX5_append_39 lkX5_15 ?_
        refine V_re (y := gI h 6 0 1) rfl ?_
        refine V_iconst 1 dX5_append_42 (by decide) ?_
        refine V_iadd dX5_append_43 ?_
        refine PI_6_1 dX5_append_44 lkX5_15 ?_
        refine V_iinc 2 (v := l2 + (-8)) dX5_append_47 rfl rfl (by decide) rfl ?_
        refine V_goto 3 dX5_append_50 (by decide) ?_
        exact V_lv [1, 2, 0] rfl k
-- X6_keepTag cuts []
set_option maxRecDepth 20000 in
set_option maxHeartbeats 2000000 in
theorem wX6_keepTag {d bc bs : Nat} {h : HS} {P : Option AV → HS → Prop} {i0 : Nat} {l1 : Int32} (k : ((l1 < 1) → (P none h)) ∧ ((¬ l1 < 1) → (((364 ≤ l1) → (P none h)) ∧ ((¬ 364 ≤ l1) → (gR h 60 i0 0 = some (61, i0) ∧ (gR h 60 i0 0 = some (61, i0) ∧ (vp_in (l1 - 1) 364 ∧ (vp_in l1 364 ∧ (P none (sI h 61 i0 l1.toNatClampNeg (gI h 61 i0 (l1 - 1).toNatClampNeg))))))))))) : Cl true mX6_keepTag (d + 3) bc bs [aR 60 i0, aI l1] h P := by
  refine Cl_of (by decide) (Nat.le_of_ble_eq_true rfl) ?_
  show V true mX6_keepTag (d + 3) bc bs 0 [(0, aR 60 i0), (1, aI l1)] [] h P
  refine V_iload_n 1 dX6_keepTag_0 rfl rfl ?_
  refine V_iconst 1 dX6_keepTag_1 (by decide) ?_
  refine V_icmp_lt 26 dX6_keepTag_2 (by decide) ⟨fun z => ?_, fun z => ?_⟩
  · replace k := k.1 z
    exact V_return dX6_keepTag_26 rfl k
  · replace k := k.2 z
    refine V_iload_n 1 dX6_keepTag_5 rfl rfl ?_
    refine V_sipush 364 dX6_keepTag_6 (by decide) ?_
    refine V_icmp_ge 26 dX6_keepTag_9 (by decide) ⟨fun z => ?_, fun z => ?_⟩
    · replace k := k.1 z
      exact V_return dX6_keepTag_26 rfl k
    · replace k := k.2 z
      refine V_aload_n 0 dX6_keepTag_12 rfl rfl ?_
      refine V_getR (k := 0) (some (61, i0)) (by decide) rt_60 rfl (by decide) rfl dX6_keepTag_13 lkX6_9 k.1 ?_
      replace k := k.2
      refine V_iload_n 1 dX6_keepTag_16 rfl rfl ?_
      refine V_aload_n 0 dX6_keepTag_17 rfl rfl ?_
      refine V_getR (k := 0) (some (61, i0)) (by decide) rt_60 rfl (by decide) rfl dX6_keepTag_18 lkX6_9 k.1 ?_
      replace k := k.2
      refine V_iload_n 1 dX6_keepTag_21 rfl rfl ?_
      refine V_iconst 1 dX6_keepTag_22 (by decide) ?_
      refine V_isub dX6_keepTag_23 ?_
      refine V_iald (by decide) rt_61 dX6_keepTag_24 k.1 ?_
      replace k := k.2
      refine V_iast (by decide) rt_61 dX6_keepTag_25 k.1 ?_
      replace k := k.2
      exact V_return dX6_keepTag_26 rfl k
-- X6_changeTag cuts []
set_option maxRecDepth 20000 in
set_option maxHeartbeats 2000000 in
theorem wX6_changeTag {d bc bs : Nat} {h : HS} {P : Option AV → HS → Prop} {i0 : Nat} {l1 : Int32} {l2 : Int32} (k : (gR h 60 i0 0 = some (61, i0)) ∧ (((l2 = (tgF h i0 l1)) → (P (some (aI 0)) h)) ∧ ((¬ l2 = (tgF h i0 l1)) → (((l1 < 0) → (P (some (aI 0)) h)) ∧ ((¬ l1 < 0) → (((l1 < 364) → (gR h 60 i0 0 = some (61, i0) ∧ (vp_in l1 364 ∧ ((((tgF h i0 l1) ≤ l2) → (P (some (aI 2)) (sI (sI h 61 i0 l1.toNatClampNeg l2) 60 i0 3 ((gI h 60 i0 3) + 1)))) ∧ ((¬ (tgF h i0 l1) ≤ l2) → (P (some (aI 1)) (sI h 61 i0 l1.toNatClampNeg l2))))))) ∧ ((¬ l1 < 364) → (P (some (aI 0)) h)))))))) : Cl true mX6_changeTag (d + 3) bc bs [aR 60 i0, aI l1, aI l2] h P := by
  refine Cl_of (by decide) (Nat.le_of_ble_eq_true rfl) ?_
  show V true mX6_changeTag (d + 3) bc bs 0 [(0, aR 60 i0), (1, aI l1), (2, aI l2)] [] h P
  refine V_aload_n 0 dX6_changeTag_0 rfl rfl ?_
  refine V_iload_n 1 dX6_changeTag_1 rfl rfl ?_
  obtain ⟨s3, k⟩ := k
  refine V_callV (mc := 0) (ms := 0) (as := [aI l1]) (st := []) (by decide) rt_60 rfl dX6_changeTag_2 okX6_tagOn inX6_tagOn seX6_tagOn lkX6_22 rfl (Nat.le_of_ble_eq_true rfl) (Nat.zero_le _) (Nat.zero_le _) (cX6_tagOn_ s3 ?_)
  show V true mX6_changeTag (d + 3) _ _ 5 [(0, aR 60 i0), (1, aI l1), (2, aI l2)] [aI (tgF h i0 l1)] h P
  refine V_istore_n 3 dX6_changeTag_5 rfl (by decide) rfl ?_
  refine V_iload_n 2 dX6_changeTag_6 rfl rfl ?_
  refine V_iload_n 3 dX6_changeTag_7 rfl rfl ?_
  refine V_icmp_eq 22 dX6_changeTag_8 (by decide) ⟨fun z => ?_, fun z => ?_⟩
  · replace k := k.1 z
    refine V_iconst 0 dX6_changeTag_22 (by decide) ?_
    exact V_ireturn dX6_changeTag_23 rfl k
  · replace k := k.2 z
    refine V_iload_n 1 dX6_changeTag_11 rfl rfl ?_
    refine V_if_lt 22 dX6_changeTag_12 (by decide) ⟨fun z => ?_, fun z => ?_⟩
    · replace k := k.1 z
      refine V_iconst 0 dX6_changeTag_22 (by decide) ?_
      exact V_ireturn dX6_changeTag_23 rfl k
    · replace k := k.2 z
      refine V_iload_n 1 dX6_changeTag_15 rfl rfl ?_
      refine V_sipush 364 dX6_changeTag_16 (by decide) ?_
      refine V_icmp_lt 24 dX6_changeTag_19 (by decide) ⟨fun z => ?_, fun z => ?_⟩
      · replace k := k.1 z
        refine V_aload_n 0 dX6_changeTag_24 rfl rfl ?_
        refine V_getR (k := 0) (some (61, i0)) (by decide) rt_60 rfl (by decide) rfl dX6_changeTag_25 lkX6_9 k.1 ?_
        replace k := k.2
        refine V_iload_n 1 dX6_changeTag_28 rfl rfl ?_
        refine V_iload_n 2 dX6_changeTag_29 rfl rfl ?_
        refine V_iast (by decide) rt_61 dX6_changeTag_30 k.1 ?_
        replace k := k.2
        refine V_iload_n 2 dX6_changeTag_31 rfl rfl ?_
        refine V_iload_n 3 dX6_changeTag_32 rfl rfl ?_
        refine V_icmp_ge 38 dX6_changeTag_33 (by decide) ⟨fun z => ?_, fun z => ?_⟩
        · replace k := k.1 z
          refine V_aload_n 0 dX6_changeTag_38 rfl rfl ?_
          refine V_dup dX6_changeTag_39 rfl ?_
          refine GI_60_3 dX6_changeTag_40 lkX6_26 ?_
          refine V_re (y := gI h 60 i0 3) rfl ?_
          refine V_iconst 1 dX6_changeTag_43 (by decide) ?_
          refine V_iadd dX6_changeTag_44 ?_
          refine PI_60_3 dX6_changeTag_45 lkX6_26 ?_
          refine V_iconst 2 dX6_changeTag_48 (by decide) ?_
          exact V_ireturn dX6_changeTag_49 rfl k
        · replace k := k.2 z
          refine V_iconst 1 dX6_changeTag_36 (by decide) ?_
          exact V_ireturn dX6_changeTag_37 rfl k
      · replace k := k.2 z
        refine V_iconst 0 dX6_changeTag_22 (by decide) ?_
        exact V_ireturn dX6_changeTag_23 rfl k
-- X7_scan cuts [18]
set_option maxRecDepth 20000 in
set_option maxHeartbeats 2000000 in
theorem wX7_scan {d bc bs : Nat} {h : HS} {P : Option AV → HS → Prop} {l2 : Int32} (k : V true mX7_scan (d + 3) bc bs 18 [(0, aR 8 0), (1, aR 7 0), (3, aI (minF l2 400)), (4, aI 0), (5, aI 0)] [] (sI h 8 0 3 0) P) : Cl true mX7_scan (d + 3) bc bs [aR 8 0, aR 7 0, aI l2] h P := by
  refine Cl_of (by decide) (Nat.le_of_ble_eq_true rfl) ?_
  show V true mX7_scan (d + 3) bc bs 0 [(0, aR 8 0), (1, aR 7 0), (2, aI l2)] [] h P
  refine V_iload_n 2 dX7_scan_0 rfl rfl ?_
  refine V_aload_n 1 dX7_scan_1 rfl rfl ?_
  refine V_alen (v := 400) (by decide) rt_7 (by decide) (by decide) dX7_scan_2 ?_
  refine V_callS (mc := 0) (ms := 0) (as := [aI l2, aI 400]) (st := []) dX7_scan_3 okJ9_min_7cf53 stJ9_min_7cf53 lkX7_25 rfl (Nat.le_of_ble_eq_true rfl) (Nat.zero_le _) (Nat.zero_le _) (cJ9_min_ ?_)
  show V true mX7_scan (d + 3) _ _ 6 [(0, aR 8 0), (1, aR 7 0), (2, aI l2)] [aI (minF l2 400)] h P
  refine V_istore_n 3 dX7_scan_6 rfl (by decide) rfl ?_
  refine V_iconst 0 dX7_scan_7 (by decide) ?_
  refine V_istore 4 dX7_scan_8 (by decide) rfl ?_
  refine V_aload_n 0 dX7_scan_10 rfl rfl ?_
  refine V_iconst 0 dX7_scan_11 (by decide) ?_
  refine PI_8_3 dX7_scan_12 lkX7_21 ?_
  refine V_iconst 0 dX7_scan_15 (by decide) ?_
  refine V_istore 5 dX7_scan_16 (by decide) rfl ?_
  exact V_lv [3, 4, 2, 1, 0] rfl k
set_option maxRecDepth 20000 in
set_option maxHeartbeats 2000000 in
theorem wX7_scan_18 {d bc bs : Nat} {h : HS} {P : Option AV → HS → Prop} {l3 : Int32} {l4 : Int32} {l5 : Int32} (k : ((400 ≤ l5) → (Cl true mX7_add (d + 2) 0 0 [aR 8 0, aI 256, aI l3, aI 0] h (fun r1 h2 => r1 = none ∧ (P none h2)))) ∧ ((¬ 400 ≤ l5) → (((l3 ≤ l4) → (Cl true mX7_add (d + 2) 0 0 [aR 8 0, aI 256, aI l3, aI 0] h (fun r3 h4 => r3 = none ∧ (P none h4)))) ∧ ((¬ l3 ≤ l4) → (vp_in l4 400 ∧ ((((gI h 7 0 l4.toNatClampNeg) = 32) → (V true mX7_scan (d + 3) bc bs 18 [(0, aR 8 0), (1, aR 7 0), (3, aI l3), (4, aI (l4 + 1)), (5, aI (l5 + 1))] [] h P)) ∧ ((¬ (gI h 7 0 l4.toNatClampNeg) = 32) → (vp_in l4 400 ∧ (((¬ (gI h 7 0 l4.toNatClampNeg) = 10) → (Cl true mX7_scanToken (d + 2) 0 0 [aR 8 0, aR 7 0, aI l4, aI l3] h (fun r5 h6 => ∃ x7 : Int32, r5 = some (aI x7) ∧ (V true mX7_scan (d + 3) bc bs 18 [(0, aR 8 0), (1, aR 7 0), (3, aI l3), (4, aI x7), (5, aI (l5 + 1))] [] h6 P)))) ∧ (((gI h 7 0 l4.toNatClampNeg) = 10) → (V true mX7_scan (d + 3) bc bs 18 [(0, aR 8 0), (1, aR 7 0), (3, aI l3), (4, aI (l4 + 1)), (5, aI (l5 + 1))] [] h P))))))))))) : V true mX7_scan (d + 3) bc bs 18 [(0, aR 8 0), (1, aR 7 0), (3, aI l3), (4, aI l4), (5, aI l5)] [] h P := by
  refine V_iload 5 dX7_scan_18 rfl ?_
  refine V_sipush 400 dX7_scan_20 (by decide) ?_
  refine V_icmp_ge 72 dX7_scan_23 (by decide) ⟨fun z => ?_, fun z => ?_⟩
  · replace k := k.1 z
    refine V_aload_n 0 dX7_scan_72 rfl rfl ?_
    refine V_sipush 256 dX7_scan_73 (by decide) ?_
    refine V_iload_n 3 dX7_scan_76 rfl rfl ?_
    refine V_iconst 0 dX7_scan_77 (by decide) ?_
    refine V_callV (mc := 0) (ms := 0) (as := [aI 256, aI l3, aI 0]) (st := []) (by decide) rt_8 rfl dX7_scan_78 okX7_add inX7_add seX7_add lkX7_35 rfl (Nat.le_of_ble_eq_true rfl) (Nat.zero_le _) (Nat.zero_le _) (Cl.mono (fun r1 h2 z => ?_) k)
    obtain ⟨rfl, k⟩ := z
    exact V_return dX7_scan_81 rfl k
  · replace k := k.2 z
    refine V_iload 4 dX7_scan_26 rfl ?_
    refine V_iload_n 3 dX7_scan_28 rfl rfl ?_
    refine V_icmp_ge 72 dX7_scan_29 (by decide) ⟨fun z => ?_, fun z => ?_⟩
    · replace k := k.1 z
      refine V_aload_n 0 dX7_scan_72 rfl rfl ?_
      refine V_sipush 256 dX7_scan_73 (by decide) ?_
      refine V_iload_n 3 dX7_scan_76 rfl rfl ?_
      refine V_iconst 0 dX7_scan_77 (by decide) ?_
      refine V_callV (mc := 0) (ms := 0) (as := [aI 256, aI l3, aI 0]) (st := []) (by decide) rt_8 rfl dX7_scan_78 okX7_add inX7_add seX7_add lkX7_35 rfl (Nat.le_of_ble_eq_true rfl) (Nat.zero_le _) (Nat.zero_le _) (Cl.mono (fun r3 h4 z => ?_) k)
      obtain ⟨rfl, k⟩ := z
      exact V_return dX7_scan_81 rfl k
    · replace k := k.2 z
      refine V_aload_n 1 dX7_scan_32 rfl rfl ?_
      refine V_iload 4 dX7_scan_33 rfl ?_
      refine V_bald (by decide) rt_7 dX7_scan_35 k.1 ?_
      replace k := k.2
      refine V_bipush 32 dX7_scan_36 (by decide) ?_
      refine V_icmp_eq 50 dX7_scan_38 (by decide) ⟨fun z => ?_, fun z => ?_⟩
      · replace k := k.1 z
        refine V_iinc 4 (v := l4 + 1) dX7_scan_50 rfl rfl (by decide) rfl ?_
        refine V_goto 66 dX7_scan_53 (by decide) ?_
        refine V_iinc 5 (v := l5 + 1) dX7_scan_66 rfl rfl (by decide) rfl ?_
        refine V_goto 18 dX7_scan_69 (by decide) ?_
        exact V_lv [2, 3, 4, 1, 0] rfl k
      · replace k := k.2 z
        refine V_aload_n 1 dX7_scan_41 rfl rfl ?_
        refine V_iload 4 dX7_scan_42 rfl ?_
        refine V_bald (by decide) rt_7 dX7_scan_44 k.1 ?_
        replace k := k.2
        refine V_bipush 10 dX7_scan_45 (by decide) ?_
        refine V_icmp_ne 56 dX7_scan_47 (by decide) ⟨fun z => ?_, fun z => ?_⟩
        · replace k := k.1 z
          refine V_aload_n 0 dX7_scan_56 rfl rfl ?_
          refine V_aload_n 1 dX7_scan_57 rfl rfl ?_
          refine V_iload 4 dX7_scan_58 rfl ?_
          refine V_iload_n 3 dX7_scan_60 rfl rfl ?_
          refine V_callV (mc := 0) (ms := 0) (as := [aR 7 0, aI l4, aI l3]) (st := []) (by decide) rt_8 rfl dX7_scan_61 okX7_scanToken inX7_scanToken seX7_scanToken lkX7_31 rfl (Nat.le_of_ble_eq_true rfl) (Nat.zero_le _) (Nat.zero_le _) (Cl.mono (fun r5 h6 z => ?_) k)
          obtain ⟨x7, rfl, k⟩ := z
          refine V_istore 4 dX7_scan_64 (by decide) rfl ?_
          refine V_iinc 5 (v := l5 + 1) dX7_scan_66 rfl rfl (by decide) rfl ?_
          refine V_goto 18 dX7_scan_69 (by decide) ?_
          exact V_lv [2, 3, 4, 1, 0] rfl k
        · replace k := k.2 z
          refine V_iinc 4 (v := l4 + 1) dX7_scan_50 rfl rfl (by decide) rfl ?_
          refine V_goto 66 dX7_scan_53 (by decide) ?_
          refine V_iinc 5 (v := l5 + 1) dX7_scan_66 rfl rfl (by decide) rfl ?_
          refine V_goto 18 dX7_scan_69 (by decide) ?_
          exact V_lv [2, 3, 4, 1, 0] rfl k
-- X7_scanToken cuts [14, 61]
set_option maxRecDepth 20000 in
set_option maxHeartbeats 2000000 in
theorem wX7_scanToken {d bc bs : Nat} {h : HS} {P : Option AV → HS → Prop} {l2 : Int32} {l3 : Int32} (k : vp_in l2 400 ∧ (((¬ (ltr (gI h 7 0 l2.toNatClampNeg))) → (vp_in l2 400 ∧ (((¬ (inR (gI h 7 0 l2.toNatClampNeg) 48 57)) → (vp_in l2 400 ∧ (Cl true mX7_add (d + 2) 0 0 [aR 8 0, aI ((gI h 7 0 l2.toNatClampNeg) &&& 255), aI l2, aI 0] h (fun r5 h6 => r5 = none ∧ (P (some (aI (l2 + 1))) h6))))) ∧ (((inR (gI h 7 0 l2.toNatClampNeg) 48 57)) → (V true mX7_scanToken (d + 3) bc bs 61 [(0, aR 8 0), (1, aR 7 0), (2, aI l2), (3, aI l3), (4, aI (l2 + 1))] [] h P))))) ∧ (((ltr (gI h 7 0 l2.toNatClampNeg))) → (V true mX7_scanToken (d + 3) bc bs 14 [(0, aR 8 0), (1, aR 7 0), (2, aI l2), (3, aI l3), (4, aI (l2 + 1))] [] h P)))) : Cl true mX7_scanToken (d + 3) bc bs [aR 8 0, aR 7 0, aI l2, aI l3] h P := by
  refine Cl_of (by decide) (Nat.le_of_ble_eq_true rfl) ?_
  show V true mX7_scanToken (d + 3) bc bs 0 [(0, aR 8 0), (1, aR 7 0), (2, aI l2), (3, aI l3)] [] h P
  refine V_iload_n 2 dX7_scanToken_0 rfl rfl ?_
  refine V_iconst 1 dX7_scanToken_1 (by decide) ?_
  refine V_iadd dX7_scanToken_2 ?_
  refine V_istore 4 dX7_scanToken_3 (by decide) rfl ?_
  refine V_aload_n 1 dX7_scanToken_5 rfl rfl ?_
  refine V_iload_n 2 dX7_scanToken_6 rfl rfl ?_
  refine V_bald (by decide) rt_7 dX7_scanToken_7 k.1 ?_
  replace k := k.2
  refine V_callS (mc := 0) (ms := 0) (as := [aI (gI h 7 0 l2.toNatClampNeg)]) (st := []) dX7_scanToken_8 okX7_isLetter stX7_isLetter lkX7_39 rfl (Nat.le_of_ble_eq_true rfl) (Nat.zero_le _) (Nat.zero_le _) (cX7_isLetter_ ?_)
  show V true mX7_scanToken (d + 3) _ _ 11 [(4, aI (l2 + 1)), (0, aR 8 0), (1, aR 7 0), (2, aI l2), (3, aI l3)] [aI (bI (ltr (gI h 7 0 l2.toNatClampNeg)))] h P
  refine V_if_eq 52 dX7_scanToken_11 (by decide) ⟨fun z => ?_, fun z => ?_⟩
  · replace k := k.1 (bI_0 z)
    refine V_aload_n 1 dX7_scanToken_52 rfl rfl ?_
    refine V_iload_n 2 dX7_scanToken_53 rfl rfl ?_
    refine V_bald (by decide) rt_7 dX7_scanToken_54 k.1 ?_
    replace k := k.2
    refine V_callS (mc := 0) (ms := 0) (as := [aI (gI h 7 0 l2.toNatClampNeg)]) (st := []) dX7_scanToken_55 okX7_isDigit stX7_isDigit lkX7_46 rfl (Nat.le_of_ble_eq_true rfl) (Nat.zero_le _) (Nat.zero_le _) (cX7_isDigit_ ?_)
    show V true mX7_scanToken (d + 3) _ _ 58 [(4, aI (l2 + 1)), (0, aR 8 0), (1, aR 7 0), (2, aI l2), (3, aI l3)] [aI (bI (inR (gI h 7 0 l2.toNatClampNeg) 48 57))] h P
    refine V_if_eq 132 dX7_scanToken_58 (by decide) ⟨fun z => ?_, fun z => ?_⟩
    · replace k := k.1 (bI_0 z)
      refine V_aload_n 0 dX7_scanToken_132 rfl rfl ?_
      refine V_aload_n 1 dX7_scanToken_133 rfl rfl ?_
      refine V_iload_n 2 dX7_scanToken_134 rfl rfl ?_
      refine V_bald (by decide) rt_7 dX7_scanToken_135 k.1 ?_
      replace k := k.2
      refine V_sipush 255 dX7_scanToken_136 (by decide) ?_
      refine V_iand dX7_scanToken_139 ?_
      refine V_iload_n 2 dX7_scanToken_140 rfl rfl ?_
      refine V_iconst 0 dX7_scanToken_141 (by decide) ?_
      refine V_callV (mc := 0) (ms := 0) (as := [aI ((gI h 7 0 l2.toNatClampNeg) &&& 255), aI l2, aI 0]) (st := []) (by decide) rt_8 rfl dX7_scanToken_142 okX7_add inX7_add seX7_add lkX7_35 rfl (Nat.le_of_ble_eq_true rfl) (Nat.zero_le _) (Nat.zero_le _) (Cl.mono (fun r5 h6 z => ?_) k)
      obtain ⟨rfl, k⟩ := z
      refine V_iload 4 dX7_scanToken_145 rfl ?_
      exact V_ireturn dX7_scanToken_147 rfl k
    · replace k := k.2 (bI_1 z)
      exact V_lv [1, 2, 3, 4, 0] rfl k
  · replace k := k.2 (bI_1 z)
    exact V_lv [1, 2, 3, 4, 0] rfl k
set_option maxRecDepth 20000 in
set_option maxHeartbeats 2000000 in
theorem wX7_scanToken_14 {d bc bs : Nat} {h : HS} {P : Option AV → HS → Prop} {l2 : Int32} {l3 : Int32} {l4 : Int32} (k : ((l3 ≤ l4) → (Cl true mX7_wordKind (d + 2) 0 0 [aR 7 0, aI l2, aI l4] h (fun r1 h2 => ∃ x3 : Int32, r1 = some (aI x3) ∧ (Cl true mX7_add (d + 2) 0 0 [aR 8 0, aI x3, aI l2, aI 0] h2 (fun r4 h5 => r4 = none ∧ (P (some (aI l4)) h5)))))) ∧ ((¬ l3 ≤ l4) → (vp_in l4 400 ∧ (((¬ (ltr (gI h 7 0 l4.toNatClampNeg))) → (Cl true mX7_wordKind (d + 2) 0 0 [aR 7 0, aI l2, aI l4] h (fun r8 h9 => ∃ x10 : Int32, r8 = some (aI x10) ∧ (Cl true mX7_add (d + 2) 0 0 [aR 8 0, aI x10, aI l2, aI 0] h9 (fun r11 h12 => r11 = none ∧ (P (some (aI l4)) h12)))))) ∧ (((ltr (gI h 7 0 l4.toNatClampNeg))) → (V true mX7_scanToken (d + 3) bc bs 14 [(0, aR 8 0), (1, aR 7 0), (2, aI l2), (3, aI l3), (4, aI (l4 + 1))] [] h P)))))) : V true mX7_scanToken (d + 3) bc bs 14 [(0, aR 8 0), (1, aR 7 0), (2, aI l2), (3, aI l3), (4, aI l4)] [] h P := by
  refine V_iload 4 dX7_scanToken_14 rfl ?_
  refine V_iload_n 3 dX7_scanToken_16 rfl rfl ?_
  refine V_icmp_ge 36 dX7_scanToken_17 (by decide) ⟨fun z => ?_, fun z => ?_⟩
  · replace k := k.1 z
    refine V_aload_n 0 dX7_scanToken_36 rfl rfl ?_
    refine V_aload_n 1 dX7_scanToken_37 rfl rfl ?_
    refine V_iload_n 2 dX7_scanToken_38 rfl rfl ?_
    refine V_iload 4 dX7_scanToken_39 rfl ?_
    refine V_callS (mc := 0) (ms := 0) (as := [aR 7 0, aI l2, aI l4]) (st := [aR 8 0]) dX7_scanToken_41 okX7_wordKind stX7_wordKind lkX7_43 rfl (Nat.le_of_ble_eq_true rfl) (Nat.zero_le _) (Nat.zero_le _) (Cl.mono (fun r1 h2 z => ?_) k)
    obtain ⟨x3, rfl, k⟩ := z
    refine V_iload_n 2 dX7_scanToken_44 rfl rfl ?_
    refine V_iconst 0 dX7_scanToken_45 (by decide) ?_
    refine V_callV (mc := 0) (ms := 0) (as := [aI x3, aI l2, aI 0]) (st := []) (by decide) rt_8 rfl dX7_scanToken_46 okX7_add inX7_add seX7_add lkX7_35 rfl (Nat.le_of_ble_eq_true rfl) (Nat.zero_le _) (Nat.zero_le _) (Cl.mono (fun r4 h5 z => ?_) k)
    obtain ⟨rfl, k⟩ := z
    refine V_goto 145 dX7_scanToken_49 (by decide) ?_
    refine V_iload 4 dX7_scanToken_145 rfl ?_
    exact V_ireturn dX7_scanToken_147 rfl k
  · replace k := k.2 z
    refine V_aload_n 1 dX7_scanToken_20 rfl rfl ?_
    refine V_iload 4 dX7_scanToken_21 rfl ?_
    refine V_bald (by decide) rt_7 dX7_scanToken_23 k.1 ?_
    replace k := k.2
    refine V_callS (mc := 0) (ms := 0) (as := [aI (gI h 7 0 l4.toNatClampNeg)]) (st := []) dX7_scanToken_24 okX7_isLetter stX7_isLetter lkX7_39 rfl (Nat.le_of_ble_eq_true rfl) (Nat.zero_le _) (Nat.zero_le _) (cX7_isLetter_ ?_)
    show V true mX7_scanToken (d + 3) _ _ 27 [(0, aR 8 0), (1, aR 7 0), (2, aI l2), (3, aI l3), (4, aI l4)] [aI (bI (ltr (gI h 7 0 l4.toNatClampNeg)))] h P
    refine V_if_eq 36 dX7_scanToken_27 (by decide) ⟨fun z => ?_, fun z => ?_⟩
    · replace k := k.1 (bI_0 z)
      refine V_aload_n 0 dX7_scanToken_36 rfl rfl ?_
      refine V_aload_n 1 dX7_scanToken_37 rfl rfl ?_
      refine V_iload_n 2 dX7_scanToken_38 rfl rfl ?_
      refine V_iload 4 dX7_scanToken_39 rfl ?_
      refine V_callS (mc := 0) (ms := 0) (as := [aR 7 0, aI l2, aI l4]) (st := [aR 8 0]) dX7_scanToken_41 okX7_wordKind stX7_wordKind lkX7_43 rfl (Nat.le_of_ble_eq_true rfl) (Nat.zero_le _) (Nat.zero_le _) (Cl.mono (fun r8 h9 z => ?_) k)
      obtain ⟨x10, rfl, k⟩ := z
      refine V_iload_n 2 dX7_scanToken_44 rfl rfl ?_
      refine V_iconst 0 dX7_scanToken_45 (by decide) ?_
      refine V_callV (mc := 0) (ms := 0) (as := [aI x10, aI l2, aI 0]) (st := []) (by decide) rt_8 rfl dX7_scanToken_46 okX7_add inX7_add seX7_add lkX7_35 rfl (Nat.le_of_ble_eq_true rfl) (Nat.zero_le _) (Nat.zero_le _) (Cl.mono (fun r11 h12 z => ?_) k)
      obtain ⟨rfl, k⟩ := z
      refine V_goto 145 dX7_scanToken_49 (by decide) ?_
      refine V_iload 4 dX7_scanToken_145 rfl ?_
      exact V_ireturn dX7_scanToken_147 rfl k
    · replace k := k.2 (bI_1 z)
      refine V_iinc 4 (v := l4 + 1) dX7_scanToken_30 rfl rfl (by decide) rfl ?_
      refine V_goto 14 dX7_scanToken_33 (by decide) ?_
      exact V_lv [1, 2, 3, 4, 0] rfl k
set_option maxRecDepth 20000 in
set_option maxHeartbeats 2000000 in
theorem wX7_scanToken_61 {d bc bs : Nat} {h : HS} {P : Option AV → HS → Prop} {l2 : Int32} {l3 : Int32} {l4 : Int32} (k : ((l3 ≤ l4) → (((6 < (l4 - l2)) → (Cl true mX7_add (d + 2) 0 0 [aR 8 0, aI 257, aI l2, aI 0] h (fun r1 h2 => r1 = none ∧ (P (some (aI l4)) h2)))) ∧ ((¬ 6 < (l4 - l2)) → (Cl true mX7_numberOf (d + 2) 0 0 [aR 7 0, aI l2, aI l4] h (fun r3 h4 => ∃ x5 : Int32, r3 = some (aI x5) ∧ (Cl true mX7_add (d + 2) 0 0 [aR 8 0, aI 258, aI l2, aI x5] h4 (fun r6 h7 => r6 = none ∧ (P (some (aI l4)) h7)))))))) ∧ ((¬ l3 ≤ l4) → (vp_in l4 400 ∧ (((¬ (inR (gI h 7 0 l4.toNatClampNeg) 48 57)) → (((6 < (l4 - l2)) → (Cl true mX7_add (d + 2) 0 0 [aR 8 0, aI 257, aI l2, aI 0] h (fun r10 h11 => r10 = none ∧ (P (some (aI l4)) h11)))) ∧ ((¬ 6 < (l4 - l2)) → (Cl true mX7_numberOf (d + 2) 0 0 [aR 7 0, aI l2, aI l4] h (fun r12 h13 => ∃ x14 : Int32, r12 = some (aI x14) ∧ (Cl true mX7_add (d + 2) 0 0 [aR 8 0, aI 258, aI l2, aI x14] h13 (fun r15 h16 => r15 = none ∧ (P (some (aI l4)) h16)))))))) ∧ (((inR (gI h 7 0 l4.toNatClampNeg) 48 57)) → (V true mX7_scanToken (d + 3) bc bs 61 [(0, aR 8 0), (1, aR 7 0), (2, aI l2), (3, aI l3), (4, aI (l4 + 1))] [] h P)))))) : V true mX7_scanToken (d + 3) bc bs 61 [(0, aR 8 0), (1, aR 7 0), (2, aI l2), (3, aI l3), (4, aI l4)] [] h P := by
  refine V_iload 4 dX7_scanToken_61 rfl ?_
  refine V_iload_n 3 dX7_scanToken_63 rfl rfl ?_
  refine V_icmp_ge 83 dX7_scanToken_64 (by decide) ⟨fun z => ?_, fun z => ?_⟩
  · replace k := k.1 z
    refine V_iload 4 dX7_scanToken_83 rfl ?_
    refine V_iload_n 2 dX7_scanToken_85 rfl rfl ?_
    refine V_isub dX7_scanToken_86 ?_
    refine V_bipush 6 dX7_scanToken_87 (by decide) ?_
    refine V_icmp_gt 98 dX7_scanToken_89 (by decide) ⟨fun z => ?_, fun z => ?_⟩
    · replace k := k.1 z
      refine V_sipush 257 dX7_scanToken_98 (by decide) ?_
      refine V_istore 5 dX7_scanToken_101 (by decide) rfl ?_
      refine V_aload_n 0 dX7_scanToken_103 rfl rfl ?_
      refine V_iload 5 dX7_scanToken_104 rfl ?_
      refine V_iload_n 2 dX7_scanToken_106 rfl rfl ?_
      refine V_iload 5 dX7_scanToken_107 rfl ?_
      refine V_sipush 258 dX7_scanToken_109 (by decide) ?_
      refine V_icmp_ne 125 dX7_scanToken_112 (by decide) ⟨fun z => ?_, fun z => absurd z (by decide)⟩
      refine V_iconst 0 dX7_scanToken_125 (by decide) ?_
      refine V_callV (mc := 0) (ms := 0) (as := [aI 257, aI l2, aI 0]) (st := []) (by decide) rt_8 rfl dX7_scanToken_126 okX7_add inX7_add seX7_add lkX7_35 rfl (Nat.le_of_ble_eq_true rfl) (Nat.zero_le _) (Nat.zero_le _) (Cl.mono (fun r1 h2 z => ?_) k)
      obtain ⟨rfl, k⟩ := z
      refine V_goto 145 dX7_scanToken_129 (by decide) ?_
      refine V_iload 4 dX7_scanToken_145 rfl ?_
      exact V_ireturn dX7_scanToken_147 rfl k
    · replace k := k.2 z
      refine V_sipush 258 dX7_scanToken_92 (by decide) ?_
      refine V_goto 101 dX7_scanToken_95 (by decide) ?_
      refine V_istore 5 dX7_scanToken_101 (by decide) rfl ?_
      refine V_aload_n 0 dX7_scanToken_103 rfl rfl ?_
      refine V_iload 5 dX7_scanToken_104 rfl ?_
      refine V_iload_n 2 dX7_scanToken_106 rfl rfl ?_
      refine V_iload 5 dX7_scanToken_107 rfl ?_
      refine V_sipush 258 dX7_scanToken_109 (by decide) ?_
      refine V_icmp_ne 125 dX7_scanToken_112 (by decide) ⟨fun z => absurd z (by decide), fun z => ?_⟩
      refine V_aload_n 1 dX7_scanToken_115 rfl rfl ?_
      refine V_iload_n 2 dX7_scanToken_116 rfl rfl ?_
      refine V_iload 4 dX7_scanToken_117 rfl ?_
      refine V_callS (mc := 0) (ms := 0) (as := [aR 7 0, aI l2, aI l4]) (st := [aI l2, aI 258, aR 8 0]) dX7_scanToken_119 okX7_numberOf stX7_numberOf lkX7_49 rfl (Nat.le_of_ble_eq_true rfl) (Nat.zero_le _) (Nat.zero_le _) (Cl.mono (fun r3 h4 z => ?_) k)
      obtain ⟨x5, rfl, k⟩ := z
      refine V_goto 126 dX7_scanToken_122 (by decide) ?_
      refine V_callV (mc := 0) (ms := 0) (as := [aI 258, aI l2, aI x5]) (st := []) (by decide) rt_8 rfl dX7_scanToken_126 okX7_add inX7_add seX7_add lkX7_35 rfl (Nat.le_of_ble_eq_true rfl) (Nat.zero_le _) (Nat.zero_le _) (Cl.mono (fun r6 h7 z => ?_) k)
      obtain ⟨rfl, k⟩ := z
      refine V_goto 145 dX7_scanToken_129 (by decide) ?_
      refine V_iload 4 dX7_scanToken_145 rfl ?_
      exact V_ireturn dX7_scanToken_147 rfl k
  · replace k := k.2 z
    refine V_aload_n 1 dX7_scanToken_67 rfl rfl ?_
    refine V_iload 4 dX7_scanToken_68 rfl ?_
    refine V_bald (by decide) rt_7 dX7_scanToken_70 k.1 ?_
    replace k := k.2
    refine V_callS (mc := 0) (ms := 0) (as := [aI (gI h 7 0 l4.toNatClampNeg)]) (st := []) dX7_scanToken_71 okX7_isDigit stX7_isDigit lkX7_46 rfl (Nat.le_of_ble_eq_true rfl) (Nat.zero_le _) (Nat.zero_le _) (cX7_isDigit_ ?_)
    show V true mX7_scanToken (d + 3) _ _ 74 [(0, aR 8 0), (1, aR 7 0), (2, aI l2), (3, aI l3), (4, aI l4)] [aI (bI (inR (gI h 7 0 l4.toNatClampNeg) 48 57))] h P
    refine V_if_eq 83 dX7_scanToken_74 (by decide) ⟨fun z => ?_, fun z => ?_⟩
    · replace k := k.1 (bI_0 z)
      refine V_iload 4 dX7_scanToken_83 rfl ?_
      refine V_iload_n 2 dX7_scanToken_85 rfl rfl ?_
      refine V_isub dX7_scanToken_86 ?_
      refine V_bipush 6 dX7_scanToken_87 (by decide) ?_
      refine V_icmp_gt 98 dX7_scanToken_89 (by decide) ⟨fun z => ?_, fun z => ?_⟩
      · replace k := k.1 z
        refine V_sipush 257 dX7_scanToken_98 (by decide) ?_
        refine V_istore 5 dX7_scanToken_101 (by decide) rfl ?_
        refine V_aload_n 0 dX7_scanToken_103 rfl rfl ?_
        refine V_iload 5 dX7_scanToken_104 rfl ?_
        refine V_iload_n 2 dX7_scanToken_106 rfl rfl ?_
        refine V_iload 5 dX7_scanToken_107 rfl ?_
        refine V_sipush 258 dX7_scanToken_109 (by decide) ?_
        refine V_icmp_ne 125 dX7_scanToken_112 (by decide) ⟨fun z => ?_, fun z => absurd z (by decide)⟩
        refine V_iconst 0 dX7_scanToken_125 (by decide) ?_
        refine V_callV (mc := 0) (ms := 0) (as := [aI 257, aI l2, aI 0]) (st := []) (by decide) rt_8 rfl dX7_scanToken_126 okX7_add inX7_add seX7_add lkX7_35 rfl (Nat.le_of_ble_eq_true rfl) (Nat.zero_le _) (Nat.zero_le _) (Cl.mono (fun r10 h11 z => ?_) k)
        obtain ⟨rfl, k⟩ := z
        refine V_goto 145 dX7_scanToken_129 (by decide) ?_
        refine V_iload 4 dX7_scanToken_145 rfl ?_
        exact V_ireturn dX7_scanToken_147 rfl k
      · replace k := k.2 z
        refine V_sipush 258 dX7_scanToken_92 (by decide) ?_
        refine V_goto 101 dX7_scanToken_95 (by decide) ?_
        refine V_istore 5 dX7_scanToken_101 (by decide) rfl ?_
        refine V_aload_n 0 dX7_scanToken_103 rfl rfl ?_
        refine V_iload 5 dX7_scanToken_104 rfl ?_
        refine V_iload_n 2 dX7_scanToken_106 rfl rfl ?_
        refine V_iload 5 dX7_scanToken_107 rfl ?_
        refine V_sipush 258 dX7_scanToken_109 (by decide) ?_
        refine V_icmp_ne 125 dX7_scanToken_112 (by decide) ⟨fun z => absurd z (by decide), fun z => ?_⟩
        refine V_aload_n 1 dX7_scanToken_115 rfl rfl ?_
        refine V_iload_n 2 dX7_scanToken_116 rfl rfl ?_
        refine V_iload 4 dX7_scanToken_117 rfl ?_
        refine V_callS (mc := 0) (ms := 0) (as := [aR 7 0, aI l2, aI l4]) (st := [aI l2, aI 258, aR 8 0]) dX7_scanToken_119 okX7_numberOf stX7_numberOf lkX7_49 rfl (Nat.le_of_ble_eq_true rfl) (Nat.zero_le _) (Nat.zero_le _) (Cl.mono (fun r12 h13 z => ?_) k)
        obtain ⟨x14, rfl, k⟩ := z
        refine V_goto 126 dX7_scanToken_122 (by decide) ?_
        refine V_callV (mc := 0) (ms := 0) (as := [aI 258, aI l2, aI x14]) (st := []) (by decide) rt_8 rfl dX7_scanToken_126 okX7_add inX7_add seX7_add lkX7_35 rfl (Nat.le_of_ble_eq_true rfl) (Nat.zero_le _) (Nat.zero_le _) (Cl.mono (fun r15 h16 z => ?_) k)
        obtain ⟨rfl, k⟩ := z
        refine V_goto 145 dX7_scanToken_129 (by decide) ?_
        refine V_iload 4 dX7_scanToken_145 rfl ?_
        exact V_ireturn dX7_scanToken_147 rfl k
    · replace k := k.2 (bI_1 z)
      refine V_iinc 4 (v := l4 + 1) dX7_scanToken_77 rfl rfl (by decide) rfl ?_
      refine V_goto 61 dX7_scanToken_80 (by decide) ?_
      exact V_lv [1, 2, 3, 4, 0] rfl k
-- X7_add cuts []
set_option maxRecDepth 20000 in
set_option maxHeartbeats 2000000 in
theorem wX7_add {d bc bs : Nat} {h : HS} {P : Option AV → HS → Prop} {l1 : Int32} {l2 : Int32} {l3 : Int32} (k : (((gI h 8 0 3) < 0) → (P none h)) ∧ ((¬ (gI h 8 0 3) < 0) → (((400 < (gI h 8 0 3)) → (P none h)) ∧ ((¬ 400 < (gI h 8 0 3)) → (vp_in (gI h 8 0 3) 401 ∧ (vp_in (gI h 8 0 3) 401 ∧ (vp_in (gI h 8 0 3) 401 ∧ (P none (sI (sI (sI (sI h 9 0 (gI h 8 0 3).toNatClampNeg l1) 10 0 (gI h 8 0 3).toNatClampNeg l2) 11 0 (gI h 8 0 3).toNatClampNeg l3) 8 0 3 ((gI h 8 0 3) + 1)))))))))) : Cl true mX7_add (d + 3) bc bs [aR 8 0, aI l1, aI l2, aI l3] h P := by
  refine Cl_of (by decide) (Nat.le_of_ble_eq_true rfl) ?_
  show V true mX7_add (d + 3) bc bs 0 [(0, aR 8 0), (1, aI l1), (2, aI l2), (3, aI l3)] [] h P
  refine V_aload_n 0 dX7_add_0 rfl rfl ?_
  refine GI_8_3 dX7_add_1 lkX7_21 ?_
  refine V_if_lt 57 dX7_add_4 (by decide) ⟨fun z => ?_, fun z => ?_⟩
  · replace k := k.1 z
    exact V_return dX7_add_57 rfl k
  · replace k := k.2 z
    refine V_aload_n 0 dX7_add_7 rfl rfl ?_
    refine GI_8_3 dX7_add_8 lkX7_21 ?_
    refine V_sipush 400 dX7_add_11 (by decide) ?_
    refine V_icmp_gt 57 dX7_add_14 (by decide) ⟨fun z => ?_, fun z => ?_⟩
    · replace k := k.1 z
      exact V_return dX7_add_57 rfl k
    · replace k := k.2 z
      refine V_aload_n 0 dX7_add_17 rfl rfl ?_
      refine GS_8_0 dX7_add_18 lkX7_9 ?_
      refine V_aload_n 0 dX7_add_21 rfl rfl ?_
      refine GI_8_3 dX7_add_22 lkX7_21 ?_
      refine V_iload_n 1 dX7_add_25 rfl rfl ?_
      refine V_iast (by decide) rt_9 dX7_add_26 k.1 ?_
      replace k := k.2
      refine V_aload_n 0 dX7_add_27 rfl rfl ?_
      refine GS_8_1 dX7_add_28 lkX7_15 ?_
      refine V_aload_n 0 dX7_add_31 rfl rfl ?_
      refine GI_8_3 dX7_add_32 lkX7_21 ?_
      refine V_re (y := gI h 8 0 3) rfl ?_
      refine V_iload_n 2 dX7_add_35 rfl rfl ?_
      refine V_iast (by decide) rt_10 dX7_add_36 k.1 ?_
      replace k := k.2
      refine V_aload_n 0 dX7_add_37 rfl rfl ?_
      refine GS_8_2 dX7_add_38 lkX7_18 ?_
      refine V_aload_n 0 dX7_add_41 rfl rfl ?_
      refine GI_8_3 dX7_add_42 lkX7_21 ?_
      refine V_re (y := gI h 8 0 3) rfl ?_
      refine V_iload_n 3 dX7_add_45 rfl rfl ?_
      refine V_iast (by decide) rt_11 dX7_add_46 k.1 ?_
      replace k := k.2
      refine V_aload_n 0 dX7_add_47 rfl rfl ?_
      refine V_dup dX7_add_48 rfl ?_
      refine GI_8_3 dX7_add_49 lkX7_21 ?_
      refine V_re (y := gI h 8 0 3) rfl ?_
      refine V_iconst 1 dX7_add_52 (by decide) ?_
      refine V_iadd dX7_add_53 ?_
      refine PI_8_3 dX7_add_54 lkX7_21 ?_
      exact V_return dX7_add_57 rfl k
-- X7_numberOf cuts [5]
set_option maxRecDepth 20000 in
set_option maxHeartbeats 2000000 in
theorem wX7_numberOf {d bc bs : Nat} {h : HS} {P : Option AV → HS → Prop} {l1 : Int32} {l2 : Int32} (k : V true mX7_numberOf (d + 3) bc bs 5 [(0, aR 7 0), (2, aI l2), (3, aI 0), (4, aI l1)] [] h P) : Cl true mX7_numberOf (d + 3) bc bs [aR 7 0, aI l1, aI l2] h P := by
  refine Cl_of (by decide) (Nat.le_of_ble_eq_true rfl) ?_
  show V true mX7_numberOf (d + 3) bc bs 0 [(0, aR 7 0), (1, aI l1), (2, aI l2)] [] h P
  refine V_iconst 0 dX7_numberOf_0 (by decide) ?_
  refine V_istore_n 3 dX7_numberOf_1 rfl (by decide) rfl ?_
  refine V_iload_n 1 dX7_numberOf_2 rfl rfl ?_
  refine V_istore 4 dX7_numberOf_3 (by decide) rfl ?_
  exact V_lv [2, 4, 1, 0] rfl k
set_option maxRecDepth 20000 in
set_option maxHeartbeats 2000000 in
theorem wX7_numberOf_5 {d bc bs : Nat} {h : HS} {P : Option AV → HS → Prop} {l2 : Int32} {l3 : Int32} {l4 : Int32} (k : ((l2 ≤ l4) → (P (some (aI l3)) h)) ∧ ((¬ l2 ≤ l4) → (((400 ≤ l4) → (P (some (aI l3)) h)) ∧ ((¬ 400 ≤ l4) → (vp_in l4 400 ∧ (V true mX7_numberOf (d + 3) bc bs 5 [(0, aR 7 0), (2, aI l2), (3, aI (((10 * l3) + (gI h 7 0 l4.toNatClampNeg)) - 48)), (4, aI (l4 + 1))] [] h P)))))) : V true mX7_numberOf (d + 3) bc bs 5 [(0, aR 7 0), (2, aI l2), (3, aI l3), (4, aI l4)] [] h P := by
  refine V_iload 4 dX7_numberOf_5 rfl ?_
  refine V_iload_n 2 dX7_numberOf_7 rfl rfl ?_
  refine V_icmp_ge 37 dX7_numberOf_8 (by decide) ⟨fun z => ?_, fun z => ?_⟩
  · replace k := k.1 z
    refine V_iload_n 3 dX7_numberOf_37 rfl rfl ?_
    exact V_ireturn dX7_numberOf_38 rfl k
  · replace k := k.2 z
    refine V_iload 4 dX7_numberOf_11 rfl ?_
    refine V_aload_n 0 dX7_numberOf_13 rfl rfl ?_
    refine V_alen (v := 400) (by decide) rt_7 (by decide) (by decide) dX7_numberOf_14 ?_
    refine V_icmp_ge 37 dX7_numberOf_15 (by decide) ⟨fun z => ?_, fun z => ?_⟩
    · replace k := k.1 z
      refine V_iload_n 3 dX7_numberOf_37 rfl rfl ?_
      exact V_ireturn dX7_numberOf_38 rfl k
    · replace k := k.2 z
      refine V_bipush 10 dX7_numberOf_18 (by decide) ?_
      refine V_iload_n 3 dX7_numberOf_20 rfl rfl ?_
      refine V_imul dX7_numberOf_21 ?_
      refine V_aload_n 0 dX7_numberOf_22 rfl rfl ?_
      refine V_iload 4 dX7_numberOf_23 rfl ?_
      refine V_bald (by decide) rt_7 dX7_numberOf_25 k.1 ?_
      replace k := k.2
      refine V_iadd dX7_numberOf_26 ?_
      refine V_bipush 48 dX7_numberOf_27 (by decide) ?_
      refine V_isub dX7_numberOf_29 ?_
      refine V_istore_n 3 dX7_numberOf_30 rfl (by decide) rfl ?_
      refine V_iinc 4 (v := l4 + 1) dX7_numberOf_31 rfl rfl (by decide) rfl ?_
      refine V_goto 5 dX7_numberOf_34 (by decide) ?_
      exact V_lv [2, 3, 1, 0] rfl k
-- X7_wordKind cuts []
set_option maxRecDepth 20000 in
set_option maxHeartbeats 2000000 in
theorem wX7_wordKind {d bc bs : Nat} {h : HS} {P : Option AV → HS → Prop} {l1 : Int32} {l2 : Int32} (k : Cl true mX7_isWord (d + 2) 0 0 [aR 65 0, aR 7 0, aI l1, aI l2] h (fun r1 h2 => ∃ x3 : Int32, r1 = some (aI x3) ∧ (((x3 = 0) → (Cl true mX7_isWord (d + 2) 0 0 [aR 65 1, aR 7 0, aI l1, aI l2] h2 (fun r4 h5 => ∃ x6 : Int32, r4 = some (aI x6) ∧ (((x6 = 0) → (Cl true mX7_isWord (d + 2) 0 0 [aR 65 2, aR 7 0, aI l1, aI l2] h5 (fun r7 h8 => ∃ x9 : Int32, r7 = some (aI x9) ∧ (((x9 = 0) → (Cl true mX7_isWord (d + 2) 0 0 [aR 65 3, aR 7 0, aI l1, aI l2] h8 (fun r10 h11 => ∃ x12 : Int32, r10 = some (aI x12) ∧ (((x12 = 0) → (Cl true mX7_isWord (d + 2) 0 0 [aR 65 4, aR 7 0, aI l1, aI l2] h11 (fun r13 h14 => ∃ x15 : Int32, r13 = some (aI x15) ∧ (((x15 = 0) → (Cl true mX7_isWord (d + 2) 0 0 [aR 65 5, aR 7 0, aI l1, aI l2] h14 (fun r16 h17 => ∃ x18 : Int32, r16 = some (aI x18) ∧ (((x18 = 0) → (Cl true mX7_isWord (d + 2) 0 0 [aR 65 6, aR 7 0, aI l1, aI l2] h17 (fun r19 h20 => ∃ x21 : Int32, r19 = some (aI x21) ∧ (((x21 = 0) → (P (some (aI 257)) h20)) ∧ ((¬ x21 = 0) → (P (some (aI 265)) h20)))))) ∧ ((¬ x18 = 0) → (P (some (aI 264)) h17)))))) ∧ ((¬ x15 = 0) → (P (some (aI 263)) h14)))))) ∧ ((¬ x12 = 0) → (P (some (aI 262)) h11)))))) ∧ ((¬ x9 = 0) → (P (some (aI 261)) h8)))))) ∧ ((¬ x6 = 0) → (P (some (aI 260)) h5)))))) ∧ ((¬ x3 = 0) → (P (some (aI 259)) h2))))) : Cl true mX7_wordKind (d + 3) bc bs [aR 7 0, aI l1, aI l2] h P := by
  refine Cl_of (by decide) (Nat.le_of_ble_eq_true rfl) ?_
  show V true mX7_wordKind (d + 3) bc bs 0 [(0, aR 7 0), (1, aI l1), (2, aI l2)] [] h P
  refine V_ldcs 0 dX7_wordKind_0 (tx := "pay") (by decide +kernel) rfl (by decide) rfl ?_
  refine V_aload_n 0 dX7_wordKind_2 rfl rfl ?_
  refine V_iload_n 1 dX7_wordKind_3 rfl rfl ?_
  refine V_iload_n 2 dX7_wordKind_4 rfl rfl ?_
  refine V_callS (mc := 0) (ms := 0) (as := [aR 65 0, aR 7 0, aI l1, aI l2]) (st := []) dX7_wordKind_5 okX7_isWord stX7_isWord lkX7_54 rfl (Nat.le_of_ble_eq_true rfl) (Nat.zero_le _) (Nat.zero_le _) (Cl.mono (fun r1 h2 z => ?_) k)
  obtain ⟨x3, rfl, k⟩ := z
  refine V_if_eq 15 dX7_wordKind_8 (by decide) ⟨fun z => ?_, fun z => ?_⟩
  · replace k := k.1 z
    refine V_ldcs 1 dX7_wordKind_15 (tx := "when") (by decide +kernel) rfl (by decide) rfl ?_
    refine V_aload_n 0 dX7_wordKind_17 rfl rfl ?_
    refine V_iload_n 1 dX7_wordKind_18 rfl rfl ?_
    refine V_iload_n 2 dX7_wordKind_19 rfl rfl ?_
    refine V_callS (mc := 0) (ms := 0) (as := [aR 65 1, aR 7 0, aI l1, aI l2]) (st := []) dX7_wordKind_20 okX7_isWord stX7_isWord lkX7_54 rfl (Nat.le_of_ble_eq_true rfl) (Nat.zero_le _) (Nat.zero_le _) (Cl.mono (fun r4 h5 z => ?_) k)
    obtain ⟨x6, rfl, k⟩ := z
    refine V_if_eq 30 dX7_wordKind_23 (by decide) ⟨fun z => ?_, fun z => ?_⟩
    · replace k := k.1 z
      refine V_ldcs 2 dX7_wordKind_30 (tx := "and") (by decide +kernel) rfl (by decide) rfl ?_
      refine V_aload_n 0 dX7_wordKind_32 rfl rfl ?_
      refine V_iload_n 1 dX7_wordKind_33 rfl rfl ?_
      refine V_iload_n 2 dX7_wordKind_34 rfl rfl ?_
      refine V_callS (mc := 0) (ms := 0) (as := [aR 65 2, aR 7 0, aI l1, aI l2]) (st := []) dX7_wordKind_35 okX7_isWord stX7_isWord lkX7_54 rfl (Nat.le_of_ble_eq_true rfl) (Nat.zero_le _) (Nat.zero_le _) (Cl.mono (fun r7 h8 z => ?_) k)
      obtain ⟨x9, rfl, k⟩ := z
      refine V_if_eq 45 dX7_wordKind_38 (by decide) ⟨fun z => ?_, fun z => ?_⟩
      · replace k := k.1 z
        refine V_ldcs 3 dX7_wordKind_45 (tx := "sum") (by decide +kernel) rfl (by decide) rfl ?_
        refine V_aload_n 0 dX7_wordKind_47 rfl rfl ?_
        refine V_iload_n 1 dX7_wordKind_48 rfl rfl ?_
        refine V_iload_n 2 dX7_wordKind_49 rfl rfl ?_
        refine V_callS (mc := 0) (ms := 0) (as := [aR 65 3, aR 7 0, aI l1, aI l2]) (st := []) dX7_wordKind_50 okX7_isWord stX7_isWord lkX7_54 rfl (Nat.le_of_ble_eq_true rfl) (Nat.zero_le _) (Nat.zero_le _) (Cl.mono (fun r10 h11 z => ?_) k)
        obtain ⟨x12, rfl, k⟩ := z
        refine V_if_eq 60 dX7_wordKind_53 (by decide) ⟨fun z => ?_, fun z => ?_⟩
        · replace k := k.1 z
          refine V_ldcs 4 dX7_wordKind_60 (tx := "slips") (by decide +kernel) rfl (by decide) rfl ?_
          refine V_aload_n 0 dX7_wordKind_62 rfl rfl ?_
          refine V_iload_n 1 dX7_wordKind_63 rfl rfl ?_
          refine V_iload_n 2 dX7_wordKind_64 rfl rfl ?_
          refine V_callS (mc := 0) (ms := 0) (as := [aR 65 4, aR 7 0, aI l1, aI l2]) (st := []) dX7_wordKind_65 okX7_isWord stX7_isWord lkX7_54 rfl (Nat.le_of_ble_eq_true rfl) (Nat.zero_le _) (Nat.zero_le _) (Cl.mono (fun r13 h14 z => ?_) k)
          obtain ⟨x15, rfl, k⟩ := z
          refine V_if_eq 75 dX7_wordKind_68 (by decide) ⟨fun z => ?_, fun z => ?_⟩
          · replace k := k.1 z
            refine V_ldcs 5 dX7_wordKind_75 (tx := "back") (by decide +kernel) rfl (by decide) rfl ?_
            refine V_aload_n 0 dX7_wordKind_77 rfl rfl ?_
            refine V_iload_n 1 dX7_wordKind_78 rfl rfl ?_
            refine V_iload_n 2 dX7_wordKind_79 rfl rfl ?_
            refine V_callS (mc := 0) (ms := 0) (as := [aR 65 5, aR 7 0, aI l1, aI l2]) (st := []) dX7_wordKind_80 okX7_isWord stX7_isWord lkX7_54 rfl (Nat.le_of_ble_eq_true rfl) (Nat.zero_le _) (Nat.zero_le _) (Cl.mono (fun r16 h17 z => ?_) k)
            obtain ⟨x18, rfl, k⟩ := z
            refine V_if_eq 90 dX7_wordKind_83 (by decide) ⟨fun z => ?_, fun z => ?_⟩
            · replace k := k.1 z
              refine V_ldcs 6 dX7_wordKind_90 (tx := "month") (by decide +kernel) rfl (by decide) rfl ?_
              refine V_aload_n 0 dX7_wordKind_92 rfl rfl ?_
              refine V_iload_n 1 dX7_wordKind_93 rfl rfl ?_
              refine V_iload_n 2 dX7_wordKind_94 rfl rfl ?_
              refine V_callS (mc := 0) (ms := 0) (as := [aR 65 6, aR 7 0, aI l1, aI l2]) (st := []) dX7_wordKind_95 okX7_isWord stX7_isWord lkX7_54 rfl (Nat.le_of_ble_eq_true rfl) (Nat.zero_le _) (Nat.zero_le _) (Cl.mono (fun r19 h20 z => ?_) k)
              obtain ⟨x21, rfl, k⟩ := z
              refine V_if_eq 107 dX7_wordKind_98 (by decide) ⟨fun z => ?_, fun z => ?_⟩
              · replace k := k.1 z
                refine V_sipush 257 dX7_wordKind_107 (by decide) ?_
                exact V_ireturn dX7_wordKind_110 rfl k
              · replace k := k.2 z
                refine V_sipush 265 dX7_wordKind_101 (by decide) ?_
                refine V_goto 110 dX7_wordKind_104 (by decide) ?_
                exact V_ireturn dX7_wordKind_110 rfl k
            · replace k := k.2 z
              refine V_sipush 264 dX7_wordKind_86 (by decide) ?_
              exact V_ireturn dX7_wordKind_89 rfl k
          · replace k := k.2 z
            refine V_sipush 263 dX7_wordKind_71 (by decide) ?_
            exact V_ireturn dX7_wordKind_74 rfl k
        · replace k := k.2 z
          refine V_sipush 262 dX7_wordKind_56 (by decide) ?_
          exact V_ireturn dX7_wordKind_59 rfl k
      · replace k := k.2 z
        refine V_sipush 261 dX7_wordKind_41 (by decide) ?_
        exact V_ireturn dX7_wordKind_44 rfl k
    · replace k := k.2 z
      refine V_sipush 260 dX7_wordKind_26 (by decide) ?_
      exact V_ireturn dX7_wordKind_29 rfl k
  · replace k := k.2 z
    refine V_sipush 259 dX7_wordKind_11 (by decide) ?_
    exact V_ireturn dX7_wordKind_14 rfl k
-- X7_isWord cuts [25]
set_option maxRecDepth 20000 in
set_option maxHeartbeats 2000000 in
theorem wX7_isWord {d bc bs : Nat} {h : HS} {P : Option AV → HS → Prop} {i0 : Nat} {l2 : Int32} {l3 : Int32} (k : i0 < 7 ∧ (Cl true mJ0_length_8abf5 (d + 2) 0 0 [aR 65 i0] h (fun r1 h2 => ∃ x3 : Int32, r1 = some (aI x3) ∧ (((¬ (l3 - l2) = x3) → (P (some (aI 0)) h2)) ∧ (((l3 - l2) = x3) → (((l2 < 0) → (P (some (aI 0)) h2)) ∧ ((¬ l2 < 0) → (((l3 ≤ 400) → (V true mX7_isWord (d + 3) bc bs 25 [(0, aR 65 i0), (1, aR 7 0), (2, aI l2), (3, aI l3), (4, aI l2)] [] h2 P)) ∧ ((¬ l3 ≤ 400) → (P (some (aI 0)) h2)))))))))) : Cl true mX7_isWord (d + 3) bc bs [aR 65 i0, aR 7 0, aI l2, aI l3] h P := by
  refine Cl_of (by decide) (Nat.le_of_ble_eq_true rfl) ?_
  show V true mX7_isWord (d + 3) bc bs 0 [(0, aR 65 i0), (1, aR 7 0), (2, aI l2), (3, aI l3)] [] h P
  refine V_iload_n 3 dX7_isWord_0 rfl rfl ?_
  refine V_iload_n 2 dX7_isWord_1 rfl rfl ?_
  refine V_isub dX7_isWord_2 ?_
  refine V_aload_n 0 dX7_isWord_3 rfl rfl ?_
  obtain ⟨k7, k⟩ := k
  refine V_callX (mc := 0) (ms := 0) (as := []) (st := [aI (l3 - l2)]) k7 rfl dX7_isWord_4 okJ0_length_8abf5 inJ0_length_8abf5 seJ0_length_8abf5 lkX7_70 rfl (Nat.le_of_ble_eq_true rfl) (Nat.zero_le _) (Nat.zero_le _) (Cl.mono (fun r1 h2 z => ?_) k)
  obtain ⟨x3, rfl, k⟩ := z
  refine V_icmp_ne 20 dX7_isWord_7 (by decide) ⟨fun z => ?_, fun z => ?_⟩
  · replace k := k.1 z
    refine V_iconst 0 dX7_isWord_20 (by decide) ?_
    exact V_zreturn dX7_isWord_21 rfl (by decide) k
  · replace k := k.2 z
    refine V_iload_n 2 dX7_isWord_10 rfl rfl ?_
    refine V_if_lt 20 dX7_isWord_11 (by decide) ⟨fun z => ?_, fun z => ?_⟩
    · replace k := k.1 z
      refine V_iconst 0 dX7_isWord_20 (by decide) ?_
      exact V_zreturn dX7_isWord_21 rfl (by decide) k
    · replace k := k.2 z
      refine V_iload_n 3 dX7_isWord_14 rfl rfl ?_
      refine V_aload_n 1 dX7_isWord_15 rfl rfl ?_
      refine V_alen (v := 400) (by decide) rt_7 (by decide) (by decide) dX7_isWord_16 ?_
      refine V_icmp_le 22 dX7_isWord_17 (by decide) ⟨fun z => ?_, fun z => ?_⟩
      · replace k := k.1 z
        refine V_iload_n 2 dX7_isWord_22 rfl rfl ?_
        refine V_istore 4 dX7_isWord_23 (by decide) rfl ?_
        exact V_lv [1, 2, 3, 4, 0] rfl k
      · replace k := k.2 z
        refine V_iconst 0 dX7_isWord_20 (by decide) ?_
        exact V_zreturn dX7_isWord_21 rfl (by decide) k
set_option maxRecDepth 20000 in
set_option maxHeartbeats 2000000 in
theorem wX7_isWord_25 {d bc bs : Nat} {h : HS} {P : Option AV → HS → Prop} {i0 : Nat} {l2 : Int32} {l3 : Int32} {l4 : Int32} (k : ((l3 ≤ l4) → (P (some (aI 1)) h)) ∧ ((¬ l3 ≤ l4) → (vp_in l4 400 ∧ (i0 < 7 ∧ (Cl true mJ0_charAt_5068e (d + 2) 0 0 [aR 65 i0, aI (l4 - l2)] h (fun r1 h2 => ∃ x3 : Int32, r1 = some (aI x3) ∧ ((((gI h 7 0 l4.toNatClampNeg) = x3) → (V true mX7_isWord (d + 3) bc bs 25 [(0, aR 65 i0), (1, aR 7 0), (2, aI l2), (3, aI l3), (4, aI (l4 + 1))] [] h2 P)) ∧ ((¬ (gI h 7 0 l4.toNatClampNeg) = x3) → (P (some (aI 0)) h2))))))))) : V true mX7_isWord (d + 3) bc bs 25 [(0, aR 65 i0), (1, aR 7 0), (2, aI l2), (3, aI l3), (4, aI l4)] [] h P := by
  refine V_iload 4 dX7_isWord_25 rfl ?_
  refine V_iload_n 3 dX7_isWord_27 rfl rfl ?_
  refine V_icmp_ge 54 dX7_isWord_28 (by decide) ⟨fun z => ?_, fun z => ?_⟩
  · replace k := k.1 z
    refine V_iconst 1 dX7_isWord_54 (by decide) ?_
    exact V_zreturn dX7_isWord_55 rfl (by decide) k
  · replace k := k.2 z
    refine V_aload_n 1 dX7_isWord_31 rfl rfl ?_
    refine V_iload 4 dX7_isWord_32 rfl ?_
    refine V_bald (by decide) rt_7 dX7_isWord_34 k.1 ?_
    replace k := k.2
    refine V_aload_n 0 dX7_isWord_35 rfl rfl ?_
    refine V_iload 4 dX7_isWord_36 rfl ?_
    refine V_iload_n 2 dX7_isWord_38 rfl rfl ?_
    refine V_isub dX7_isWord_39 ?_
    obtain ⟨k7, k⟩ := k
    refine V_callX (mc := 0) (ms := 0) (as := [aI (l4 - l2)]) (st := [aI (gI h 7 0 l4.toNatClampNeg)]) k7 rfl dX7_isWord_40 okJ0_charAt_5068e inJ0_charAt_5068e seJ0_charAt_5068e lkX7_76 rfl (Nat.le_of_ble_eq_true rfl) (Nat.zero_le _) (Nat.zero_le _) (Cl.mono (fun r1 h2 z => ?_) k)
    obtain ⟨x3, rfl, k⟩ := z
    refine V_icmp_eq 48 dX7_isWord_43 (by decide) ⟨fun z => ?_, fun z => ?_⟩
    · replace k := k.1 z
      refine V_iinc 4 (v := l4 + 1) dX7_isWord_48 rfl rfl (by decide) rfl ?_
      refine V_goto 25 dX7_isWord_51 (by decide) ?_
      exact V_lv [1, 2, 3, 4, 0] rfl k
    · replace k := k.2 z
      refine V_iconst 0 dX7_isWord_46 (by decide) ?_
      exact V_zreturn dX7_isWord_47 rfl (by decide) k
-- X8_houseAt cuts []
set_option maxRecDepth 20000 in
set_option maxHeartbeats 2000000 in
theorem wX8_houseAt {d bc bs : Nat} {h : HS} {P : Option AV → HS → Prop} {l1 : Int32} (k : ((l1 < 0) → (P (some (aI (-1))) h)) ∧ ((¬ l1 < 0) → ((((gI h 3 0 2) ≤ l1) → (P (some (aI (-1))) h)) ∧ ((¬ (gI h 3 0 2) ≤ l1) → (((20 ≤ l1) → (P (some (aI (-1))) h)) ∧ ((¬ 20 ≤ l1) → (vp_in l1 20 ∧ (P (some (aI (gI h 4 0 l1.toNatClampNeg))) h)))))))) : Cl true mX8_houseAt (d + 3) bc bs [aR 3 0, aI l1] h P := by
  refine Cl_of (by decide) (Nat.le_of_ble_eq_true rfl) ?_
  show V true mX8_houseAt (d + 3) bc bs 0 [(0, aR 3 0), (1, aI l1)] [] h P
  refine V_iload_n 1 dX8_houseAt_0 rfl rfl ?_
  refine V_if_lt 27 dX8_houseAt_1 (by decide) ⟨fun z => ?_, fun z => ?_⟩
  · replace k := k.1 z
    refine V_iconst (-1) dX8_houseAt_27 (by decide) ?_
    exact V_ireturn dX8_houseAt_28 rfl k
  · replace k := k.2 z
    refine V_iload_n 1 dX8_houseAt_4 rfl rfl ?_
    refine V_aload_n 0 dX8_houseAt_5 rfl rfl ?_
    refine GI_3_2 dX8_houseAt_6 lkX8_19 ?_
    refine V_icmp_ge 27 dX8_houseAt_9 (by decide) ⟨fun z => ?_, fun z => ?_⟩
    · replace k := k.1 z
      refine V_iconst (-1) dX8_houseAt_27 (by decide) ?_
      exact V_ireturn dX8_houseAt_28 rfl k
    · replace k := k.2 z
      refine V_iload_n 1 dX8_houseAt_12 rfl rfl ?_
      refine V_bipush 20 dX8_houseAt_13 (by decide) ?_
      refine V_icmp_ge 27 dX8_houseAt_15 (by decide) ⟨fun z => ?_, fun z => ?_⟩
      · replace k := k.1 z
        refine V_iconst (-1) dX8_houseAt_27 (by decide) ?_
        exact V_ireturn dX8_houseAt_28 rfl k
      · replace k := k.2 z
        refine V_aload_n 0 dX8_houseAt_18 rfl rfl ?_
        refine GS_3_0 dX8_houseAt_19 lkX8_9 ?_
        refine V_iload_n 1 dX8_houseAt_22 rfl rfl ?_
        refine V_iald (by decide) rt_4 dX8_houseAt_23 k.1 ?_
        replace k := k.2
        refine V_goto 28 dX8_houseAt_24 (by decide) ?_
        exact V_ireturn dX8_houseAt_28 rfl k
-- X8_goRound cuts [31, 55]
set_option maxRecDepth 20000 in
set_option maxHeartbeats 2000000 in
theorem wX8_goRound {d bc bs : Nat} {h : HS} {P : Option AV → HS → Prop} {l2 : Int32} {l3 : Int32} (k : V true mX8_goRound (d + 3) bc bs 31 [(0, aR 3 0), (1, aR 2 0), (2, aI l2), (4, aI ((2 * l3) + (gI h 3 0 3))), (5, aI l2), (6, aI 0)] [] (sI (sI h 3 0 3 ((gI h 3 0 3) + 1)) 3 0 2 0) P) : Cl true mX8_goRound (d + 3) bc bs [aR 3 0, aR 2 0, aI l2, aI l3] h P := by
  refine Cl_of (by decide) (Nat.le_of_ble_eq_true rfl) ?_
  show V true mX8_goRound (d + 3) bc bs 0 [(0, aR 3 0), (1, aR 2 0), (2, aI l2), (3, aI l3)] [] h P
  refine V_iconst 2 dX8_goRound_0 (by decide) ?_
  refine V_iload_n 3 dX8_goRound_1 rfl rfl ?_
  refine V_imul dX8_goRound_2 ?_
  refine V_aload_n 0 dX8_goRound_3 rfl rfl ?_
  refine GI_3_3 dX8_goRound_4 lkX8_23 ?_
  refine V_iadd dX8_goRound_7 ?_
  refine V_istore 4 dX8_goRound_8 (by decide) rfl ?_
  refine V_iload_n 2 dX8_goRound_10 rfl rfl ?_
  refine V_istore 5 dX8_goRound_11 (by decide) rfl ?_
  refine V_aload_n 0 dX8_goRound_13 rfl rfl ?_
  refine V_dup dX8_goRound_14 rfl ?_
  refine GI_3_3 dX8_goRound_15 lkX8_23 ?_
  refine V_iconst 1 dX8_goRound_18 (by decide) ?_
  refine V_iadd dX8_goRound_19 ?_
  refine PI_3_3 dX8_goRound_20 lkX8_23 ?_
  refine V_aload_n 0 dX8_goRound_23 rfl rfl ?_
  refine V_iconst 0 dX8_goRound_24 (by decide) ?_
  refine PI_3_2 dX8_goRound_25 lkX8_19 ?_
  refine V_iconst 0 dX8_goRound_28 (by decide) ?_
  refine V_istore 6 dX8_goRound_29 (by decide) rfl ?_
  exact V_lv [3, 4, 5, 2, 1, 0] rfl k
set_option maxRecDepth 20000 in
set_option maxHeartbeats 2000000 in
theorem wX8_goRound_31 {d bc bs : Nat} {h : HS} {P : Option AV → HS → Prop} {l2 : Int32} {l4 : Int32} {l5 : Int32} {l6 : Int32} (k : ((20 ≤ l6) → (V true mX8_goRound (d + 3) bc bs 55 [(0, aR 3 0), (1, aR 2 0), (2, aI l2), (4, aI l4), (5, aI l5), (6, aI 0)] [] h P)) ∧ ((¬ 20 ≤ l6) → (vp_in l6 20 ∧ (V true mX8_goRound (d + 3) bc bs 31 [(0, aR 3 0), (1, aR 2 0), (2, aI l2), (4, aI l4), (5, aI l5), (6, aI (l6 + 1))] [] (sI h 5 0 l6.toNatClampNeg 0) P)))) : V true mX8_goRound (d + 3) bc bs 31 [(0, aR 3 0), (1, aR 2 0), (2, aI l2), (4, aI l4), (5, aI l5), (6, aI l6)] [] h P := by
  refine V_iload 6 dX8_goRound_31 rfl ?_
  refine V_bipush 20 dX8_goRound_33 (by decide) ?_
  refine V_icmp_ge 52 dX8_goRound_35 (by decide) ⟨fun z => ?_, fun z => ?_⟩
  · replace k := k.1 z
    refine V_iconst 0 dX8_goRound_52 (by decide) ?_
    refine V_istore 6 dX8_goRound_53 (by decide) rfl ?_
    exact V_lv [1, 2, 3, 4, 5, 0] rfl k
  · replace k := k.2 z
    refine V_aload_n 0 dX8_goRound_38 rfl rfl ?_
    refine GS_3_1 dX8_goRound_39 lkX8_15 ?_
    refine V_iload 6 dX8_goRound_42 rfl ?_
    refine V_iconst 0 dX8_goRound_44 (by decide) ?_
    refine V_zast (by decide) rt_5 dX8_goRound_45 k.1 (by decide) ?_
    replace k := k.2
    refine V_iinc 6 (v := l6 + 1) dX8_goRound_46 rfl rfl (by decide) rfl ?_
    refine V_goto 31 dX8_goRound_49 (by decide) ?_
    exact V_lv [1, 2, 3, 4, 5, 0] rfl k
set_option maxRecDepth 20000 in
set_option maxHeartbeats 2000000 in
theorem wX8_goRound_55 {d bc bs : Nat} {h : HS} {P : Option AV → HS → Prop} {l2 : Int32} {l4 : Int32} {l5 : Int32} {l6 : Int32} (k : (((gI h 2 0 2) ≤ l6) → (P (some (aI (l2 - l5))) h)) ∧ ((¬ (gI h 2 0 2) ≤ l6) → (Cl true mJx4a65c_get_915e3 (d + 2) 0 0 [aR 2 0, aI l6] h (fun r3 h4 => ∃ t5, r3 = some (aR 62 t5) ∧ (((¬ (cPar h4 t5)) → (V true mX8_goRound (d + 3) bc bs 55 [(0, aR 3 0), (1, aR 2 0), (2, aI l2), (4, aI l4), (5, aI l5), (6, aI (l6 + 1))] [] h4 P)) ∧ (((cPar h4 t5)) → (Cl true mX8_askOnce (d + 2) 0 0 [aR 3 0, aI (gI h4 62 t5 5)] h4 (fun r8 h9 => ∃ x10 : Int32, r8 = some (aI x10) ∧ (((x10 = 0) → (V true mX8_goRound (d + 3) bc bs 55 [(0, aR 3 0), (1, aR 2 0), (2, aI l2), (4, aI l4), (5, aI l5), (6, aI (l6 + 1))] [] h9 P)) ∧ ((¬ x10 = 0) → (Cl true mX8_piecesFor (d + 2) 0 0 [aR 3 0, aR 2 0, aI (gI h9 62 t5 5)] h9 (fun r11 h12 => ∃ x13 : Int32, r11 = some (aI x13) ∧ (((l5 < x13) → (V true mX8_goRound (d + 3) bc bs 55 [(0, aR 3 0), (1, aR 2 0), (2, aI l2), (4, aI l4), (5, aI l5), (6, aI (l6 + 1))] [] h12 P)) ∧ ((¬ l5 < x13) → (Cl true mX8_take (d + 2) 0 0 [aR 3 0, aR 2 0, aI (gI h12 62 t5 5), aI l4] h12 (fun r14 h15 => r14 = none ∧ (V true mX8_goRound (d + 3) bc bs 55 [(0, aR 3 0), (1, aR 2 0), (2, aI l2), (4, aI l4), (5, aI (l5 - x13)), (6, aI (l6 + 1))] [] h15 P))))))))))))))))) : V true mX8_goRound (d + 3) bc bs 55 [(0, aR 3 0), (1, aR 2 0), (2, aI l2), (4, aI l4), (5, aI l5), (6, aI l6)] [] h P := by
  refine V_iload 6 dX8_goRound_55 rfl ?_
  refine V_aload_n 1 dX8_goRound_57 rfl rfl ?_
  refine V_callV (mc := 0) (ms := 0) (as := []) (st := [aI l6]) (by decide) rt_2 rfl dX8_goRound_58 okJx4a65c_size_8abf5 inJx4a65c_size_8abf5 seJx4a65c_size_8abf5 lkX8_26 rfl (Nat.le_of_ble_eq_true rfl) (Nat.zero_le _) (Nat.zero_le _) (cList_size_2 ?_)
  show V true mX8_goRound (d + 3) _ _ 61 [(0, aR 3 0), (1, aR 2 0), (2, aI l2), (4, aI l4), (5, aI l5), (6, aI l6)] [aI (gI h 2 0 2), aI l6] h P
  refine V_icmp_ge 139 dX8_goRound_61 (by decide) ⟨fun z => ?_, fun z => ?_⟩
  · replace k := k.1 z
    refine V_iload_n 2 dX8_goRound_139 rfl rfl ?_
    refine V_iload 5 dX8_goRound_140 rfl ?_
    refine V_isub dX8_goRound_142 ?_
    exact V_ireturn dX8_goRound_143 rfl k
  · replace k := k.2 z
    refine V_aload_n 1 dX8_goRound_64 rfl rfl ?_
    refine V_iload 6 dX8_goRound_65 rfl ?_
    refine V_callV (mc := 0) (ms := 0) (as := [aI l6]) (st := []) (by decide) rt_2 rfl dX8_goRound_67 okJx4a65c_get_915e3 inJx4a65c_get_915e3 seJx4a65c_get_915e3 lkX8_32 rfl (Nat.le_of_ble_eq_true rfl) (Nat.zero_le _) (Nat.zero_le _) (Cl.mono (fun r3 h4 z => ?_) k)
    obtain ⟨t5, rfl, k⟩ := z
    refine V_cast (by decide) rt_62 rfl lkX8_36 dX8_goRound_70 ?_
    refine V_astore 7 dX8_goRound_73 (by decide) rfl ?_
    refine V_aload 7 dX8_goRound_75 rfl ?_
    refine V_callV (mc := 0) (ms := 0) (as := []) (st := []) (by decide) rt_62 rfl dX8_goRound_77 okX3_isParcel inX3_isParcel seX3_isParcel lkX8_38 rfl (Nat.le_of_ble_eq_true rfl) (Nat.zero_le _) (Nat.zero_le _) (cX3_isParcel_ ?_)
    show V true mX8_goRound (d + 3) _ _ 80 [(7, aR 62 t5), (0, aR 3 0), (1, aR 2 0), (2, aI l2), (4, aI l4), (5, aI l5), (6, aI l6)] [aI (bI (cPar h4 t5))] h4 P
    refine V_if_eq 133 dX8_goRound_80 (by decide) ⟨fun z => ?_, fun z => ?_⟩
    · replace k := k.1 (bI_0 z)
      refine V_iinc 6 (v := l6 + 1) dX8_goRound_133 rfl rfl (by decide) rfl ?_
      refine V_goto 55 dX8_goRound_136 (by decide) ?_
      exact V_lv [2, 3, 4, 5, 6, 0] rfl k
    · replace k := k.2 (bI_1 z)
      refine V_aload_n 0 dX8_goRound_83 rfl rfl ?_
      refine V_aload 7 dX8_goRound_84 rfl ?_
      refine GI_62_5 dX8_goRound_86 lkX8_42 ?_
      refine V_callV (mc := 0) (ms := 0) (as := [aI (gI h4 62 t5 5)]) (st := []) (by decide) rt_3 rfl dX8_goRound_89 okX8_askOnce inX8_askOnce seX8_askOnce lkX8_45 rfl (Nat.le_of_ble_eq_true rfl) (Nat.zero_le _) (Nat.zero_le _) (Cl.mono (fun r8 h9 z => ?_) k)
      obtain ⟨x10, rfl, k⟩ := z
      refine V_if_eq 133 dX8_goRound_92 (by decide) ⟨fun z => ?_, fun z => ?_⟩
      · replace k := k.1 z
        refine V_iinc 6 (v := l6 + 1) dX8_goRound_133 rfl rfl (by decide) rfl ?_
        refine V_goto 55 dX8_goRound_136 (by decide) ?_
        exact V_lv [2, 3, 4, 5, 6, 0] rfl k
      · replace k := k.2 z
        refine V_aload_n 0 dX8_goRound_95 rfl rfl ?_
        refine V_aload_n 1 dX8_goRound_96 rfl rfl ?_
        refine V_aload 7 dX8_goRound_97 rfl ?_
        refine GI_62_5 dX8_goRound_99 lkX8_42 ?_
        refine V_callV (mc := 0) (ms := 0) (as := [aR 2 0, aI (gI h9 62 t5 5)]) (st := []) (by decide) rt_3 rfl dX8_goRound_102 okX8_piecesFor inX8_piecesFor seX8_piecesFor lkX8_49 rfl (Nat.le_of_ble_eq_true rfl) (Nat.zero_le _) (Nat.zero_le _) (Cl.mono (fun r11 h12 z => ?_) k)
        obtain ⟨x13, rfl, k⟩ := z
        refine V_istore 8 dX8_goRound_105 (by decide) rfl ?_
        refine V_iload 8 dX8_goRound_107 rfl ?_
        refine V_iload 5 dX8_goRound_109 rfl ?_
        refine V_icmp_gt 133 dX8_goRound_111 (by decide) ⟨fun z => ?_, fun z => ?_⟩
        · replace k := k.1 z
          refine V_iinc 6 (v := l6 + 1) dX8_goRound_133 rfl rfl (by decide) rfl ?_
          refine V_goto 55 dX8_goRound_136 (by decide) ?_
          exact V_lv [3, 4, 5, 6, 7, 0] rfl k
        · replace k := k.2 z
          refine V_iload 5 dX8_goRound_114 rfl ?_
          refine V_iload 8 dX8_goRound_116 rfl ?_
          refine V_isub dX8_goRound_118 ?_
          refine V_istore 5 dX8_goRound_119 (by decide) rfl ?_
          refine V_aload_n 0 dX8_goRound_121 rfl rfl ?_
          refine V_aload_n 1 dX8_goRound_122 rfl rfl ?_
          refine V_aload 7 dX8_goRound_123 rfl ?_
          refine GI_62_5 dX8_goRound_125 lkX8_42 ?_
          refine V_iload 4 dX8_goRound_128 rfl ?_
          refine V_callV (mc := 0) (ms := 0) (as := [aR 2 0, aI (gI h12 62 t5 5), aI l4]) (st := []) (by decide) rt_3 rfl dX8_goRound_130 okX8_take inX8_take seX8_take lkX8_53 rfl (Nat.le_of_ble_eq_true rfl) (Nat.zero_le _) (Nat.zero_le _) (Cl.mono (fun r14 h15 z => ?_) k)
          obtain ⟨rfl, k⟩ := z
          refine V_iinc 6 (v := l6 + 1) dX8_goRound_133 rfl rfl (by decide) rfl ?_
          refine V_goto 55 dX8_goRound_136 (by decide) ?_
          exact V_lv [4, 5, 6, 7, 1, 0] rfl k
-- X8_askOnce cuts []
set_option maxRecDepth 20000 in
set_option maxHeartbeats 2000000 in
theorem wX8_askOnce {d bc bs : Nat} {h : HS} {P : Option AV → HS → Prop} {l1 : Int32} (k : ((l1 < 0) → (P (some (aI 0)) h)) ∧ ((¬ l1 < 0) → (((20 ≤ l1) → (P (some (aI 0)) h)) ∧ ((¬ 20 ≤ l1) → (vp_in l1 20 ∧ ((((gI h 5 0 l1.toNatClampNeg) = 0) → (vp_in l1 20 ∧ (P (some (aI 1)) (sI h 5 0 l1.toNatClampNeg 1)))) ∧ ((¬ (gI h 5 0 l1.toNatClampNeg) = 0) → (P (some (aI 0)) h)))))))) : Cl true mX8_askOnce (d + 3) bc bs [aR 3 0, aI l1] h P := by
  refine Cl_of (by decide) (Nat.le_of_ble_eq_true rfl) ?_
  show V true mX8_askOnce (d + 3) bc bs 0 [(0, aR 3 0), (1, aI l1)] [] h P
  refine V_iload_n 1 dX8_askOnce_0 rfl rfl ?_
  refine V_if_lt 19 dX8_askOnce_1 (by decide) ⟨fun z => ?_, fun z => ?_⟩
  · replace k := k.1 z
    refine V_iconst 0 dX8_askOnce_19 (by decide) ?_
    exact V_zreturn dX8_askOnce_20 rfl (by decide) k
  · replace k := k.2 z
    refine V_iload_n 1 dX8_askOnce_4 rfl rfl ?_
    refine V_bipush 20 dX8_askOnce_5 (by decide) ?_
    refine V_icmp_ge 19 dX8_askOnce_7 (by decide) ⟨fun z => ?_, fun z => ?_⟩
    · replace k := k.1 z
      refine V_iconst 0 dX8_askOnce_19 (by decide) ?_
      exact V_zreturn dX8_askOnce_20 rfl (by decide) k
    · replace k := k.2 z
      refine V_aload_n 0 dX8_askOnce_10 rfl rfl ?_
      refine GS_3_1 dX8_askOnce_11 lkX8_15 ?_
      refine V_iload_n 1 dX8_askOnce_14 rfl rfl ?_
      refine V_zald (by decide) rt_5 dX8_askOnce_15 k.1 ?_
      replace k := k.2
      refine V_if_eq 21 dX8_askOnce_16 (by decide) ⟨fun z => ?_, fun z => ?_⟩
      · replace k := k.1 z
        refine V_aload_n 0 dX8_askOnce_21 rfl rfl ?_
        refine GS_3_1 dX8_askOnce_22 lkX8_15 ?_
        refine V_iload_n 1 dX8_askOnce_25 rfl rfl ?_
        refine V_iconst 1 dX8_askOnce_26 (by decide) ?_
        refine V_zast (by decide) rt_5 dX8_askOnce_27 k.1 (by decide) ?_
        replace k := k.2
        refine V_iconst 1 dX8_askOnce_28 (by decide) ?_
        exact V_zreturn dX8_askOnce_29 rfl (by decide) k
      · replace k := k.2 z
        refine V_iconst 0 dX8_askOnce_19 (by decide) ?_
        exact V_zreturn dX8_askOnce_20 rfl (by decide) k
-- X8_piecesFor cuts [5]
set_option maxRecDepth 20000 in
set_option maxHeartbeats 2000000 in
theorem wX8_piecesFor {d bc bs : Nat} {h : HS} {P : Option AV → HS → Prop} {l2 : Int32} (k : V true mX8_piecesFor (d + 3) bc bs 5 [(1, aR 2 0), (2, aI l2), (3, aI 0), (4, aI 0)] [] h P) : Cl true mX8_piecesFor (d + 3) bc bs [aR 3 0, aR 2 0, aI l2] h P := by
  refine Cl_of (by decide) (Nat.le_of_ble_eq_true rfl) ?_
  show V true mX8_piecesFor (d + 3) bc bs 0 [(0, aR 3 0), (1, aR 2 0), (2, aI l2)] [] h P
  refine V_iconst 0 dX8_piecesFor_0 (by decide) ?_
  refine V_istore_n 3 dX8_piecesFor_1 rfl (by decide) rfl ?_
  refine V_iconst 0 dX8_piecesFor_2 (by decide) ?_
  refine V_istore 4 dX8_piecesFor_3 (by decide) rfl ?_
  exact V_lv [3, 4, 1, 0] rfl k
set_option maxRecDepth 20000 in
set_option maxHeartbeats 2000000 in
theorem wX8_piecesFor_5 {d bc bs : Nat} {h : HS} {P : Option AV → HS → Prop} {l2 : Int32} {l3 : Int32} {l4 : Int32} (k : (((gI h 2 0 2) ≤ l4) → (P (some (aI l3)) h)) ∧ ((¬ (gI h 2 0 2) ≤ l4) → (Cl true mJx4a65c_get_915e3 (d + 2) 0 0 [aR 2 0, aI l4] h (fun r3 h4 => ∃ t5, r3 = some (aR 62 t5) ∧ (((¬ (gI h4 62 t5 5) = l2) → (V true mX8_piecesFor (d + 3) bc bs 5 [(1, aR 2 0), (2, aI l2), (3, aI l3), (4, aI (l4 + 1))] [] h4 P)) ∧ (((gI h4 62 t5 5) = l2) → (((¬ (cPar h4 t5)) → (V true mX8_piecesFor (d + 3) bc bs 5 [(1, aR 2 0), (2, aI l2), (3, aI l3), (4, aI (l4 + 1))] [] h4 P)) ∧ (((cPar h4 t5)) → (V true mX8_piecesFor (d + 3) bc bs 5 [(1, aR 2 0), (2, aI l2), (3, aI (l3 + (gI h4 62 t5 4))), (4, aI (l4 + 1))] [] h4 P))))))))) : V true mX8_piecesFor (d + 3) bc bs 5 [(1, aR 2 0), (2, aI l2), (3, aI l3), (4, aI l4)] [] h P := by
  refine V_iload 4 dX8_piecesFor_5 rfl ?_
  refine V_aload_n 1 dX8_piecesFor_7 rfl rfl ?_
  refine V_callV (mc := 0) (ms := 0) (as := []) (st := [aI l4]) (by decide) rt_2 rfl dX8_piecesFor_8 okJx4a65c_size_8abf5 inJx4a65c_size_8abf5 seJx4a65c_size_8abf5 lkX8_26 rfl (Nat.le_of_ble_eq_true rfl) (Nat.zero_le _) (Nat.zero_le _) (cList_size_2 ?_)
  show V true mX8_piecesFor (d + 3) _ _ 11 [(1, aR 2 0), (2, aI l2), (3, aI l3), (4, aI l4)] [aI (gI h 2 0 2), aI l4] h P
  refine V_icmp_ge 56 dX8_piecesFor_11 (by decide) ⟨fun z => ?_, fun z => ?_⟩
  · replace k := k.1 z
    refine V_iload_n 3 dX8_piecesFor_56 rfl rfl ?_
    exact V_ireturn dX8_piecesFor_57 rfl k
  · replace k := k.2 z
    refine V_aload_n 1 dX8_piecesFor_14 rfl rfl ?_
    refine V_iload 4 dX8_piecesFor_15 rfl ?_
    refine V_callV (mc := 0) (ms := 0) (as := [aI l4]) (st := []) (by decide) rt_2 rfl dX8_piecesFor_17 okJx4a65c_get_915e3 inJx4a65c_get_915e3 seJx4a65c_get_915e3 lkX8_32 rfl (Nat.le_of_ble_eq_true rfl) (Nat.zero_le _) (Nat.zero_le _) (Cl.mono (fun r3 h4 z => ?_) k)
    obtain ⟨t5, rfl, k⟩ := z
    refine V_cast (by decide) rt_62 rfl lkX8_36 dX8_piecesFor_20 ?_
    refine V_astore 5 dX8_piecesFor_23 (by decide) rfl ?_
    refine V_aload 5 dX8_piecesFor_25 rfl ?_
    refine GI_62_5 dX8_piecesFor_27 lkX8_42 ?_
    refine V_iload_n 2 dX8_piecesFor_30 rfl rfl ?_
    refine V_icmp_ne 50 dX8_piecesFor_31 (by decide) ⟨fun z => ?_, fun z => ?_⟩
    · replace k := k.1 z
      refine V_iinc 4 (v := l4 + 1) dX8_piecesFor_50 rfl rfl (by decide) rfl ?_
      refine V_goto 5 dX8_piecesFor_53 (by decide) ?_
      exact V_lv [2, 3, 4, 0] rfl k
    · replace k := k.2 z
      refine V_aload 5 dX8_piecesFor_34 rfl ?_
      refine V_callV (mc := 0) (ms := 0) (as := []) (st := []) (by decide) rt_62 rfl dX8_piecesFor_36 okX3_isParcel inX3_isParcel seX3_isParcel lkX8_38 rfl (Nat.le_of_ble_eq_true rfl) (Nat.zero_le _) (Nat.zero_le _) (cX3_isParcel_ ?_)
      show V true mX8_piecesFor (d + 3) _ _ 39 [(5, aR 62 t5), (1, aR 2 0), (2, aI l2), (3, aI l3), (4, aI l4)] [aI (bI (cPar h4 t5))] h4 P
      refine V_if_eq 50 dX8_piecesFor_39 (by decide) ⟨fun z => ?_, fun z => ?_⟩
      · replace k := k.1 (bI_0 z)
        refine V_iinc 4 (v := l4 + 1) dX8_piecesFor_50 rfl rfl (by decide) rfl ?_
        refine V_goto 5 dX8_piecesFor_53 (by decide) ?_
        exact V_lv [2, 3, 4, 0] rfl k
      · replace k := k.2 (bI_1 z)
        refine V_iload_n 3 dX8_piecesFor_42 rfl rfl ?_
        refine V_aload 5 dX8_piecesFor_43 rfl ?_
        refine GI_62_4 dX8_piecesFor_45 lkX8_57 ?_
        refine V_iadd dX8_piecesFor_48 ?_
        refine V_istore_n 3 dX8_piecesFor_49 rfl (by decide) rfl ?_
        refine V_iinc 4 (v := l4 + 1) dX8_piecesFor_50 rfl rfl (by decide) rfl ?_
        refine V_goto 5 dX8_piecesFor_53 (by decide) ?_
        exact V_lv [3, 4, 1, 0] rfl k
-- X8_take cuts [32]
set_option maxRecDepth 20000 in
set_option maxHeartbeats 2000000 in
theorem wX8_take {d bc bs : Nat} {h : HS} {P : Option AV → HS → Prop} {l2 : Int32} {l3 : Int32} (k : ((20 ≤ (gI h 3 0 2)) → (V true mX8_take (d + 3) bc bs 32 [(1, aR 2 0), (2, aI l2), (3, aI l3), (4, aI 0)] [] h P)) ∧ ((¬ 20 ≤ (gI h 3 0 2)) → (vp_in (gI h 3 0 2) 20 ∧ (V true mX8_take (d + 3) bc bs 32 [(1, aR 2 0), (2, aI l2), (3, aI l3), (4, aI 0)] [] (sI (sI h 4 0 (gI h 3 0 2).toNatClampNeg l2) 3 0 2 ((gI h 3 0 2) + 1)) P)))) : Cl true mX8_take (d + 3) bc bs [aR 3 0, aR 2 0, aI l2, aI l3] h P := by
  refine Cl_of (by decide) (Nat.le_of_ble_eq_true rfl) ?_
  show V true mX8_take (d + 3) bc bs 0 [(0, aR 3 0), (1, aR 2 0), (2, aI l2), (3, aI l3)] [] h P
  refine V_aload_n 0 dX8_take_0 rfl rfl ?_
  refine GI_3_2 dX8_take_1 lkX8_19 ?_
  refine V_bipush 20 dX8_take_4 (by decide) ?_
  refine V_icmp_ge 29 dX8_take_6 (by decide) ⟨fun z => ?_, fun z => ?_⟩
  · replace k := k.1 z
    refine V_iconst 0 dX8_take_29 (by decide) ?_
    refine V_istore 4 dX8_take_30 (by decide) rfl ?_
    exact V_lv [2, 3, 4, 0] rfl k
  · replace k := k.2 z
    refine V_aload_n 0 dX8_take_9 rfl rfl ?_
    refine GS_3_0 dX8_take_10 lkX8_9 ?_
    refine V_aload_n 0 dX8_take_13 rfl rfl ?_
    refine GI_3_2 dX8_take_14 lkX8_19 ?_
    refine V_iload_n 2 dX8_take_17 rfl rfl ?_
    refine V_iast (by decide) rt_4 dX8_take_18 k.1 ?_
    replace k := k.2
    refine V_aload_n 0 dX8_take_19 rfl rfl ?_
    refine V_dup dX8_take_20 rfl ?_
    refine GI_3_2 dX8_take_21 lkX8_19 ?_
    refine V_re (y := gI h 3 0 2) rfl ?_
    refine V_iconst 1 dX8_take_24 (by decide) ?_
    refine V_iadd dX8_take_25 ?_
    refine PI_3_2 dX8_take_26 lkX8_19 ?_
    refine V_iconst 0 dX8_take_29 (by decide) ?_
    refine V_istore 4 dX8_take_30 (by decide) rfl ?_
    exact V_lv [2, 3, 4, 0] rfl k
set_option maxRecDepth 20000 in
set_option maxHeartbeats 2000000 in
theorem wX8_take_32 {d bc bs : Nat} {h : HS} {P : Option AV → HS → Prop} {l2 : Int32} {l3 : Int32} {l4 : Int32} (k : (((gI h 2 0 2) ≤ l4) → (P none h)) ∧ ((¬ (gI h 2 0 2) ≤ l4) → (Cl true mJx4a65c_get_915e3 (d + 2) 0 0 [aR 2 0, aI l4] h (fun r3 h4 => ∃ t5, r3 = some (aR 62 t5) ∧ (((¬ (gI h4 62 t5 5) = l2) → (V true mX8_take (d + 3) bc bs 32 [(1, aR 2 0), (2, aI l2), (3, aI l3), (4, aI (l4 + 1))] [] h4 P)) ∧ (((gI h4 62 t5 5) = l2) → (((¬ (cPar h4 t5)) → (V true mX8_take (d + 3) bc bs 32 [(1, aR 2 0), (2, aI l2), (3, aI l3), (4, aI (l4 + 1))] [] h4 P)) ∧ (((cPar h4 t5)) → (V true mX8_take (d + 3) bc bs 32 [(1, aR 2 0), (2, aI l2), (3, aI l3), (4, aI (l4 + 1))] [] (sI h4 62 t5 11 l3) P))))))))) : V true mX8_take (d + 3) bc bs 32 [(1, aR 2 0), (2, aI l2), (3, aI l3), (4, aI l4)] [] h P := by
  refine V_iload 4 dX8_take_32 rfl ?_
  refine V_aload_n 1 dX8_take_34 rfl rfl ?_
  refine V_callV (mc := 0) (ms := 0) (as := []) (st := [aI l4]) (by decide) rt_2 rfl dX8_take_35 okJx4a65c_size_8abf5 inJx4a65c_size_8abf5 seJx4a65c_size_8abf5 lkX8_26 rfl (Nat.le_of_ble_eq_true rfl) (Nat.zero_le _) (Nat.zero_le _) (cList_size_2 ?_)
  show V true mX8_take (d + 3) _ _ 38 [(1, aR 2 0), (2, aI l2), (3, aI l3), (4, aI l4)] [aI (gI h 2 0 2), aI l4] h P
  refine V_icmp_ge 81 dX8_take_38 (by decide) ⟨fun z => ?_, fun z => ?_⟩
  · replace k := k.1 z
    exact V_return dX8_take_81 rfl k
  · replace k := k.2 z
    refine V_aload_n 1 dX8_take_41 rfl rfl ?_
    refine V_iload 4 dX8_take_42 rfl ?_
    refine V_callV (mc := 0) (ms := 0) (as := [aI l4]) (st := []) (by decide) rt_2 rfl dX8_take_44 okJx4a65c_get_915e3 inJx4a65c_get_915e3 seJx4a65c_get_915e3 lkX8_32 rfl (Nat.le_of_ble_eq_true rfl) (Nat.zero_le _) (Nat.zero_le _) (Cl.mono (fun r3 h4 z => ?_) k)
    obtain ⟨t5, rfl, k⟩ := z
    refine V_cast (by decide) rt_62 rfl lkX8_36 dX8_take_47 ?_
    refine V_astore 5 dX8_take_50 (by decide) rfl ?_
    refine V_aload 5 dX8_take_52 rfl ?_
    refine GI_62_5 dX8_take_54 lkX8_42 ?_
    refine V_iload_n 2 dX8_take_57 rfl rfl ?_
    refine V_icmp_ne 75 dX8_take_58 (by decide) ⟨fun z => ?_, fun z => ?_⟩
    · replace k := k.1 z
      refine V_iinc 4 (v := l4 + 1) dX8_take_75 rfl rfl (by decide) rfl ?_
      refine V_goto 32 dX8_take_78 (by decide) ?_
      exact V_lv [2, 3, 4, 0] rfl k
    · replace k := k.2 z
      refine V_aload 5 dX8_take_61 rfl ?_
      refine V_callV (mc := 0) (ms := 0) (as := []) (st := []) (by decide) rt_62 rfl dX8_take_63 okX3_isParcel inX3_isParcel seX3_isParcel lkX8_38 rfl (Nat.le_of_ble_eq_true rfl) (Nat.zero_le _) (Nat.zero_le _) (cX3_isParcel_ ?_)
      show V true mX8_take (d + 3) _ _ 66 [(5, aR 62 t5), (1, aR 2 0), (2, aI l2), (3, aI l3), (4, aI l4)] [aI (bI (cPar h4 t5))] h4 P
      refine V_if_eq 75 dX8_take_66 (by decide) ⟨fun z => ?_, fun z => ?_⟩
      · replace k := k.1 (bI_0 z)
        refine V_iinc 4 (v := l4 + 1) dX8_take_75 rfl rfl (by decide) rfl ?_
        refine V_goto 32 dX8_take_78 (by decide) ?_
        exact V_lv [2, 3, 4, 0] rfl k
      · replace k := k.2 (bI_1 z)
        refine V_aload 5 dX8_take_69 rfl ?_
        refine V_iload_n 3 dX8_take_71 rfl rfl ?_
        refine PI_62_11 dX8_take_72 lkX8_60 ?_
        refine V_iinc 4 (v := l4 + 1) dX8_take_75 rfl rfl (by decide) rfl ?_
        refine V_goto 32 dX8_take_78 (by decide) ?_
        exact V_lv [2, 3, 4, 0] rfl k
-- X9_thing cuts []
set_option maxRecDepth 20000 in
set_option maxHeartbeats 2000000 in
theorem wX9_thing {d bc bs : Nat} {h : HS} {P : Option AV → HS → Prop} {l1 : Int32} {l2 : Int32} (k : ((12 ≤ (gI h 1 0 2)) → (P (some (aI (-1))) h)) ∧ ((¬ 12 ≤ (gI h 1 0 2)) → (((¬ (inR l1 1 9999)) → (P (some (aI (-1))) h)) ∧ (((inR l1 1 9999)) → ((((inR l2 0 999)) → (∃ n7 : Nat, (60, n7) ∉ h.2.2 ∧ 1 ≤ bc ∧ 5 ≤ bs ∧ (1 ≤ (bc - 1) ∧ 364 ≤ (bs - 5) ∧ (Cl true mX6_init (d + 2) 1 364 [aR 60 n7, aI (gI h 0 0 10), aI l1, aI l2] (nw h 60 n7) (fun r8 h9 => r8 = none ∧ (1 ≤ (bc - 1 - 1) ∧ 200 ≤ (bs - 5 - 364) ∧ (Cl true mJx4a65c_add_9ea2d (d + 2) 1 200 [aR 1 0, aR 60 n7] h9 (fun r10 h11 => ∃ x12 : Int32, r10 = some (aI x12) ∧ (P (some (aI ((gI h11 1 0 2) - 1))) h11))))))))) ∧ ((¬ (inR l2 0 999)) → (P (some (aI (-1))) h))))))) : Cl true mX9_thing (d + 3) bc bs [aR 0 0, aI l1, aI l2] h P := by
  refine Cl_of (by decide) (Nat.le_of_ble_eq_true rfl) ?_
  show V true mX9_thing (d + 3) bc bs 0 [(0, aR 0 0), (1, aI l1), (2, aI l2)] [] h P
  refine V_aload_n 0 dX9_thing_0 rfl rfl ?_
  refine GS_0_0 dX9_thing_1 lkX9_12 ?_
  refine V_callV (mc := 0) (ms := 0) (as := []) (st := []) (by decide) rt_1 rfl dX9_thing_4 okJx4a65c_size_8abf5 inJx4a65c_size_8abf5 seJx4a65c_size_8abf5 lkX9_77 rfl (Nat.le_of_ble_eq_true rfl) (Nat.zero_le _) (Nat.zero_le _) (cList_size_1 ?_)
  show V true mX9_thing (d + 3) _ _ 7 [(0, aR 0 0), (1, aI l1), (2, aI l2)] [aI (gI h 1 0 2)] h P
  refine V_bipush 12 dX9_thing_7 (by decide) ?_
  refine V_icmp_ge 30 dX9_thing_9 (by decide) ⟨fun z => ?_, fun z => ?_⟩
  · replace k := k.1 z
    refine V_iconst (-1) dX9_thing_30 (by decide) ?_
    exact V_ireturn dX9_thing_31 rfl k
  · replace k := k.2 z
    refine V_iload_n 1 dX9_thing_12 rfl rfl ?_
    refine V_callS (mc := 0) (ms := 0) (as := [aI l1]) (st := []) dX9_thing_13 okX9_isTag stX9_isTag lkX9_81 rfl (Nat.le_of_ble_eq_true rfl) (Nat.zero_le _) (Nat.zero_le _) (cX9_isTag_ ?_)
    show V true mX9_thing (d + 3) _ _ 16 [(0, aR 0 0), (1, aI l1), (2, aI l2)] [aI (bI (inR l1 1 9999))] h P
    refine V_if_eq 30 dX9_thing_16 (by decide) ⟨fun z => ?_, fun z => ?_⟩
    · replace k := k.1 (bI_0 z)
      refine V_iconst (-1) dX9_thing_30 (by decide) ?_
      exact V_ireturn dX9_thing_31 rfl k
    · replace k := k.2 (bI_1 z)
      refine V_iload_n 2 dX9_thing_19 rfl rfl ?_
      refine V_iconst 0 dX9_thing_20 (by decide) ?_
      refine V_sipush 999 dX9_thing_21 (by decide) ?_
      refine V_callS (mc := 0) (ms := 0) (as := [aI l2, aI 0, aI 999]) (st := []) dX9_thing_24 okX9_isWithin stX9_isWithin lkX9_85 rfl (Nat.le_of_ble_eq_true rfl) (Nat.zero_le _) (Nat.zero_le _) (cX9_isWithin_ ?_)
      show V true mX9_thing (d + 3) _ _ 27 [(0, aR 0 0), (1, aI l1), (2, aI l2)] [aI (bI (inR l2 0 999))] h P
      refine V_if_ne 32 dX9_thing_27 (by decide) ⟨fun z => ?_, fun z => ?_⟩
      · replace k := k.1 (bI_1 z)
        refine V_aload_n 0 dX9_thing_32 rfl rfl ?_
        refine GS_0_0 dX9_thing_33 lkX9_12 ?_
        obtain ⟨n7, kf, kb1, kb2, k⟩ := k
        refine V_new (i := n7) (by decide) rt_60 rfl (Or.inr (fun _ => rfl)) dX9_thing_36 lkX9_89 (gwm 326 (by decide +kernel) (by decide +kernel)) (gwm 59 (by decide +kernel) (by decide +kernel)) kb1 kb2 kf ?_
        refine V_dup dX9_thing_39 rfl ?_
        refine V_aload_n 0 dX9_thing_40 rfl rfl ?_
        refine GI_0_10 dX9_thing_41 lkX9_73 ?_
        refine V_re (y := gI h 0 0 10) rfl ?_
        refine V_iload_n 1 dX9_thing_44 rfl rfl ?_
        refine V_iload_n 2 dX9_thing_45 rfl rfl ?_
        obtain ⟨kb1, kb2, k⟩ := k
        refine V_callI (mc := 1) (ms := 364) (as := [aI (gI h 0 0 10), aI l1, aI l2]) (st := [aR 60 n7, aR 1 0]) dX9_thing_46 okX6_init rfl rfl inX6_init lkX9_91 rfl (Nat.le_of_ble_eq_true rfl) kb1 kb2 (Cl.mono (fun r8 h9 z => ?_) k)
        obtain ⟨rfl, k⟩ := z
        obtain ⟨kb1, kb2, k⟩ := k
        refine V_callV (mc := 1) (ms := 200) (as := [aR 60 n7]) (st := []) (by decide) rt_1 rfl dX9_thing_49 okJx4a65c_add_9ea2d inJx4a65c_add_9ea2d seJx4a65c_add_9ea2d lkX9_94 rfl (Nat.le_of_ble_eq_true rfl) kb1 kb2 (Cl.mono (fun r10 h11 z => ?_) k)
        obtain ⟨x12, rfl, k⟩ := z
        refine V_pop dX9_thing_52 rfl ?_
        refine V_aload_n 0 dX9_thing_53 rfl rfl ?_
        refine GS_0_0 dX9_thing_54 lkX9_12 ?_
        refine V_callV (mc := 0) (ms := 0) (as := []) (st := []) (by decide) rt_1 rfl dX9_thing_57 okJx4a65c_size_8abf5 inJx4a65c_size_8abf5 seJx4a65c_size_8abf5 lkX9_77 rfl (Nat.le_of_ble_eq_true rfl) (Nat.zero_le _) (Nat.zero_le _) (cList_size_1 ?_)
        show V true mX9_thing (d + 3) _ _ 60 [(0, aR 0 0), (1, aI l1), (2, aI l2)] [aI (gI h11 1 0 2)] h11 P
        refine V_iconst 1 dX9_thing_60 (by decide) ?_
        refine V_isub dX9_thing_61 ?_
        exact V_ireturn dX9_thing_62 rfl k
      · replace k := k.2 (bI_0 z)
        refine V_iconst (-1) dX9_thing_30 (by decide) ?_
        exact V_ireturn dX9_thing_31 rfl k
-- X9_tag cuts []
set_option maxRecDepth 20000 in
set_option maxHeartbeats 2000000 in
theorem wX9_tag {d bc bs : Nat} {h : HS} {P : Option AV → HS → Prop} {l1 : Int32} {l2 : Int32} (k : Cl true mX9_thingAt (d + 2) 0 0 [aR 0 0, aI l1] h (fun r1 h2 => (r1 = some (aP none) ∧ (P (some (aI (-1))) h2)) ∨ (∃ t3, r1 = some (aR 60 t3) ∧ ((((inR l2 1 9999)) → (Cl true mX6_changeTag (d + 2) 0 0 [aR 60 t3, aI (gI h2 0 0 10), aI l2] h2 (fun r6 h7 => ∃ x8 : Int32, r6 = some (aI x8) ∧ (P (some (aI x8)) h7)))) ∧ ((¬ (inR l2 1 9999)) → (P (some (aI (-1))) h2)))))) : Cl true mX9_tag (d + 3) bc bs [aR 0 0, aI l1, aI l2] h P := by
  refine Cl_of (by decide) (Nat.le_of_ble_eq_true rfl) ?_
  show V true mX9_tag (d + 3) bc bs 0 [(0, aR 0 0), (1, aI l1), (2, aI l2)] [] h P
  refine V_aload_n 0 dX9_tag_0 rfl rfl ?_
  refine V_iload_n 1 dX9_tag_1 rfl rfl ?_
  refine V_callV (mc := 0) (ms := 0) (as := [aI l1]) (st := []) (by decide) rt_0 rfl dX9_tag_2 okX9_thingAt inX9_thingAt seX9_thingAt lkX9_98 rfl (Nat.le_of_ble_eq_true rfl) (Nat.zero_le _) (Nat.zero_le _) (Cl.mono (fun r1 h2 z => ?_) k)
  rcases z with ⟨rfl, k⟩ | ⟨t3, rfl, k⟩
  · skip
    refine V_astore_n 3 dX9_tag_5 rfl (by decide) rfl ?_
    refine V_aload_n 3 dX9_tag_6 rfl rfl ?_
    refine V_ifnullN 17 dX9_tag_7 (by decide) ?_
    refine V_iconst (-1) dX9_tag_17 (by decide) ?_
    exact V_ireturn dX9_tag_18 rfl k
  · skip
    refine V_astore_n 3 dX9_tag_5 rfl (by decide) rfl ?_
    refine V_aload_n 3 dX9_tag_6 rfl rfl ?_
    refine V_ifnull dX9_tag_7 ?_
    refine V_iload_n 2 dX9_tag_10 rfl rfl ?_
    refine V_callS (mc := 0) (ms := 0) (as := [aI l2]) (st := []) dX9_tag_11 okX9_isTag stX9_isTag lkX9_81 rfl (Nat.le_of_ble_eq_true rfl) (Nat.zero_le _) (Nat.zero_le _) (cX9_isTag_ ?_)
    show V true mX9_tag (d + 3) _ _ 14 [(3, aR 60 t3), (0, aR 0 0), (1, aI l1), (2, aI l2)] [aI (bI (inR l2 1 9999))] h2 P
    refine V_if_ne 19 dX9_tag_14 (by decide) ⟨fun z => ?_, fun z => ?_⟩
    · replace k := k.1 (bI_1 z)
      refine V_aload_n 3 dX9_tag_19 rfl rfl ?_
      refine V_aload_n 0 dX9_tag_20 rfl rfl ?_
      refine GI_0_10 dX9_tag_21 lkX9_73 ?_
      refine V_iload_n 2 dX9_tag_24 rfl rfl ?_
      refine V_callV (mc := 0) (ms := 0) (as := [aI (gI h2 0 0 10), aI l2]) (st := []) (by decide) rt_60 rfl dX9_tag_25 okX6_changeTag inX6_changeTag seX6_changeTag lkX9_102 rfl (Nat.le_of_ble_eq_true rfl) (Nat.zero_le _) (Nat.zero_le _) (Cl.mono (fun r6 h7 z => ?_) k)
      obtain ⟨x8, rfl, k⟩ := z
      exact V_ireturn dX9_tag_28 rfl k
    · replace k := k.2 (bI_0 z)
      refine V_iconst (-1) dX9_tag_17 (by decide) ?_
      exact V_ireturn dX9_tag_18 rfl k
-- X9_of cuts []
set_option maxRecDepth 20000 in
set_option maxHeartbeats 2000000 in
theorem wX9_of {d bc bs : Nat} {h : HS} {P : Option AV → HS → Prop} {l1 : Int32} {l2 : Int32} (k : Cl true mX9_thingAt (d + 2) 0 0 [aR 0 0, aI l1] h (fun r1 h2 => (r1 = some (aP none) ∧ (P (some (aI (-1))) h2)) ∨ (∃ t3, r1 = some (aR 60 t3) ∧ (((l2 < 1000) → ((l2 = 0 → ((gR h2 60 t3 0 = some (61, t3)) ∧ (P (some (aI (tgF h2 t3 (gI h2 0 0 10)))) h2))) ∧ (l2 = 1 → (P (some (aI (gI h2 60 t3 2))) h2)) ∧ (l2 = 2 → (P (some (aI (gI h2 60 t3 3))) h2)) ∧ (l2 = 3 → (P (some (aI (gI h2 60 t3 4))) h2)) ∧ (¬ (0 ≤ (l2).toInt ∧ (l2).toInt ≤ 3) → (P (some (aI (-1))) h2)))) ∧ ((¬ l2 < 1000) → ((((gI h2 0 0 10) < (l2 - 1000)) → (P (some (aI (-1))) h2)) ∧ ((¬ (gI h2 0 0 10) < (l2 - 1000)) → ((gR h2 60 t3 0 = some (61, t3)) ∧ (P (some (aI (tgF h2 t3 (l2 - 1000)))) h2))))))))) : Cl true mX9_of (d + 3) bc bs [aR 0 0, aI l1, aI l2] h P := by
  refine Cl_of (by decide) (Nat.le_of_ble_eq_true rfl) ?_
  show V true mX9_of (d + 3) bc bs 0 [(0, aR 0 0), (1, aI l1), (2, aI l2)] [] h P
  refine V_aload_n 0 dX9_of_0 rfl rfl ?_
  refine V_iload_n 1 dX9_of_1 rfl rfl ?_
  refine V_callV (mc := 0) (ms := 0) (as := [aI l1]) (st := []) (by decide) rt_0 rfl dX9_of_2 okX9_thingAt inX9_thingAt seX9_thingAt lkX9_98 rfl (Nat.le_of_ble_eq_true rfl) (Nat.zero_le _) (Nat.zero_le _) (Cl.mono (fun r1 h2 z => ?_) k)
  rcases z with ⟨rfl, k⟩ | ⟨t3, rfl, k⟩
  · skip
    refine V_astore_n 3 dX9_of_5 rfl (by decide) rfl ?_
    refine V_aload_n 3 dX9_of_6 rfl rfl ?_
    refine V_ifnonnullN dX9_of_7 ?_
    refine V_iconst (-1) dX9_of_10 (by decide) ?_
    exact V_ireturn dX9_of_11 rfl k
  · skip
    refine V_astore_n 3 dX9_of_5 rfl (by decide) rfl ?_
    refine V_aload_n 3 dX9_of_6 rfl rfl ?_
    refine V_ifnonnull 12 dX9_of_7 (by decide) ?_
    refine V_iload_n 2 dX9_of_12 rfl rfl ?_
    refine V_sipush 1000 dX9_of_13 (by decide) ?_
    refine V_icmp_lt 46 dX9_of_16 (by decide) ⟨fun z => ?_, fun z => ?_⟩
    · replace k := k.1 z
      refine V_iload_n 2 dX9_of_46 rfl rfl ?_
      obtain ⟨k0, k1, k2, k3, k4⟩ := k
      rcases sw_cases l2 (0) (3) (by decide) (by decide) with zo | ⟨zn, zl, zx⟩
      · have k := k4 zo
        refine V_tabOut 100 dX9_of_47 (sw_out zo) (by decide) ?_
        refine V_iconst (-1) dX9_of_100 (by decide) ?_
        exact V_ireturn dX9_of_101 rfl k
      · match zn, zl, zx with
        | 0, _, zx =>
          have zx : l2 = 0 := zx
          have k := k0 zx
          refine V_tabIn 76 dX9_of_47 (by rw [zx]; decide) (by rw [zx]; decide) (by rw [zx]; rfl) (by decide) ?_
          refine V_aload_n 3 dX9_of_76 rfl rfl ?_
          refine V_aload_n 0 dX9_of_77 rfl rfl ?_
          refine GI_0_10 dX9_of_78 lkX9_73 ?_
          obtain ⟨s6, k⟩ := k
          refine V_callV (mc := 0) (ms := 0) (as := [aI (gI h2 0 0 10)]) (st := []) (by decide) rt_60 rfl dX9_of_81 okX6_tagOn inX6_tagOn seX6_tagOn lkX9_106 rfl (Nat.le_of_ble_eq_true rfl) (Nat.zero_le _) (Nat.zero_le _) (cX6_tagOn_ s6 ?_)
          show V true mX9_of (d + 3) _ _ 84 [(3, aR 60 t3), (0, aR 0 0), (1, aI l1), (2, aI l2)] [aI (tgF h2 t3 (gI h2 0 0 10))] h2 P
          exact V_ireturn dX9_of_84 rfl k
        | 1, _, zx =>
          have zx : l2 = 1 := zx
          have k := k1 zx
          refine V_tabIn 85 dX9_of_47 (by rw [zx]; decide) (by rw [zx]; decide) (by rw [zx]; rfl) (by decide) ?_
          refine V_aload_n 3 dX9_of_85 rfl rfl ?_
          refine GI_60_2 dX9_of_86 lkX9_110 ?_
          exact V_ireturn dX9_of_89 rfl k
        | 2, _, zx =>
          have zx : l2 = 2 := zx
          have k := k2 zx
          refine V_tabIn 90 dX9_of_47 (by rw [zx]; decide) (by rw [zx]; decide) (by rw [zx]; rfl) (by decide) ?_
          refine V_aload_n 3 dX9_of_90 rfl rfl ?_
          refine GI_60_3 dX9_of_91 lkX9_113 ?_
          exact V_ireturn dX9_of_94 rfl k
        | 3, _, zx =>
          have zx : l2 = 3 := zx
          have k := k3 zx
          refine V_tabIn 95 dX9_of_47 (by rw [zx]; decide) (by rw [zx]; decide) (by rw [zx]; rfl) (by decide) ?_
          refine V_aload_n 3 dX9_of_95 rfl rfl ?_
          refine GI_60_4 dX9_of_96 lkX9_116 ?_
          exact V_ireturn dX9_of_99 rfl k
        | n + 4, zl, _ => exact absurd zl (by omega)
    · replace k := k.2 z
      refine V_iload_n 2 dX9_of_19 rfl rfl ?_
      refine V_sipush 1000 dX9_of_20 (by decide) ?_
      refine V_isub dX9_of_23 ?_
      refine V_istore 4 dX9_of_24 (by decide) rfl ?_
      refine V_iload 4 dX9_of_26 rfl ?_
      refine V_aload_n 0 dX9_of_28 rfl rfl ?_
      refine GI_0_10 dX9_of_29 lkX9_73 ?_
      refine V_icmp_gt 44 dX9_of_32 (by decide) ⟨fun z => ?_, fun z => ?_⟩
      · replace k := k.1 z
        refine V_iconst (-1) dX9_of_44 (by decide) ?_
        exact V_ireturn dX9_of_45 rfl k
      · replace k := k.2 z
        refine V_aload_n 3 dX9_of_35 rfl rfl ?_
        refine V_iload 4 dX9_of_36 rfl ?_
        obtain ⟨s9, k⟩ := k
        refine V_callV (mc := 0) (ms := 0) (as := [aI (l2 - 1000)]) (st := []) (by decide) rt_60 rfl dX9_of_38 okX6_tagOn inX6_tagOn seX6_tagOn lkX9_106 rfl (Nat.le_of_ble_eq_true rfl) (Nat.zero_le _) (Nat.zero_le _) (cX6_tagOn_ s9 ?_)
        show V true mX9_of (d + 3) _ _ 41 [(4, aI (l2 - 1000)), (3, aR 60 t3), (0, aR 0 0), (1, aI l1), (2, aI l2)] [aI (tgF h2 t3 (l2 - 1000))] h2 P
        refine V_goto 45 dX9_of_41 (by decide) ?_
        exact V_ireturn dX9_of_45 rfl k
-- X9_next cuts [24, 61]
set_option maxRecDepth 20000 in
set_option maxHeartbeats 2000000 in
theorem wX9_next {d bc bs : Nat} {h : HS} {P : Option AV → HS → Prop}  (k : (((gI h 0 0 10) < 363) → (V true mX9_next (d + 3) bc bs 24 [(0, aR 0 0), (1, aI 0)] [] (sI h 0 0 10 ((gI h 0 0 10) + 1)) P)) ∧ ((¬ (gI h 0 0 10) < 363) → (P (some (aI (-1))) h))) : Cl true mX9_next (d + 3) bc bs [aR 0 0] h P := by
  refine Cl_of (by decide) (Nat.le_of_ble_eq_true rfl) ?_
  show V true mX9_next (d + 3) bc bs 0 [(0, aR 0 0)] [] h P
  refine V_aload_n 0 dX9_next_0 rfl rfl ?_
  refine GI_0_10 dX9_next_1 lkX9_73 ?_
  refine V_sipush 363 dX9_next_4 (by decide) ?_
  refine V_icmp_lt 12 dX9_next_7 (by decide) ⟨fun z => ?_, fun z => ?_⟩
  · replace k := k.1 z
    refine V_aload_n 0 dX9_next_12 rfl rfl ?_
    refine V_dup dX9_next_13 rfl ?_
    refine GI_0_10 dX9_next_14 lkX9_73 ?_
    refine V_iconst 1 dX9_next_17 (by decide) ?_
    refine V_iadd dX9_next_18 ?_
    refine PI_0_10 dX9_next_19 lkX9_73 ?_
    refine V_iconst 0 dX9_next_22 (by decide) ?_
    refine V_istore_n 1 dX9_next_23 rfl (by decide) rfl ?_
    exact V_lv [1, 0] rfl k
  · replace k := k.2 z
    refine V_iconst (-1) dX9_next_10 (by decide) ?_
    exact V_ireturn dX9_next_11 rfl k
set_option maxRecDepth 20000 in
set_option maxHeartbeats 2000000 in
theorem wX9_next_24 {d bc bs : Nat} {h : HS} {P : Option AV → HS → Prop} {l1 : Int32} (k : (((gI h 1 0 2) ≤ l1) → (V true mX9_next (d + 3) bc bs 61 [(0, aR 0 0), (1, aI 0)] [] h P)) ∧ ((¬ (gI h 1 0 2) ≤ l1) → (Cl true mJx4a65c_get_915e3 (d + 2) 0 0 [aR 1 0, aI l1] h (fun r3 h4 => ∃ t5, r3 = some (aR 60 t5) ∧ (Cl true mX6_keepTag (d + 2) 0 0 [aR 60 t5, aI (gI h4 0 0 10)] h4 (fun r6 h7 => r6 = none ∧ (V true mX9_next (d + 3) bc bs 24 [(0, aR 0 0), (1, aI (l1 + 1))] [] h7 P))))))) : V true mX9_next (d + 3) bc bs 24 [(0, aR 0 0), (1, aI l1)] [] h P := by
  refine V_iload_n 1 dX9_next_24 rfl rfl ?_
  refine V_aload_n 0 dX9_next_25 rfl rfl ?_
  refine GS_0_0 dX9_next_26 lkX9_12 ?_
  refine V_callV (mc := 0) (ms := 0) (as := []) (st := [aI l1]) (by decide) rt_1 rfl dX9_next_29 okJx4a65c_size_8abf5 inJx4a65c_size_8abf5 seJx4a65c_size_8abf5 lkX9_77 rfl (Nat.le_of_ble_eq_true rfl) (Nat.zero_le _) (Nat.zero_le _) (cList_size_1 ?_)
  show V true mX9_next (d + 3) _ _ 32 [(0, aR 0 0), (1, aI l1)] [aI (gI h 1 0 2), aI l1] h P
  refine V_icmp_ge 59 dX9_next_32 (by decide) ⟨fun z => ?_, fun z => ?_⟩
  · replace k := k.1 z
    refine V_iconst 0 dX9_next_59 (by decide) ?_
    refine V_istore_n 1 dX9_next_60 rfl (by decide) rfl ?_
    exact V_lv [1, 0] rfl k
  · replace k := k.2 z
    refine V_aload_n 0 dX9_next_35 rfl rfl ?_
    refine GS_0_0 dX9_next_36 lkX9_12 ?_
    refine V_iload_n 1 dX9_next_39 rfl rfl ?_
    refine V_callV (mc := 0) (ms := 0) (as := [aI l1]) (st := []) (by decide) rt_1 rfl dX9_next_40 okJx4a65c_get_915e3 inJx4a65c_get_915e3 seJx4a65c_get_915e3 lkX9_119 rfl (Nat.le_of_ble_eq_true rfl) (Nat.zero_le _) (Nat.zero_le _) (Cl.mono (fun r3 h4 z => ?_) k)
    obtain ⟨t5, rfl, k⟩ := z
    refine V_cast (by decide) rt_60 rfl lkX9_89 dX9_next_43 ?_
    refine V_aload_n 0 dX9_next_46 rfl rfl ?_
    refine GI_0_10 dX9_next_47 lkX9_73 ?_
    refine V_callV (mc := 0) (ms := 0) (as := [aI (gI h4 0 0 10)]) (st := []) (by decide) rt_60 rfl dX9_next_50 okX6_keepTag inX6_keepTag seX6_keepTag lkX9_123 rfl (Nat.le_of_ble_eq_true rfl) (Nat.zero_le _) (Nat.zero_le _) (Cl.mono (fun r6 h7 z => ?_) k)
    obtain ⟨rfl, k⟩ := z
    refine V_iinc 1 (v := l1 + 1) dX9_next_53 rfl rfl (by decide) rfl ?_
    refine V_goto 24 dX9_next_56 (by decide) ?_
    exact V_lv [1, 0] rfl k
set_option maxRecDepth 20000 in
set_option maxHeartbeats 2000000 in
theorem wX9_next_61 {d bc bs : Nat} {h : HS} {P : Option AV → HS → Prop} {l1 : Int32} (k : (((gI h 2 0 2) ≤ l1) → (P (some (aI (gI h 0 0 10))) (sI h 3 0 3 0))) ∧ ((¬ (gI h 2 0 2) ≤ l1) → (Cl true mJx4a65c_get_915e3 (d + 2) 0 0 [aR 2 0, aI l1] h (fun r3 h4 => ∃ t5, r3 = some (aR 62 t5) ∧ (Cl true mX3_sellBy (d + 2) 0 0 [aR 62 t5, aI (gI h4 0 0 10)] h4 (fun r6 h7 => r6 = none ∧ (V true mX9_next (d + 3) bc bs 61 [(0, aR 0 0), (1, aI (l1 + 1))] [] h7 P))))))) : V true mX9_next (d + 3) bc bs 61 [(0, aR 0 0), (1, aI l1)] [] h P := by
  refine V_iload_n 1 dX9_next_61 rfl rfl ?_
  refine V_aload_n 0 dX9_next_62 rfl rfl ?_
  refine GS_0_1 dX9_next_63 lkX9_16 ?_
  refine V_callV (mc := 0) (ms := 0) (as := []) (st := [aI l1]) (by decide) rt_2 rfl dX9_next_66 okJx4a65c_size_8abf5 inJx4a65c_size_8abf5 seJx4a65c_size_8abf5 lkX9_77 rfl (Nat.le_of_ble_eq_true rfl) (Nat.zero_le _) (Nat.zero_le _) (cList_size_2 ?_)
  show V true mX9_next (d + 3) _ _ 69 [(0, aR 0 0), (1, aI l1)] [aI (gI h 2 0 2), aI l1] h P
  refine V_icmp_ge 96 dX9_next_69 (by decide) ⟨fun z => ?_, fun z => ?_⟩
  · replace k := k.1 z
    refine V_aload_n 0 dX9_next_96 rfl rfl ?_
    refine GS_0_2 dX9_next_97 lkX9_22 ?_
    refine V_iconst 0 dX9_next_100 (by decide) ?_
    refine PI_3_3 dX9_next_101 lkX9_132 ?_
    refine V_aload_n 0 dX9_next_104 rfl rfl ?_
    refine GI_0_10 dX9_next_105 lkX9_73 ?_
    refine V_re (y := gI h 0 0 10) rfl ?_
    exact V_ireturn dX9_next_108 rfl k
  · replace k := k.2 z
    refine V_aload_n 0 dX9_next_72 rfl rfl ?_
    refine GS_0_1 dX9_next_73 lkX9_16 ?_
    refine V_iload_n 1 dX9_next_76 rfl rfl ?_
    refine V_callV (mc := 0) (ms := 0) (as := [aI l1]) (st := []) (by decide) rt_2 rfl dX9_next_77 okJx4a65c_get_915e3 inJx4a65c_get_915e3 seJx4a65c_get_915e3 lkX9_119 rfl (Nat.le_of_ble_eq_true rfl) (Nat.zero_le _) (Nat.zero_le _) (Cl.mono (fun r3 h4 z => ?_) k)
    obtain ⟨t5, rfl, k⟩ := z
    refine V_cast (by decide) rt_62 rfl lkX9_127 dX9_next_80 ?_
    refine V_aload_n 0 dX9_next_83 rfl rfl ?_
    refine GI_0_10 dX9_next_84 lkX9_73 ?_
    refine V_callV (mc := 0) (ms := 0) (as := [aI (gI h4 0 0 10)]) (st := []) (by decide) rt_62 rfl dX9_next_87 okX3_sellBy inX3_sellBy seX3_sellBy lkX9_129 rfl (Nat.le_of_ble_eq_true rfl) (Nat.zero_le _) (Nat.zero_le _) (Cl.mono (fun r6 h7 z => ?_) k)
    obtain ⟨rfl, k⟩ := z
    refine V_iinc 1 (v := l1 + 1) dX9_next_90 rfl rfl (by decide) rfl ?_
    refine V_goto 61 dX9_next_93 (by decide) ?_
    exact V_lv [1, 0] rfl k
-- X9_slip cuts []
set_option maxRecDepth 20000 in
set_option maxHeartbeats 2000000 in
theorem wX9_slip {d bc bs : Nat} {h : HS} {P : Option AV → HS → Prop} {l1 : Int32} {l2 : Int32} {l3 : Int32} {l4 : Int32} {l5 : Int32} {l6 : Int32} {l7 : Int32} (k : Cl true mX9_thingAt (d + 2) 0 0 [aR 0 0, aI l4] h (fun r1 h2 => (r1 = some (aP none) ∧ (P (some (aI (-1))) h2)) ∨ (∃ t3, r1 = some (aR 60 t3) ∧ ((((gI h2 2 0 2) < 120) → (((¬ (buyP l1 l3)) → (P (some (aI (-1))) h2)) ∧ (((buyP l1 l3)) → (((¬ (inR l2 0 7)) → (P (some (aI (-1))) h2)) ∧ (((inR l2 0 7)) → ((((inR l6 (-1) 19)) → (((¬ (inR l7 ((gI h2 0 0 10) - 28) (gI h2 0 0 10))) → (P (some (aI (-1))) h2)) ∧ (((inR l7 ((gI h2 0 0 10) - 28) (gI h2 0 0 10))) → ((((gI h2 60 t3 1) ≤ l7) → (((¬ (inR l5 1 99)) → (P (some (aI (-1))) h2)) ∧ (((inR l5 1 99)) → (((l5 ≤ (gI h2 60 t3 2)) → (∃ n16 : Nat, (62, n16) ∉ (sI h2 60 t3 2 ((gI h2 60 t3 2) - l5)).2.2 ∧ 1 ≤ bc ∧ 12 ≤ bs ∧ (Cl true mX3_init (d + 2) 0 0 [aR 62 n16, aI l1, aI l2, aI l3, aR 60 t3, aI l5, aI l6, aI l7] (nw (sI h2 60 t3 2 ((gI h2 60 t3 2) - l5)) 62 n16) (fun r17 h18 => r17 = none ∧ (Cl true mX3_sellBy (d + 2) 0 0 [aR 62 n16, aI (gI h18 0 0 10)] (sI h18 62 n16 8 (gI h18 0 0 10)) (fun r19 h20 => r19 = none ∧ (1 ≤ (bc - 1) ∧ 200 ≤ (bs - 12) ∧ (Cl true mJx4a65c_add_9ea2d (d + 2) 1 200 [aR 2 0, aR 62 n16] h20 (fun r21 h22 => ∃ x23 : Int32, r21 = some (aI x23) ∧ (P (some (aI ((gI h22 2 0 2) - 1))) h22)))))))))) ∧ ((¬ l5 ≤ (gI h2 60 t3 2)) → (P (some (aI (-1))) h2)))))) ∧ ((¬ (gI h2 60 t3 1) ≤ l7) → (P (some (aI (-1))) h2)))))) ∧ ((¬ (inR l6 (-1) 19)) → (P (some (aI (-1))) h2)))))))) ∧ ((¬ (gI h2 2 0 2) < 120) → (P (some (aI (-1))) h2)))))) : Cl true mX9_slip (d + 3) bc bs [aR 0 0, aI l1, aI l2, aI l3, aI l4, aI l5, aI l6, aI l7] h P := by
  refine Cl_of (by decide) (Nat.le_of_ble_eq_true rfl) ?_
  show V true mX9_slip (d + 3) bc bs 0 [(0, aR 0 0), (1, aI l1), (2, aI l2), (3, aI l3), (4, aI l4), (5, aI l5), (6, aI l6), (7, aI l7)] [] h P
  refine V_aload_n 0 dX9_slip_0 rfl rfl ?_
  refine V_iload 4 dX9_slip_1 rfl ?_
  refine V_callV (mc := 0) (ms := 0) (as := [aI l4]) (st := []) (by decide) rt_0 rfl dX9_slip_3 okX9_thingAt inX9_thingAt seX9_thingAt lkX9_98 rfl (Nat.le_of_ble_eq_true rfl) (Nat.zero_le _) (Nat.zero_le _) (Cl.mono (fun r1 h2 z => ?_) k)
  rcases z with ⟨rfl, k⟩ | ⟨t3, rfl, k⟩
  · skip
    refine V_astore 8 dX9_slip_6 (by decide) rfl ?_
    refine V_aload 8 dX9_slip_8 rfl ?_
    refine V_ifnullN 25 dX9_slip_10 (by decide) ?_
    refine V_iconst (-1) dX9_slip_25 (by decide) ?_
    exact V_ireturn dX9_slip_26 rfl k
  · skip
    refine V_astore 8 dX9_slip_6 (by decide) rfl ?_
    refine V_aload 8 dX9_slip_8 rfl ?_
    refine V_ifnull dX9_slip_10 ?_
    refine V_aload_n 0 dX9_slip_13 rfl rfl ?_
    refine GS_0_1 dX9_slip_14 lkX9_16 ?_
    refine V_callV (mc := 0) (ms := 0) (as := []) (st := []) (by decide) rt_2 rfl dX9_slip_17 okJx4a65c_size_8abf5 inJx4a65c_size_8abf5 seJx4a65c_size_8abf5 lkX9_77 rfl (Nat.le_of_ble_eq_true rfl) (Nat.zero_le _) (Nat.zero_le _) (cList_size_2 ?_)
    show V true mX9_slip (d + 3) _ _ 20 [(8, aR 60 t3), (0, aR 0 0), (1, aI l1), (2, aI l2), (3, aI l3), (4, aI l4), (5, aI l5), (6, aI l6), (7, aI l7)] [aI (gI h2 2 0 2)] h2 P
    refine V_bipush 120 dX9_slip_20 (by decide) ?_
    refine V_icmp_lt 27 dX9_slip_22 (by decide) ⟨fun z => ?_, fun z => ?_⟩
    · replace k := k.1 z
      refine V_iload_n 1 dX9_slip_27 rfl rfl ?_
      refine V_iload_n 3 dX9_slip_28 rfl rfl ?_
      refine V_callS (mc := 0) (ms := 0) (as := [aI l1, aI l3]) (st := []) dX9_slip_29 okX9_isBuyer stX9_isBuyer lkX9_135 rfl (Nat.le_of_ble_eq_true rfl) (Nat.zero_le _) (Nat.zero_le _) (cX9_isBuyer_ ?_)
      show V true mX9_slip (d + 3) _ _ 32 [(8, aR 60 t3), (0, aR 0 0), (1, aI l1), (2, aI l2), (3, aI l3), (4, aI l4), (5, aI l5), (6, aI l6), (7, aI l7)] [aI (bI (buyP l1 l3))] h2 P
      refine V_if_eq 53 dX9_slip_32 (by decide) ⟨fun z => ?_, fun z => ?_⟩
      · replace k := k.1 (bI_0 z)
        refine V_iconst (-1) dX9_slip_53 (by decide) ?_
        exact V_ireturn dX9_slip_54 rfl k
      · replace k := k.2 (bI_1 z)
        refine V_iload_n 2 dX9_slip_35 rfl rfl ?_
        refine V_iconst 0 dX9_slip_36 (by decide) ?_
        refine V_bipush 7 dX9_slip_37 (by decide) ?_
        refine V_callS (mc := 0) (ms := 0) (as := [aI l2, aI 0, aI 7]) (st := []) dX9_slip_39 okX9_isWithin stX9_isWithin lkX9_85 rfl (Nat.le_of_ble_eq_true rfl) (Nat.zero_le _) (Nat.zero_le _) (cX9_isWithin_ ?_)
        show V true mX9_slip (d + 3) _ _ 42 [(8, aR 60 t3), (0, aR 0 0), (1, aI l1), (2, aI l2), (3, aI l3), (4, aI l4), (5, aI l5), (6, aI l6), (7, aI l7)] [aI (bI (inR l2 0 7))] h2 P
        refine V_if_eq 53 dX9_slip_42 (by decide) ⟨fun z => ?_, fun z => ?_⟩
        · replace k := k.1 (bI_0 z)
          refine V_iconst (-1) dX9_slip_53 (by decide) ?_
          exact V_ireturn dX9_slip_54 rfl k
        · replace k := k.2 (bI_1 z)
          refine V_iload 6 dX9_slip_45 rfl ?_
          refine V_callS (mc := 0) (ms := 0) (as := [aI l6]) (st := []) dX9_slip_47 okX9_isHouseOrNone stX9_isHouseOrNone lkX9_139 rfl (Nat.le_of_ble_eq_true rfl) (Nat.zero_le _) (Nat.zero_le _) (cX9_isHouseOrNone_ ?_)
          show V true mX9_slip (d + 3) _ _ 50 [(8, aR 60 t3), (0, aR 0 0), (1, aI l1), (2, aI l2), (3, aI l3), (4, aI l4), (5, aI l5), (6, aI l6), (7, aI l7)] [aI (bI (inR l6 (-1) 19))] h2 P
          refine V_if_ne 55 dX9_slip_50 (by decide) ⟨fun z => ?_, fun z => ?_⟩
          · replace k := k.1 (bI_1 z)
            refine V_iload 7 dX9_slip_55 rfl ?_
            refine V_aload_n 0 dX9_slip_57 rfl rfl ?_
            refine GI_0_10 dX9_slip_58 lkX9_73 ?_
            refine V_bipush 28 dX9_slip_61 (by decide) ?_
            refine V_isub dX9_slip_63 ?_
            refine V_aload_n 0 dX9_slip_64 rfl rfl ?_
            refine GI_0_10 dX9_slip_65 lkX9_73 ?_
            refine V_callS (mc := 0) (ms := 0) (as := [aI l7, aI ((gI h2 0 0 10) - 28), aI (gI h2 0 0 10)]) (st := []) dX9_slip_68 okX9_isWithin stX9_isWithin lkX9_85 rfl (Nat.le_of_ble_eq_true rfl) (Nat.zero_le _) (Nat.zero_le _) (cX9_isWithin_ ?_)
            show V true mX9_slip (d + 3) _ _ 71 [(8, aR 60 t3), (0, aR 0 0), (1, aI l1), (2, aI l2), (3, aI l3), (4, aI l4), (5, aI l5), (6, aI l6), (7, aI l7)] [aI (bI (inR l7 ((gI h2 0 0 10) - 28) (gI h2 0 0 10)))] h2 P
            refine V_if_eq 84 dX9_slip_71 (by decide) ⟨fun z => ?_, fun z => ?_⟩
            · replace k := k.1 (bI_0 z)
              refine V_iconst (-1) dX9_slip_84 (by decide) ?_
              exact V_ireturn dX9_slip_85 rfl k
            · replace k := k.2 (bI_1 z)
              refine V_iload 7 dX9_slip_74 rfl ?_
              refine V_aload 8 dX9_slip_76 rfl ?_
              refine GI_60_1 dX9_slip_78 lkX9_142 ?_
              refine V_icmp_ge 86 dX9_slip_81 (by decide) ⟨fun z => ?_, fun z => ?_⟩
              · replace k := k.1 z
                refine V_iload 5 dX9_slip_86 rfl ?_
                refine V_iconst 1 dX9_slip_88 (by decide) ?_
                refine V_bipush 99 dX9_slip_89 (by decide) ?_
                refine V_callS (mc := 0) (ms := 0) (as := [aI l5, aI 1, aI 99]) (st := []) dX9_slip_91 okX9_isWithin stX9_isWithin lkX9_85 rfl (Nat.le_of_ble_eq_true rfl) (Nat.zero_le _) (Nat.zero_le _) (cX9_isWithin_ ?_)
                show V true mX9_slip (d + 3) _ _ 94 [(8, aR 60 t3), (0, aR 0 0), (1, aI l1), (2, aI l2), (3, aI l3), (4, aI l4), (5, aI l5), (6, aI l6), (7, aI l7)] [aI (bI (inR l5 1 99))] h2 P
                refine V_if_eq 107 dX9_slip_94 (by decide) ⟨fun z => ?_, fun z => ?_⟩
                · replace k := k.1 (bI_0 z)
                  refine V_iconst (-1) dX9_slip_107 (by decide) ?_
                  exact V_ireturn dX9_slip_108 rfl k
                · replace k := k.2 (bI_1 z)
                  refine V_iload 5 dX9_slip_97 rfl ?_
                  refine V_aload 8 dX9_slip_99 rfl ?_
                  refine GI_60_2 dX9_slip_101 lkX9_110 ?_
                  refine V_icmp_le 109 dX9_slip_104 (by decide) ⟨fun z => ?_, fun z => ?_⟩
                  · replace k := k.1 z
                    refine V_aload 8 dX9_slip_109 rfl ?_
                    refine V_dup dX9_slip_111 rfl ?_
                    refine GI_60_2 dX9_slip_112 lkX9_110 ?_
                    refine V_iload 5 dX9_slip_115 rfl ?_
                    refine V_isub dX9_slip_117 ?_
                    refine PI_60_2 dX9_slip_118 lkX9_110 ?_
                    obtain ⟨n16, kf, kb1, kb2, k⟩ := k
                    refine V_new (i := n16) (by decide) rt_62 rfl (Or.inr (fun _ => rfl)) dX9_slip_121 lkX9_127 (gwm 471 (by decide +kernel) (by decide +kernel)) (gwm 66 (by decide +kernel) (by decide +kernel)) kb1 kb2 kf ?_
                    refine V_dup dX9_slip_124 rfl ?_
                    refine V_iload_n 1 dX9_slip_125 rfl rfl ?_
                    refine V_iload_n 2 dX9_slip_126 rfl rfl ?_
                    refine V_iload_n 3 dX9_slip_127 rfl rfl ?_
                    refine V_aload 8 dX9_slip_128 rfl ?_
                    refine V_iload 5 dX9_slip_130 rfl ?_
                    refine V_iload 6 dX9_slip_132 rfl ?_
                    refine V_iload 7 dX9_slip_134 rfl ?_
                    refine V_callI (mc := 0) (ms := 0) (as := [aI l1, aI l2, aI l3, aR 60 t3, aI l5, aI l6, aI l7]) (st := [aR 62 n16]) dX9_slip_136 okX3_init rfl rfl inX3_init lkX9_145 rfl (Nat.le_of_ble_eq_true rfl) (Nat.zero_le _) (Nat.zero_le _) (Cl.mono (fun r17 h18 z => ?_) k)
                    obtain ⟨rfl, k⟩ := z
                    refine V_astore 9 dX9_slip_139 (by decide) rfl ?_
                    refine V_aload 9 dX9_slip_141 rfl ?_
                    refine V_aload_n 0 dX9_slip_143 rfl rfl ?_
                    refine GI_0_10 dX9_slip_144 lkX9_73 ?_
                    refine PI_62_8 dX9_slip_147 lkX9_148 ?_
                    refine V_aload 9 dX9_slip_150 rfl ?_
                    refine V_aload_n 0 dX9_slip_152 rfl rfl ?_
                    refine GI_0_10 dX9_slip_153 lkX9_73 ?_
                    refine V_re (y := gI h18 0 0 10) rfl ?_
                    refine V_callV (mc := 0) (ms := 0) (as := [aI (gI h18 0 0 10)]) (st := []) (by decide) rt_62 rfl dX9_slip_156 okX3_sellBy inX3_sellBy seX3_sellBy lkX9_129 rfl (Nat.le_of_ble_eq_true rfl) (Nat.zero_le _) (Nat.zero_le _) (Cl.mono (fun r19 h20 z => ?_) k)
                    obtain ⟨rfl, k⟩ := z
                    refine V_aload_n 0 dX9_slip_159 rfl rfl ?_
                    refine GS_0_1 dX9_slip_160 lkX9_16 ?_
                    refine V_aload 9 dX9_slip_163 rfl ?_
                    obtain ⟨kb1, kb2, k⟩ := k
                    refine V_callV (mc := 1) (ms := 200) (as := [aR 62 n16]) (st := []) (by decide) rt_2 rfl dX9_slip_165 okJx4a65c_add_9ea2d inJx4a65c_add_9ea2d seJx4a65c_add_9ea2d lkX9_94 rfl (Nat.le_of_ble_eq_true rfl) kb1 kb2 (Cl.mono (fun r21 h22 z => ?_) k)
                    obtain ⟨x23, rfl, k⟩ := z
                    refine V_pop dX9_slip_168 rfl ?_
                    refine V_aload_n 0 dX9_slip_169 rfl rfl ?_
                    refine GS_0_1 dX9_slip_170 lkX9_16 ?_
                    refine V_callV (mc := 0) (ms := 0) (as := []) (st := []) (by decide) rt_2 rfl dX9_slip_173 okJx4a65c_size_8abf5 inJx4a65c_size_8abf5 seJx4a65c_size_8abf5 lkX9_77 rfl (Nat.le_of_ble_eq_true rfl) (Nat.zero_le _) (Nat.zero_le _) (cList_size_2 ?_)
                    show V true mX9_slip (d + 3) _ _ 176 [(9, aR 62 n16), (8, aR 60 t3), (0, aR 0 0), (1, aI l1), (2, aI l2), (3, aI l3), (4, aI l4), (5, aI l5), (6, aI l6), (7, aI l7)] [aI (gI h22 2 0 2)] h22 P
                    refine V_iconst 1 dX9_slip_176 (by decide) ?_
                    refine V_isub dX9_slip_177 ?_
                    exact V_ireturn dX9_slip_178 rfl k
                  · replace k := k.2 z
                    refine V_iconst (-1) dX9_slip_107 (by decide) ?_
                    exact V_ireturn dX9_slip_108 rfl k
              · replace k := k.2 z
                refine V_iconst (-1) dX9_slip_84 (by decide) ?_
                exact V_ireturn dX9_slip_85 rfl k
          · replace k := k.2 (bI_0 z)
            refine V_iconst (-1) dX9_slip_53 (by decide) ?_
            exact V_ireturn dX9_slip_54 rfl k
    · replace k := k.2 z
      refine V_iconst (-1) dX9_slip_25 (by decide) ?_
      exact V_ireturn dX9_slip_26 rfl k
-- X9_paper cuts []
set_option maxRecDepth 20000 in
set_option maxHeartbeats 2000000 in
theorem wX9_paper {d bc bs : Nat} {h : HS} {P : Option AV → HS → Prop} {l1 : Int32} {l2 : Int32} (k : Cl true mX9_slipAt (d + 2) 0 0 [aR 0 0, aI l1] h (fun r1 h2 => (r1 = some (aP none) ∧ (P (some (aI (-1))) h2)) ∨ (∃ t3, r1 = some (aR 62 t3) ∧ ((l2 = 0 → (P (some (aI (stF h2 t3))) h2)) ∧ (l2 = 1 → (P (some (aI (gI h2 62 t3 7))) h2)) ∧ (l2 = 2 → (P (some (aI (gI h2 62 t3 6))) h2)) ∧ (l2 = 3 → (P (some (aI (gI h2 62 t3 8))) h2)) ∧ (l2 = 4 → (P (some (aI (gI h2 62 t3 9))) h2)) ∧ (l2 = 5 → (P (some (aI (gI h2 62 t3 10))) h2)) ∧ (l2 = 6 → (P (some (aI (gI h2 62 t3 11))) h2)) ∧ (¬ (0 ≤ (l2).toInt ∧ (l2).toInt ≤ 6) → (P (some (aI (-1))) h2)))))) : Cl true mX9_paper (d + 3) bc bs [aR 0 0, aI l1, aI l2] h P := by
  refine Cl_of (by decide) (Nat.le_of_ble_eq_true rfl) ?_
  show V true mX9_paper (d + 3) bc bs 0 [(0, aR 0 0), (1, aI l1), (2, aI l2)] [] h P
  refine V_aload_n 0 dX9_paper_0 rfl rfl ?_
  refine V_iload_n 1 dX9_paper_1 rfl rfl ?_
  refine V_callV (mc := 0) (ms := 0) (as := [aI l1]) (st := []) (by decide) rt_0 rfl dX9_paper_2 okX9_slipAt inX9_slipAt seX9_slipAt lkX9_151 rfl (Nat.le_of_ble_eq_true rfl) (Nat.zero_le _) (Nat.zero_le _) (Cl.mono (fun r1 h2 z => ?_) k)
  rcases z with ⟨rfl, k⟩ | ⟨t3, rfl, k⟩
  · skip
    refine V_astore_n 3 dX9_paper_5 rfl (by decide) rfl ?_
    refine V_aload_n 3 dX9_paper_6 rfl rfl ?_
    refine V_ifnonnullN dX9_paper_7 ?_
    refine V_iconst (-1) dX9_paper_10 (by decide) ?_
    exact V_ireturn dX9_paper_11 rfl k
  · skip
    refine V_astore_n 3 dX9_paper_5 rfl (by decide) rfl ?_
    refine V_aload_n 3 dX9_paper_6 rfl rfl ?_
    refine V_ifnonnull 12 dX9_paper_7 (by decide) ?_
    refine V_iload_n 2 dX9_paper_12 rfl rfl ?_
    obtain ⟨k0, k1, k2, k3, k4, k5, k6, k7⟩ := k
    rcases sw_cases l2 (0) (6) (by decide) (by decide) with zo | ⟨zn, zl, zx⟩
    · have k := k7 zo
      refine V_tabOut 91 dX9_paper_13 (sw_out zo) (by decide) ?_
      refine V_iconst (-1) dX9_paper_91 (by decide) ?_
      exact V_ireturn dX9_paper_92 rfl k
    · match zn, zl, zx with
      | 0, _, zx =>
        have zx : l2 = 0 := zx
        have k := k0 zx
        refine V_tabIn 56 dX9_paper_13 (by rw [zx]; decide) (by rw [zx]; decide) (by rw [zx]; rfl) (by decide) ?_
        refine V_aload_n 3 dX9_paper_56 rfl rfl ?_
        refine V_callV (mc := 0) (ms := 0) (as := []) (st := []) (by decide) rt_62 rfl dX9_paper_57 okX3_state inX3_state seX3_state lkX9_155 rfl (Nat.le_of_ble_eq_true rfl) (Nat.zero_le _) (Nat.zero_le _) (cX3_state_ ?_)
        show V true mX9_paper (d + 3) _ _ 60 [(3, aR 62 t3), (0, aR 0 0), (1, aI l1), (2, aI l2)] [aI (stF h2 t3)] h2 P
        exact V_ireturn dX9_paper_60 rfl k
      | 1, _, zx =>
        have zx : l2 = 1 := zx
        have k := k1 zx
        refine V_tabIn 61 dX9_paper_13 (by rw [zx]; decide) (by rw [zx]; decide) (by rw [zx]; rfl) (by decide) ?_
        refine V_aload_n 3 dX9_paper_61 rfl rfl ?_
        refine GI_62_7 dX9_paper_62 lkX9_158 ?_
        exact V_ireturn dX9_paper_65 rfl k
      | 2, _, zx =>
        have zx : l2 = 2 := zx
        have k := k2 zx
        refine V_tabIn 66 dX9_paper_13 (by rw [zx]; decide) (by rw [zx]; decide) (by rw [zx]; rfl) (by decide) ?_
        refine V_aload_n 3 dX9_paper_66 rfl rfl ?_
        refine GI_62_6 dX9_paper_67 lkX9_161 ?_
        exact V_ireturn dX9_paper_70 rfl k
      | 3, _, zx =>
        have zx : l2 = 3 := zx
        have k := k3 zx
        refine V_tabIn 71 dX9_paper_13 (by rw [zx]; decide) (by rw [zx]; decide) (by rw [zx]; rfl) (by decide) ?_
        refine V_aload_n 3 dX9_paper_71 rfl rfl ?_
        refine GI_62_8 dX9_paper_72 lkX9_148 ?_
        exact V_ireturn dX9_paper_75 rfl k
      | 4, _, zx =>
        have zx : l2 = 4 := zx
        have k := k4 zx
        refine V_tabIn 76 dX9_paper_13 (by rw [zx]; decide) (by rw [zx]; decide) (by rw [zx]; rfl) (by decide) ?_
        refine V_aload_n 3 dX9_paper_76 rfl rfl ?_
        refine GI_62_9 dX9_paper_77 lkX9_164 ?_
        exact V_ireturn dX9_paper_80 rfl k
      | 5, _, zx =>
        have zx : l2 = 5 := zx
        have k := k5 zx
        refine V_tabIn 81 dX9_paper_13 (by rw [zx]; decide) (by rw [zx]; decide) (by rw [zx]; rfl) (by decide) ?_
        refine V_aload_n 3 dX9_paper_81 rfl rfl ?_
        refine GI_62_10 dX9_paper_82 lkX9_167 ?_
        exact V_ireturn dX9_paper_85 rfl k
      | 6, _, zx =>
        have zx : l2 = 6 := zx
        have k := k6 zx
        refine V_tabIn 86 dX9_paper_13 (by rw [zx]; decide) (by rw [zx]; decide) (by rw [zx]; rfl) (by decide) ?_
        refine V_aload_n 3 dX9_paper_86 rfl rfl ?_
        refine GI_62_11 dX9_paper_87 lkX9_170 ?_
        exact V_ireturn dX9_paper_90 rfl k
      | n + 7, zl, _ => exact absurd zl (by omega)
-- X9_back cuts []
set_option maxRecDepth 20000 in
set_option maxHeartbeats 2000000 in
theorem wX9_back {d bc bs : Nat} {h : HS} {P : Option AV → HS → Prop} {l1 : Int32} (k : Cl true mX9_slipAt (d + 2) 0 0 [aR 0 0, aI l1] h (fun r1 h2 => (r1 = some (aP none) ∧ (P (some (aI 0)) h2)) ∨ (∃ t3, r1 = some (aR 62 t3) ∧ ((((ccbP h2 t3 (gI h2 0 0 10))) → (∃ t6, gR (sI h2 62 t3 10 (gI h2 0 0 10)) 62 t3 3 = some (60, t6) ∧ (P (some (aI 1)) (sI (sI h2 62 t3 10 (gI h2 0 0 10)) 60 t6 2 ((gI h2 60 t6 2) + (gI h2 62 t3 4)))))) ∧ ((¬ (ccbP h2 t3 (gI h2 0 0 10))) → (P (some (aI 0)) h2)))))) : Cl true mX9_back (d + 3) bc bs [aR 0 0, aI l1] h P := by
  refine Cl_of (by decide) (Nat.le_of_ble_eq_true rfl) ?_
  show V true mX9_back (d + 3) bc bs 0 [(0, aR 0 0), (1, aI l1)] [] h P
  refine V_aload_n 0 dX9_back_0 rfl rfl ?_
  refine V_iload_n 1 dX9_back_1 rfl rfl ?_
  refine V_callV (mc := 0) (ms := 0) (as := [aI l1]) (st := []) (by decide) rt_0 rfl dX9_back_2 okX9_slipAt inX9_slipAt seX9_slipAt lkX9_151 rfl (Nat.le_of_ble_eq_true rfl) (Nat.zero_le _) (Nat.zero_le _) (Cl.mono (fun r1 h2 z => ?_) k)
  rcases z with ⟨rfl, k⟩ | ⟨t3, rfl, k⟩
  · skip
    refine V_astore_n 2 dX9_back_5 rfl (by decide) rfl ?_
    refine V_aload_n 2 dX9_back_6 rfl rfl ?_
    refine V_ifnullN 21 dX9_back_7 (by decide) ?_
    refine V_iconst 0 dX9_back_21 (by decide) ?_
    exact V_zreturn dX9_back_22 rfl (by decide) k
  · skip
    refine V_astore_n 2 dX9_back_5 rfl (by decide) rfl ?_
    refine V_aload_n 2 dX9_back_6 rfl rfl ?_
    refine V_ifnull dX9_back_7 ?_
    refine V_aload_n 2 dX9_back_10 rfl rfl ?_
    refine V_aload_n 0 dX9_back_11 rfl rfl ?_
    refine GI_0_10 dX9_back_12 lkX9_73 ?_
    refine V_callV (mc := 0) (ms := 0) (as := [aI (gI h2 0 0 10)]) (st := []) (by decide) rt_62 rfl dX9_back_15 okX3_canComeBack inX3_canComeBack seX3_canComeBack lkX9_173 rfl (Nat.le_of_ble_eq_true rfl) (Nat.zero_le _) (Nat.zero_le _) (cX3_canComeBack_ ?_)
    show V true mX9_back (d + 3) _ _ 18 [(2, aR 62 t3), (0, aR 0 0), (1, aI l1)] [aI (bI (ccbP h2 t3 (gI h2 0 0 10)))] h2 P
    refine V_if_ne 23 dX9_back_18 (by decide) ⟨fun z => ?_, fun z => ?_⟩
    · replace k := k.1 (bI_1 z)
      refine V_aload_n 2 dX9_back_23 rfl rfl ?_
      refine V_aload_n 0 dX9_back_24 rfl rfl ?_
      refine GI_0_10 dX9_back_25 lkX9_73 ?_
      refine PI_62_10 dX9_back_28 lkX9_167 ?_
      refine V_aload_n 2 dX9_back_31 rfl rfl ?_
      obtain ⟨t6, kg, k⟩ := k
      refine V_getR (k := 3) (some (60, t6)) (by decide) rt_62 rfl (by decide) rfl dX9_back_32 lkX9_176 kg ?_
      refine V_dup dX9_back_35 rfl ?_
      refine GI_60_2 dX9_back_36 lkX9_110 ?_
      refine V_re (y := gI h2 60 t6 2) rfl ?_
      refine V_aload_n 2 dX9_back_39 rfl rfl ?_
      refine GI_62_4 dX9_back_40 lkX9_180 ?_
      refine V_re (y := gI h2 62 t3 4) rfl ?_
      refine V_iadd dX9_back_43 ?_
      refine PI_60_2 dX9_back_44 lkX9_110 ?_
      refine V_iconst 1 dX9_back_47 (by decide) ?_
      exact V_zreturn dX9_back_48 rfl (by decide) k
    · replace k := k.2 (bI_0 z)
      refine V_iconst 0 dX9_back_21 (by decide) ?_
      exact V_zreturn dX9_back_22 rfl (by decide) k
-- X9_look cuts []
set_option maxRecDepth 20000 in
set_option maxHeartbeats 2000000 in
theorem wX9_look {d bc bs : Nat} {h : HS} {P : Option AV → HS → Prop} {l1 : Int32} (k : (l1 = 0 → (P (some (aI (gI h 0 0 10))) h)) ∧ (l1 = 1 → (P (some (aI (gI h 1 0 2))) h)) ∧ (l1 = 2 → (P (some (aI (gI h 2 0 2))) h)) ∧ (l1 = 3 → (Cl true mX9_countOnApproval (d + 2) 0 0 [aR 0 0] h (fun r5 h6 => ∃ x7 : Int32, r5 = some (aI x7) ∧ (P (some (aI x7)) h6)))) ∧ (l1 = 4 → (Cl true mX9_countParcels (d + 2) 0 0 [aR 0 0] h (fun r8 h9 => ∃ x10 : Int32, r8 = some (aI x10) ∧ (P (some (aI x10)) h9)))) ∧ (l1 = 5 → (P (some (aI (gI h 3 0 3))) h)) ∧ (l1 = 6 → (∃ t11, gR h 0 0 8 = some (12, t11) ∧ (P (some (aI (gI h 12 t11 7))) h))) ∧ (¬ (0 ≤ (l1).toInt ∧ (l1).toInt ≤ 6) → (P (some (aI (-1))) h))) : Cl true mX9_look (d + 3) bc bs [aR 0 0, aI l1] h P := by
  refine Cl_of (by decide) (Nat.le_of_ble_eq_true rfl) ?_
  show V true mX9_look (d + 3) bc bs 0 [(0, aR 0 0), (1, aI l1)] [] h P
  refine V_iload_n 1 dX9_look_0 rfl rfl ?_
  obtain ⟨k0, k1, k2, k3, k4, k5, k6, k7⟩ := k
  rcases sw_cases l1 (0) (6) (by decide) (by decide) with zo | ⟨zn, zl, zx⟩
  · have k := k7 zo
    refine V_tabOut 91 dX9_look_1 (sw_out zo) (by decide) ?_
    refine V_iconst (-1) dX9_look_91 (by decide) ?_
    exact V_ireturn dX9_look_92 rfl k
  · match zn, zl, zx with
    | 0, _, zx =>
      have zx : l1 = 0 := zx
      have k := k0 zx
      refine V_tabIn 44 dX9_look_1 (by rw [zx]; decide) (by rw [zx]; decide) (by rw [zx]; rfl) (by decide) ?_
      refine V_aload_n 0 dX9_look_44 rfl rfl ?_
      refine GI_0_10 dX9_look_45 lkX9_73 ?_
      exact V_ireturn dX9_look_48 rfl k
    | 1, _, zx =>
      have zx : l1 = 1 := zx
      have k := k1 zx
      refine V_tabIn 49 dX9_look_1 (by rw [zx]; decide) (by rw [zx]; decide) (by rw [zx]; rfl) (by decide) ?_
      refine V_aload_n 0 dX9_look_49 rfl rfl ?_
      refine GS_0_0 dX9_look_50 lkX9_12 ?_
      refine V_callV (mc := 0) (ms := 0) (as := []) (st := []) (by decide) rt_1 rfl dX9_look_53 okJx4a65c_size_8abf5 inJx4a65c_size_8abf5 seJx4a65c_size_8abf5 lkX9_77 rfl (Nat.le_of_ble_eq_true rfl) (Nat.zero_le _) (Nat.zero_le _) (cList_size_1 ?_)
      show V true mX9_look (d + 3) _ _ 56 [(0, aR 0 0), (1, aI l1)] [aI (gI h 1 0 2)] h P
      exact V_ireturn dX9_look_56 rfl k
    | 2, _, zx =>
      have zx : l1 = 2 := zx
      have k := k2 zx
      refine V_tabIn 57 dX9_look_1 (by rw [zx]; decide) (by rw [zx]; decide) (by rw [zx]; rfl) (by decide) ?_
      refine V_aload_n 0 dX9_look_57 rfl rfl ?_
      refine GS_0_1 dX9_look_58 lkX9_16 ?_
      refine V_callV (mc := 0) (ms := 0) (as := []) (st := []) (by decide) rt_2 rfl dX9_look_61 okJx4a65c_size_8abf5 inJx4a65c_size_8abf5 seJx4a65c_size_8abf5 lkX9_77 rfl (Nat.le_of_ble_eq_true rfl) (Nat.zero_le _) (Nat.zero_le _) (cList_size_2 ?_)
      show V true mX9_look (d + 3) _ _ 64 [(0, aR 0 0), (1, aI l1)] [aI (gI h 2 0 2)] h P
      exact V_ireturn dX9_look_64 rfl k
    | 3, _, zx =>
      have zx : l1 = 3 := zx
      have k := k3 zx
      refine V_tabIn 65 dX9_look_1 (by rw [zx]; decide) (by rw [zx]; decide) (by rw [zx]; rfl) (by decide) ?_
      refine V_aload_n 0 dX9_look_65 rfl rfl ?_
      refine V_callV (mc := 0) (ms := 0) (as := []) (st := []) (by decide) rt_0 rfl dX9_look_66 okX9_countOnApproval inX9_countOnApproval seX9_countOnApproval lkX9_183 rfl (Nat.le_of_ble_eq_true rfl) (Nat.zero_le _) (Nat.zero_le _) (Cl.mono (fun r5 h6 z => ?_) k)
      obtain ⟨x7, rfl, k⟩ := z
      exact V_ireturn dX9_look_69 rfl k
    | 4, _, zx =>
      have zx : l1 = 4 := zx
      have k := k4 zx
      refine V_tabIn 70 dX9_look_1 (by rw [zx]; decide) (by rw [zx]; decide) (by rw [zx]; rfl) (by decide) ?_
      refine V_aload_n 0 dX9_look_70 rfl rfl ?_
      refine V_callV (mc := 0) (ms := 0) (as := []) (st := []) (by decide) rt_0 rfl dX9_look_71 okX9_countParcels inX9_countParcels seX9_countParcels lkX9_186 rfl (Nat.le_of_ble_eq_true rfl) (Nat.zero_le _) (Nat.zero_le _) (Cl.mono (fun r8 h9 z => ?_) k)
      obtain ⟨x10, rfl, k⟩ := z
      exact V_ireturn dX9_look_74 rfl k
    | 5, _, zx =>
      have zx : l1 = 5 := zx
      have k := k5 zx
      refine V_tabIn 75 dX9_look_1 (by rw [zx]; decide) (by rw [zx]; decide) (by rw [zx]; rfl) (by decide) ?_
      refine V_aload_n 0 dX9_look_75 rfl rfl ?_
      refine GS_0_2 dX9_look_76 lkX9_22 ?_
      refine GI_3_3 dX9_look_79 lkX9_132 ?_
      exact V_ireturn dX9_look_82 rfl k
    | 6, _, zx =>
      have zx : l1 = 6 := zx
      have k := k6 zx
      refine V_tabIn 83 dX9_look_1 (by rw [zx]; decide) (by rw [zx]; decide) (by rw [zx]; rfl) (by decide) ?_
      refine V_aload_n 0 dX9_look_83 rfl rfl ?_
      obtain ⟨t11, kg, k⟩ := k
      refine V_getR (k := 8) (some (12, t11)) (by decide) rt_0 rfl (by decide) rfl dX9_look_84 lkX9_43 kg ?_
      refine GI_12_7 dX9_look_87 lkX9_189 ?_
      exact V_ireturn dX9_look_90 rfl k
    | n + 7, zl, _ => exact absurd zl (by omega)
-- X9_van cuts []
set_option maxRecDepth 20000 in
set_option maxHeartbeats 2000000 in
theorem wX9_van {d bc bs : Nat} {h : HS} {P : Option AV → HS → Prop} {l1 : Int32} (k : ((¬ (inR l1 0 500)) → (P (some (aI (-1))) h)) ∧ (((inR l1 0 500)) → ((((gI h 3 0 3) < 2) → (Cl true mX8_goRound (d + 2) 0 0 [aR 3 0, aR 2 0, aI l1, aI (gI h 0 0 10)] h (fun r3 h4 => ∃ x5 : Int32, r3 = some (aI x5) ∧ (P (some (aI x5)) h4)))) ∧ ((¬ (gI h 3 0 3) < 2) → (P (some (aI (-1))) h))))) : Cl true mX9_van (d + 3) bc bs [aR 0 0, aI l1] h P := by
  refine Cl_of (by decide) (Nat.le_of_ble_eq_true rfl) ?_
  show V true mX9_van (d + 3) bc bs 0 [(0, aR 0 0), (1, aI l1)] [] h P
  refine V_iload_n 1 dX9_van_0 rfl rfl ?_
  refine V_iconst 0 dX9_van_1 (by decide) ?_
  refine V_sipush 500 dX9_van_2 (by decide) ?_
  refine V_callS (mc := 0) (ms := 0) (as := [aI l1, aI 0, aI 500]) (st := []) dX9_van_5 okX9_isWithin stX9_isWithin lkX9_85 rfl (Nat.le_of_ble_eq_true rfl) (Nat.zero_le _) (Nat.zero_le _) (cX9_isWithin_ ?_)
  show V true mX9_van (d + 3) _ _ 8 [(0, aR 0 0), (1, aI l1)] [aI (bI (inR l1 0 500))] h P
  refine V_if_eq 22 dX9_van_8 (by decide) ⟨fun z => ?_, fun z => ?_⟩
  · replace k := k.1 (bI_0 z)
    refine V_iconst (-1) dX9_van_22 (by decide) ?_
    exact V_ireturn dX9_van_23 rfl k
  · replace k := k.2 (bI_1 z)
    refine V_aload_n 0 dX9_van_11 rfl rfl ?_
    refine GS_0_2 dX9_van_12 lkX9_22 ?_
    refine GI_3_3 dX9_van_15 lkX9_132 ?_
    refine V_iconst 2 dX9_van_18 (by decide) ?_
    refine V_icmp_lt 24 dX9_van_19 (by decide) ⟨fun z => ?_, fun z => ?_⟩
    · replace k := k.1 z
      refine V_aload_n 0 dX9_van_24 rfl rfl ?_
      refine GS_0_2 dX9_van_25 lkX9_22 ?_
      refine V_aload_n 0 dX9_van_28 rfl rfl ?_
      refine GS_0_1 dX9_van_29 lkX9_16 ?_
      refine V_iload_n 1 dX9_van_32 rfl rfl ?_
      refine V_aload_n 0 dX9_van_33 rfl rfl ?_
      refine GI_0_10 dX9_van_34 lkX9_73 ?_
      refine V_callV (mc := 0) (ms := 0) (as := [aR 2 0, aI l1, aI (gI h 0 0 10)]) (st := []) (by decide) rt_3 rfl dX9_van_37 okX8_goRound inX8_goRound seX8_goRound lkX9_192 rfl (Nat.le_of_ble_eq_true rfl) (Nat.zero_le _) (Nat.zero_le _) (Cl.mono (fun r3 h4 z => ?_) k)
      obtain ⟨x5, rfl, k⟩ := z
      exact V_ireturn dX9_van_40 rfl k
    · replace k := k.2 z
      refine V_iconst (-1) dX9_van_22 (by decide) ?_
      exact V_ireturn dX9_van_23 rfl k
-- X9_house cuts []
set_option maxRecDepth 20000 in
set_option maxHeartbeats 2000000 in
theorem wX9_house {d bc bs : Nat} {h : HS} {P : Option AV → HS → Prop} {l1 : Int32} (k : Cl true mX8_houseAt (d + 2) 0 0 [aR 3 0, aI l1] h (fun r1 h2 => ∃ x3 : Int32, r1 = some (aI x3) ∧ (P (some (aI x3)) h2))) : Cl true mX9_house (d + 3) bc bs [aR 0 0, aI l1] h P := by
  refine Cl_of (by decide) (Nat.le_of_ble_eq_true rfl) ?_
  show V true mX9_house (d + 3) bc bs 0 [(0, aR 0 0), (1, aI l1)] [] h P
  refine V_aload_n 0 dX9_house_0 rfl rfl ?_
  refine GS_0_2 dX9_house_1 lkX9_22 ?_
  refine V_iload_n 1 dX9_house_4 rfl rfl ?_
  refine V_callV (mc := 0) (ms := 0) (as := [aI l1]) (st := []) (by decide) rt_3 rfl dX9_house_5 okX8_houseAt inX8_houseAt seX8_houseAt lkX9_196 rfl (Nat.le_of_ble_eq_true rfl) (Nat.zero_le _) (Nat.zero_le _) (Cl.mono (fun r1 h2 z => ?_) k)
  obtain ⟨x3, rfl, k⟩ := z
  exact V_ireturn dX9_house_8 rfl k
-- X9_feed cuts []
set_option maxRecDepth 20000 in
set_option maxHeartbeats 2000000 in
theorem wX9_feed {d bc bs : Nat} {h : HS} {P : Option AV → HS → Prop} {l1 : Int32} {l2 : Int32} {l3 : Int32} {l4 : Int32} {l5 : Int32} (k : (((gI h 6 0 1) ≤ 380) → (Cl true mX5_append (d + 2) 0 0 [aR 6 0, aI l1] h (fun r1 h2 => r1 = none ∧ (Cl true mX5_append (d + 2) 0 0 [aR 6 0, aI l2] h2 (fun r3 h4 => r3 = none ∧ (Cl true mX5_append (d + 2) 0 0 [aR 6 0, aI l3] h4 (fun r5 h6 => r5 = none ∧ (Cl true mX5_append (d + 2) 0 0 [aR 6 0, aI l4] h6 (fun r7 h8 => r7 = none ∧ (Cl true mX5_append (d + 2) 0 0 [aR 6 0, aI l5] h8 (fun r9 h10 => r9 = none ∧ (P (some (aI (gI h10 6 0 1))) h10)))))))))))) ∧ ((¬ (gI h 6 0 1) ≤ 380) → (P (some (aI (-1))) h))) : Cl true mX9_feed (d + 3) bc bs [aR 0 0, aI l1, aI l2, aI l3, aI l4, aI l5] h P := by
  refine Cl_of (by decide) (Nat.le_of_ble_eq_true rfl) ?_
  show V true mX9_feed (d + 3) bc bs 0 [(0, aR 0 0), (1, aI l1), (2, aI l2), (3, aI l3), (4, aI l4), (5, aI l5)] [] h P
  refine V_aload_n 0 dX9_feed_0 rfl rfl ?_
  refine GS_0_3 dX9_feed_1 lkX9_29 ?_
  refine GI_6_1 dX9_feed_4 lkX9_199 ?_
  refine V_sipush 380 dX9_feed_7 (by decide) ?_
  refine V_icmp_le 15 dX9_feed_10 (by decide) ⟨fun z => ?_, fun z => ?_⟩
  · replace k := k.1 z
    refine V_aload_n 0 dX9_feed_15 rfl rfl ?_
    refine GS_0_3 dX9_feed_16 lkX9_29 ?_
    refine V_iload_n 1 dX9_feed_19 rfl rfl ?_
    refine V_callV (mc := 0) (ms := 0) (as := [aI l1]) (st := []) (by decide) rt_6 rfl dX9_feed_20 okX5_append inX5_append seX5_append lkX9_202 rfl (Nat.le_of_ble_eq_true rfl) (Nat.zero_le _) (Nat.zero_le _) (Cl.mono (fun r1 h2 z => ?_) k)
    obtain ⟨rfl, k⟩ := z
    refine V_aload_n 0 dX9_feed_23 rfl rfl ?_
    refine GS_0_3 dX9_feed_24 lkX9_29 ?_
    refine V_iload_n 2 dX9_feed_27 rfl rfl ?_
    refine V_callV (mc := 0) (ms := 0) (as := [aI l2]) (st := []) (by decide) rt_6 rfl dX9_feed_28 okX5_append inX5_append seX5_append lkX9_202 rfl (Nat.le_of_ble_eq_true rfl) (Nat.zero_le _) (Nat.zero_le _) (Cl.mono (fun r3 h4 z => ?_) k)
    obtain ⟨rfl, k⟩ := z
    refine V_aload_n 0 dX9_feed_31 rfl rfl ?_
    refine GS_0_3 dX9_feed_32 lkX9_29 ?_
    refine V_iload_n 3 dX9_feed_35 rfl rfl ?_
    refine V_callV (mc := 0) (ms := 0) (as := [aI l3]) (st := []) (by decide) rt_6 rfl dX9_feed_36 okX5_append inX5_append seX5_append lkX9_202 rfl (Nat.le_of_ble_eq_true rfl) (Nat.zero_le _) (Nat.zero_le _) (Cl.mono (fun r5 h6 z => ?_) k)
    obtain ⟨rfl, k⟩ := z
    refine V_aload_n 0 dX9_feed_39 rfl rfl ?_
    refine GS_0_3 dX9_feed_40 lkX9_29 ?_
    refine V_iload 4 dX9_feed_43 rfl ?_
    refine V_callV (mc := 0) (ms := 0) (as := [aI l4]) (st := []) (by decide) rt_6 rfl dX9_feed_45 okX5_append inX5_append seX5_append lkX9_202 rfl (Nat.le_of_ble_eq_true rfl) (Nat.zero_le _) (Nat.zero_le _) (Cl.mono (fun r7 h8 z => ?_) k)
    obtain ⟨rfl, k⟩ := z
    refine V_aload_n 0 dX9_feed_48 rfl rfl ?_
    refine GS_0_3 dX9_feed_49 lkX9_29 ?_
    refine V_iload 5 dX9_feed_52 rfl ?_
    refine V_callV (mc := 0) (ms := 0) (as := [aI l5]) (st := []) (by decide) rt_6 rfl dX9_feed_54 okX5_append inX5_append seX5_append lkX9_202 rfl (Nat.le_of_ble_eq_true rfl) (Nat.zero_le _) (Nat.zero_le _) (Cl.mono (fun r9 h10 z => ?_) k)
    obtain ⟨rfl, k⟩ := z
    refine V_aload_n 0 dX9_feed_57 rfl rfl ?_
    refine GS_0_3 dX9_feed_58 lkX9_29 ?_
    refine GI_6_1 dX9_feed_61 lkX9_199 ?_
    exact V_ireturn dX9_feed_64 rfl k
  · replace k := k.2 z
    refine V_iconst (-1) dX9_feed_13 (by decide) ?_
    exact V_ireturn dX9_feed_14 rfl k
-- X9_end cuts []
set_option maxRecDepth 20000 in
set_option maxHeartbeats 2000000 in
theorem wX9_end {d bc bs : Nat} {h : HS} {P : Option AV → HS → Prop} {l1 : Int32} (k : (((inR l1 0 (gI h 6 0 1))) → (P (some (aI 1)) (sI h 6 0 1 l1))) ∧ ((¬ (inR l1 0 (gI h 6 0 1))) → (P (some (aI 0)) h))) : Cl true mX9_end (d + 3) bc bs [aR 0 0, aI l1] h P := by
  refine Cl_of (by decide) (Nat.le_of_ble_eq_true rfl) ?_
  show V true mX9_end (d + 3) bc bs 0 [(0, aR 0 0), (1, aI l1)] [] h P
  refine V_iload_n 1 dX9_end_0 rfl rfl ?_
  refine V_iconst 0 dX9_end_1 (by decide) ?_
  refine V_aload_n 0 dX9_end_2 rfl rfl ?_
  refine GS_0_3 dX9_end_3 lkX9_29 ?_
  refine GI_6_1 dX9_end_6 lkX9_199 ?_
  refine V_callS (mc := 0) (ms := 0) (as := [aI l1, aI 0, aI (gI h 6 0 1)]) (st := []) dX9_end_9 okX9_isWithin stX9_isWithin lkX9_85 rfl (Nat.le_of_ble_eq_true rfl) (Nat.zero_le _) (Nat.zero_le _) (cX9_isWithin_ ?_)
  show V true mX9_end (d + 3) _ _ 12 [(0, aR 0 0), (1, aI l1)] [aI (bI (inR l1 0 (gI h 6 0 1)))] h P
  refine V_if_ne 17 dX9_end_12 (by decide) ⟨fun z => ?_, fun z => ?_⟩
  · replace k := k.1 (bI_1 z)
    refine V_aload_n 0 dX9_end_17 rfl rfl ?_
    refine GS_0_3 dX9_end_18 lkX9_29 ?_
    refine V_iload_n 1 dX9_end_21 rfl rfl ?_
    refine PI_6_1 dX9_end_22 lkX9_199 ?_
    refine V_iconst 1 dX9_end_25 (by decide) ?_
    exact V_zreturn dX9_end_26 rfl (by decide) k
  · replace k := k.2 (bI_0 z)
    refine V_iconst 0 dX9_end_15 (by decide) ?_
    exact V_zreturn dX9_end_16 rfl (by decide) k
-- X9_rule cuts []
set_option maxRecDepth 20000 in
set_option maxHeartbeats 2000000 in
theorem wX9_rule {d bc bs : Nat} {h : HS} {P : Option AV → HS → Prop}  (k : Cl true mX7_scan (d + 2) 0 0 [aR 8 0, aR 7 0, aI (gI h 6 0 1)] h (fun r1 h2 => r1 = none ∧ (∃ t3, gR (sI h2 6 0 1 0) 0 0 9 = some (12, t3) ∧ (Cl true mX2_read (d + 2) 0 0 [aR 19 0, aR 12 t3] (sI h2 6 0 1 0) (fun r4 h5 => ∃ x6 : Int32, r4 = some (aI x6) ∧ (((¬ x6 = 0) → (∃ t7, gR h5 0 0 8 = some (12, t7) ∧ (∃ t8, gR h5 0 0 9 = some (12, t8) ∧ (∃ t9, gR (sR (sR h5 0 0 8 (some (12, t8))) 0 0 9 (some (12, t7))) 0 0 8 = some (12, t9) ∧ (P (some (aI (gI h5 12 t9 7))) (sR (sR h5 0 0 8 (some (12, t8))) 0 0 9 (some (12, t7)))))))) ∧ ((x6 = 0) → (P (some (aI (-1))) h5)))))))) : Cl true mX9_rule (d + 3) bc bs [aR 0 0] h P := by
  refine Cl_of (by decide) (Nat.le_of_ble_eq_true rfl) ?_
  show V true mX9_rule (d + 3) bc bs 0 [(0, aR 0 0)] [] h P
  refine V_aload_n 0 dX9_rule_0 rfl rfl ?_
  refine GS_0_4 dX9_rule_1 lkX9_36 ?_
  refine V_aload_n 0 dX9_rule_4 rfl rfl ?_
  refine GS_0_3 dX9_rule_5 lkX9_29 ?_
  refine GS_6_0 dX9_rule_8 lkX9_205 ?_
  refine V_aload_n 0 dX9_rule_11 rfl rfl ?_
  refine GS_0_3 dX9_rule_12 lkX9_29 ?_
  refine GI_6_1 dX9_rule_15 lkX9_199 ?_
  refine V_callV (mc := 0) (ms := 0) (as := [aR 7 0, aI (gI h 6 0 1)]) (st := []) (by decide) rt_8 rfl dX9_rule_18 okX7_scan inX7_scan seX7_scan lkX9_209 rfl (Nat.le_of_ble_eq_true rfl) (Nat.zero_le _) (Nat.zero_le _) (Cl.mono (fun r1 h2 z => ?_) k)
  obtain ⟨rfl, k⟩ := z
  refine V_aload_n 0 dX9_rule_21 rfl rfl ?_
  refine GS_0_3 dX9_rule_22 lkX9_29 ?_
  refine V_iconst 0 dX9_rule_25 (by decide) ?_
  refine PI_6_1 dX9_rule_26 lkX9_199 ?_
  refine V_aload_n 0 dX9_rule_29 rfl rfl ?_
  refine GS_0_5 dX9_rule_30 lkX9_55 ?_
  refine V_aload_n 0 dX9_rule_33 rfl rfl ?_
  obtain ⟨t3, kg, k⟩ := k
  refine V_getR (k := 9) (some (12, t3)) (by decide) rt_0 rfl (by decide) rfl dX9_rule_34 lkX9_47 kg ?_
  refine V_callV (mc := 0) (ms := 0) (as := [aR 12 t3]) (st := []) (by decide) rt_19 rfl dX9_rule_37 okX2_read inX2_read seX2_read lkX9_213 rfl (Nat.le_of_ble_eq_true rfl) (Nat.zero_le _) (Nat.zero_le _) (Cl.mono (fun r4 h5 z => ?_) k)
  obtain ⟨x6, rfl, k⟩ := z
  refine V_if_ne 45 dX9_rule_40 (by decide) ⟨fun z => ?_, fun z => ?_⟩
  · replace k := k.1 z
    refine V_aload_n 0 dX9_rule_45 rfl rfl ?_
    obtain ⟨t7, kg, k⟩ := k
    refine V_getR (k := 8) (some (12, t7)) (by decide) rt_0 rfl (by decide) rfl dX9_rule_46 lkX9_43 kg ?_
    refine V_astore_n 1 dX9_rule_49 rfl (by decide) rfl ?_
    refine V_aload_n 0 dX9_rule_50 rfl rfl ?_
    refine V_aload_n 0 dX9_rule_51 rfl rfl ?_
    obtain ⟨t8, kg, k⟩ := k
    refine V_getR (k := 9) (some (12, t8)) (by decide) rt_0 rfl (by decide) rfl dX9_rule_52 lkX9_47 kg ?_
    refine V_putR (k := 8) (by decide) rt_0 rfl (by decide) rfl (Or.inl rfl) (Or.inr rfl) dX9_rule_55 lkX9_43 ?_
    refine V_aload_n 0 dX9_rule_58 rfl rfl ?_
    refine V_aload_n 1 dX9_rule_59 rfl rfl ?_
    refine V_putR (k := 9) (by decide) rt_0 rfl (by decide) rfl (Or.inl rfl) (Or.inr rfl) dX9_rule_60 lkX9_47 ?_
    refine V_aload_n 0 dX9_rule_63 rfl rfl ?_
    obtain ⟨t9, kg, k⟩ := k
    refine V_getR (k := 8) (some (12, t9)) (by decide) rt_0 rfl (by decide) rfl dX9_rule_64 lkX9_43 kg ?_
    refine GI_12_7 dX9_rule_67 lkX9_189 ?_
    refine V_re (y := gI h5 12 t9 7) rfl ?_
    exact V_ireturn dX9_rule_70 rfl k
  · replace k := k.2 z
    refine V_iconst (-1) dX9_rule_43 (by decide) ?_
    exact V_ireturn dX9_rule_44 rfl k
-- X9_fault cuts []
set_option maxRecDepth 20000 in
set_option maxHeartbeats 2000000 in
theorem wX9_fault {d bc bs : Nat} {h : HS} {P : Option AV → HS → Prop} {l1 : Int32} (k : (l1 = 0 → (P (some (aI (gI h 19 0 3))) h)) ∧ (l1 = 1 → (P (some (aI (gI h 19 0 4))) h)) ∧ (¬ l1 = 0 ∧ ¬ l1 = 1 → (P (some (aI (-1))) h))) : Cl true mX9_fault (d + 3) bc bs [aR 0 0, aI l1] h P := by
  refine Cl_of (by decide) (Nat.le_of_ble_eq_true rfl) ?_
  show V true mX9_fault (d + 3) bc bs 0 [(0, aR 0 0), (1, aI l1)] [] h P
  refine V_iload_n 1 dX9_fault_0 rfl rfl ?_
  obtain ⟨k0, k1, k2⟩ := k
  by_cases z0 : l1 = 0
  · have k := k0 z0
    refine V_lookup (off := 27) 28 dX9_fault_1 (by decide) (by rw [z0] <;> decide) (by decide) ?_
    refine V_aload_n 0 dX9_fault_28 rfl rfl ?_
    refine GS_0_5 dX9_fault_29 lkX9_55 ?_
    refine GI_19_3 dX9_fault_32 lkX9_217 ?_
    exact V_ireturn dX9_fault_35 rfl k
  by_cases z1 : l1 = 1
  · have k := k1 z1
    refine V_lookup (off := 35) 36 dX9_fault_1 (by decide) (by rw [z1] <;> decide) (by decide) ?_
    refine V_aload_n 0 dX9_fault_36 rfl rfl ?_
    refine GS_0_5 dX9_fault_37 lkX9_55 ?_
    refine GI_19_4 dX9_fault_40 lkX9_220 ?_
    exact V_ireturn dX9_fault_43 rfl k
  have k := k2 ⟨z0, z1⟩
  refine V_lookup (off := 43) 44 dX9_fault_1 (by decide) (by simp [Op.lookupswitch.offset, lkn (v := 0) (n := 0) (by decide) z0, lkn (v := 1) (n := 1) (by decide) z1]) (by decide) ?_
  refine V_iconst (-1) dX9_fault_44 (by decide) ?_
  exact V_ireturn dX9_fault_45 rfl k
-- X9_pay cuts []
set_option maxRecDepth 20000 in
set_option maxHeartbeats 2000000 in
theorem wX9_pay {d bc bs : Nat} {h : HS} {P : Option AV → HS → Prop} {l1 : Int32} {l2 : Int32} {l3 : Int32} (k : ((¬ (inR l1 0 7)) → (P (some (aI (-1000001))) h)) ∧ (((inR l1 0 7)) → ((((inR l2 0 12)) → (Cl true mX4_gather (d + 2) 0 0 [aR 20 0, aR 2 0, aI l1, aI l2] h (fun r5 h6 => r5 = none ∧ ((l3 = 0 → (P (some (aI (gI h6 20 0 0))) h6)) ∧ (l3 = 1 → (P (some (aI (gI h6 20 0 1))) h6)) ∧ (l3 = 2 → (P (some (aI (gI h6 20 0 2))) h6)) ∧ (l3 = 3 → (∃ t7, gR h6 0 0 8 = some (12, t7) ∧ (Cl true mX1_payFor (d + 2) 0 0 [aR 12 t7, aR 20 0] h6 (fun r8 h9 => ∃ x10 : Int32, r8 = some (aI x10) ∧ (P (some (aI x10)) h9))))) ∧ (l3 = 4 → (∃ t11, gR h6 0 0 8 = some (12, t11) ∧ (Cl true mX1_lineFor (d + 2) 0 0 [aR 12 t11, aR 20 0] h6 (fun r12 h13 => ∃ x14 : Int32, r12 = some (aI x14) ∧ (P (some (aI x14)) h13))))) ∧ (¬ (0 ≤ (l3).toInt ∧ (l3).toInt ≤ 4) → (P (some (aI (-1000001))) h6)))))) ∧ ((¬ (inR l2 0 12)) → (P (some (aI (-1000001))) h))))) : Cl true mX9_pay (d + 3) bc bs [aR 0 0, aI l1, aI l2, aI l3] h P := by
  refine Cl_of (by decide) (Nat.le_of_ble_eq_true rfl) ?_
  show V true mX9_pay (d + 3) bc bs 0 [(0, aR 0 0), (1, aI l1), (2, aI l2), (3, aI l3)] [] h P
  refine V_iload_n 1 dX9_pay_0 rfl rfl ?_
  refine V_iconst 0 dX9_pay_1 (by decide) ?_
  refine V_bipush 7 dX9_pay_2 (by decide) ?_
  refine V_callS (mc := 0) (ms := 0) (as := [aI l1, aI 0, aI 7]) (st := []) dX9_pay_4 okX9_isWithin stX9_isWithin lkX9_85 rfl (Nat.le_of_ble_eq_true rfl) (Nat.zero_le _) (Nat.zero_le _) (cX9_isWithin_ ?_)
  show V true mX9_pay (d + 3) _ _ 7 [(0, aR 0 0), (1, aI l1), (2, aI l2), (3, aI l3)] [aI (bI (inR l1 0 7))] h P
  refine V_if_eq 20 dX9_pay_7 (by decide) ⟨fun z => ?_, fun z => ?_⟩
  · replace k := k.1 (bI_0 z)
    refine V_ldc (-1000001) dX9_pay_20 lkX9_223 ?_
    exact V_ireturn dX9_pay_22 rfl k
  · replace k := k.2 (bI_1 z)
    refine V_iload_n 2 dX9_pay_10 rfl rfl ?_
    refine V_iconst 0 dX9_pay_11 (by decide) ?_
    refine V_bipush 12 dX9_pay_12 (by decide) ?_
    refine V_callS (mc := 0) (ms := 0) (as := [aI l2, aI 0, aI 12]) (st := []) dX9_pay_14 okX9_isWithin stX9_isWithin lkX9_85 rfl (Nat.le_of_ble_eq_true rfl) (Nat.zero_le _) (Nat.zero_le _) (cX9_isWithin_ ?_)
    show V true mX9_pay (d + 3) _ _ 17 [(0, aR 0 0), (1, aI l1), (2, aI l2), (3, aI l3)] [aI (bI (inR l2 0 12))] h P
    refine V_if_ne 23 dX9_pay_17 (by decide) ⟨fun z => ?_, fun z => ?_⟩
    · replace k := k.1 (bI_1 z)
      refine V_aload_n 0 dX9_pay_23 rfl rfl ?_
      refine GS_0_6 dX9_pay_24 lkX9_62 ?_
      refine V_aload_n 0 dX9_pay_27 rfl rfl ?_
      refine GS_0_1 dX9_pay_28 lkX9_16 ?_
      refine V_iload_n 1 dX9_pay_31 rfl rfl ?_
      refine V_iload_n 2 dX9_pay_32 rfl rfl ?_
      refine V_callV (mc := 0) (ms := 0) (as := [aR 2 0, aI l1, aI l2]) (st := []) (by decide) rt_20 rfl dX9_pay_33 okX4_gather inX4_gather seX4_gather lkX9_224 rfl (Nat.le_of_ble_eq_true rfl) (Nat.zero_le _) (Nat.zero_le _) (Cl.mono (fun r5 h6 z => ?_) k)
      obtain ⟨rfl, k⟩ := z
      refine V_iload_n 3 dX9_pay_36 rfl rfl ?_
      obtain ⟨k0, k1, k2, k3, k4, k5⟩ := k
      rcases sw_cases l3 (0) (4) (by decide) (by decide) with zo | ⟨zn, zl, zx⟩
      · have k := k5 zo
        refine V_tabOut 120 dX9_pay_37 (sw_out zo) (by decide) ?_
        refine V_ldc (-1000001) dX9_pay_120 lkX9_223 ?_
        exact V_ireturn dX9_pay_122 rfl k
      · match zn, zl, zx with
        | 0, _, zx =>
          have zx : l3 = 0 := zx
          have k := k0 zx
          refine V_tabIn 72 dX9_pay_37 (by rw [zx]; decide) (by rw [zx]; decide) (by rw [zx]; rfl) (by decide) ?_
          refine V_aload_n 0 dX9_pay_72 rfl rfl ?_
          refine GS_0_6 dX9_pay_73 lkX9_62 ?_
          refine GI_20_0 dX9_pay_76 lkX9_228 ?_
          exact V_ireturn dX9_pay_79 rfl k
        | 1, _, zx =>
          have zx : l3 = 1 := zx
          have k := k1 zx
          refine V_tabIn 80 dX9_pay_37 (by rw [zx]; decide) (by rw [zx]; decide) (by rw [zx]; rfl) (by decide) ?_
          refine V_aload_n 0 dX9_pay_80 rfl rfl ?_
          refine GS_0_6 dX9_pay_81 lkX9_62 ?_
          refine GI_20_1 dX9_pay_84 lkX9_231 ?_
          exact V_ireturn dX9_pay_87 rfl k
        | 2, _, zx =>
          have zx : l3 = 2 := zx
          have k := k2 zx
          refine V_tabIn 88 dX9_pay_37 (by rw [zx]; decide) (by rw [zx]; decide) (by rw [zx]; rfl) (by decide) ?_
          refine V_aload_n 0 dX9_pay_88 rfl rfl ?_
          refine GS_0_6 dX9_pay_89 lkX9_62 ?_
          refine GI_20_2 dX9_pay_92 lkX9_234 ?_
          exact V_ireturn dX9_pay_95 rfl k
        | 3, _, zx =>
          have zx : l3 = 3 := zx
          have k := k3 zx
          refine V_tabIn 96 dX9_pay_37 (by rw [zx]; decide) (by rw [zx]; decide) (by rw [zx]; rfl) (by decide) ?_
          refine V_aload_n 0 dX9_pay_96 rfl rfl ?_
          obtain ⟨t7, kg, k⟩ := k
          refine V_getR (k := 8) (some (12, t7)) (by decide) rt_0 rfl (by decide) rfl dX9_pay_97 lkX9_43 kg ?_
          refine V_aload_n 0 dX9_pay_100 rfl rfl ?_
          refine GS_0_6 dX9_pay_101 lkX9_62 ?_
          refine V_callV (mc := 0) (ms := 0) (as := [aR 20 0]) (st := []) (by decide) rt_12 rfl dX9_pay_104 okX1_payFor inX1_payFor seX1_payFor lkX9_235 rfl (Nat.le_of_ble_eq_true rfl) (Nat.zero_le _) (Nat.zero_le _) (Cl.mono (fun r8 h9 z => ?_) k)
          obtain ⟨x10, rfl, k⟩ := z
          exact V_ireturn dX9_pay_107 rfl k
        | 4, _, zx =>
          have zx : l3 = 4 := zx
          have k := k4 zx
          refine V_tabIn 108 dX9_pay_37 (by rw [zx]; decide) (by rw [zx]; decide) (by rw [zx]; rfl) (by decide) ?_
          refine V_aload_n 0 dX9_pay_108 rfl rfl ?_
          obtain ⟨t11, kg, k⟩ := k
          refine V_getR (k := 8) (some (12, t11)) (by decide) rt_0 rfl (by decide) rfl dX9_pay_109 lkX9_43 kg ?_
          refine V_aload_n 0 dX9_pay_112 rfl rfl ?_
          refine GS_0_6 dX9_pay_113 lkX9_62 ?_
          refine V_callV (mc := 0) (ms := 0) (as := [aR 20 0]) (st := []) (by decide) rt_12 rfl dX9_pay_116 okX1_lineFor inX1_lineFor seX1_lineFor lkX9_239 rfl (Nat.le_of_ble_eq_true rfl) (Nat.zero_le _) (Nat.zero_le _) (Cl.mono (fun r12 h13 z => ?_) k)
          obtain ⟨x14, rfl, k⟩ := z
          exact V_ireturn dX9_pay_119 rfl k
        | n + 5, zl, _ => exact absurd zl (by omega)
    · replace k := k.2 (bI_0 z)
      refine V_ldc (-1000001) dX9_pay_20 lkX9_223 ?_
      exact V_ireturn dX9_pay_22 rfl k
-- X9_statement cuts [44]
set_option maxRecDepth 20000 in
set_option maxHeartbeats 2000000 in
theorem wX9_statement {d bc bs : Nat} {h : HS} {P : Option AV → HS → Prop} {l1 : Int32} {l2 : Int32} {l3 : Int32} (k : ((¬ (inR l1 0 9)) → (P (some (aI (-1000001))) h)) ∧ (((inR l1 0 9)) → ((((inR l2 0 12)) → ((((inR l3 0 (gI h 0 0 10))) → (V true mX9_statement (d + 3) bc bs 44 [(0, aR 0 0), (1, aI l1), (2, aI l2), (3, aI l3), (4, aI 0), (5, aI 0)] [] h P)) ∧ ((¬ (inR l3 0 (gI h 0 0 10))) → (P (some (aI (-1000001))) h)))) ∧ ((¬ (inR l2 0 12)) → (P (some (aI (-1000001))) h))))) : Cl true mX9_statement (d + 3) bc bs [aR 0 0, aI l1, aI l2, aI l3] h P := by
  refine Cl_of (by decide) (Nat.le_of_ble_eq_true rfl) ?_
  show V true mX9_statement (d + 3) bc bs 0 [(0, aR 0 0), (1, aI l1), (2, aI l2), (3, aI l3)] [] h P
  refine V_iload_n 1 dX9_statement_0 rfl rfl ?_
  refine V_iconst 0 dX9_statement_1 (by decide) ?_
  refine V_bipush 9 dX9_statement_2 (by decide) ?_
  refine V_callS (mc := 0) (ms := 0) (as := [aI l1, aI 0, aI 9]) (st := []) dX9_statement_4 okX9_isWithin stX9_isWithin lkX9_85 rfl (Nat.le_of_ble_eq_true rfl) (Nat.zero_le _) (Nat.zero_le _) (cX9_isWithin_ ?_)
  show V true mX9_statement (d + 3) _ _ 7 [(0, aR 0 0), (1, aI l1), (2, aI l2), (3, aI l3)] [aI (bI (inR l1 0 9))] h P
  refine V_if_eq 20 dX9_statement_7 (by decide) ⟨fun z => ?_, fun z => ?_⟩
  · replace k := k.1 (bI_0 z)
    refine V_ldc (-1000001) dX9_statement_20 lkX9_223 ?_
    exact V_ireturn dX9_statement_22 rfl k
  · replace k := k.2 (bI_1 z)
    refine V_iload_n 2 dX9_statement_10 rfl rfl ?_
    refine V_iconst 0 dX9_statement_11 (by decide) ?_
    refine V_bipush 12 dX9_statement_12 (by decide) ?_
    refine V_callS (mc := 0) (ms := 0) (as := [aI l2, aI 0, aI 12]) (st := []) dX9_statement_14 okX9_isWithin stX9_isWithin lkX9_85 rfl (Nat.le_of_ble_eq_true rfl) (Nat.zero_le _) (Nat.zero_le _) (cX9_isWithin_ ?_)
    show V true mX9_statement (d + 3) _ _ 17 [(0, aR 0 0), (1, aI l1), (2, aI l2), (3, aI l3)] [aI (bI (inR l2 0 12))] h P
    refine V_if_ne 23 dX9_statement_17 (by decide) ⟨fun z => ?_, fun z => ?_⟩
    · replace k := k.1 (bI_1 z)
      refine V_iload_n 3 dX9_statement_23 rfl rfl ?_
      refine V_iconst 0 dX9_statement_24 (by decide) ?_
      refine V_aload_n 0 dX9_statement_25 rfl rfl ?_
      refine GI_0_10 dX9_statement_26 lkX9_73 ?_
      refine V_callS (mc := 0) (ms := 0) (as := [aI l3, aI 0, aI (gI h 0 0 10)]) (st := []) dX9_statement_29 okX9_isWithin stX9_isWithin lkX9_85 rfl (Nat.le_of_ble_eq_true rfl) (Nat.zero_le _) (Nat.zero_le _) (cX9_isWithin_ ?_)
      show V true mX9_statement (d + 3) _ _ 32 [(0, aR 0 0), (1, aI l1), (2, aI l2), (3, aI l3)] [aI (bI (inR l3 0 (gI h 0 0 10)))] h P
      refine V_if_ne 38 dX9_statement_32 (by decide) ⟨fun z => ?_, fun z => ?_⟩
      · replace k := k.1 (bI_1 z)
        refine V_iconst 0 dX9_statement_38 (by decide) ?_
        refine V_istore 4 dX9_statement_39 (by decide) rfl ?_
        refine V_iconst 0 dX9_statement_41 (by decide) ?_
        refine V_istore 5 dX9_statement_42 (by decide) rfl ?_
        exact V_lv [2, 3, 4, 5, 1, 0] rfl k
      · replace k := k.2 (bI_0 z)
        refine V_ldc (-1000001) dX9_statement_35 lkX9_223 ?_
        exact V_ireturn dX9_statement_37 rfl k
    · replace k := k.2 (bI_0 z)
      refine V_ldc (-1000001) dX9_statement_20 lkX9_223 ?_
      exact V_ireturn dX9_statement_22 rfl k
set_option maxRecDepth 20000 in
set_option maxHeartbeats 2000000 in
theorem wX9_statement_44 {d bc bs : Nat} {h : HS} {P : Option AV → HS → Prop} {l1 : Int32} {l2 : Int32} {l3 : Int32} {l4 : Int32} {l5 : Int32} (k : (((gI h 2 0 2) ≤ l5) → (P (some (aI l4)) h)) ∧ ((¬ (gI h 2 0 2) ≤ l5) → (Cl true mJx4a65c_get_915e3 (d + 2) 0 0 [aR 2 0, aI l5] h (fun r3 h4 => ∃ t5, r3 = some (aR 62 t5) ∧ (((¬ (gI h4 62 t5 2) = l1) → (V true mX9_statement (d + 3) bc bs 44 [(0, aR 0 0), (1, aI l1), (2, aI l2), (3, aI l3), (4, aI l4), (5, aI (l5 + 1))] [] h4 P)) ∧ (((gI h4 62 t5 2) = l1) → (V true mX9_statement (d + 3) bc bs 44 [(0, aR 0 0), (1, aI l1), (2, aI l2), (3, aI l3), (4, aI (l4 + (swF h4 t5 l2 l3))), (5, aI (l5 + 1))] [] h4 P))))))) : V true mX9_statement (d + 3) bc bs 44 [(0, aR 0 0), (1, aI l1), (2, aI l2), (3, aI l3), (4, aI l4), (5, aI l5)] [] h P := by
  refine V_iload 5 dX9_statement_44 rfl ?_
  refine V_aload_n 0 dX9_statement_46 rfl rfl ?_
  refine GS_0_1 dX9_statement_47 lkX9_16 ?_
  refine V_callV (mc := 0) (ms := 0) (as := []) (st := [aI l5]) (by decide) rt_2 rfl dX9_statement_50 okJx4a65c_size_8abf5 inJx4a65c_size_8abf5 seJx4a65c_size_8abf5 lkX9_77 rfl (Nat.le_of_ble_eq_true rfl) (Nat.zero_le _) (Nat.zero_le _) (cList_size_2 ?_)
  show V true mX9_statement (d + 3) _ _ 53 [(0, aR 0 0), (1, aI l1), (2, aI l2), (3, aI l3), (4, aI l4), (5, aI l5)] [aI (gI h 2 0 2), aI l5] h P
  refine V_icmp_ge 97 dX9_statement_53 (by decide) ⟨fun z => ?_, fun z => ?_⟩
  · replace k := k.1 z
    refine V_iload 4 dX9_statement_97 rfl ?_
    exact V_ireturn dX9_statement_99 rfl k
  · replace k := k.2 z
    refine V_aload_n 0 dX9_statement_56 rfl rfl ?_
    refine GS_0_1 dX9_statement_57 lkX9_16 ?_
    refine V_iload 5 dX9_statement_60 rfl ?_
    refine V_callV (mc := 0) (ms := 0) (as := [aI l5]) (st := []) (by decide) rt_2 rfl dX9_statement_62 okJx4a65c_get_915e3 inJx4a65c_get_915e3 seJx4a65c_get_915e3 lkX9_119 rfl (Nat.le_of_ble_eq_true rfl) (Nat.zero_le _) (Nat.zero_le _) (Cl.mono (fun r3 h4 z => ?_) k)
    obtain ⟨t5, rfl, k⟩ := z
    refine V_cast (by decide) rt_62 rfl lkX9_127 dX9_statement_65 ?_
    refine V_astore 6 dX9_statement_68 (by decide) rfl ?_
    refine V_aload 6 dX9_statement_70 rfl ?_
    refine GI_62_2 dX9_statement_72 lkX9_242 ?_
    refine V_iload_n 1 dX9_statement_75 rfl rfl ?_
    refine V_icmp_ne 91 dX9_statement_76 (by decide) ⟨fun z => ?_, fun z => ?_⟩
    · replace k := k.1 z
      refine V_iinc 5 (v := l5 + 1) dX9_statement_91 rfl rfl (by decide) rfl ?_
      refine V_goto 44 dX9_statement_94 (by decide) ?_
      exact V_lv [2, 3, 4, 5, 6, 0] rfl k
    · replace k := k.2 z
      refine V_iload 4 dX9_statement_79 rfl ?_
      refine V_aload 6 dX9_statement_81 rfl ?_
      refine V_iload_n 2 dX9_statement_83 rfl rfl ?_
      refine V_iload_n 3 dX9_statement_84 rfl rfl ?_
      refine V_callV (mc := 0) (ms := 0) (as := [aI l2, aI l3]) (st := [aI l4]) (by decide) rt_62 rfl dX9_statement_85 okX3_statedWorth inX3_statedWorth seX3_statedWorth lkX9_245 rfl (Nat.le_of_ble_eq_true rfl) (Nat.zero_le _) (Nat.zero_le _) (cX3_statedWorth_ ?_)
      show V true mX9_statement (d + 3) _ _ 88 [(6, aR 62 t5), (0, aR 0 0), (1, aI l1), (2, aI l2), (3, aI l3), (4, aI l4), (5, aI l5)] [aI (swF h4 t5 l2 l3), aI l4] h4 P
      refine V_iadd dX9_statement_88 ?_
      refine V_istore 4 dX9_statement_89 (by decide) rfl ?_
      refine V_iinc 5 (v := l5 + 1) dX9_statement_91 rfl rfl (by decide) rfl ?_
      refine V_goto 44 dX9_statement_94 (by decide) ?_
      exact V_lv [3, 4, 5, 6, 1, 0] rfl k
-- X9_count cuts []
set_option maxRecDepth 20000 in
set_option maxHeartbeats 2000000 in
theorem wX9_count {d bc bs : Nat} {h : HS} {P : Option AV → HS → Prop} {l1 : Int32} {l2 : Int32} (k : Cl true mX9_thingAt (d + 2) 0 0 [aR 0 0, aI l1] h (fun r1 h2 => (r1 = some (aP none) ∧ (P (some (aI (-1000001))) h2)) ∨ (∃ t3, r1 = some (aR 60 t3) ∧ ((((inR l2 0 9999)) → ((gR (sI h2 60 t3 2 l2) 60 t3 0 = some (61, t3)) ∧ (P (some (aI ((gI h2 60 t3 2) - l2))) (sI (sI h2 60 t3 2 l2) 60 t3 4 ((gI h2 60 t3 4) + (((gI h2 60 t3 2) - l2) * (tgF (sI h2 60 t3 2 l2) t3 (gI h2 0 0 10)))))))) ∧ ((¬ (inR l2 0 9999)) → (P (some (aI (-1000001))) h2)))))) : Cl true mX9_count (d + 3) bc bs [aR 0 0, aI l1, aI l2] h P := by
  refine Cl_of (by decide) (Nat.le_of_ble_eq_true rfl) ?_
  show V true mX9_count (d + 3) bc bs 0 [(0, aR 0 0), (1, aI l1), (2, aI l2)] [] h P
  refine V_aload_n 0 dX9_count_0 rfl rfl ?_
  refine V_iload_n 1 dX9_count_1 rfl rfl ?_
  refine V_callV (mc := 0) (ms := 0) (as := [aI l1]) (st := []) (by decide) rt_0 rfl dX9_count_2 okX9_thingAt inX9_thingAt seX9_thingAt lkX9_98 rfl (Nat.le_of_ble_eq_true rfl) (Nat.zero_le _) (Nat.zero_le _) (Cl.mono (fun r1 h2 z => ?_) k)
  rcases z with ⟨rfl, k⟩ | ⟨t3, rfl, k⟩
  · skip
    refine V_astore_n 3 dX9_count_5 rfl (by decide) rfl ?_
    refine V_aload_n 3 dX9_count_6 rfl rfl ?_
    refine V_ifnullN 21 dX9_count_7 (by decide) ?_
    refine V_ldc (-1000001) dX9_count_21 lkX9_223 ?_
    exact V_ireturn dX9_count_23 rfl k
  · skip
    refine V_astore_n 3 dX9_count_5 rfl (by decide) rfl ?_
    refine V_aload_n 3 dX9_count_6 rfl rfl ?_
    refine V_ifnull dX9_count_7 ?_
    refine V_iload_n 2 dX9_count_10 rfl rfl ?_
    refine V_iconst 0 dX9_count_11 (by decide) ?_
    refine V_sipush 9999 dX9_count_12 (by decide) ?_
    refine V_callS (mc := 0) (ms := 0) (as := [aI l2, aI 0, aI 9999]) (st := []) dX9_count_15 okX9_isWithin stX9_isWithin lkX9_85 rfl (Nat.le_of_ble_eq_true rfl) (Nat.zero_le _) (Nat.zero_le _) (cX9_isWithin_ ?_)
    show V true mX9_count (d + 3) _ _ 18 [(3, aR 60 t3), (0, aR 0 0), (1, aI l1), (2, aI l2)] [aI (bI (inR l2 0 9999))] h2 P
    refine V_if_ne 24 dX9_count_18 (by decide) ⟨fun z => ?_, fun z => ?_⟩
    · replace k := k.1 (bI_1 z)
      refine V_aload_n 3 dX9_count_24 rfl rfl ?_
      refine GI_60_2 dX9_count_25 lkX9_110 ?_
      refine V_iload_n 2 dX9_count_28 rfl rfl ?_
      refine V_isub dX9_count_29 ?_
      refine V_istore 4 dX9_count_30 (by decide) rfl ?_
      refine V_aload_n 3 dX9_count_32 rfl rfl ?_
      refine V_iload_n 2 dX9_count_33 rfl rfl ?_
      refine PI_60_2 dX9_count_34 lkX9_110 ?_
      refine V_aload_n 3 dX9_count_37 rfl rfl ?_
      refine V_dup dX9_count_38 rfl ?_
      refine GI_60_4 dX9_count_39 lkX9_116 ?_
      refine V_re (y := gI h2 60 t3 4) rfl ?_
      refine V_iload 4 dX9_count_42 rfl ?_
      refine V_aload_n 3 dX9_count_44 rfl rfl ?_
      refine V_aload_n 0 dX9_count_45 rfl rfl ?_
      refine GI_0_10 dX9_count_46 lkX9_73 ?_
      refine V_re (y := gI h2 0 0 10) rfl ?_
      obtain ⟨s8, k⟩ := k
      refine V_callV (mc := 0) (ms := 0) (as := [aI (gI h2 0 0 10)]) (st := [aI ((gI h2 60 t3 2) - l2), aI (gI h2 60 t3 4), aR 60 t3]) (by decide) rt_60 rfl dX9_count_49 okX6_tagOn inX6_tagOn seX6_tagOn lkX9_106 rfl (Nat.le_of_ble_eq_true rfl) (Nat.zero_le _) (Nat.zero_le _) (cX6_tagOn_ s8 ?_)
      show V true mX9_count (d + 3) _ _ 52 [(4, aI ((gI h2 60 t3 2) - l2)), (3, aR 60 t3), (0, aR 0 0), (1, aI l1), (2, aI l2)] [aI (tgF (sI h2 60 t3 2 l2) t3 (gI h2 0 0 10)), aI ((gI h2 60 t3 2) - l2), aI (gI h2 60 t3 4), aR 60 t3] (sI h2 60 t3 2 l2) P
      refine V_imul dX9_count_52 ?_
      refine V_iadd dX9_count_53 ?_
      refine PI_60_4 dX9_count_54 lkX9_116 ?_
      refine V_iload 4 dX9_count_57 rfl ?_
      exact V_ireturn dX9_count_59 rfl k
    · replace k := k.2 (bI_0 z)
      refine V_ldc (-1000001) dX9_count_21 lkX9_223 ?_
      exact V_ireturn dX9_count_23 rfl k
-- X9_level cuts []
set_option maxRecDepth 20000 in
set_option maxHeartbeats 2000000 in
theorem wX9_level {d bc bs : Nat} {h : HS} {P : Option AV → HS → Prop} {l1 : Int32} {l2 : Int32} {l3 : Int32} (k : ((¬ (inR l1 0 3)) → (P (some (aI 0)) h)) ∧ (((inR l1 0 3)) → (((¬ (inR l2 0 999)) → (P (some (aI 0)) h)) ∧ (((inR l2 0 999)) → ((((inR l3 0 99)) → (vp_in l1 4 ∧ (vp_in l1 4 ∧ (P (some (aI 1)) (sI (sI h 22 0 l1.toNatClampNeg l2) 23 0 l1.toNatClampNeg l3))))) ∧ ((¬ (inR l3 0 99)) → (P (some (aI 0)) h))))))) : Cl true mX9_level (d + 3) bc bs [aR 0 0, aI l1, aI l2, aI l3] h P := by
  refine Cl_of (by decide) (Nat.le_of_ble_eq_true rfl) ?_
  show V true mX9_level (d + 3) bc bs 0 [(0, aR 0 0), (1, aI l1), (2, aI l2), (3, aI l3)] [] h P
  refine V_iload_n 1 dX9_level_0 rfl rfl ?_
  refine V_callS (mc := 0) (ms := 0) (as := [aI l1]) (st := []) dX9_level_1 okX9_isLevel stX9_isLevel lkX9_248 rfl (Nat.le_of_ble_eq_true rfl) (Nat.zero_le _) (Nat.zero_le _) (cX9_isLevel_ ?_)
  show V true mX9_level (d + 3) _ _ 4 [(0, aR 0 0), (1, aI l1), (2, aI l2), (3, aI l3)] [aI (bI (inR l1 0 3))] h P
  refine V_if_eq 28 dX9_level_4 (by decide) ⟨fun z => ?_, fun z => ?_⟩
  · replace k := k.1 (bI_0 z)
    refine V_iconst 0 dX9_level_28 (by decide) ?_
    exact V_zreturn dX9_level_29 rfl (by decide) k
  · replace k := k.2 (bI_1 z)
    refine V_iload_n 2 dX9_level_7 rfl rfl ?_
    refine V_iconst 0 dX9_level_8 (by decide) ?_
    refine V_sipush 999 dX9_level_9 (by decide) ?_
    refine V_callS (mc := 0) (ms := 0) (as := [aI l2, aI 0, aI 999]) (st := []) dX9_level_12 okX9_isWithin stX9_isWithin lkX9_85 rfl (Nat.le_of_ble_eq_true rfl) (Nat.zero_le _) (Nat.zero_le _) (cX9_isWithin_ ?_)
    show V true mX9_level (d + 3) _ _ 15 [(0, aR 0 0), (1, aI l1), (2, aI l2), (3, aI l3)] [aI (bI (inR l2 0 999))] h P
    refine V_if_eq 28 dX9_level_15 (by decide) ⟨fun z => ?_, fun z => ?_⟩
    · replace k := k.1 (bI_0 z)
      refine V_iconst 0 dX9_level_28 (by decide) ?_
      exact V_zreturn dX9_level_29 rfl (by decide) k
    · replace k := k.2 (bI_1 z)
      refine V_iload_n 3 dX9_level_18 rfl rfl ?_
      refine V_iconst 0 dX9_level_19 (by decide) ?_
      refine V_bipush 99 dX9_level_20 (by decide) ?_
      refine V_callS (mc := 0) (ms := 0) (as := [aI l3, aI 0, aI 99]) (st := []) dX9_level_22 okX9_isWithin stX9_isWithin lkX9_85 rfl (Nat.le_of_ble_eq_true rfl) (Nat.zero_le _) (Nat.zero_le _) (cX9_isWithin_ ?_)
      show V true mX9_level (d + 3) _ _ 25 [(0, aR 0 0), (1, aI l1), (2, aI l2), (3, aI l3)] [aI (bI (inR l3 0 99))] h P
      refine V_if_ne 30 dX9_level_25 (by decide) ⟨fun z => ?_, fun z => ?_⟩
      · replace k := k.1 (bI_1 z)
        refine V_aload_n 0 dX9_level_30 rfl rfl ?_
        refine GS_0_7 dX9_level_31 lkX9_69 ?_
        refine GS_21_0 dX9_level_34 lkX9_251 ?_
        refine V_iload_n 1 dX9_level_37 rfl rfl ?_
        refine V_iload_n 2 dX9_level_38 rfl rfl ?_
        refine V_iast (by decide) rt_22 dX9_level_39 k.1 ?_
        replace k := k.2
        refine V_aload_n 0 dX9_level_40 rfl rfl ?_
        refine GS_0_7 dX9_level_41 lkX9_69 ?_
        refine GS_21_1 dX9_level_44 lkX9_255 ?_
        refine V_iload_n 1 dX9_level_47 rfl rfl ?_
        refine V_iload_n 3 dX9_level_48 rfl rfl ?_
        refine V_iast (by decide) rt_23 dX9_level_49 k.1 ?_
        replace k := k.2
        refine V_iconst 1 dX9_level_50 (by decide) ?_
        exact V_zreturn dX9_level_51 rfl (by decide) k
      · replace k := k.2 (bI_0 z)
        refine V_iconst 0 dX9_level_28 (by decide) ?_
        exact V_zreturn dX9_level_29 rfl (by decide) k
-- X9_best cuts []
set_option maxRecDepth 20000 in
set_option maxHeartbeats 2000000 in
theorem wX9_best {d bc bs : Nat} {h : HS} {P : Option AV → HS → Prop} {l1 : Int32} {l2 : Int32} {l3 : Int32} {l4 : Int32} (k : ((¬ (inR l1 0 200)) → (P (some (aI (-1))) h)) ∧ (((inR l1 0 200)) → (((¬ (inR l2 0 8)) → (P (some (aI (-1))) h)) ∧ (((inR l2 0 8)) → ((((inR l3 0 3)) → (Cl true mX0_seek (d + 2) 0 0 [aR 21 0, aI l1, aI l2, aI l3] h (fun r7 h8 => r7 = none ∧ (((¬ l4 = 0) → (((¬ l4 = 1) → (((¬ (inR l4 10 ((10 + l2) - 1))) → (P (some (aI (-1))) h8)) ∧ (((inR l4 10 ((10 + l2) - 1))) → (vp_in (l4 - 10) 8 ∧ (P (some (aI (gI h8 25 0 (l4 - 10).toNatClampNeg))) h8))))) ∧ ((l4 = 1) → (P (some (aI (gI h8 21 0 5))) h8)))) ∧ ((l4 = 0) → (P (some (aI (gI h8 21 0 4))) h8)))))) ∧ ((¬ (inR l3 0 3)) → (P (some (aI (-1))) h))))))) : Cl true mX9_best (d + 3) bc bs [aR 0 0, aI l1, aI l2, aI l3, aI l4] h P := by
  refine Cl_of (by decide) (Nat.le_of_ble_eq_true rfl) ?_
  show V true mX9_best (d + 3) bc bs 0 [(0, aR 0 0), (1, aI l1), (2, aI l2), (3, aI l3), (4, aI l4)] [] h P
  refine V_iload_n 1 dX9_best_0 rfl rfl ?_
  refine V_iconst 0 dX9_best_1 (by decide) ?_
  refine V_sipush 200 dX9_best_2 (by decide) ?_
  refine V_callS (mc := 0) (ms := 0) (as := [aI l1, aI 0, aI 200]) (st := []) dX9_best_5 okX9_isWithin stX9_isWithin lkX9_85 rfl (Nat.le_of_ble_eq_true rfl) (Nat.zero_le _) (Nat.zero_le _) (cX9_isWithin_ ?_)
  show V true mX9_best (d + 3) _ _ 8 [(0, aR 0 0), (1, aI l1), (2, aI l2), (3, aI l3), (4, aI l4)] [aI (bI (inR l1 0 200))] h P
  refine V_if_eq 28 dX9_best_8 (by decide) ⟨fun z => ?_, fun z => ?_⟩
  · replace k := k.1 (bI_0 z)
    refine V_iconst (-1) dX9_best_28 (by decide) ?_
    exact V_ireturn dX9_best_29 rfl k
  · replace k := k.2 (bI_1 z)
    refine V_iload_n 2 dX9_best_11 rfl rfl ?_
    refine V_iconst 0 dX9_best_12 (by decide) ?_
    refine V_bipush 8 dX9_best_13 (by decide) ?_
    refine V_callS (mc := 0) (ms := 0) (as := [aI l2, aI 0, aI 8]) (st := []) dX9_best_15 okX9_isWithin stX9_isWithin lkX9_85 rfl (Nat.le_of_ble_eq_true rfl) (Nat.zero_le _) (Nat.zero_le _) (cX9_isWithin_ ?_)
    show V true mX9_best (d + 3) _ _ 18 [(0, aR 0 0), (1, aI l1), (2, aI l2), (3, aI l3), (4, aI l4)] [aI (bI (inR l2 0 8))] h P
    refine V_if_eq 28 dX9_best_18 (by decide) ⟨fun z => ?_, fun z => ?_⟩
    · replace k := k.1 (bI_0 z)
      refine V_iconst (-1) dX9_best_28 (by decide) ?_
      exact V_ireturn dX9_best_29 rfl k
    · replace k := k.2 (bI_1 z)
      refine V_iload_n 3 dX9_best_21 rfl rfl ?_
      refine V_callS (mc := 0) (ms := 0) (as := [aI l3]) (st := []) dX9_best_22 okX9_isLevel stX9_isLevel lkX9_248 rfl (Nat.le_of_ble_eq_true rfl) (Nat.zero_le _) (Nat.zero_le _) (cX9_isLevel_ ?_)
      show V true mX9_best (d + 3) _ _ 25 [(0, aR 0 0), (1, aI l1), (2, aI l2), (3, aI l3), (4, aI l4)] [aI (bI (inR l3 0 3))] h P
      refine V_if_ne 30 dX9_best_25 (by decide) ⟨fun z => ?_, fun z => ?_⟩
      · replace k := k.1 (bI_1 z)
        refine V_aload_n 0 dX9_best_30 rfl rfl ?_
        refine GS_0_7 dX9_best_31 lkX9_69 ?_
        refine V_iload_n 1 dX9_best_34 rfl rfl ?_
        refine V_iload_n 2 dX9_best_35 rfl rfl ?_
        refine V_iload_n 3 dX9_best_36 rfl rfl ?_
        refine V_callV (mc := 0) (ms := 0) (as := [aI l1, aI l2, aI l3]) (st := []) (by decide) rt_21 rfl dX9_best_37 okX0_seek inX0_seek seX0_seek lkX9_258 rfl (Nat.le_of_ble_eq_true rfl) (Nat.zero_le _) (Nat.zero_le _) (Cl.mono (fun r7 h8 z => ?_) k)
        obtain ⟨rfl, k⟩ := z
        refine V_iload 4 dX9_best_40 rfl ?_
        refine V_if_ne 53 dX9_best_42 (by decide) ⟨fun z => ?_, fun z => ?_⟩
        · replace k := k.1 z
          refine V_iload 4 dX9_best_53 rfl ?_
          refine V_iconst 1 dX9_best_55 (by decide) ?_
          refine V_icmp_ne 67 dX9_best_56 (by decide) ⟨fun z => ?_, fun z => ?_⟩
          · replace k := k.1 z
            refine V_iload 4 dX9_best_67 rfl ?_
            refine V_bipush 10 dX9_best_69 (by decide) ?_
            refine V_bipush 10 dX9_best_71 (by decide) ?_
            refine V_iload_n 2 dX9_best_73 rfl rfl ?_
            refine V_iadd dX9_best_74 ?_
            refine V_iconst 1 dX9_best_75 (by decide) ?_
            refine V_isub dX9_best_76 ?_
            refine V_callS (mc := 0) (ms := 0) (as := [aI l4, aI 10, aI ((10 + l2) - 1)]) (st := []) dX9_best_77 okX9_isWithin stX9_isWithin lkX9_85 rfl (Nat.le_of_ble_eq_true rfl) (Nat.zero_le _) (Nat.zero_le _) (cX9_isWithin_ ?_)
            show V true mX9_best (d + 3) _ _ 80 [(0, aR 0 0), (1, aI l1), (2, aI l2), (3, aI l3), (4, aI l4)] [aI (bI (inR l4 10 ((10 + l2) - 1)))] h8 P
            refine V_if_eq 97 dX9_best_80 (by decide) ⟨fun z => ?_, fun z => ?_⟩
            · replace k := k.1 (bI_0 z)
              refine V_iconst (-1) dX9_best_97 (by decide) ?_
              exact V_ireturn dX9_best_98 rfl k
            · replace k := k.2 (bI_1 z)
              refine V_aload_n 0 dX9_best_83 rfl rfl ?_
              refine GS_0_7 dX9_best_84 lkX9_69 ?_
              refine GS_21_3 dX9_best_87 lkX9_267 ?_
              refine V_iload 4 dX9_best_90 rfl ?_
              refine V_bipush 10 dX9_best_92 (by decide) ?_
              refine V_isub dX9_best_94 ?_
              refine V_iald (by decide) rt_25 dX9_best_95 k.1 ?_
              replace k := k.2
              exact V_ireturn dX9_best_96 rfl k
          · replace k := k.2 z
            refine V_aload_n 0 dX9_best_59 rfl rfl ?_
            refine GS_0_7 dX9_best_60 lkX9_69 ?_
            refine GI_21_5 dX9_best_63 lkX9_264 ?_
            exact V_ireturn dX9_best_66 rfl k
        · replace k := k.2 z
          refine V_aload_n 0 dX9_best_45 rfl rfl ?_
          refine GS_0_7 dX9_best_46 lkX9_69 ?_
          refine GI_21_4 dX9_best_49 lkX9_261 ?_
          exact V_ireturn dX9_best_52 rfl k
      · replace k := k.2 (bI_0 z)
        refine V_iconst (-1) dX9_best_28 (by decide) ?_
        exact V_ireturn dX9_best_29 rfl k
-- X9_thingAt cuts []
set_option maxRecDepth 20000 in
set_option maxHeartbeats 2000000 in
theorem wX9_thingAt {d bc bs : Nat} {h : HS} {P : Option AV → HS → Prop} {l1 : Int32} (k : ((l1 < 0) → (P (some (aP none)) h)) ∧ ((¬ l1 < 0) → ((((gI h 1 0 2) ≤ l1) → (P (some (aP none)) h)) ∧ ((¬ (gI h 1 0 2) ≤ l1) → (Cl true mJx4a65c_get_915e3 (d + 2) 0 0 [aR 1 0, aI l1] h (fun r3 h4 => ∃ t5, r3 = some (aR 60 t5) ∧ (P (some (aR 60 t5)) h4))))))) : Cl true mX9_thingAt (d + 3) bc bs [aR 0 0, aI l1] h P := by
  refine Cl_of (by decide) (Nat.le_of_ble_eq_true rfl) ?_
  show V true mX9_thingAt (d + 3) bc bs 0 [(0, aR 0 0), (1, aI l1)] [] h P
  refine V_iload_n 1 dX9_thingAt_0 rfl rfl ?_
  refine V_if_lt 29 dX9_thingAt_1 (by decide) ⟨fun z => ?_, fun z => ?_⟩
  · replace k := k.1 z
    refine V_null dX9_thingAt_29 ?_
    exact V_areturn dX9_thingAt_30 rfl (by first | exact Or.inl ⟨_, rfl⟩ | exact Or.inr ⟨_, rfl⟩) k
  · replace k := k.2 z
    refine V_iload_n 1 dX9_thingAt_4 rfl rfl ?_
    refine V_aload_n 0 dX9_thingAt_5 rfl rfl ?_
    refine GS_0_0 dX9_thingAt_6 lkX9_12 ?_
    refine V_callV (mc := 0) (ms := 0) (as := []) (st := [aI l1]) (by decide) rt_1 rfl dX9_thingAt_9 okJx4a65c_size_8abf5 inJx4a65c_size_8abf5 seJx4a65c_size_8abf5 lkX9_77 rfl (Nat.le_of_ble_eq_true rfl) (Nat.zero_le _) (Nat.zero_le _) (cList_size_1 ?_)
    show V true mX9_thingAt (d + 3) _ _ 12 [(0, aR 0 0), (1, aI l1)] [aI (gI h 1 0 2), aI l1] h P
    refine V_icmp_ge 29 dX9_thingAt_12 (by decide) ⟨fun z => ?_, fun z => ?_⟩
    · replace k := k.1 z
      refine V_null dX9_thingAt_29 ?_
      exact V_areturn dX9_thingAt_30 rfl (by first | exact Or.inl ⟨_, rfl⟩ | exact Or.inr ⟨_, rfl⟩) k
    · replace k := k.2 z
      refine V_aload_n 0 dX9_thingAt_15 rfl rfl ?_
      refine GS_0_0 dX9_thingAt_16 lkX9_12 ?_
      refine V_iload_n 1 dX9_thingAt_19 rfl rfl ?_
      refine V_callV (mc := 0) (ms := 0) (as := [aI l1]) (st := []) (by decide) rt_1 rfl dX9_thingAt_20 okJx4a65c_get_915e3 inJx4a65c_get_915e3 seJx4a65c_get_915e3 lkX9_119 rfl (Nat.le_of_ble_eq_true rfl) (Nat.zero_le _) (Nat.zero_le _) (Cl.mono (fun r3 h4 z => ?_) k)
      obtain ⟨t5, rfl, k⟩ := z
      refine V_cast (by decide) rt_60 rfl lkX9_89 dX9_thingAt_23 ?_
      refine V_goto 30 dX9_thingAt_26 (by decide) ?_
      exact V_areturn dX9_thingAt_30 rfl (by first | exact Or.inl ⟨_, rfl⟩ | exact Or.inr ⟨_, rfl⟩) k
-- X9_slipAt cuts []
set_option maxRecDepth 20000 in
set_option maxHeartbeats 2000000 in
theorem wX9_slipAt {d bc bs : Nat} {h : HS} {P : Option AV → HS → Prop} {l1 : Int32} (k : ((l1 < 0) → (P (some (aP none)) h)) ∧ ((¬ l1 < 0) → ((((gI h 2 0 2) ≤ l1) → (P (some (aP none)) h)) ∧ ((¬ (gI h 2 0 2) ≤ l1) → (Cl true mJx4a65c_get_915e3 (d + 2) 0 0 [aR 2 0, aI l1] h (fun r3 h4 => ∃ t5, r3 = some (aR 62 t5) ∧ (P (some (aR 62 t5)) h4))))))) : Cl true mX9_slipAt (d + 3) bc bs [aR 0 0, aI l1] h P := by
  refine Cl_of (by decide) (Nat.le_of_ble_eq_true rfl) ?_
  show V true mX9_slipAt (d + 3) bc bs 0 [(0, aR 0 0), (1, aI l1)] [] h P
  refine V_iload_n 1 dX9_slipAt_0 rfl rfl ?_
  refine V_if_lt 29 dX9_slipAt_1 (by decide) ⟨fun z => ?_, fun z => ?_⟩
  · replace k := k.1 z
    refine V_null dX9_slipAt_29 ?_
    exact V_areturn dX9_slipAt_30 rfl (by first | exact Or.inl ⟨_, rfl⟩ | exact Or.inr ⟨_, rfl⟩) k
  · replace k := k.2 z
    refine V_iload_n 1 dX9_slipAt_4 rfl rfl ?_
    refine V_aload_n 0 dX9_slipAt_5 rfl rfl ?_
    refine GS_0_1 dX9_slipAt_6 lkX9_16 ?_
    refine V_callV (mc := 0) (ms := 0) (as := []) (st := [aI l1]) (by decide) rt_2 rfl dX9_slipAt_9 okJx4a65c_size_8abf5 inJx4a65c_size_8abf5 seJx4a65c_size_8abf5 lkX9_77 rfl (Nat.le_of_ble_eq_true rfl) (Nat.zero_le _) (Nat.zero_le _) (cList_size_2 ?_)
    show V true mX9_slipAt (d + 3) _ _ 12 [(0, aR 0 0), (1, aI l1)] [aI (gI h 2 0 2), aI l1] h P
    refine V_icmp_ge 29 dX9_slipAt_12 (by decide) ⟨fun z => ?_, fun z => ?_⟩
    · replace k := k.1 z
      refine V_null dX9_slipAt_29 ?_
      exact V_areturn dX9_slipAt_30 rfl (by first | exact Or.inl ⟨_, rfl⟩ | exact Or.inr ⟨_, rfl⟩) k
    · replace k := k.2 z
      refine V_aload_n 0 dX9_slipAt_15 rfl rfl ?_
      refine GS_0_1 dX9_slipAt_16 lkX9_16 ?_
      refine V_iload_n 1 dX9_slipAt_19 rfl rfl ?_
      refine V_callV (mc := 0) (ms := 0) (as := [aI l1]) (st := []) (by decide) rt_2 rfl dX9_slipAt_20 okJx4a65c_get_915e3 inJx4a65c_get_915e3 seJx4a65c_get_915e3 lkX9_119 rfl (Nat.le_of_ble_eq_true rfl) (Nat.zero_le _) (Nat.zero_le _) (Cl.mono (fun r3 h4 z => ?_) k)
      obtain ⟨t5, rfl, k⟩ := z
      refine V_cast (by decide) rt_62 rfl lkX9_127 dX9_slipAt_23 ?_
      refine V_goto 30 dX9_slipAt_26 (by decide) ?_
      exact V_areturn dX9_slipAt_30 rfl (by first | exact Or.inl ⟨_, rfl⟩ | exact Or.inr ⟨_, rfl⟩) k
-- X9_countOnApproval cuts [4]
set_option maxRecDepth 20000 in
set_option maxHeartbeats 2000000 in
theorem wX9_countOnApproval {d bc bs : Nat} {h : HS} {P : Option AV → HS → Prop}  (k : V true mX9_countOnApproval (d + 3) bc bs 4 [(0, aR 0 0), (1, aI 0), (2, aI 0)] [] h P) : Cl true mX9_countOnApproval (d + 3) bc bs [aR 0 0] h P := by
  refine Cl_of (by decide) (Nat.le_of_ble_eq_true rfl) ?_
  show V true mX9_countOnApproval (d + 3) bc bs 0 [(0, aR 0 0)] [] h P
  refine V_iconst 0 dX9_countOnApproval_0 (by decide) ?_
  refine V_istore_n 1 dX9_countOnApproval_1 rfl (by decide) rfl ?_
  refine V_iconst 0 dX9_countOnApproval_2 (by decide) ?_
  refine V_istore_n 2 dX9_countOnApproval_3 rfl (by decide) rfl ?_
  exact V_lv [2, 1, 0] rfl k
set_option maxRecDepth 20000 in
set_option maxHeartbeats 2000000 in
theorem wX9_countOnApproval_4 {d bc bs : Nat} {h : HS} {P : Option AV → HS → Prop} {l1 : Int32} {l2 : Int32} (k : (((gI h 2 0 2) ≤ l2) → (P (some (aI l1)) h)) ∧ ((¬ (gI h 2 0 2) ≤ l2) → (Cl true mJx4a65c_get_915e3 (d + 2) 0 0 [aR 2 0, aI l2] h (fun r3 h4 => ∃ t5, r3 = some (aR 62 t5) ∧ (((¬ (stF h4 t5) = 1) → (V true mX9_countOnApproval (d + 3) bc bs 4 [(0, aR 0 0), (1, aI l1), (2, aI (l2 + 1))] [] h4 P)) ∧ (((stF h4 t5) = 1) → (V true mX9_countOnApproval (d + 3) bc bs 4 [(0, aR 0 0), (1, aI (l1 + 1)), (2, aI (l2 + 1))] [] h4 P))))))) : V true mX9_countOnApproval (d + 3) bc bs 4 [(0, aR 0 0), (1, aI l1), (2, aI l2)] [] h P := by
  refine V_iload_n 2 dX9_countOnApproval_4 rfl rfl ?_
  refine V_aload_n 0 dX9_countOnApproval_5 rfl rfl ?_
  refine GS_0_1 dX9_countOnApproval_6 lkX9_16 ?_
  refine V_callV (mc := 0) (ms := 0) (as := []) (st := [aI l2]) (by decide) rt_2 rfl dX9_countOnApproval_9 okJx4a65c_size_8abf5 inJx4a65c_size_8abf5 seJx4a65c_size_8abf5 lkX9_77 rfl (Nat.le_of_ble_eq_true rfl) (Nat.zero_le _) (Nat.zero_le _) (cList_size_2 ?_)
  show V true mX9_countOnApproval (d + 3) _ _ 12 [(0, aR 0 0), (1, aI l1), (2, aI l2)] [aI (gI h 2 0 2), aI l2] h P
  refine V_icmp_ge 42 dX9_countOnApproval_12 (by decide) ⟨fun z => ?_, fun z => ?_⟩
  · replace k := k.1 z
    refine V_iload_n 1 dX9_countOnApproval_42 rfl rfl ?_
    exact V_ireturn dX9_countOnApproval_43 rfl k
  · replace k := k.2 z
    refine V_aload_n 0 dX9_countOnApproval_15 rfl rfl ?_
    refine GS_0_1 dX9_countOnApproval_16 lkX9_16 ?_
    refine V_iload_n 2 dX9_countOnApproval_19 rfl rfl ?_
    refine V_callV (mc := 0) (ms := 0) (as := [aI l2]) (st := []) (by decide) rt_2 rfl dX9_countOnApproval_20 okJx4a65c_get_915e3 inJx4a65c_get_915e3 seJx4a65c_get_915e3 lkX9_119 rfl (Nat.le_of_ble_eq_true rfl) (Nat.zero_le _) (Nat.zero_le _) (Cl.mono (fun r3 h4 z => ?_) k)
    obtain ⟨t5, rfl, k⟩ := z
    refine V_cast (by decide) rt_62 rfl lkX9_127 dX9_countOnApproval_23 ?_
    refine V_callV (mc := 0) (ms := 0) (as := []) (st := []) (by decide) rt_62 rfl dX9_countOnApproval_26 okX3_state inX3_state seX3_state lkX9_155 rfl (Nat.le_of_ble_eq_true rfl) (Nat.zero_le _) (Nat.zero_le _) (cX3_state_ ?_)
    show V true mX9_countOnApproval (d + 3) _ _ 29 [(0, aR 0 0), (1, aI l1), (2, aI l2)] [aI (stF h4 t5)] h4 P
    refine V_iconst 1 dX9_countOnApproval_29 (by decide) ?_
    refine V_icmp_ne 36 dX9_countOnApproval_30 (by decide) ⟨fun z => ?_, fun z => ?_⟩
    · replace k := k.1 z
      refine V_iinc 2 (v := l2 + 1) dX9_countOnApproval_36 rfl rfl (by decide) rfl ?_
      refine V_goto 4 dX9_countOnApproval_39 (by decide) ?_
      exact V_lv [1, 2, 0] rfl k
    · replace k := k.2 z
      refine V_iinc 1 (v := l1 + 1) dX9_countOnApproval_33 rfl rfl (by decide) rfl ?_
      refine V_iinc 2 (v := l2 + 1) dX9_countOnApproval_36 rfl rfl (by decide) rfl ?_
      refine V_goto 4 dX9_countOnApproval_39 (by decide) ?_
      exact V_lv [2, 1, 0] rfl k
-- X9_countParcels cuts [4]
set_option maxRecDepth 20000 in
set_option maxHeartbeats 2000000 in
theorem wX9_countParcels {d bc bs : Nat} {h : HS} {P : Option AV → HS → Prop}  (k : V true mX9_countParcels (d + 3) bc bs 4 [(0, aR 0 0), (1, aI 0), (2, aI 0)] [] h P) : Cl true mX9_countParcels (d + 3) bc bs [aR 0 0] h P := by
  refine Cl_of (by decide) (Nat.le_of_ble_eq_true rfl) ?_
  show V true mX9_countParcels (d + 3) bc bs 0 [(0, aR 0 0)] [] h P
  refine V_iconst 0 dX9_countParcels_0 (by decide) ?_
  refine V_istore_n 1 dX9_countParcels_1 rfl (by decide) rfl ?_
  refine V_iconst 0 dX9_countParcels_2 (by decide) ?_
  refine V_istore_n 2 dX9_countParcels_3 rfl (by decide) rfl ?_
  exact V_lv [2, 1, 0] rfl k
set_option maxRecDepth 20000 in
set_option maxHeartbeats 2000000 in
theorem wX9_countParcels_4 {d bc bs : Nat} {h : HS} {P : Option AV → HS → Prop} {l1 : Int32} {l2 : Int32} (k : (((gI h 2 0 2) ≤ l2) → (P (some (aI l1)) h)) ∧ ((¬ (gI h 2 0 2) ≤ l2) → (Cl true mJx4a65c_get_915e3 (d + 2) 0 0 [aR 2 0, aI l2] h (fun r3 h4 => ∃ t5, r3 = some (aR 62 t5) ∧ (((¬ (cPar h4 t5)) → (V true mX9_countParcels (d + 3) bc bs 4 [(0, aR 0 0), (1, aI l1), (2, aI (l2 + 1))] [] h4 P)) ∧ (((cPar h4 t5)) → (V true mX9_countParcels (d + 3) bc bs 4 [(0, aR 0 0), (1, aI (l1 + 1)), (2, aI (l2 + 1))] [] h4 P))))))) : V true mX9_countParcels (d + 3) bc bs 4 [(0, aR 0 0), (1, aI l1), (2, aI l2)] [] h P := by
  refine V_iload_n 2 dX9_countParcels_4 rfl rfl ?_
  refine V_aload_n 0 dX9_countParcels_5 rfl rfl ?_
  refine GS_0_1 dX9_countParcels_6 lkX9_16 ?_
  refine V_callV (mc := 0) (ms := 0) (as := []) (st := [aI l2]) (by decide) rt_2 rfl dX9_countParcels_9 okJx4a65c_size_8abf5 inJx4a65c_size_8abf5 seJx4a65c_size_8abf5 lkX9_77 rfl (Nat.le_of_ble_eq_true rfl) (Nat.zero_le _) (Nat.zero_le _) (cList_size_2 ?_)
  show V true mX9_countParcels (d + 3) _ _ 12 [(0, aR 0 0), (1, aI l1), (2, aI l2)] [aI (gI h 2 0 2), aI l2] h P
  refine V_icmp_ge 41 dX9_countParcels_12 (by decide) ⟨fun z => ?_, fun z => ?_⟩
  · replace k := k.1 z
    refine V_iload_n 1 dX9_countParcels_41 rfl rfl ?_
    exact V_ireturn dX9_countParcels_42 rfl k
  · replace k := k.2 z
    refine V_aload_n 0 dX9_countParcels_15 rfl rfl ?_
    refine GS_0_1 dX9_countParcels_16 lkX9_16 ?_
    refine V_iload_n 2 dX9_countParcels_19 rfl rfl ?_
    refine V_callV (mc := 0) (ms := 0) (as := [aI l2]) (st := []) (by decide) rt_2 rfl dX9_countParcels_20 okJx4a65c_get_915e3 inJx4a65c_get_915e3 seJx4a65c_get_915e3 lkX9_119 rfl (Nat.le_of_ble_eq_true rfl) (Nat.zero_le _) (Nat.zero_le _) (Cl.mono (fun r3 h4 z => ?_) k)
    obtain ⟨t5, rfl, k⟩ := z
    refine V_cast (by decide) rt_62 rfl lkX9_127 dX9_countParcels_23 ?_
    refine V_callV (mc := 0) (ms := 0) (as := []) (st := []) (by decide) rt_62 rfl dX9_countParcels_26 okX3_isParcel inX3_isParcel seX3_isParcel lkX9_270 rfl (Nat.le_of_ble_eq_true rfl) (Nat.zero_le _) (Nat.zero_le _) (cX3_isParcel_ ?_)
    show V true mX9_countParcels (d + 3) _ _ 29 [(0, aR 0 0), (1, aI l1), (2, aI l2)] [aI (bI (cPar h4 t5))] h4 P
    refine V_if_eq 35 dX9_countParcels_29 (by decide) ⟨fun z => ?_, fun z => ?_⟩
    · replace k := k.1 (bI_0 z)
      refine V_iinc 2 (v := l2 + 1) dX9_countParcels_35 rfl rfl (by decide) rfl ?_
      refine V_goto 4 dX9_countParcels_38 (by decide) ?_
      exact V_lv [1, 2, 0] rfl k
    · replace k := k.2 (bI_1 z)
      refine V_iinc 1 (v := l1 + 1) dX9_countParcels_32 rfl rfl (by decide) rfl ?_
      refine V_iinc 2 (v := l2 + 1) dX9_countParcels_35 rfl rfl (by decide) rfl ?_
      refine V_goto 4 dX9_countParcels_38 (by decide) ?_
      exact V_lv [2, 1, 0] rfl k
-- X6_init cuts []
set_option maxRecDepth 20000 in
set_option maxHeartbeats 2000000 in
theorem wX6_init {d bc bs : Nat} {h : HS} {P : Option AV → HS → Prop} {i0 : Nat} {l1 : Int32} {l2 : Int32} {l3 : Int32} (k : (61, i0) ∉ h.2.2 ∧ 1 ≤ bc ∧ 364 ≤ bs ∧ (((l1 < 0) → (P none (sI (sI (sR (nw h 61 i0) 60 i0 0 (some (61, i0))) 60 i0 1 l1) 60 i0 2 l3))) ∧ ((¬ l1 < 0) → (((364 ≤ l1) → (P none (sI (sI (sR (nw h 61 i0) 60 i0 0 (some (61, i0))) 60 i0 1 l1) 60 i0 2 l3))) ∧ ((¬ 364 ≤ l1) → (gR (sI (sI (sR (nw h 61 i0) 60 i0 0 (some (61, i0))) 60 i0 1 l1) 60 i0 2 l3) 60 i0 0 = some (61, i0) ∧ (vp_in l1 364 ∧ (P none (sI (sI (sI (sR (nw h 61 i0) 60 i0 0 (some (61, i0))) 60 i0 1 l1) 60 i0 2 l3) 61 i0 l1.toNatClampNeg l2))))))))) : Cl true mX6_init (d + 3) bc bs [aR 60 i0, aI l1, aI l2, aI l3] h P := by
  refine Cl_of (by decide) (Nat.le_of_ble_eq_true rfl) ?_
  show V true mX6_init (d + 3) bc bs 0 [(0, aR 60 i0), (1, aI l1), (2, aI l2), (3, aI l3)] [] h P
  refine V_aload_n 0 dX6_init_0 rfl rfl ?_
  refine V_objInit dX6_init_1 lkX6_3 (Nat.le_of_ble_eq_true rfl) ?_
  refine V_aload_n 0 dX6_init_4 rfl rfl ?_
  refine V_sipush 364 dX6_init_5 (by decide) ?_
  obtain ⟨kf, kb1, kb2, k⟩ := k
  refine V_newa (i := i0) (by decide) rt_61 (by decide) rfl (Or.inr (fun _ => rfl)) dX6_init_8 ac_int (by decide) (by decide) (by decide) kb1 kb2 kf ?_
  refine V_putR (k := 0) (by decide) rt_60 rfl (by decide) rfl (Or.inr ⟨rfl, rfl, rfl⟩) (Or.inr rfl) dX6_init_10 lkX6_9 ?_
  refine V_aload_n 0 dX6_init_13 rfl rfl ?_
  refine V_iload_n 1 dX6_init_14 rfl rfl ?_
  refine PI_60_1 rfl rfl dX6_init_15 lkX6_15 ?_
  refine V_aload_n 0 dX6_init_18 rfl rfl ?_
  refine V_iload_n 3 dX6_init_19 rfl rfl ?_
  refine PI_60_2 dX6_init_20 lkX6_19 ?_
  refine V_iload_n 1 dX6_init_23 rfl rfl ?_
  refine V_if_lt 41 dX6_init_24 (by decide) ⟨fun z => ?_, fun z => ?_⟩
  · replace k := k.1 z
    exact V_return dX6_init_41 rfl k
  · replace k := k.2 z
    refine V_iload_n 1 dX6_init_27 rfl rfl ?_
    refine V_sipush 364 dX6_init_28 (by decide) ?_
    refine V_icmp_ge 41 dX6_init_31 (by decide) ⟨fun z => ?_, fun z => ?_⟩
    · replace k := k.1 z
      exact V_return dX6_init_41 rfl k
    · replace k := k.2 z
      refine V_aload_n 0 dX6_init_34 rfl rfl ?_
      refine V_getR (k := 0) (some (61, i0)) (by decide) rt_60 rfl (by decide) rfl dX6_init_35 lkX6_9 k.1 ?_
      replace k := k.2
      refine V_iload_n 1 dX6_init_38 rfl rfl ?_
      refine V_iload_n 2 dX6_init_39 rfl rfl ?_
      refine V_iast (by decide) rt_61 dX6_init_40 k.1 ?_
      replace k := k.2
      exact V_return dX6_init_41 rfl k
-- X3_init cuts []
set_option maxRecDepth 20000 in
set_option maxHeartbeats 2000000 in
theorem wX3_init {d bc bs : Nat} {h : HS} {P : Option AV → HS → Prop} {i0 : Nat} {l1 : Int32} {l2 : Int32} {l3 : Int32} {i4 : Nat} {l5 : Int32} {l6 : Int32} {l7 : Int32} (k : (gR (sI (sI (sI (sR (sI (sI (sI h 62 i0 0 l1) 62 i0 1 l2) 62 i0 2 l3) 62 i0 3 (some (60, i4))) 62 i0 4 l5) 62 i0 5 l6) 62 i0 6 l7) 60 i4 0 = some (61, i4)) ∧ (P none (sI (sI (sI (sI (sI (sI (sI (sI (sR (sI (sI (sI h 62 i0 0 l1) 62 i0 1 l2) 62 i0 2 l3) 62 i0 3 (some (60, i4))) 62 i0 4 l5) 62 i0 5 l6) 62 i0 6 l7) 62 i0 7 (l5 * (tgF (sI (sI (sI (sR (sI (sI (sI h 62 i0 0 l1) 62 i0 1 l2) 62 i0 2 l3) 62 i0 3 (some (60, i4))) 62 i0 4 l5) 62 i0 5 l6) 62 i0 6 l7) i4 l7))) 62 i0 8 l7) 62 i0 9 (-1)) 62 i0 10 (-1)) 62 i0 11 (-1)))) : Cl true mX3_init (d + 3) bc bs [aR 62 i0, aI l1, aI l2, aI l3, aR 60 i4, aI l5, aI l6, aI l7] h P := by
  refine Cl_of (by decide) (Nat.le_of_ble_eq_true rfl) ?_
  show V true mX3_init (d + 3) bc bs 0 [(0, aR 62 i0), (1, aI l1), (2, aI l2), (3, aI l3), (4, aR 60 i4), (5, aI l5), (6, aI l6), (7, aI l7)] [] h P
  refine V_aload_n 0 dX3_init_0 rfl rfl ?_
  refine V_objInit dX3_init_1 lkX3_3 (Nat.le_of_ble_eq_true rfl) ?_
  refine V_aload_n 0 dX3_init_4 rfl rfl ?_
  refine V_iload_n 1 dX3_init_5 rfl rfl ?_
  refine PI_62_0 rfl rfl dX3_init_6 lkX3_9 ?_
  refine V_aload_n 0 dX3_init_9 rfl rfl ?_
  refine V_iload_n 2 dX3_init_10 rfl rfl ?_
  refine PI_62_1 rfl rfl dX3_init_11 lkX3_15 ?_
  refine V_aload_n 0 dX3_init_14 rfl rfl ?_
  refine V_iload_n 3 dX3_init_15 rfl rfl ?_
  refine PI_62_2 rfl rfl dX3_init_16 lkX3_18 ?_
  refine V_aload_n 0 dX3_init_19 rfl rfl ?_
  refine V_aload 4 dX3_init_20 rfl ?_
  refine V_putR (k := 3) (by decide) rt_62 rfl (by decide) rfl (Or.inr ⟨rfl, rfl, rfl⟩) (Or.inr rfl) dX3_init_22 lkX3_21 ?_
  refine V_aload_n 0 dX3_init_25 rfl rfl ?_
  refine V_iload 5 dX3_init_26 rfl ?_
  refine PI_62_4 rfl rfl dX3_init_28 lkX3_25 ?_
  refine V_aload_n 0 dX3_init_31 rfl rfl ?_
  refine V_iload 6 dX3_init_32 rfl ?_
  refine PI_62_5 rfl rfl dX3_init_34 lkX3_28 ?_
  refine V_aload_n 0 dX3_init_37 rfl rfl ?_
  refine V_iload 7 dX3_init_38 rfl ?_
  refine PI_62_6 rfl rfl dX3_init_40 lkX3_31 ?_
  refine V_aload_n 0 dX3_init_43 rfl rfl ?_
  refine V_iload 5 dX3_init_44 rfl ?_
  refine V_aload 4 dX3_init_46 rfl ?_
  refine V_iload 7 dX3_init_48 rfl ?_
  obtain ⟨s3, k⟩ := k
  refine V_callV (mc := 0) (ms := 0) (as := [aI l7]) (st := [aI l5, aR 62 i0]) (by decide) rt_60 rfl dX3_init_50 okX6_tagOn inX6_tagOn seX6_tagOn lkX3_34 rfl (Nat.le_of_ble_eq_true rfl) (Nat.zero_le _) (Nat.zero_le _) (cX6_tagOn_ s3 ?_)
  show V true mX3_init (d + 3) _ _ 53 [(0, aR 62 i0), (1, aI l1), (2, aI l2), (3, aI l3), (4, aR 60 i4), (5, aI l5), (6, aI l6), (7, aI l7)] [aI (tgF (sI (sI (sI (sR (sI (sI (sI h 62 i0 0 l1) 62 i0 1 l2) 62 i0 2 l3) 62 i0 3 (some (60, i4))) 62 i0 4 l5) 62 i0 5 l6) 62 i0 6 l7) i4 l7), aI l5, aR 62 i0] (sI (sI (sI (sR (sI (sI (sI h 62 i0 0 l1) 62 i0 1 l2) 62 i0 2 l3) 62 i0 3 (some (60, i4))) 62 i0 4 l5) 62 i0 5 l6) 62 i0 6 l7) P
  refine V_imul dX3_init_53 ?_
  refine PI_62_7 rfl rfl dX3_init_54 lkX3_40 ?_
  refine V_aload_n 0 dX3_init_57 rfl rfl ?_
  refine V_iload 7 dX3_init_58 rfl ?_
  refine PI_62_8 dX3_init_60 lkX3_43 ?_
  refine V_aload_n 0 dX3_init_63 rfl rfl ?_
  refine V_iconst (-1) dX3_init_64 (by decide) ?_
  refine PI_62_9 dX3_init_65 lkX3_46 ?_
  refine V_aload_n 0 dX3_init_68 rfl rfl ?_
  refine V_iconst (-1) dX3_init_69 (by decide) ?_
  refine PI_62_10 dX3_init_70 lkX3_49 ?_
  refine V_aload_n 0 dX3_init_73 rfl rfl ?_
  refine V_iconst (-1) dX3_init_74 (by decide) ?_
  refine PI_62_11 dX3_init_75 lkX3_52 ?_
  exact V_return dX3_init_78 rfl k

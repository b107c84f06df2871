-- ===== statement =====
theorem i_asub (a w : Int32) : a + w - w = a := by
  rw [Int32.sub_eq_add_neg, Int32.add_assoc, Int32.add_right_neg, Int32.add_zero]
theorem i_a0s (a w : Int32) : a + (0 + w - w) = a + w - w := by
  rw [Int32.zero_add, i_asub, Int32.sub_self, Int32.add_zero]
theorem i_sub0 (a w : Int32) : a + (0 - w) = a - w := by
  rw [Int32.zero_sub, Int32.sub_eq_add_neg]
/-- what slip i gives to a statement -/
def stM (h : HS) (ac m k : Int32) (i : Nat) (a : Int32) : Int32 := if gI h 34 0 i = ac then (if k < gI h 39 0 i then a else if gI h 40 0 i = -1 then a else if isOfP (gI h 41 0 i) m ∧ ¬ k < gI h 41 0 i then (if isOfP (gI h 40 0 i) m ∧ ¬ k < gI h 40 0 i then a + gI h 43 0 i else a) - gI h 43 0 i else (if isOfP (gI h 40 0 i) m ∧ ¬ k < gI h 40 0 i then a + gI h 43 0 i else a)) else a
theorem stM_eq (h : HS) (ac m k : Int32) (i : Nat) (a : Int32) : stM h ac m k i a = (if gI h 34 0 i = ac then (if k < gI h 39 0 i then a else if gI h 40 0 i = -1 then a else if isOfP (gI h 41 0 i) m ∧ ¬ k < gI h 41 0 i then (if isOfP (gI h 40 0 i) m ∧ ¬ k < gI h 40 0 i then a + gI h 43 0 i else a) - gI h 43 0 i else (if isOfP (gI h 40 0 i) m ∧ ¬ k < gI h 40 0 i then a + gI h 43 0 i else a)) else a) := rfl
section OP5
variable {d bc bs : Nat} {h : HS} {P : Option AV → HS → Prop}
theorem stC {D nt i : Nat} {ac m k a : Int32} (s : SL h D nt i) : (if gI h 62 i 2 = ac then a + swF h i m k else a) = stM h ac m k i a := by
  obtain ⟨c1, c2, c3, c4, c5, c6, c7, c8, c9, c10, c11, c12, c13, c14, c15⟩ := s
  unfold stM swF
  rw [c3, c8, c9, c10, c11]
  have le : ∀ {x y : Int32}, x ≤ y ↔ ¬ y < x := fun {x y} => by rw [iLe, iLt]; omega
  by_cases e1 : gI h 34 0 i = ac
  · rw [if_pos e1, if_pos e1]
    by_cases e2 : k < gI h 39 0 i
    · rw [if_pos e2, if_neg (fun q => le.mp q e2), Int32.add_zero]
    · rw [if_neg e2, if_pos (le.mpr e2)]
      by_cases e3 : gI h 40 0 i = -1
      · rw [if_pos e3, if_neg (fun q => q.1.1 e3), if_neg (fun q => q.1.1 e3), Int32.add_zero]
      · rw [if_neg e3]
        by_cases e4 : isOfP (gI h 41 0 i) m ∧ ¬ k < gI h 41 0 i
        · rw [if_pos e4, if_pos ⟨⟨e3, e4.1⟩, e4.2⟩]
          by_cases e5 : isOfP (gI h 40 0 i) m ∧ ¬ k < gI h 40 0 i
          · rw [if_pos e5, if_pos e5, i_a0s]
          · rw [if_neg e5, if_neg e5, i_sub0]
        · rw [if_neg e4, if_neg (fun q => e4 ⟨q.1.2, q.2⟩)]
          by_cases e5 : isOfP (gI h 40 0 i) m ∧ ¬ k < gI h 40 0 i
          · rw [if_pos e5, if_pos e5, Int32.zero_add]
          · rw [if_neg e5, if_neg e5, Int32.add_zero]
  · rw [if_neg e1, if_neg e1]
theorem lp_cSt {ns : Nat} {ac m k : Int32} (hL : LsL h 2 64 62 ns) (hn : ns ≤ 120) (kk : P (some (aI (acc (fun i a => if gI h 62 i 2 = ac then a + swF h i m k else a) ns 0))) h) : ∀ q j, j + q = ns → V true mX9_statement (d + 8) bc bs 44 [(0, aR 0 0), (1, aI ac), (2, aI m), (3, aI k), (4, aI (acc (fun i a => if gI h 62 i 2 = ac then a + swF h i m k else a) j 0)), (5, aI (nI j))] [] h P := by
  intro q
  induction q with
  | zero =>
    intro j hj
    obtain rfl : j = ns := by omega
    exact wX9_statement_44 ⟨fun _ => kk, fun z => absurd (by rw [hL.1]; exact nI_le (Nat.le_refl _) (by omega)) z⟩
  | succ q ih =>
    intro j hj
    have w := ih (j + 1) (by omega)
    refine wX9_statement_44 ⟨fun z => absurd z (by rw [hL.1]; exact nI_ge (by omega) (by omega)), fun _ => cGet_2 hL (by omega) ⟨_, rfl, ⟨fun z => ?_, fun z => ?_⟩⟩⟩
    · rw [show acc (fun i a => if gI h 62 i 2 = ac then a + swF h i m k else a) (j + 1) (0 : Int32) = acc (fun i a => if gI h 62 i 2 = ac then a + swF h i m k else a) j 0 from if_neg z] at w
      rw [nI_1]
      exact w
    · rw [show acc (fun i a => if gI h 62 i 2 = ac then a + swF h i m k else a) (j + 1) (0 : Int32) = acc (fun i a => if gI h 62 i 2 = ac then a + swF h i m k else a) j 0 + swF h j m k from if_pos z] at w
      rw [nI_1]
      exact w
theorem lp_mSt {ns : Nat} {ac m k : Int32} (hL : gI h 26 0 2 = nI ns) (hn : ns ≤ 120) (kk : P (some (aI (acc (stM h ac m k) ns 0))) h) : ∀ q j, j + q = ns → V true mX10_statement (d + 3) bc bs 39 [(0, aR 26 0), (1, aI ac), (2, aI m), (3, aI k), (4, aI (acc (stM h ac m k) j 0)), (5, aI (nI j))] [] h P := by
  intro q
  induction q with
  | zero =>
    intro j hj
    obtain rfl : j = ns := by omega
    exact wX10_statement_39 ⟨fun _ => kk, fun z => absurd (by rw [hL]; exact nI_le (Nat.le_refl _) (by omega)) z⟩
  | succ q ih =>
    intro j hj
    have w := ih (j + 1) (by omega)
    have v : vp_in (nI j) 120 := vp_in_nI (by omega) (by decide)
    have nx : ∀ a, stM h ac m k j (acc (stM h ac m k) j 0) = a → V true mX10_statement (d + 3) bc bs 39 [(0, aR 26 0), (1, aI ac), (2, aI m), (3, aI k), (4, aI a), (5, aI (nI (j + 1)))] [] h P := fun a e => by
      rw [← e]
      exact w
    rw [stM_eq] at nx
    refine wX10_statement_39 ⟨fun z => absurd z (by rw [hL]; exact nI_ge (by omega) (by omega)), fun _ => ⟨v, ?_⟩⟩
    rw [nI_clamp (by omega), nI_1]
    refine ⟨fun z1 => nx _ (if_neg z1), fun z1 => ⟨v, fun z2 => nx _ (by rw [if_pos z1, if_pos z2]), fun z2 => ⟨v, fun z3 => ⟨v, fun z4 => ⟨v, fun z5 => nx _ ?_, fun z5 => ⟨v, fun z6 => nx _ ?_, fun z6 => ⟨v, nx _ ?_⟩⟩⟩, fun z4 => ⟨v, fun z7 => ⟨v, fun z5 => nx _ ?_, fun z5 => ⟨v, fun z6 => nx _ ?_, fun z6 => ⟨v, nx _ ?_⟩⟩⟩, fun z7 => ⟨v, v, fun z5 => nx _ ?_, fun z5 => ⟨v, fun z6 => nx _ ?_, fun z6 => ⟨v, nx _ ?_⟩⟩⟩⟩⟩, fun z3 => nx _ (by rw [if_pos z1, if_neg z2, if_pos z3])⟩⟩⟩
    · rw [if_pos z1, if_neg z2, if_neg z3, if_neg (fun y => z5 y.1), if_neg (fun y => z4 y.1)]
    · rw [if_pos z1, if_neg z2, if_neg z3, if_neg (fun y => y.2 z6), if_neg (fun y => z4 y.1)]
    · rw [if_pos z1, if_neg z2, if_neg z3, if_pos ⟨z5, z6⟩, if_neg (fun y => z4 y.1)]
    · rw [if_pos z1, if_neg z2, if_neg z3, if_neg (fun y => z5 y.1), if_neg (fun y => y.2 z7)]
    · rw [if_pos z1, if_neg z2, if_neg z3, if_neg (fun y => y.2 z6), if_neg (fun y => y.2 z7)]
    · rw [if_pos z1, if_neg z2, if_neg z3, if_pos ⟨z5, z6⟩, if_neg (fun y => y.2 z7)]
    · rw [if_pos z1, if_neg z2, if_neg z3, if_neg (fun y => z5 y.1), if_pos ⟨z4, z7⟩]
    · rw [if_pos z1, if_neg z2, if_neg z3, if_neg (fun y => y.2 z6), if_pos ⟨z4, z7⟩]
    · rw [if_pos z1, if_neg z2, if_neg z3, if_pos ⟨z5, z6⟩, if_pos ⟨z4, z7⟩]
theorem sim_statement {ac m k : Int32} (I : Inv h) : Sim mX9_statement mX10_statement 0 0 [aI ac, aI m, aI k] h := by
  obtain ⟨D, nt, ns, iA⟩ := I.1
  obtain ⟨⟨hD, hnt, hns⟩, a1, a2, a3, a4, a5, a6, a7, a8, a9, a10⟩ := id iA
  have e12 : gI h 0 0 10 = gI h 26 0 0 := a1.trans a2.symm
  refine wX9_statement ⟨fun z => ⟨_, rfl, wX10_statement ⟨fun _ => ⟨rfl, I⟩, fun y => absurd y z⟩⟩, fun z => ⟨fun z2 => ⟨fun z3 => ?_, fun z3 => ⟨_, rfl, wX10_statement ⟨fun y => absurd z y, fun _ => ⟨fun y => absurd z2 y, fun _ => ⟨fun y => absurd (by rw [e12]; exact y) z3, fun _ => ⟨rfl, I⟩⟩⟩⟩⟩⟩, fun z2 => ⟨_, rfl, wX10_statement ⟨fun y => absurd z y, fun _ => ⟨fun _ => ⟨rfl, I⟩, fun y => absurd y z2⟩⟩⟩⟩⟩
  refine lp_cSt (d := 92) a6 (by omega) ⟨_, rfl, wX10_statement ⟨fun y => absurd z y, fun _ => ⟨fun y => absurd z2 y, fun _ => ⟨fun _ => lp_mSt a4 (by omega) ⟨?_, I⟩ ns 0 (by omega), fun y => absurd (by rw [← e12]; exact z3) y⟩⟩⟩⟩ ns 0 (by omega)
  congr 2
  exact acc_cg (fun i hi x => (stC (a8 i hi)).symm)
end OP5

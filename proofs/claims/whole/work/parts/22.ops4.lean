-- ===== loops over the slips: look, statement =====
def acc {α : Type} (f : Nat → α → α) : Nat → α → α
  | 0, a => a
  | n + 1, a => f n (acc f n a)
theorem acc_cg {α : Type} {f g : Nat → α → α} : ∀ {n : Nat} {a : α}, (∀ i, i < n → ∀ x, f i x = g i x) → acc f n a = acc g n a
  | 0, _, _ => rfl
  | n + 1, a, h => by
    show f n (acc f n a) = g n (acc g n a)
    rw [acc_cg (n := n) (fun i hi x => h i (by omega) x), h n (by omega)]
theorem acc_inv {α : Type} {f : Nat → α → α} {R : Nat → α → Prop} {a : α} (h0 : R 0 a) : ∀ {n : Nat}, (∀ i x, i < n → R i x → R (i + 1) (f i x)) → R n (acc f n a)
  | 0, _ => h0
  | n + 1, hs => hs n _ (by omega) (acc_inv h0 (fun i x hi => hs i x (by omega)))
section OP4
variable {d bc bs : Nat} {h : HS} {P : Option AV → HS → Prop}
theorem lp_cOA {ns : Nat} (hL : LsL h 2 64 62 ns) (hn : ns ≤ 120) (k : P (some (aI (acc (fun i a => if stF h i = 1 then a + 1 else a) ns 0))) h) : ∀ m j, j + m = ns → V true mX9_countOnApproval (d + 8) bc bs 4 [(0, aR 0 0), (1, aI (acc (fun i a => if stF h i = 1 then a + 1 else a) j 0)), (2, aI (nI j))] [] h P := by
  intro m
  induction m with
  | zero =>
    intro j hj
    obtain rfl : j = ns := by omega
    exact wX9_countOnApproval_4 ⟨fun _ => k, fun z => absurd (by rw [hL.1]; exact nI_le (Nat.le_refl _) (by omega)) z⟩
  | succ m ih =>
    intro j hj
    refine wX9_countOnApproval_4 ⟨fun z => absurd z (by rw [hL.1]; exact nI_ge (by omega) (by omega)), fun _ => cGet_2 hL (by omega) ⟨_, rfl, ⟨fun z => ?_, fun z => ?_⟩⟩⟩
    · have q := ih (j + 1) (by omega)
      rw [show acc (fun i a => if stF h i = 1 then a + 1 else a) (j + 1) (0 : Int32) = acc (fun i a => if stF h i = 1 then a + 1 else a) j 0 from if_neg z] at q
      rw [nI_1]
      exact q
    · have q := ih (j + 1) (by omega)
      rw [show acc (fun i a => if stF h i = 1 then a + 1 else a) (j + 1) (0 : Int32) = acc (fun i a => if stF h i = 1 then a + 1 else a) j 0 + 1 from if_pos z] at q
      rw [nI_1]
      exact q
theorem lp_cPc {ns : Nat} (hL : LsL h 2 64 62 ns) (hn : ns ≤ 120) (k : P (some (aI (acc (fun i a => if cPar h i then a + 1 else a) ns 0))) h) : ∀ m j, j + m = ns → V true mX9_countParcels (d + 8) bc bs 4 [(0, aR 0 0), (1, aI (acc (fun i a => if cPar h i then a + 1 else a) j 0)), (2, aI (nI j))] [] h P := by
  intro m
  induction m with
  | zero =>
    intro j hj
    obtain rfl : j = ns := by omega
    exact wX9_countParcels_4 ⟨fun _ => k, fun z => absurd (by rw [hL.1]; exact nI_le (Nat.le_refl _) (by omega)) z⟩
  | succ m ih =>
    intro j hj
    refine wX9_countParcels_4 ⟨fun z => absurd z (by rw [hL.1]; exact nI_ge (by omega) (by omega)), fun _ => cGet_2 hL (by omega) ⟨_, rfl, ⟨fun z => ?_, fun z => ?_⟩⟩⟩
    · have q := ih (j + 1) (by omega)
      rw [show acc (fun i a => if cPar h i then a + 1 else a) (j + 1) (0 : Int32) = acc (fun i a => if cPar h i then a + 1 else a) j 0 from if_neg z] at q
      rw [nI_1]
      exact q
    · have q := ih (j + 1) (by omega)
      rw [show acc (fun i a => if cPar h i then a + 1 else a) (j + 1) (0 : Int32) = acc (fun i a => if cPar h i then a + 1 else a) j 0 + 1 from if_pos z] at q
      rw [nI_1]
      exact q
theorem lp_mOA {ns : Nat} (hL : gI h 26 0 2 = nI ns) (hn : ns ≤ 120) (k : P (some (aI (acc (fun i a => if gI h 40 0 i = -1 ∧ gI h 41 0 i = -1 then a + 1 else a) ns 0))) h) : ∀ m j, j + m = ns → V true mX10_look (d + 3) bc bs 61 [(0, aR 26 0), (2, aI (acc (fun i a => if gI h 40 0 i = -1 ∧ gI h 41 0 i = -1 then a + 1 else a) j 0)), (3, aI (nI j))] [] h P := by
  intro m
  induction m with
  | zero =>
    intro j hj
    obtain rfl : j = ns := by omega
    exact wX10_look_61 ⟨fun _ => k, fun z => absurd (by rw [hL]; exact nI_le (Nat.le_refl _) (by omega)) z⟩
  | succ m ih =>
    intro j hj
    have hin : vp_in (nI j) 120 := vp_in_nI (by omega) (by decide)
    have q := ih (j + 1) (by omega)
    refine wX10_look_61 ⟨fun z => absurd z (by rw [hL]; exact nI_ge (by omega) (by omega)), fun _ => ⟨hin, ?_⟩⟩
    rw [nI_clamp (by omega), nI_1, Int32.add_zero]
    refine ⟨fun z => ?_, fun z => ⟨hin, fun z2 => ?_, fun z2 => ?_⟩⟩
    · rw [show acc (fun i a => if gI h 40 0 i = -1 ∧ gI h 41 0 i = -1 then a + 1 else a) (j + 1) (0 : Int32) = acc (fun i a => if gI h 40 0 i = -1 ∧ gI h 41 0 i = -1 then a + 1 else a) j 0 from if_neg (fun y => z y.1)] at q
      exact q
    · rw [show acc (fun i a => if gI h 40 0 i = -1 ∧ gI h 41 0 i = -1 then a + 1 else a) (j + 1) (0 : Int32) = acc (fun i a => if gI h 40 0 i = -1 ∧ gI h 41 0 i = -1 then a + 1 else a) j 0 from if_neg (fun y => z2 y.2)] at q
      exact q
    · rw [show acc (fun i a => if gI h 40 0 i = -1 ∧ gI h 41 0 i = -1 then a + 1 else a) (j + 1) (0 : Int32) = acc (fun i a => if gI h 40 0 i = -1 ∧ gI h 41 0 i = -1 then a + 1 else a) j 0 + 1 from if_pos ⟨z, z2⟩] at q
      exact q
theorem lp_mPc {ns : Nat} (hL : gI h 26 0 2 = nI ns) (hn : ns ≤ 120) (k : P (some (aI (acc (fun i a => if mPar h i then a + 1 else a) ns 0))) h) : ∀ m j, j + m = ns → V true mX10_look (d + 3) bc bs 107 [(0, aR 26 0), (2, aI (acc (fun i a => if mPar h i then a + 1 else a) j 0)), (3, aI (nI j))] [] h P := by
  intro m
  induction m with
  | zero =>
    intro j hj
    obtain rfl : j = ns := by omega
    exact wX10_look_107 ⟨fun _ => k, fun z => absurd (by rw [hL]; exact nI_le (Nat.le_refl _) (by omega)) z⟩
  | succ m ih =>
    intro j hj
    have hin : vp_in (nI j) 120 := vp_in_nI (by omega) (by decide)
    have q := ih (j + 1) (by omega)
    refine wX10_look_107 ⟨fun z => absurd z (by rw [hL]; exact nI_ge (by omega) (by omega)), fun _ => ⟨hin, ?_⟩⟩
    rw [nI_clamp (by omega), nI_1, Int32.add_zero]
    refine ⟨fun z => ?_, fun z => ?_⟩
    · rw [show acc (fun i a => if mPar h i then a + 1 else a) (j + 1) (0 : Int32) = acc (fun i a => if mPar h i then a + 1 else a) j 0 from if_neg z] at q
      exact q
    · rw [show acc (fun i a => if mPar h i then a + 1 else a) (j + 1) (0 : Int32) = acc (fun i a => if mPar h i then a + 1 else a) j 0 + 1 from if_pos z] at q
      exact q
theorem cPar_m {D nt i : Nat} (s : SL h D nt i) : cPar h i ↔ mPar h i := by
  obtain ⟨c1, c2, c3, c4, c5, c6, c7, c8, c9, c10, c11, c12, c13, c14, c15⟩ := s
  unfold cPar mPar
  rw [c6, c11, c12]
theorem sim_look {w : Int32} (I : Inv h) : Sim mX9_look mX10_look 0 0 [aI w] h := by
  obtain ⟨⟨D, nt, ns, iA⟩, iV, iT, iR, iF, iC⟩ := id I
  obtain ⟨⟨hD, hnt, hns⟩, a1, a2, a3, a4, a5, a6, a7, a8, a9, a10⟩ := id iA
  have ne : ∀ {u v : Int32}, w = u → ¬ u = v → ¬ w = v := fun e n q => n (e.symm.trans q)
  have out : ∀ {v : Int32}, (0 ≤ v.toInt ∧ v.toInt ≤ 6) → w = v → ¬ ¬ (0 ≤ w.toInt ∧ w.toInt ≤ 6) := fun hv e n => n (e ▸ hv)
  refine wX9_look ⟨fun y => ⟨_, rfl, wX10_look ⟨fun _ => ⟨by rw [a1, a2], I⟩, fun e => absurd e (ne y (by decide)), fun e => absurd e (ne y (by decide)), fun e => absurd e (ne y (by decide)), fun e => absurd e (ne y (by decide)), fun e => absurd e (ne y (by decide)), fun e => absurd e (ne y (by decide)), fun e => absurd e (out (by decide) y)⟩⟩, fun y => ⟨_, rfl, wX10_look ⟨fun e => absurd e (ne y (by decide)), fun _ => ⟨by rw [a3, a5.1], I⟩, fun e => absurd e (ne y (by decide)), fun e => absurd e (ne y (by decide)), fun e => absurd e (ne y (by decide)), fun e => absurd e (ne y (by decide)), fun e => absurd e (ne y (by decide)), fun e => absurd e (out (by decide) y)⟩⟩, fun y => ⟨_, rfl, wX10_look ⟨fun e => absurd e (ne y (by decide)), fun e => absurd e (ne y (by decide)), fun _ => ⟨by rw [a4, a6.1], I⟩, fun e => absurd e (ne y (by decide)), fun e => absurd e (ne y (by decide)), fun e => absurd e (ne y (by decide)), fun e => absurd e (ne y (by decide)), fun e => absurd e (out (by decide) y)⟩⟩, fun y => ?_, fun y => ?_, fun y => ⟨_, rfl, wX10_look ⟨fun e => absurd e (ne y (by decide)), fun e => absurd e (ne y (by decide)), fun e => absurd e (ne y (by decide)), fun e => absurd e (ne y (by decide)), fun e => absurd e (ne y (by decide)), fun _ => ⟨by rw [iV.1], I⟩, fun e => absurd e (ne y (by decide)), fun e => absurd e (out (by decide) y)⟩⟩, fun y => ?_, fun y => ⟨_, rfl, wX10_look ⟨fun e => absurd y (out (by decide) e), fun e => absurd y (out (by decide) e), fun e => absurd y (out (by decide) e), fun e => absurd y (out (by decide) e), fun e => absurd y (out (by decide) e), fun e => absurd y (out (by decide) e), fun e => absurd y (out (by decide) e), fun _ => ⟨rfl, I⟩⟩⟩⟩
  · refine wX9_countOnApproval (lp_cOA (d := 91) a6 (by omega) ⟨_, rfl, ⟨_, rfl, ?_⟩⟩ ns 0 (by omega))
    refine wX10_look ⟨fun e => absurd e (ne y (by decide)), fun e => absurd e (ne y (by decide)), fun e => absurd e (ne y (by decide)), fun _ => lp_mOA a4 (by omega) ⟨?_, I⟩ ns 0 (by omega), fun e => absurd e (ne y (by decide)), fun e => absurd e (ne y (by decide)), fun e => absurd e (ne y (by decide)), fun e => absurd e (out (by decide) y)⟩
    congr 2
    refine acc_cg (fun i hi x => ?_)
    rw [stF_m (a8 i hi)]
    by_cases e1 : gI h 41 0 i = -1
    · by_cases e2 : gI h 40 0 i = -1
      · rw [if_pos ⟨e2, e1⟩, if_pos (by rw [if_pos e1, if_pos e2])]
      · rw [if_neg (fun q => e2 q.1), if_neg (by rw [if_pos e1, if_neg e2]; decide)]
    · rw [if_neg (fun q => e1 q.2), if_neg (by rw [if_neg e1]; decide)]
  · refine wX9_countParcels (lp_cPc (d := 91) a6 (by omega) ⟨_, rfl, ⟨_, rfl, ?_⟩⟩ ns 0 (by omega))
    refine wX10_look ⟨fun e => absurd e (ne y (by decide)), fun e => absurd e (ne y (by decide)), fun e => absurd e (ne y (by decide)), fun e => absurd e (ne y (by decide)), fun _ => lp_mPc a4 (by omega) ⟨?_, I⟩ ns 0 (by omega), fun e => absurd e (ne y (by decide)), fun e => absurd e (ne y (by decide)), fun e => absurd e (out (by decide) y)⟩
    congr 2
    refine acc_cg (fun i hi x => ?_)
    by_cases e1 : mPar h i
    · rw [if_pos e1, if_pos ((cPar_m (a8 i hi)).mpr e1)]
    · rw [if_neg e1, if_neg (fun q => e1 ((cPar_m (a8 i hi)).mp q))]
  · obtain ⟨ρ, r1, r2, r3, r4, nl, n1, n2, n3, n4⟩ := iR
    exact ⟨ρ, r2, _, rfl, wX10_look ⟨fun e => absurd e (ne y (by decide)), fun e => absurd e (ne y (by decide)), fun e => absurd e (ne y (by decide)), fun e => absurd e (ne y (by decide)), fun e => absurd e (ne y (by decide)), fun e => absurd e (ne y (by decide)), fun _ => ⟨by rw [n2, n3], I⟩, fun e => absurd e (out (by decide) y)⟩⟩
end OP4

-- ===== paper, back =====
theorem i_subadd (a b c : Int32) : a - (b - c) = a - b + c := by
  rw [Int32.sub_eq_add_neg a (b - c), Int32.neg_sub, Int32.sub_eq_add_neg c b, Int32.sub_eq_add_neg a b, Int32.add_comm c, Int32.add_assoc]
section OP3
variable {h : HS}
theorem stF_m {D nt i : Nat} (s : SL h D nt i) : stF h i = if gI h 41 0 i = -1 then (if gI h 40 0 i = -1 then 1 else 0) else 2 := by
  obtain ⟨c1, c2, c3, c4, c5, c6, c7, c8, c9, c10, c11, c12, c13, c14, c15⟩ := s
  unfold stF
  rw [c10, c11]
theorem sim_paper {i w : Int32} (I : Inv h) : Sim mX9_paper mX10_paper 0 0 [aI i, aI w] h := by
  obtain ⟨D, nt, ns, iA⟩ := I.1
  obtain ⟨⟨hD, hnt, hns⟩, a1, a2, a3, a4, a5, a6, a7, a8, a9, a10⟩ := id iA
  refine wX9_paper (cSlipAt a6 (by omega) (fun z => Or.inl ⟨rfl, ⟨_, rfl, ?_⟩⟩) (fun j hj ej => Or.inr ⟨j, rfl, ?_⟩))
  · exact wX10_paper ⟨fun y => absurd (by rw [← a4]; exact y) z, fun _ => ⟨rfl, I⟩⟩
  · subst ej
    have sl := a8 j hj
    obtain ⟨c1, c2, c3, c4, c5, c6, c7, c8, c9, c10, c11, c12, c13, c14, c15⟩ := id sl
    have hin : inR (nI j) 0 (gI h 26 0 2 - 1) := by rw [a4]; exact inR_of (by omega) hj
    have h12 : vp_in (nI j) 120 := vp_in_nI (by omega) (by decide)
    have ec : (nI j).toNatClampNeg = j := nI_clamp (by omega)
    have ne : ∀ {u v : Int32}, w = u → ¬ u = v → ¬ w = v := fun e n q => n (e.symm.trans q)
    have go := fun (x : Int32) q => (wX10_paper (d := 97) (bc := 0) (bs := 0) (h := h) (l1 := nI j) (l2 := w) (P := fun r2 h2 => r2 = some (aI x) ∧ Inv h2) ⟨fun _ => q, fun y => absurd hin y⟩)
    have out : ∀ {v : Int32}, (0 ≤ v.toInt ∧ v.toInt ≤ 6) → w = v → ¬ ¬ (0 ≤ w.toInt ∧ w.toInt ≤ 6) := fun hv e n => n (e ▸ hv)
    refine ⟨fun y => ⟨_, rfl, go _ ⟨fun _ => ?_, fun e => absurd e (ne y (by decide)), fun e => absurd e (ne y (by decide)), fun e => absurd e (ne y (by decide)), fun e => absurd e (ne y (by decide)), fun e => absurd e (ne y (by decide)), fun e => absurd e (ne y (by decide)), fun e => absurd e (out (by decide) y)⟩⟩, fun y => ⟨_, rfl, go _ ⟨fun e => absurd e (ne y (by decide)), fun _ => ⟨h12, ?_, I⟩, fun e => absurd e (ne y (by decide)), fun e => absurd e (ne y (by decide)), fun e => absurd e (ne y (by decide)), fun e => absurd e (ne y (by decide)), fun e => absurd e (ne y (by decide)), fun e => absurd e (out (by decide) y)⟩⟩, fun y => ⟨_, rfl, go _ ⟨fun e => absurd e (ne y (by decide)), fun e => absurd e (ne y (by decide)), fun _ => ⟨h12, ?_, I⟩, fun e => absurd e (ne y (by decide)), fun e => absurd e (ne y (by decide)), fun e => absurd e (ne y (by decide)), fun e => absurd e (ne y (by decide)), fun e => absurd e (out (by decide) y)⟩⟩, fun y => ⟨_, rfl, go _ ⟨fun e => absurd e (ne y (by decide)), fun e => absurd e (ne y (by decide)), fun e => absurd e (ne y (by decide)), fun _ => ⟨h12, ?_, I⟩, fun e => absurd e (ne y (by decide)), fun e => absurd e (ne y (by decide)), fun e => absurd e (ne y (by decide)), fun e => absurd e (out (by decide) y)⟩⟩, fun y => ⟨_, rfl, go _ ⟨fun e => absurd e (ne y (by decide)), fun e => absurd e (ne y (by decide)), fun e => absurd e (ne y (by decide)), fun e => absurd e (ne y (by decide)), fun _ => ⟨h12, ?_, I⟩, fun e => absurd e (ne y (by decide)), fun e => absurd e (ne y (by decide)), fun e => absurd e (out (by decide) y)⟩⟩, fun y => ⟨_, rfl, go _ ⟨fun e => absurd e (ne y (by decide)), fun e => absurd e (ne y (by decide)), fun e => absurd e (ne y (by decide)), fun e => absurd e (ne y (by decide)), fun e => absurd e (ne y (by decide)), fun _ => ⟨h12, ?_, I⟩, fun e => absurd e (ne y (by decide)), fun e => absurd e (out (by decide) y)⟩⟩, fun y => ⟨_, rfl, go _ ⟨fun e => absurd e (ne y (by decide)), fun e => absurd e (ne y (by decide)), fun e => absurd e (ne y (by decide)), fun e => absurd e (ne y (by decide)), fun e => absurd e (ne y (by decide)), fun e => absurd e (ne y (by decide)), fun _ => ⟨h12, ?_, I⟩, fun e => absurd e (out (by decide) y)⟩⟩, fun y => ⟨_, rfl, go _ ⟨fun e => absurd y (out (by decide) e), fun e => absurd y (out (by decide) e), fun e => absurd y (out (by decide) e), fun e => absurd y (out (by decide) e), fun e => absurd y (out (by decide) e), fun e => absurd y (out (by decide) e), fun e => absurd y (out (by decide) e), fun _ => ⟨rfl, I⟩⟩⟩⟩
    · rw [stF_m sl, ec]
      refine ⟨h12, ⟨fun q => ⟨h12, ⟨fun q2 => ⟨?_, I⟩, fun q2 => ⟨?_, I⟩⟩⟩, fun q => ⟨?_, I⟩⟩⟩
      · rw [if_pos q, if_pos q2]
      · rw [if_pos q, if_neg q2]
      · rw [if_neg q]
    · rw [ec, c8]
    · rw [ec, c7]
    · rw [ec, c9]
    · rw [ec, c10]
    · rw [ec, c11]
    · rw [ec, c12]
theorem sim_back {i : Int32} (I : Inv h) : Sim mX9_back mX10_back 0 0 [aI i] h := by
  obtain ⟨D, nt, ns, iA⟩ := I.1
  obtain ⟨⟨hD, hnt, hns⟩, a1, a2, a3, a4, a5, a6, a7, a8, a9, a10⟩ := id iA
  refine wX9_back (cSlipAt a6 (by omega) (fun z => Or.inl ⟨rfl, ⟨_, rfl, ?_⟩⟩) (fun j hj ej => Or.inr ⟨j, rfl, ?_⟩))
  · exact wX10_back ⟨fun _ => ⟨rfl, I⟩, fun y => absurd (by rw [← a4]; exact y) z⟩
  · subst ej
    have sl := a8 j hj
    obtain ⟨c1, c2, c3, ⟨t, ht, c4, c4'⟩, c5, c6, c7, c8, c9, c10, c11, c12, c13, c14, c15⟩ := id sl
    have hin : inR (nI j) 0 (gI h 26 0 2 - 1) := by rw [a4]; exact inR_of (by omega) hj
    have h12 : vp_in (nI j) 120 := vp_in_nI (by omega) (by decide)
    have ec : (nI j).toNatClampNeg = j := nI_clamp (by omega)
    have et : (nI t).toNatClampNeg = t := nI_clamp (by omega)
    have ht12 : vp_in (nI t) 12 := vp_in_nI (by omega) (by decide)
    have le28 : ∀ n, n ≤ 400 → gI h 40 0 j = nI n → (¬ gI h 40 0 j + 28 < nI D ↔ nI D - gI h 40 0 j ≤ 28) := by
      intro n hn e
      rw [e, show nI n + 28 = nI (n + 28) from nI_add n 28, iLt, iLe, nI_toInt (by omega), nI_toInt (by omega), pk_sub_toInt (by omega) (by omega), show (28 : Int32).toInt = 28 from by decide]
      omega
    refine ⟨fun z => ⟨t, c4, _, rfl, ?_⟩, fun z => ⟨_, rfl, ?_⟩⟩
    · rw [a1] at z ⊢
      have y1 : gI h 41 0 j = -1 := by rw [← c11]; exact z.1
      have y2 : gI h 40 0 j = -1 ∨ nI D - gI h 40 0 j ≤ 28 := by
        rcases z.2 with q | q
        · exact Or.inl (by rw [← c10]; exact q)
        · rcases c14 with w | ⟨n, hn, w⟩
          · exact Or.inl w
          · exact Or.inr ((le28 n hn w).mp (by rw [← c10]; exact q))
      have done : Inv (sI (sI (sI (sI h 62 j 10 (nI D)) 60 t 2 (gI h 60 t 2 + gI h 62 j 4)) 41 0 j (nI D)) 28 0 t (gI h 28 0 t + gI h 36 0 j)) := by
        obtain ⟨-, iV, iT, iR, iF, iC⟩ := I
        refine ⟨⟨D, nt, ns, ⟨⟨hD, hnt, hns⟩, a1, a2, a3, a4, a5.keep (fun i k => ⟨rfl, rfl⟩) (fun i k => rfl) (fun m => Iff.rfl), a6.keep (fun i k => ⟨rfl, rfl⟩) (fun i k => rfl) (fun m => Iff.rfl), fun q hq => ?_, fun q hq => ?_, fun q hq d => a9 q hq d, a10⟩⟩, iV.keep ((((Eqo.rf.sI rfl).sI rfl).sI rfl).sI rfl), iT.keep ((((Eqo.rf.sI rfl).sI rfl).sI rfl).sI rfl), iR.keep ((((Eqo.rf.sI rfl).sI rfl).sI rfl).sI rfl), iF.keep ((((Eqo.rf.sI rfl).sI rfl).sI rfl).sI rfl), iC.keep ((((Eqo.rf.sI rfl).sI rfl).sI rfl).sI rfl)⟩
        · obtain ⟨b1, b2, b3, b4, b5, b6, b7⟩ := a7 q hq
          refine ⟨b1, b2, ?_, b4, b5, b6, b7⟩
          simp only [gI_sI]
          by_cases e : q = t
          · subst e
            simp [b3, c5]
          · simp [e, b3]
        · obtain ⟨d1, d2, d3, d4, d5, d6, d7, d8, d9, d10, d11, d12, d13, d14, d15⟩ := a8 q hq
          refine ⟨d1, d2, d3, d4, d5, d6, d7, d8, d9, d10, ?_, d12, ?_, d14, d15⟩
          · simp only [gI_sI]
            by_cases e : q = j
            · simp [e]
            · simp [e]
              exact d11
          · obtain ⟨y, w1, w2, w3⟩ := d13
            refine ⟨y, w1, w2, fun w => ?_⟩
            have w5 := w.2
            by_cases e : q = j
            · subst e
              simp only [gI_sI] at w5
              simp at w5
              exact absurd w5 (by
                intro k
                have := congrArg Int32.toInt k
                rw [nI_toInt (by omega)] at this
                have e1 : (-1 : Int32).toInt = -1 := by decide
                omega)
            · refine w3 ⟨w.1, ?_⟩
              simp only [gI_sI] at w5
              simp [e] at w5
              exact w5
      have fin : ∀ x, x = 1 → some (aI x) = some (aI (1 : Int32)) := fun x e => by rw [e]
      refine wX10_back ⟨fun y => absurd hin y, fun _ => ?_⟩
      have E : ∀ c i k, (c ≠ 62 ∧ c ≠ 60) → gI (sI (sI h 62 j 10 (nI D)) 60 t 2 (gI h 60 t 2 + gI h 62 j 4)) c i k = gI h c i k := fun c i k hc => by
        rw [gI_sI, if_neg (fun z => hc.2 z.1), gI_sI, if_neg (fun z => hc.1 z.1)]
      simp only [ec, E 41 0 j (by decide), E 40 0 j (by decide), E 35 0 j (by decide), E 36 0 j (by decide), E 26 0 0 (by decide), E 28 0 _ (by decide), c4', et, a2]
      refine ⟨h12, ⟨fun q => absurd y1 q, fun _ => ⟨h12, ⟨fun _ => ⟨h12, h12, ht12, h12, ht12, trivial, done⟩, fun q => ⟨h12, ⟨fun _ => ⟨h12, h12, ht12, h12, ht12, trivial, done⟩, fun q2 => ?_⟩⟩⟩⟩⟩⟩
      rcases y2 with q3 | q3
      · exact absurd q3 q
      · exact absurd q3 q2
    · rw [a1] at z
      refine wX10_back ⟨fun y => absurd hin y, fun _ => ?_⟩
      simp only [ec, a2]
      refine ⟨h12, ⟨fun _ => ⟨trivial, I⟩, fun y1 => ⟨h12, ⟨fun y2 => ?_, fun y2 => ⟨h12, ⟨fun y3 => ?_, fun _ => ⟨trivial, I⟩⟩⟩⟩⟩⟩⟩
      · exact absurd ⟨by rw [c11]; exact y1, Or.inl (by rw [c10]; exact y2)⟩ z
      · refine absurd ⟨by rw [c11]; exact y1, Or.inr ?_⟩ z
        rcases c14 with w | ⟨n, hn, w⟩
        · exact absurd w y2
        · rw [c10]
          exact (le28 n hn w).mpr y3
end OP3

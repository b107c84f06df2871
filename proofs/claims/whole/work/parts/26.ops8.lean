-- ===== thing =====
abbrev Qz (c k : Nat) : Prop := c ≠ 1 ∧ c ≠ 2 ∧ ¬ (60 ≤ c ∧ c ≤ 64) ∧ ¬ (c = 26 ∧ k < 3) ∧ ¬ (27 ≤ c ∧ c ≤ 43) ∧ ¬ (c = 0 ∧ k = 10)
theorem FV_q {c k : Nat} (z : FV c k = true) : Qz c k := by
  unfold FV at z
  split at z <;> simp at z <;> omega
theorem FT_q {c k : Nat} (z : FT c k = true) : Qz c k := by
  unfold FT at z
  split at z <;> simp at z <;> omega
theorem FR_q {c k : Nat} (z : FR c k = true) : Qz c k := by
  unfold FR at z
  split at z <;> simp at z <;> omega
theorem FF_q {c k : Nat} (z : FF c k = true) : Qz c k := by
  unfold FF at z
  split at z <;> simp at z <;> omega
theorem FC_q {c k : Nat} (z : FC c k = true) : Qz c k := by
  unfold FC at z
  split at z <;> simp at z <;> omega
theorem inv_z {h h2 : HS} (e : ∀ c i k, Qz c k → gI h2 c i k = gI h c i k ∧ gR h2 c i k = gR h c i k) (I : Inv h) : IV h2 ∧ IT h2 ∧ IR h2 ∧ IF h2 ∧ IC h2 := by
  obtain ⟨-, iV, iT, iR, iF, iC⟩ := I
  have r : ∀ {F : Nat → Nat → Bool}, (∀ {c k}, F c k = true → Qz c k) → Eqo F h (h2.1, h2.2.1, h.2.2) := fun q => ⟨fun c i k z => e c i k (q z), rfl⟩
  exact ⟨iV.keep (h2 := (h2.1, h2.2.1, h.2.2)) (r (F := FV) FV_q), iT.keep (h2 := (h2.1, h2.2.1, h.2.2)) (r (F := FT) FT_q), iR.keep (h2 := (h2.1, h2.2.1, h.2.2)) (r (F := FR) FR_q), iF.keep (h2 := (h2.1, h2.2.1, h.2.2)) (r (F := FF) FF_q), iC.keep (h2 := (h2.1, h2.2.1, h.2.2)) (r (F := FC) FC_q)⟩
section OP8
variable {h : HS}
theorem sim_thing {v n : Int32} (I : Inv h) : Sim mX9_thing mX10_thing 3 569 [aI v, aI n] h := by
  obtain ⟨D, nt, ns, iA⟩ := I.1
  obtain ⟨⟨hD, hnt, hns⟩, a1, a2, a3, a4, a5, a6, a7, a8, a9, a10⟩ := id iA
  have c12 : (12 : Int32) = nI 12 := rfl
  refine wX9_thing ⟨fun z => ⟨_, rfl, ?_⟩, fun z => ⟨fun z2 => ⟨_, rfl, wX10_thing ⟨fun _ => ⟨rfl, I⟩, fun y => absurd y z2⟩⟩, fun z2 => ⟨fun z3 => ⟨nt, ?_, by decide, by decide, by decide, by decide, ?_⟩, fun z3 => ⟨_, rfl, wX10_thing ⟨fun y => absurd z2 y, fun _ => ⟨fun _ => ⟨rfl, I⟩, fun y => absurd y z3⟩⟩⟩⟩⟩⟩
  · rw [a5.1, c12, nI_leI (by omega) (by omega)] at z
    have e : nt = 12 := by omega
    exact wX10_thing ⟨fun _ => ⟨rfl, I⟩, fun _ => ⟨fun _ => ⟨rfl, I⟩, fun _ => ⟨fun y => absurd (by rw [a3, e]; rfl) y, fun _ => ⟨rfl, I⟩⟩⟩⟩
  · exact fun q => absurd ((a10 _ q).1 (Or.inl rfl)) (Nat.lt_irrefl _)
  · rw [a1]
    rw [a5.1, c12, nI_leI (by omega) (by omega)] at z
    have hnt2 : nt < 12 := by omega
    have m61 : (61, nt) ∉ (nw h 60 nt).2.2 := by
      show (61, nt) ∉ h.2.2 ++ [(60, nt)]
      intro q
      rcases List.mem_append.mp q with q | q
      · exact absurd ((a10 _ q).1 (Or.inr rfl)) (Nat.lt_irrefl _)
      · simp at q
    refine wX6_init ⟨m61, by decide, by decide, fun y => absurd y (nI_pos (by omega)), fun _ => ⟨fun y => absurd (show nI 364 ≤ nI D from y) (nI_ge hD (by decide)), fun _ => ⟨?_, vp_in_nI hD (by decide), rfl, by decide, by decide, ?_⟩⟩⟩
    · simp [gR_sI, gR_sR]
    · rw [nI_clamp (by omega)]
      obtain ⟨A, eA⟩ : ∃ x, x = sI (sI (sI (sR (nw (nw h 60 nt) 61 nt) 60 nt 0 (some (61, nt))) 60 nt 1 (nI D)) 60 nt 2 n) 61 nt D v := ⟨_, rfl⟩
      rw [← eA]
      have kA : ∀ c i k, (c = 60 ∨ c = 61 → i ≠ nt) → gI A c i k = gI h c i k ∧ gR A c i k = gR h c i k := by
        intro c i k hc
        rw [eA]
        refine ⟨?_, ?_⟩
        · rw [gI_sI, if_neg (by omega), gI_sI, if_neg (by omega), gI_sI, if_neg (by omega), gI_sR, gI_nw, if_neg (by omega), gI_nw, if_neg (by omega)]
        · rw [gR_sI, gR_sI, gR_sI, gR_sR, if_neg (by omega), gR_nw, if_neg (by omega), gR_nw, if_neg (by omega)]
      have mA : ∀ q : PT, q ∈ A.2.2 ↔ q ∈ h.2.2 ∨ q = (60, nt) ∨ q = (61, nt) := fun q => by
        rw [eA]
        show q ∈ (h.2.2 ++ [(60, nt)]) ++ [(61, nt)] ↔ _
        simp [or_assoc]
      have LA : LsL A 1 63 60 nt := a5.keep (fun i k => kA 1 i k (by omega)) (fun i k => (kA 63 i k (by omega)).2) (fun m => by rw [mA]; simp)
      refine cAdd_1 (n := nt) LA (by omega) (fun h2 ad => ⟨_, rfl, _, rfl, ?_⟩)
      obtain ⟨d1, d2, d3, d4⟩ := ad
      have e1 : gI h2 1 0 2 - 1 = nI nt := by rw [d3.1]; exact nI_pred nt
      rw [e1]
      have g26 : ∀ k, gI h2 26 0 k = gI h 26 0 k := fun k => by rw [d1 26 0 k (by decide) (by decide), (kA 26 0 k (by omega)).1]
      refine wX10_thing ⟨fun y => absurd z2 y, fun _ => ⟨fun y => absurd z3 y, fun _ => ⟨fun _ => ?_, fun y => absurd y (by rw [g26, a3, c12, nI_eq (by omega) (by omega)]; omega)⟩⟩⟩
      rw [g26, g26, a2, a3, ix364, nI_clamp (by omega), nI_clamp (by omega), nI_1]
      refine ⟨vp_in_nI (by omega) (by decide), vp_in_nI (by omega) (by decide), vp_in_nI (by omega) (by decide), rfl, ?_⟩
      obtain ⟨B, eB⟩ : ∃ x, x = sI (sI (sI (sI h2 26 0 1 (nI (nt + 1))) 27 0 (364 * nt + D) v) 28 0 nt n) 31 0 nt (nI D) := ⟨_, rfl⟩
      rw [← eB]
      have kR : ∀ c i k, gR B c i k = gR h2 c i k := fun c i k => by rw [eB]; rfl
      have kB : ∀ c i k, (c ≠ 1 ∧ c ≠ 63 ∧ (c = 60 ∨ c = 61 → i ≠ nt) ∧ ¬ (c = 26 ∧ k = 1) ∧ ¬ (c = 27 ∧ k = 364 * nt + D) ∧ ¬ (c = 28 ∧ k = nt) ∧ ¬ (c = 31 ∧ k = nt)) → gI B c i k = gI h c i k ∧ gR B c i k = gR h c i k := by
        intro c i k hc
        refine ⟨?_, ?_⟩
        · rw [eB, gI_sI, if_neg (by omega), gI_sI, if_neg (by omega), gI_sI, if_neg (by omega), gI_sI, if_neg (by omega), d1 c i k (by omega) (by omega), (kA c i k (by omega)).1]
        · rw [kR, d2 c i k (by omega) (by omega), (kA c i k (by omega)).2]
      have kN : ∀ c k, c = 60 ∨ c = 61 → gI B c nt k = gI A c nt k ∧ gR B c nt k = gR A c nt k := by
        intro c k hc
        refine ⟨?_, ?_⟩
        · rw [eB, gI_sI, if_neg (by omega), gI_sI, if_neg (by omega), gI_sI, if_neg (by omega), gI_sI, if_neg (by omega), d1 c nt k (by omega) (by omega)]
        · rw [kR, d2 c nt k (by omega) (by omega)]
      have mB : B.2.2 = h2.2.2 := by rw [eB]; rfl
      refine ⟨⟨D, nt + 1, ns, ⟨⟨hD, by omega, hns⟩, by rw [(kB 0 0 10 (by omega)).1]; exact a1, by rw [(kB 26 0 0 (by omega)).1]; exact a2, by rw [eB]; rfl, by rw [(kB 26 0 2 (by omega)).1]; exact a4, d3.keep (fun i k => ⟨by rw [eB]; rfl, kR 1 i k⟩) (fun i k => kR 63 i k) (fun m => by rw [mB]), a6.keep (fun i k => kB 2 i k (by omega)) (fun i k => (kB 64 i k (by omega)).2) (fun m => ?_), fun t ht => ?_, fun i hi => ?_, fun t ht d => ?_, fun q hq => ?_⟩⟩, inv_z (fun c i k hc => kB c i k (by omega)) I⟩
      · rw [mB, d4 _ (by simp), mA]; simp
      · by_cases e : t = nt
        · subst e
          refine ⟨?_, ?_, ?_, ?_, ?_, fun d hd => ?_, ⟨D, Nat.le_refl _, ?_⟩⟩
          · rw [(kN 60 0 (by decide)).2, eA]; simp [gR_sI, gR_sR]
          · rw [(kN 60 1 (by decide)).1, eA, eB]; simp [gI_sI]
          · rw [(kN 60 2 (by decide)).1, eA, eB]; simp [gI_sI]
          · rw [(kN 60 3 (by decide)).1, (kB 29 0 t (by omega)).1, (a9 t (Nat.le_refl _) 0).2.1, eA]; simp [gI_sI, gI_sR, gI_nw]
          · rw [(kN 60 4 (by decide)).1, (kB 30 0 t (by omega)).1, (a9 t (Nat.le_refl _) 0).2.2, eA]; simp [gI_sI, gI_sR, gI_nw]
          · rw [(kN 61 d (by decide)).1, eA]
            by_cases e : d = D
            · subst e
              rw [gI_same, eB]
              simp [gI_sI]
            · rw [(kB 27 0 (364 * t + d) (by omega)).1, (a9 t (Nat.le_refl _) d).1]
              simp [gI_sI, gI_sR, gI_nw, e]
          · rw [eB, gI_same]
        · obtain ⟨b1, b2, b3, b4, b5, b6, b7⟩ := a7 t (by omega)
          refine ⟨by rw [(kB 60 t 0 (by omega)).2]; exact b1, by rw [(kB 60 t 1 (by omega)).1, (kB 31 0 t (by omega)).1]; exact b2, by rw [(kB 60 t 2 (by omega)).1, (kB 28 0 t (by omega)).1]; exact b3, by rw [(kB 60 t 3 (by omega)).1, (kB 29 0 t (by omega)).1]; exact b4, by rw [(kB 60 t 4 (by omega)).1, (kB 30 0 t (by omega)).1]; exact b5, fun d hd => by rw [(kB 61 t d (by omega)).1, (kB 27 0 _ (by omega)).1]; exact b6 d hd, by rw [(kB 31 0 t (by omega)).1]; exact b7⟩
      · have q : ∀ c k, 32 ≤ c → c ≤ 62 → c ≠ 60 → c ≠ 61 → gI B c 0 k = gI h c 0 k ∧ gR B c 0 k = gR h c 0 k := fun c k p1 p2 p3 p4 => kB c 0 k (by omega)
        have w : ∀ k, gI B 62 i k = gI h 62 i k ∧ gR B 62 i k = gR h 62 i k := fun k => kB 62 i k (by omega)
        obtain ⟨c1, c2, c3, ⟨t, ht, c4, c4'⟩, c5, c6, c7, c8, c9, c10, c11, c12, c13, c14, c15⟩ := a8 i hi
        refine ⟨by rw [(w 0).1, (kB 32 0 i (by omega)).1]; exact c1, by rw [(w 1).1, (kB 33 0 i (by omega)).1]; exact c2, by rw [(w 2).1, (kB 34 0 i (by omega)).1]; exact c3, ⟨t, by omega, by rw [(w 3).2]; exact c4, by rw [(kB 35 0 i (by omega)).1]; exact c4'⟩, by rw [(w 4).1, (kB 36 0 i (by omega)).1]; exact c5, by rw [(w 5).1, (kB 37 0 i (by omega)).1]; exact c6, by rw [(w 6).1, (kB 38 0 i (by omega)).1]; exact c7, by rw [(w 7).1, (kB 43 0 i (by omega)).1]; exact c8, by rw [(w 8).1, (kB 39 0 i (by omega)).1]; exact c9, by rw [(w 9).1, (kB 40 0 i (by omega)).1]; exact c10, by rw [(w 10).1, (kB 41 0 i (by omega)).1]; exact c11, by rw [(w 11).1, (kB 42 0 i (by omega)).1]; exact c12, by rw [(kB 38 0 i (by omega)).1, (kB 40 0 i (by omega)).1, (kB 41 0 i (by omega)).1, (kB 32 0 i (by omega)).1]; exact c13, by rw [(kB 40 0 i (by omega)).1]; exact c14, by rw [(kB 37 0 i (by omega)).1]; exact c15⟩
      · rw [(kB 27 0 _ (by omega)).1, (kB 29 0 t (by omega)).1, (kB 30 0 t (by omega)).1]
        exact a9 t (by omega) d
      · rw [mB] at hq
        by_cases e : q.1 = 63
        · exact ⟨fun w => by omega, fun w => by omega⟩
        · rw [d4 q e, mA] at hq
          rcases hq with hq | hq | hq
          · exact ⟨fun w => Nat.lt_succ_of_lt ((a10 q hq).1 w), (a10 q hq).2⟩
          · rw [hq]; exact ⟨fun _ => Nat.lt_succ_self _, fun w => absurd w (show ¬ (60 : Nat) = 62 by decide)⟩
          · rw [hq]; exact ⟨fun _ => Nat.lt_succ_self _, fun w => absurd w (show ¬ (61 : Nat) = 62 by decide)⟩
end OP8

-- ===== slip: class and reference alike =====
section OPA
variable {h : HS}
theorem soF_c {y D : Nat} {l1 : Int32} (hy : y ≤ D) (hD : D < 364) : (soF l1 (nI y) (nI D) = -1 → l1 = 2 ∧ D < y + 7) ∧ (soF l1 (nI y) (nI D) = -1 ∨ ∃ n, n ≤ 400 ∧ soF l1 (nI y) (nI D) = nI n) := by
  unfold soF
  have e7 : nI y + 7 = nI (y + 7) := nI_add y 7
  rw [e7]
  by_cases e : l1 = 2
  · rw [if_pos e]
    by_cases e2 : nI D < nI (y + 7)
    · rw [if_pos e2]
      rw [nI_ltI (by omega) (by omega)] at e2
      exact ⟨fun _ => ⟨e, e2⟩, Or.inl rfl⟩
    · rw [if_neg e2]
      exact ⟨fun q => absurd q (nI_ne1 (by omega)), Or.inr ⟨y + 7, by omega, rfl⟩⟩
  · rw [if_neg e]
    exact ⟨fun q => absurd q (nI_ne1 (by omega)), Or.inr ⟨y, by omega, rfl⟩⟩
theorem slip_fin {D nt ns t y : Nat} {l1 l2 l3 l5 l6 : Int32} (I : Inv h) (iA : IA h D nt ns) (hns2 : ns < 120) (ht : t < nt) (hy : y ≤ D) (ok : slOK h t l1 l2 l3 (nI t) l5 l6 (nI y)) (A : HS)
    (kA : ∀ c i k, ¬ (c = 62 ∧ i = ns) → ¬ (c = 60 ∧ k = 2 ∧ i = t) → gI A c i k = gI h c i k ∧ gR A c i k = gR h c i k) (mA : A.2.2 = h.2.2 ++ [(62, ns)]) (f3 : gR A 62 ns 3 = some (60, t)) (f0 : gI A 62 ns 0 = l1) (f1 : gI A 62 ns 1 = l2) (f2 : gI A 62 ns 2 = l3) (f4 : gI A 62 ns 4 = l5) (f5 : gI A 62 ns 5 = l6) (f6 : gI A 62 ns 6 = nI y) (f7 : gI A 62 ns 7 = l5 * gI h 61 t y) (f8 : gI A 62 ns 8 = nI D) (f9 : gI A 62 ns 9 = soF l1 (nI y) (nI D)) (f10 : gI A 62 ns 10 = -1) (f11 : gI A 62 ns 11 = -1) (fs : gI A 60 t 2 = gI h 60 t 2 - l5) :
    Cl true mJx4a65c_add_9ea2d 99 1 200 [aR 2 0, aR 62 ns] A (fun r21 h22 => ∃ x23 : Int32, r21 = some (aI x23) ∧ ∃ x : Int32, some (aI (gI h22 2 0 2 - 1)) = some (aI x) ∧ Cl true mX10_slip 100 0 0 [aR 26 0, aI l1, aI l2, aI l3, aI (nI t), aI l5, aI l6, aI (nI y)] h22 (fun r2 h2 => r2 = some (aI x) ∧ Inv h2)) := by
  obtain ⟨⟨hD, hnt, hns⟩, a1, a2, a3, a4, a5, a6, a7, a8, a9, a10⟩ := id iA
  have mA2 : ∀ q : PT, q ∈ A.2.2 ↔ q ∈ h.2.2 ∨ q = (62, ns) := fun q => by rw [mA]; simp
  have LA : LsL A 2 64 62 ns := a6.keep (fun i k => kA 2 i k (by omega) (by omega)) (fun i k => (kA 64 i k (by omega) (by omega)).2) (fun m => by rw [mA2]; simp)
  refine cAdd_2 (n := ns) LA (by omega) (fun h2 ad => ⟨_, rfl, _, rfl, ?_⟩)
  obtain ⟨d1, d2, d3, d4⟩ := ad
  have e1 : gI h2 2 0 2 - 1 = nI ns := by rw [d3.1]; exact nI_pred ns
  rw [e1]
  have g2 : ∀ c k, c ≠ 2 → c ≠ 64 → c ≠ 62 → c ≠ 60 → gI h2 c 0 k = gI h c 0 k := fun c k p1 p2 p3 p4 => by rw [d1 c 0 k p1 p2, (kA c 0 k (by omega) (by omega)).1]
  have okE : slOK h2 t l1 l2 l3 (nI t) l5 l6 (nI y) := by
    unfold slOK
    rw [g2 26 0 (by decide) (by decide) (by decide) (by decide), g2 26 1 (by decide) (by decide) (by decide) (by decide), g2 26 2 (by decide) (by decide) (by decide) (by decide), g2 31 t (by decide) (by decide) (by decide) (by decide), g2 28 t (by decide) (by decide) (by decide) (by decide)]
    exact ok
  refine mSlip (t := t) (i := ns) (x := 364 * t + y) (by rw [g2 26 2 (by decide) (by decide) (by decide) (by decide)]; exact a4) (by omega) (fun _ => ⟨rfl, by omega⟩) (fun _ => ⟨by omega, ix364⟩) (fun n => absurd okE n) (fun _ => ⟨rfl, ?_⟩)
  rw [g2 26 0 (by decide) (by decide) (by decide) (by decide), a2]
  obtain ⟨B, eB⟩ : ∃ x, x = slM h2 ns t (364 * t + y) l1 l2 l3 (nI t) l5 l6 (nI y) (soF l1 (nI y) (nI D)) := ⟨_, rfl⟩
  rw [← eB]
  have kR : ∀ c i k, gR B c i k = gR h2 c i k := fun c i k => by rw [eB]; rfl
  have k2 : ∀ c i k, (¬ (c = 26 ∧ k = 2) ∧ ¬ (32 ≤ c ∧ c ≤ 43 ∧ k = ns) ∧ ¬ (c = 28 ∧ k = t)) → gI B c i k = gI h2 c i k := by
    intro c i k hc
    rw [eB]
    unfold slM
    rw [gI_sI, if_neg (by omega), gI_sI, if_neg (by omega), gI_sI, if_neg (by omega), gI_sI, if_neg (by omega), gI_sI, if_neg (by omega), gI_sI, if_neg (by omega), gI_sI, if_neg (by omega), gI_sI, if_neg (by omega), gI_sI, if_neg (by omega), gI_sI, if_neg (by omega), gI_sI, if_neg (by omega), gI_sI, if_neg (by omega), gI_sI, if_neg (by omega), gI_sI, if_neg (by omega)]
  have kB : ∀ c i k, (c ≠ 2 ∧ c ≠ 64 ∧ ¬ (c = 62 ∧ i = ns) ∧ ¬ (c = 60 ∧ k = 2 ∧ i = t) ∧ ¬ (c = 26 ∧ k = 2) ∧ ¬ (32 ≤ c ∧ c ≤ 43 ∧ k = ns) ∧ ¬ (c = 28 ∧ k = t)) → gI B c i k = gI h c i k ∧ gR B c i k = gR h c i k := by
    intro c i k hc
    refine ⟨?_, ?_⟩
    · rw [k2 c i k (by omega), d1 c i k (by omega) (by omega), (kA c i k (by omega) (by omega)).1]
    · rw [kR, d2 c i k (by omega) (by omega), (kA c i k (by omega) (by omega)).2]
  have kN : ∀ k, gI B 62 ns k = gI A 62 ns k ∧ gR B 62 ns k = gR A 62 ns k := fun k => ⟨by rw [k2 62 ns k (by omega), d1 62 ns k (by decide) (by decide)], by rw [kR, d2 62 ns k (by decide) (by decide)]⟩
  have mB : B.2.2 = h2.2.2 := by rw [eB]; rfl
  obtain ⟨so1, so2⟩ := soF_c (l1 := l1) hy hD
  have g27 : gI h2 27 0 (364 * t + y) = gI h 61 t y := by rw [g2 27 _ (by decide) (by decide) (by decide) (by decide)]; exact ((a7 t ht).2.2.2.2.2.1 y (by omega)).symm
  refine ⟨⟨D, nt, ns + 1, ⟨⟨hD, hnt, by omega⟩, by rw [(kB 0 0 10 (by omega)).1]; exact a1, by rw [(kB 26 0 0 (by omega)).1]; exact a2, by rw [(kB 26 0 1 (by omega)).1]; exact a3, ?_, a5.keep (fun i k => kB 1 i k (by omega)) (fun i k => (kB 63 i k (by omega)).2) (fun m => ?_), d3.keep (fun i k => ⟨k2 2 i k (by omega), kR 2 i k⟩) (fun i k => kR 64 i k) (fun m => by rw [mB]), fun q hq => ?_, fun i hi => ?_, fun q hq d => ?_, fun q hq => ?_⟩⟩, inv_z (fun c i k hc => kB c i k (by omega)) I⟩
  · rw [eB]; unfold slM; simp [gI_sI]; exact nI_1 ns
  · rw [mB, d4 _ (by simp), mA2]; simp
  · obtain ⟨b1, b2, b3, b4, b5, b6, b7⟩ := a7 q hq
    refine ⟨by rw [(kB 60 q 0 (by omega)).2]; exact b1, by rw [(kB 60 q 1 (by omega)).1, (kB 31 0 q (by omega)).1]; exact b2, ?_, by rw [(kB 60 q 3 (by omega)).1, (kB 29 0 q (by omega)).1]; exact b4, by rw [(kB 60 q 4 (by omega)).1, (kB 30 0 q (by omega)).1]; exact b5, fun d hd => by rw [(kB 61 q d (by omega)).1, (kB 27 0 _ (by omega)).1]; exact b6 d hd, by rw [(kB 31 0 q (by omega)).1]; exact b7⟩
    by_cases e : q = t
    · subst e
      rw [k2 60 q 2 (by omega), d1 60 q 2 (by decide) (by decide), fs, eB]
      unfold slM
      rw [gI_same, g2 28 q (by decide) (by decide) (by decide) (by decide), b3]
    · rw [(kB 60 q 2 (by omega)).1, (kB 28 0 q (by omega)).1]; exact b3
  · by_cases e : i = ns
    · subst e
      have m : ∀ c v, gI B c 0 i = v → gI B c 0 i = v := fun _ _ q => q
      have s32 : gI B 32 0 i = l1 := by rw [eB]; unfold slM; simp [gI_sI]
      have s33 : gI B 33 0 i = l2 := by rw [eB]; unfold slM; simp [gI_sI]
      have s34 : gI B 34 0 i = l3 := by rw [eB]; unfold slM; simp [gI_sI]
      have s35 : gI B 35 0 i = nI t := by rw [eB]; unfold slM; simp [gI_sI]
      have s36 : gI B 36 0 i = l5 := by rw [eB]; unfold slM; simp [gI_sI]
      have s37 : gI B 37 0 i = l6 := by rw [eB]; unfold slM; simp [gI_sI]
      have s38 : gI B 38 0 i = nI y := by rw [eB]; unfold slM; simp [gI_sI]
      have s39 : gI B 39 0 i = nI D := by rw [eB]; unfold slM; simp [gI_sI]; rw [g2 26 0 (by decide) (by decide) (by decide) (by decide)]; exact a2
      have s40 : gI B 40 0 i = soF l1 (nI y) (nI D) := by rw [eB]; unfold slM; simp [gI_sI]
      have s41 : gI B 41 0 i = -1 := by rw [eB]; unfold slM; simp [gI_sI]
      have s42 : gI B 42 0 i = -1 := by rw [eB]; unfold slM; simp [gI_sI]
      have s43 : gI B 43 0 i = l5 * gI h 61 t y := by rw [eB]; unfold slM; simp [gI_sI]; rw [g27]
      refine ⟨by rw [(kN 0).1, f0, s32], by rw [(kN 1).1, f1, s33], by rw [(kN 2).1, f2, s34], ⟨t, ht, by rw [(kN 3).2, f3], s35⟩, by rw [(kN 4).1, f4, s36], by rw [(kN 5).1, f5, s37], by rw [(kN 6).1, f6, s38], by rw [(kN 7).1, f7, s43], by rw [(kN 8).1, f8, s39], by rw [(kN 9).1, f9, s40], by rw [(kN 10).1, f10, s41], by rw [(kN 11).1, f11, s42], ⟨y, hy, s38, fun w => ?_⟩, by rw [s40]; exact so2, ?_⟩
      · rw [s40] at w
        rw [s32]
        exact so1 w.1
      · rw [s37]
        have q5 := ok.2.2.2.2.1
        by_cases e : l6 < 0
        · left
          have q := q5.1
          rw [iLt] at q e
          rw [iEq]
          have e1 : (-1 : Int32).toInt = -1 := by decide
          have e0 : (0 : Int32).toInt = 0 := by decide
          omega
        · right
          obtain ⟨n, hn, rfl⟩ := nI_of e
          have q := q5.2
          rw [iLt, nI_toInt hn] at q
          have e1 : (19 : Int32).toInt = 19 := by decide
          exact ⟨n, by omega, rfl⟩
    · obtain ⟨c1, c2, c3, ⟨q, hq, c4, c4'⟩, c5, c6, c7, c8, c9, c10, c11, c12, c13, c14, c15⟩ := a8 i (by omega)
      have w : ∀ k, gI B 62 i k = gI h 62 i k ∧ gR B 62 i k = gR h 62 i k := fun k => kB 62 i k (by omega)
      refine ⟨by rw [(w 0).1, (kB 32 0 i (by omega)).1]; exact c1, by rw [(w 1).1, (kB 33 0 i (by omega)).1]; exact c2, by rw [(w 2).1, (kB 34 0 i (by omega)).1]; exact c3, ⟨q, by omega, by rw [(w 3).2]; exact c4, by rw [(kB 35 0 i (by omega)).1]; exact c4'⟩, by rw [(w 4).1, (kB 36 0 i (by omega)).1]; exact c5, by rw [(w 5).1, (kB 37 0 i (by omega)).1]; exact c6, by rw [(w 6).1, (kB 38 0 i (by omega)).1]; exact c7, by rw [(w 7).1, (kB 43 0 i (by omega)).1]; exact c8, by rw [(w 8).1, (kB 39 0 i (by omega)).1]; exact c9, by rw [(w 9).1, (kB 40 0 i (by omega)).1]; exact c10, by rw [(w 10).1, (kB 41 0 i (by omega)).1]; exact c11, by rw [(w 11).1, (kB 42 0 i (by omega)).1]; exact c12, by rw [(kB 38 0 i (by omega)).1, (kB 40 0 i (by omega)).1, (kB 41 0 i (by omega)).1, (kB 32 0 i (by omega)).1]; exact c13, by rw [(kB 40 0 i (by omega)).1]; exact c14, by rw [(kB 37 0 i (by omega)).1]; exact c15⟩
  · rw [(kB 27 0 _ (by omega)).1, (kB 29 0 q (by omega)).1, (kB 30 0 q (by omega)).1]
    exact a9 q hq d
  · rw [mB] at hq
    by_cases e : q.1 = 64
    · exact ⟨fun w => by omega, fun w => by omega⟩
    · rw [d4 q e, mA2] at hq
      rcases hq with hq | hq
      · exact ⟨(a10 q hq).1, fun w => Nat.lt_succ_of_lt ((a10 q hq).2 w)⟩
      · rw [hq]; exact ⟨fun w => by rcases w with w | w <;> exact absurd w (by simp), fun _ => Nat.lt_succ_self _⟩
theorem sim_slip {l1 l2 l3 l4 l5 l6 l7 : Int32} (I : Inv h) : Sim mX9_slip mX10_slip 2 212 [aI l1, aI l2, aI l3, aI l4, aI l5, aI l6, aI l7] h := by
  obtain ⟨D, nt, ns, iA⟩ := I.1
  obtain ⟨⟨hD, hnt, hns⟩, a1, a2, a3, a4, a5, a6, a7, a8, a9, a10⟩ := id iA
  have c120 : (120 : Int32) = nI 120 := rfl
  have refNo : ∀ t, (inR l4 0 (gI h 26 0 1 - 1) → l4 = nI t ∧ t < 12) → ¬ slOK h t l1 l2 l3 l4 l5 l6 l7 → Cl true mX10_slip 100 0 0 [aR 26 0, aI l1, aI l2, aI l3, aI l4, aI l5, aI l6, aI l7] h (fun r2 h2 => r2 = some (aI (-1)) ∧ Inv h2) := fun t ht n => mSlip (x := 0) a4 hns ht (fun c => absurd c n) (fun _ => ⟨rfl, I⟩) (fun c => absurd c n)
  refine wX9_slip (cThingAt a5 (by omega) (fun z => Or.inl ⟨rfl, _, rfl, refNo 0 (fun q => absurd (by rw [← a3]; exact q) z) (fun c => z (by rw [← a3]; exact c.2.2.1))⟩) (fun t ht et => Or.inr ⟨t, rfl, ?_⟩))
  subst et
  obtain ⟨b1, b2, b3, b4, b5, b6, ⟨cm, b7, b8⟩⟩ := a7 t ht
  have hin : inR (nI t) 0 (gI h 26 0 1 - 1) := by rw [a3]; exact inR_of (by omega) ht
  have e12 : gI h 0 0 10 = gI h 26 0 0 := a1.trans a2.symm
  have rn : ¬ slOK h t l1 l2 l3 (nI t) l5 l6 l7 → Cl true mX10_slip 100 0 0 [aR 26 0, aI l1, aI l2, aI l3, aI (nI t), aI l5, aI l6, aI l7] h (fun r2 h2 => r2 = some (aI (-1)) ∧ Inv h2) := refNo t (fun _ => ⟨rfl, by omega⟩)
  have buy : slOK h t l1 l2 l3 (nI t) l5 l6 l7 → buyP l1 l3 := fun c => by
    unfold buyP
    by_cases e : l1 = 0
    · rw [if_pos e]; exact c.2.2.2.2.2.2.1 e
    · rw [if_neg e]; exact ⟨c.1, c.2.2.2.2.2.2.2.1 e⟩
  refine ⟨fun z1 => ⟨fun z2 => ⟨_, rfl, rn (fun c => z2 (buy c))⟩, fun z2 => ⟨fun z3 => ⟨_, rfl, rn (fun c => z3 c.2.1)⟩, fun z3 => ⟨fun z4 => ⟨fun z5 => ⟨_, rfl, rn (fun c => z5 (by rw [e12]; exact c.2.2.2.2.2.2.2.2.1))⟩, fun z5 => ⟨fun z6 => ⟨fun z7 => ⟨_, rfl, rn (fun c => z7 c.2.2.2.1)⟩, fun z7 => ⟨fun z8 => ?_, fun z8 => ⟨_, rfl, rn (fun c => z8 (by rw [b3]; exact c.2.2.2.2.2.2.2.2.2.2.2))⟩⟩⟩, fun z6 => ⟨_, rfl, rn (fun c => z6 (by rw [b2]; have q := c.2.2.2.2.2.2.2.2.2.2.1; rw [iLt] at q; rw [iLe]; omega))⟩⟩⟩, fun z4 => ⟨_, rfl, rn (fun c => z4 c.2.2.2.2.1)⟩⟩⟩⟩, fun z1 => ⟨_, rfl, rn (fun c => z1 ?_)⟩⟩
  · have hns2 : ns < 120 := by
      rw [a6.1, c120, nI_ltI (by omega) (by omega)] at z1; exact z1
    have hl7 : ¬ l7 < 0 := by
      rw [b2, b8, iLe, nI_toInt (by omega)] at z6
      rw [iLt, toI_lit0]; omega
    obtain ⟨y, hy0, rfl⟩ := nI_of hl7
    have hy : y ≤ D := by
      have q := z5.2
      rw [a1, nI_ltI (by omega) hy0] at q; omega
    have ok : slOK h t l1 l2 l3 (nI t) l5 l6 (nI y) := by
      unfold buyP at z2
      refine ⟨?_, z3, hin, z7, z4, ?_, fun e => ?_, fun e => ?_, by rw [← e12]; exact z5, hl7, ?_, by rw [← b3]; exact z8⟩
      · by_cases e : l1 = 0
        · rw [e]; decide
        · rw [if_neg e] at z2; exact z2.1
      · rw [a4, c120, nI_eq (by omega) (by omega)]; omega
      · rw [if_pos e] at z2; exact z2
      · rw [if_neg e] at z2; exact z2.2
      · rw [b2, iLe] at z6; rw [iLt]; omega
    refine ⟨ns, fun q => absurd ((a10 _ q).2 rfl) (Nat.lt_irrefl _), by decide, by decide, wX3_init ⟨?_, rfl, ?_⟩⟩
    · simp [gR_sI, gR_sR, gR_nw]; exact b1
    · obtain ⟨T, eT⟩ : ∃ x, x = sI (sI (sI (sI (sI (sI (sI (sI (sI (sR (sI (sI (sI (nw (sI h 60 t 2 (gI h 60 t 2 - l5)) 62 ns) 62 ns 0 l1) 62 ns 1 l2) 62 ns 2 l3) 62 ns 3 (some (60, t))) 62 ns 4 l5) 62 ns 5 l6) 62 ns 6 (nI y)) 62 ns 7 (l5 * gI h 61 t y)) 62 ns 8 (nI y)) 62 ns 9 (-1)) 62 ns 10 (-1)) 62 ns 11 (-1)) 62 ns 8 (nI D) := ⟨_, rfl⟩
      have e1 : tgF (sI (sI (sI (sR (sI (sI (sI (nw (sI h 60 t 2 (gI h 60 t 2 - l5)) 62 ns) 62 ns 0 l1) 62 ns 1 l2) 62 ns 2 l3) 62 ns 3 (some (60, t))) 62 ns 4 l5) 62 ns 5 l6) 62 ns 6 (nI y)) t (nI y) = gI h 61 t y := by
        rw [tgF_nI (by omega)]; simp [gI_sI, gI_sR, gI_nw]
      rw [e1]
      have e2 : ∀ {X : HS} {v : Int32}, gI (sI (sI (sI (sI (sI (sI (sI (sI (sR (sI (sI (sI (nw (sI h 60 t 2 (gI h 60 t 2 - l5)) 62 ns) 62 ns 0 l1) 62 ns 1 l2) 62 ns 2 l3) 62 ns 3 (some (60, t))) 62 ns 4 l5) 62 ns 5 l6) 62 ns 6 (nI y)) 62 ns 7 (l5 * gI h 61 t y)) 62 ns 8 (nI y)) 62 ns 9 (-1)) 62 ns 10 (-1)) 62 ns 11 (-1)) 0 0 10 = nI D := by
        intros
        simp [gI_sI, gI_sR, gI_nw]; exact a1
      rw [e2 (X := h) (v := 0), ← eT]
      have kT : ∀ c i k, ¬ (c = 62 ∧ i = ns) → ¬ (c = 60 ∧ k = 2 ∧ i = t) → gI T c i k = gI h c i k ∧ gR T c i k = gR h c i k := by
        intro c i k p1 p2
        rw [eT]
        refine ⟨?_, ?_⟩
        · rw [gI_sI, if_neg (by omega), gI_sI, if_neg (by omega), gI_sI, if_neg (by omega), gI_sI, if_neg (by omega), gI_sI, if_neg (by omega), gI_sI, if_neg (by omega), gI_sI, if_neg (by omega), gI_sI, if_neg (by omega), gI_sI, if_neg (by omega), gI_sR, gI_sI, if_neg (by omega), gI_sI, if_neg (by omega), gI_sI, if_neg (by omega), gI_nw, if_neg (by omega), gI_sI, if_neg (by omega)]
        · rw [gR_sI, gR_sI, gR_sI, gR_sI, gR_sI, gR_sI, gR_sI, gR_sI, gR_sI, gR_sR, if_neg (by omega), gR_sI, gR_sI, gR_sI, gR_nw, if_neg (by omega), gR_sI]
      have t0 : gI T 62 ns 0 = l1 := by rw [eT]; simp [gI_sI, gI_sR]
      have t6 : gI T 62 ns 6 = nI y := by rw [eT]; simp [gI_sI, gI_sR]
      have t9 : gI T 62 ns 9 = -1 := by rw [eT]; simp [gI_sI, gI_sR]
      have t10 : gI T 62 ns 10 = -1 := by rw [eT]; simp [gI_sI, gI_sR]
      have fin := fun A q1 q2 => slip_fin (l1 := l1) (l2 := l2) (l3 := l3) (l5 := l5) (l6 := l6) I iA hns2 ht hy ok A q1 q2
      have eso : ∀ A, (∀ c i k, ¬ (c = 62 ∧ k = 9 ∧ i = ns) → gI A c i k = gI T c i k) → (∀ c i k, gR A c i k = gR T c i k) → A.2.2 = T.2.2 → gI A 62 ns 9 = soF l1 (nI y) (nI D) → Cl true mJx4a65c_add_9ea2d 99 1 200 [aR 2 0, aR 62 ns] A (fun r21 h22 => ∃ x23 : Int32, r21 = some (aI x23) ∧ ∃ x : Int32, some (aI (gI h22 2 0 2 - 1)) = some (aI x) ∧ Cl true mX10_slip 100 0 0 [aR 26 0, aI l1, aI l2, aI l3, aI (nI t), aI l5, aI l6, aI (nI y)] h22 (fun r2 h2 => r2 = some (aI x) ∧ Inv h2)) := by
        intro A q1 q2 q3 q4
        refine fin A (fun c i k p1 p2 => ⟨by rw [q1 c i k (by omega)]; exact (kT c i k p1 p2).1, by rw [q2]; exact (kT c i k p1 p2).2⟩) (by rw [q3, eT]; rfl) ?_ ?_ ?_ ?_ ?_ ?_ ?_ ?_ ?_ q4 ?_ ?_ ?_
        · rw [q2, eT]; simp [gR_sI, gR_sR]
        · rw [q1 _ _ _ (by omega)]; exact t0
        · rw [q1 _ _ _ (by omega), eT]; simp [gI_sI, gI_sR]
        · rw [q1 _ _ _ (by omega), eT]; simp [gI_sI, gI_sR]
        · rw [q1 _ _ _ (by omega), eT]; simp [gI_sI, gI_sR]
        · rw [q1 _ _ _ (by omega), eT]; simp [gI_sI, gI_sR]
        · rw [q1 _ _ _ (by omega)]; exact t6
        · rw [q1 _ _ _ (by omega), eT]; simp [gI_sI, gI_sR]
        · rw [q1 _ _ _ (by omega), eT]; simp [gI_sI, gI_sR]
        · rw [q1 _ _ _ (by omega)]; exact t10
        · rw [q1 _ _ _ (by omega), eT]; simp [gI_sI, gI_sR]
        · rw [q1 _ _ _ (by omega), eT]; simp [gI_sI, gI_sR, gI_nw]
      refine wX3_sellBy ⟨fun w => ⟨fun w2 => absurd (stF_1.mpr ⟨t9, t10⟩) w2, fun _ => ⟨fun w3 => absurd w3 (by rw [t6]; exact nI_nlt hy (by omega)), fun _ => ⟨rfl, by decide, by decide, ?_⟩⟩⟩, fun w => ⟨fun w2 => absurd (stF_1.mpr ⟨t9, t10⟩) w2, fun _ => ⟨fun w3 => ⟨rfl, by decide, by decide, ?_⟩, fun w3 => ⟨rfl, by decide, by decide, ?_⟩⟩⟩⟩
      · rw [t0] at w
        refine eso _ (fun c i k q => by rw [gI_sI, if_neg q]) (fun c i k => rfl) rfl ?_
        rw [gI_same, t6]; unfold soF; rw [if_neg w]
      · rw [t0] at w
        rw [t6] at w3
        refine eso _ (fun c i k q => rfl) (fun c i k => rfl) rfl ?_
        rw [t9]; unfold soF; rw [if_pos w, if_pos w3]
      · rw [t0] at w
        rw [t6] at w3 ⊢
        refine eso _ (fun c i k q => by rw [gI_sI, if_neg q]) (fun c i k => rfl) rfl ?_
        rw [gI_same]; unfold soF; rw [if_pos w, if_neg w3]
  · have q := c.2.2.2.2.2.1
    rw [a4, c120, nI_eq (by omega) (by omega)] at q
    rw [a6.1, c120, nI_ltI (by omega) (by omega)]; omega
end OPA

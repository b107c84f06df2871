-- ===== best: alike =====
def FBw (c k : Nat) : Bool := decide (c ≠ 21 ∧ c ≠ 24 ∧ c ≠ 25 ∧ c ≠ 56 ∧ c ≠ 57 ∧ ¬ (c = 26 ∧ (k = 53 ∨ k = 54)))
theorem FBw_c (c k : Nat) (z : FBw c k = true) : FBc c k = true := by
  have q := of_decide_eq_true z
  unfold FBc
  split <;> first | rfl | (exfalso; omega)
theorem FBw_m (c k : Nat) (z : FBw c k = true) : FBm c k = true := by
  have q := of_decide_eq_true z
  unfold FBm
  split <;> first | rfl | (simp; omega) | (exfalso; omega)
theorem FA_b (c k : Nat) (z : FA c k = true) : FBw c k = true := by
  unfold FA at z
  unfold FBw
  apply decide_eq_true
  split at z <;> simp at z <;> omega
theorem FV_b (c k : Nat) (z : FV c k = true) : FBw c k = true := by
  unfold FV at z
  unfold FBw
  apply decide_eq_true
  split at z <;> simp at z <;> omega
theorem FT_b (c k : Nat) (z : FT c k = true) : FBw c k = true := by
  unfold FT at z
  unfold FBw
  apply decide_eq_true
  split at z <;> simp at z <;> omega
theorem FR_b (c k : Nat) (z : FR c k = true) : FBw c k = true := by
  unfold FR at z
  unfold FBw
  apply decide_eq_true
  split at z <;> simp at z <;> omega
theorem FF_b (c k : Nat) (z : FF c k = true) : FBw c k = true := by
  unfold FF at z
  unfold FBw
  apply decide_eq_true
  split at z <;> simp at z <;> omega
theorem FC_b (c k : Nat) (z : FC c k = true) : FBw c k = true := by
  unfold FC at z
  unfold FBw
  apply decide_eq_true
  split at z <;> simp at z <;> omega
theorem inv_b {h h2 : HS} (I : Inv h) (e : Eqo FBw h h2) : Inv h2 := by
  obtain ⟨⟨D, nt, ns, iA⟩, iV, iT, iR, iF, iC⟩ := I
  exact ⟨⟨D, nt, ns, iA.keep (e.mono FA_b)⟩, iV.keep (e.mono FV_b), iT.keep (e.mono FT_b), iR.keep (e.mono FR_b), iF.keep (e.mono FF_b), iC.keep (e.mono FC_b)⟩
section BG
variable {h : HS}
theorem sim_best {n w l what : Int32} (I : Inv h) : Sim mX9_best mX10_best 0 0 [aI n, aI w, aI l, aI what] h := by
  obtain ⟨iA, iV, iT, iR, iF, iC⟩ := id I
  refine wX9_best ⟨fun z => ⟨_, rfl, wX10_best ⟨fun _ => ⟨rfl, I⟩, fun y => absurd y z⟩⟩, fun z => ⟨fun z2 => ⟨_, rfl, wX10_best ⟨fun y => absurd z y, fun _ => ⟨fun _ => ⟨rfl, I⟩, fun y => absurd y z2⟩⟩⟩, fun z2 => ⟨fun z3 => ?_, fun z3 => ⟨_, rfl, wX10_best ⟨fun y => absurd z y, fun _ => ⟨fun y => absurd z2 y, fun _ => ⟨fun y => absurd y z3, fun _ => ⟨rfl, I⟩⟩⟩⟩⟩⟩⟩⟩
  obtain ⟨N, hN, rfl⟩ := inR_nat (n := 200) (by decide) z
  obtain ⟨W, hW, rfl⟩ := inR_nat (n := 8) (by decide) z2
  obtain ⟨L, hL, rfl⟩ := inR_nat (n := 3) (by decide) z3
  -- prices and wants as numbers
  obtain ⟨pr, hpr⟩ : ∃ pr : Nat → Nat, ∀ q, q ≤ 3 → pr q ≤ 999 ∧ gI h 54 0 q = nI (pr q) := by
    refine ⟨fun q => (gI h 54 0 q).toNatClampNeg, fun q hq => ?_⟩
    obtain ⟨-, -, ⟨m, hm, em⟩, -⟩ := iC q (by omega)
    show (gI h 54 0 q).toNatClampNeg ≤ 999 ∧ gI h 54 0 q = nI ((gI h 54 0 q).toNatClampNeg)
    rw [em, nI_clamp (by omega)]
    exact ⟨hm, rfl⟩
  obtain ⟨wt, hwt⟩ : ∃ wt : Nat → Nat, ∀ q, q ≤ 3 → wt q ≤ 99 ∧ gI h 55 0 q = nI (wt q) := by
    refine ⟨fun q => (gI h 55 0 q).toNatClampNeg, fun q hq => ?_⟩
    obtain ⟨-, -, -, ⟨m, hm, em⟩⟩ := iC q (by omega)
    show (gI h 55 0 q).toNatClampNeg ≤ 99 ∧ gI h 55 0 q = nI ((gI h 55 0 q).toNatClampNeg)
    rw [em, nI_clamp (by omega)]
    exact ⟨hm, rfl⟩
  have e8 : minF (nI W) 8 = nI W := by
    rw [show (8 : Int32) = nI 8 from rfl, minF_n (by omega) (by omega), Nat.min_eq_left hW]
  have hrow : ∀ v, v < W → (fun _ : Nat => L) v ≤ 3 := fun _ _ => hL
  have rowI : ∀ {c : Nat} {x : HS}, rowC c W (fun _ => L) (acc (fl c 0 (nI L)) W x) := fun v hv => by rw [fl_at, if_pos (by omega)]
  have e10 : (10 : Int32) + nI W - 1 = nI (9 + W) := by
    rw [show (10 : Int32) + nI W = nI (9 + W + 1) by rw [show (10 : Int32) = nI 10 from rfl, nI_add]; congr 1; omega]
    exact nI_pred _
  have e9 : (9 : Int32) + nI W = nI (9 + W) := nI_add 9 W
  obtain ⟨⟨bs, bl, br⟩, hb⟩ := bRun_some (pr := pr) (wt := wt) (W := W) (n := N) (4 ^ W) (fun _ => L) none
  obtain ⟨h0, e0⟩ : ∃ x, x = sI h 21 0 4 (-1) := ⟨_, rfl⟩
  have s0 : ∀ {F : Nat → Nat → Bool}, F 21 4 = false → Eqo F h h0 := fun q => by rw [e0]; exact Eqo.rf.sI q
  refine wX0_seek ?_
  rw [e8, ← e0]
  refine lp_c16 (d := 96) hW ?_ W 0 (by omega)
  refine lp_c43 (d := 92) (h0 := h0) (pr := pr) (wt := wt) hW hN (fun q hq => (hpr q hq).1) (fun q hq => (hwt q hq).1) (fun q hq => ?_) (fun q hq => ?_) (4 ^ W) (fun _ => L) none _ 0 hrow (Eqo.acc (fl_E (fun _ => rfl))) rowI ?_ (fun c hc => by cases hc) (Nat.zero_le _) (by omega) (fun y ey by_ => ?_)
  · rw [e0]; exact (iC q (by omega)).1.trans (hpr q hq).2
  · rw [e0]; exact (iC q (by omega)).2.1.trans (hwt q hq).2
  · have q : Eqo (F1 21) h0 (acc (fl 24 0 (nI L)) W h0) := Eqo.acc (fl_E (fun _ => rfl))
    show gI _ 21 0 4 = -1
    rw [(q.1 21 0 4 rfl).1, e0, gI_same]
  rw [hb] at by_
  obtain ⟨c1, c2, c3⟩ := by_
  have yW : Eqo FBw h y := (s0 rfl).tr (ey.mono FBw_c)
  -- the reference
  obtain ⟨h1, e1⟩ : ∃ x, x = sI y 26 0 53 (-1) := ⟨_, rfl⟩
  have s1 : ∀ {F : Nat → Nat → Bool}, F 26 53 = false → Eqo F y h1 := fun q => by rw [e1]; exact Eqo.rf.sI q
  have ref : ∀ x : Int32, (∀ z, Eqo FBw h z → gI z 26 0 53 = nI bs → gI z 26 0 54 = nI bl → (∀ v, v < W → gI z 57 0 v = nI (br v)) → V true mX10_best 100 0 0 63 [(0, aR 26 0), (1, aI (nI N)), (2, aI (nI W)), (4, aI what), (5, aI 0)] [] z (fun r2 h2 => r2 = some (aI x) ∧ Inv h2)) → Cl true mX10_best 100 0 0 [aR 26 0, aI (nI N), aI (nI W), aI (nI L), aI what] y (fun r2 h2 => r2 = some (aI x) ∧ Inv h2) := by
    intro x k
    refine wX10_best ⟨fun y => absurd z y, fun _ => ⟨fun y => absurd z2 y, fun _ => ⟨fun _ => ?_, fun y => absurd z3 y⟩⟩⟩
    rw [← e1]
    refine lp_m40 (d := 97) hW ?_ W 0 (by omega)
    have g54 : ∀ c q, c = 54 ∨ c = 55 → gI h1 c 0 q = gI h c 0 q := fun c q hc => by
      have x : Eqo (fun c _ => c == 54 || c == 55) h h1 := (yW.mono (fun c k w => by
        have : c = 54 ∨ c = 55 := by simpa using w
        rcases this with rfl | rfl <;> rfl)).tr (s1 rfl)
      rcases hc with rfl | rfl <;> exact (x.1 _ 0 q rfl).1
    refine lp_m63 (d := 93) (h0 := h1) (pr := pr) (wt := wt) hW hN (fun q hq => (hpr q hq).1) (fun q hq => (hwt q hq).1) (fun q hq => ?_) (fun q hq => ?_) (4 ^ W) (fun _ => L) none _ hrow (Eqo.acc (fl_E (fun _ => rfl))) rowI ?_ (fun c hc => by cases hc) (by omega) (fun u eu bu => ?_)
    · rw [g54 54 q (by decide)]; exact (hpr q hq).2
    · rw [g54 55 q (by decide)]; exact (hwt q hq).2
    · have q : Eqo (F1 26) h1 (acc (fl 56 0 (nI L)) W h1) := Eqo.acc (fl_E (fun _ => rfl))
      show gI _ 26 0 53 = -1
      rw [(q.1 26 0 53 rfl).1, e1, gI_same]
    · rw [hb] at bu
      exact k u ((yW.tr (s1 rfl)).tr (eu.mono FBw_m)) bu.1 bu.2.1 bu.2.2
  refine ⟨rfl, ⟨fun y0 => ⟨fun y1 => ⟨fun y2 => ⟨_, rfl, ?_⟩, fun y2 => ?_⟩, fun y1 => ⟨_, rfl, ?_⟩⟩, fun y0 => ⟨_, rfl, ?_⟩⟩⟩
  · refine ref _ (fun z ez f1 f2 f3 => wX10_best_63 ⟨fun _ => ⟨fun _ => ⟨fun _ => ⟨fun _ => ⟨rfl, inv_b I ez⟩, fun q => absurd (by rw [e10, ← e9]; exact q) y2⟩, fun q => absurd q y1⟩, fun q => absurd q y0⟩, fun q => absurd rfl q⟩)
  · rw [e10] at y2
    have lk : (10 : Int32).toInt = 10 := by decide
    have q1 := y2.1
    have q2 := y2.2
    rw [iLt, lk] at q1
    obtain ⟨m, hm, rfl⟩ := nI_of (x := what) (by rw [iLt, toI_lit0]; omega)
    rw [nI_toInt hm] at q1
    rw [nI_ltI (by omega) hm] at q2
    have es : nI m - 10 = nI (m - 10) := pk_sub (a := m) (b := 10) (by omega)
    rw [es, nI_clamp (by omega), c3 _ (by omega)]
    refine ⟨vp_in_nI (by omega) (by decide), _, rfl, ?_⟩
    refine ref _ (fun z ez f1 f2 f3 => wX10_best_63 ⟨fun _ => ⟨fun _ => ⟨fun _ => ⟨fun q => absurd (by rw [e9]; exact y2) q, fun q => ?_⟩, fun q => absurd q y1⟩, fun q => absurd q y0⟩, fun q => absurd rfl q⟩)
    rw [es, nI_clamp (by omega), f3 _ (by omega)]
    exact ⟨vp_in_nI (by omega) (by decide), rfl, inv_b I ez⟩
  · refine ref _ (fun z ez f1 f2 f3 => wX10_best_63 ⟨fun _ => ⟨fun _ => ⟨fun q => absurd y1 q, fun _ => ⟨by rw [f2, c2], inv_b I ez⟩⟩, fun q => absurd q y0⟩, fun q => absurd rfl q⟩)
  · refine ref _ (fun z ez f1 f2 f3 => wX10_best_63 ⟨fun _ => ⟨fun q => absurd y0 q, fun _ => ⟨by rw [f1, c1], inv_b I ez⟩⟩, fun q => absurd rfl q⟩)
end BG

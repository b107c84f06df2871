-- ===== van: alike =====
theorem Eqo.mono {F G : Nat → Nat → Bool} {h x : HS} (q : ∀ c k, F c k = true → G c k = true) (e : Eqo G h x) : Eqo F h x := ⟨fun c i k z => e.1 c i k (q c k z), e.2⟩
def FW (c k : Nat) : Bool := decide (¬ (c = 62 ∧ k = 11) ∧ c ≠ 5 ∧ c ≠ 4 ∧ c ≠ 3 ∧ c ≠ 42 ∧ c ≠ 44 ∧ c ≠ 45 ∧ ¬ (c = 26 ∧ (k = 20 ∨ k = 21)))
theorem FW_c (c k : Nat) (z : FW c k = true) : FVc c k = true := by
  have q := of_decide_eq_true z
  unfold FVc
  split <;> first | rfl | (simp; omega) | (exfalso; omega)
theorem FW_m (c k : Nat) (z : FW c k = true) : FVm c k = true := by
  have q := of_decide_eq_true z
  unfold FVm
  split <;> first | rfl | (simp; omega) | (exfalso; omega)
theorem FT_w (c k : Nat) (z : FT c k = true) : FW c k = true := by
  unfold FT at z
  unfold FW
  apply decide_eq_true
  split at z <;> simp at z <;> omega
theorem FR_w (c k : Nat) (z : FR c k = true) : FW c k = true := by
  unfold FR at z
  unfold FW
  apply decide_eq_true
  split at z <;> simp at z <;> omega
theorem FF_w (c k : Nat) (z : FF c k = true) : FW c k = true := by
  unfold FF at z
  unfold FW
  apply decide_eq_true
  split at z <;> simp at z <;> omega
theorem FC_w (c k : Nat) (z : FC c k = true) : FW c k = true := by
  unfold FC at z
  unfold FW
  apply decide_eq_true
  split at z <;> simp at z <;> omega
section OPE
variable {h : HS}
theorem sim_van {room : Int32} (I : Inv h) : Sim mX9_van mX10_van 0 0 [aI room] h := by
  obtain ⟨⟨D, nt, ns, iA⟩, ⟨v1, ⟨r, v2, v3⟩, nh, v4, v5, v6, v7⟩, iT, iR, iF, iC⟩ := id I
  obtain ⟨⟨hD, hnt, hns⟩, a1, a2, a3, a4, a5, a6, a7, a8, a9, a10⟩ := id iA
  have e2 : (2 : Int32) = nI 2 := rfl
  refine wX9_van ⟨fun z => ⟨_, rfl, wX10_van ⟨fun _ => ⟨rfl, I⟩, fun y => absurd y z⟩⟩, fun z => ⟨fun z2 => ?_, fun z2 => ⟨_, rfl, wX10_van ⟨fun y => absurd z y, fun _ => ⟨fun y => ?_, fun _ => ⟨rfl, I⟩⟩⟩⟩⟩⟩
  · have hr : r < 2 := by
      rw [v1, v3, e2, nI_ltI (by omega) (by omega)] at z2; exact z2
    refine wX8_goRound ?_
    rw [v1, v3, a1, nI_1]
    obtain ⟨h0, e0⟩ : ∃ x, x = sI (sI h 3 0 3 (nI (r + 1))) 3 0 2 0 := ⟨_, rfl⟩
    rw [← e0]
    have s0 : ∀ {F : Nat → Nat → Bool}, F 3 3 = false → F 3 2 = false → Eqo F h h0 := fun q1 q2 => by rw [e0]; exact (Eqo.rf.sI q1).sI q2
    have hh : hsOK (gI h 37 0) ns := fun i hi => (a8 i hi).2.2.2.2.2.2.2.2.2.2.2.2.2.2
    have x62 : Eqo (fun c _ => c == 62 || c == 2 || c == 64) h h0 := s0 rfl rfl
    have ok0 : Vok (fun _ => 0, gI h 42 0, fun _ => 0, 0, room) := Nat.zero_le _
    refine lp_c31 (d := 96) ?_ 20 0 rfl
    refine lp_cV (d := 88) (h0 := h0) (ns := ns) (hs := gI h 37 0) (bk := gI h 41 0) (pc := gI h 36 0) (by omega) (a6.keep (fun i k => x62.1 2 i k rfl) (fun i k => (x62.1 64 i k rfl).2) (fun m => by rw [x62.2])) hh (fun j hj => ?_) (fun j hj => ?_) (fun j hj => ?_) ns 0 (fun _ => 0, gI h 42 0, fun _ => 0, 0, room) _ (by omega) ?_ ok0 (fun y ry => ⟨_, rfl, _, rfl, ?_⟩)
    · rw [(x62.1 62 j 5 rfl).1]; exact (a8 j hj).2.2.2.2.2.1
    · rw [(x62.1 62 j 10 rfl).1]; exact (a8 j hj).2.2.2.2.2.2.2.2.2.2.1
    · rw [(x62.1 62 j 4 rfl).1]; exact (a8 j hj).2.2.2.2.1
    · have q : ∀ {F : Nat → Nat → Bool}, (∀ k, F 5 k = false) → Eqo F h0 (acc (clr 5) 20 h0) := fun q => Eqo.acc (clr_E q)
      have q3 : Eqo (fun c _ => c == 62 || c == 3) h0 (acc (clr 5) 20 h0) := q (fun _ => rfl)
      refine ⟨q (fun _ => rfl), fun j hj => ?_, fun n hn => by rw [clr_at, if_pos hn], ?_, fun n hn => absurd hn (Nat.not_lt_zero _)⟩
      · rw [(q3.1 62 j 11 rfl).1, (x62.1 62 j 11 rfl).1]; exact (a8 j hj).2.2.2.2.2.2.2.2.2.2.2.1
      · rw [(q3.1 3 0 2 rfl).1, e0, gI_same]; exact nI_0.symm
    · obtain ⟨S, eS⟩ : ∃ S, S = vRun (gI h 37 0) (gI h 41 0) (gI h 36 0) (2 * nI D + nI r) ns ns 0 (fun _ => 0, gI h 42 0, fun _ => 0, 0, room) := ⟨_, rfl⟩
      rw [← eS] at ry ⊢
      have okS : Vok S := by rw [eS]; exact vRun_ok hh ns 0 _ (by omega) ok0
      have yFW : Eqo FW h y := (s0 rfl rfl).tr (ry.1.mono FW_c)
      have y26 : ∀ k, gI y 26 0 k = gI h 26 0 k := fun k => by
        have q : Eqo (F1 26) h0 y := ry.1.mono (fun c k z => by
          have : c = 26 := by simpa [F1] using z
          rw [this]; rfl)
        have q0 : Eqo (F1 26) h h0 := s0 rfl rfl
        rw [(q.1 26 0 k rfl).1, (q0.1 26 0 k rfl).1]
      obtain ⟨h1, e1⟩ : ∃ x, x = sI y 26 0 21 0 := ⟨_, rfl⟩
      have s1 : ∀ {F : Nat → Nat → Bool}, F 26 21 = false → Eqo F y h1 := fun q1 => by rw [e1]; exact Eqo.rf.sI q1
      have g1 : ∀ k, k ≠ 21 → gI h1 26 0 k = gI h 26 0 k := fun k hk => by rw [e1, gI_sI, if_neg (fun w => hk w.2.1)]; exact y26 k
      have c42 : ∀ c k, c = 42 ∨ c = 37 ∨ c = 41 ∨ c = 36 → gI h1 c 0 k = gI h c 0 k := fun c k hc => by
        have q0 : Eqo (fun a _ => a == 42 || a == 37 || a == 41 || a == 36) h h1 := ((s0 rfl rfl).tr (ry.1.mono (fun c k z => by
          have : ((c = 42 ∨ c = 37) ∨ c = 41) ∨ c = 36 := by simpa using z
          rcases this with ((rfl | rfl) | rfl) | rfl <;> rfl))).tr (s1 rfl)
        rcases hc with rfl | rfl | rfl | rfl <;> exact (q0.1 _ 0 k rfl).1
      refine wX10_van ⟨fun w => absurd z w, fun _ => ⟨fun _ => ?_, fun w => absurd w (by rw [y26, v3, e2, nI_eq (by omega) (by omega)]; omega)⟩⟩
      rw [← e1]
      have key : V true mX10_van 100 0 0 33 [(0, aR 26 0), (2, aI room), (3, aI (room - room)), (4, aI 0)] [] h1 (fun r2 h2 => r2 = some (aI (room - S.2.2.2.2)) ∧ Inv h2) := by
        refine lp_m33 (d := 97) ?_ 20 0 rfl
        refine lp_mV (d := 97) (h0 := h1) (ns := ns) (hs := gI h 37 0) (bk := gI h 41 0) (pc := gI h 36 0) (rd := 2 * nI D + nI r) (by omega) (by rw [g1 2 (by decide)]; exact a4) (by rw [g1 0 (by decide), g1 20 (by decide), a2, v3]) hh (fun j hj => c42 37 j (by decide)) (fun j hj => c42 41 j (by decide)) (fun j hj => c42 36 j (by decide)) ns 0 (fun _ => 0, gI h 42 0, fun _ => 0, 0, room) _ (by omega) ?_ ok0 ?_
        · have q : ∀ {F : Nat → Nat → Bool}, (∀ k, F 45 k = false) → Eqo F h1 (acc (clr 45) 20 h1) := fun q => Eqo.acc (clr_E q)
          have q3 : Eqo (fun c _ => c == 42 || c == 26) h1 (acc (clr 45) 20 h1) := q (fun _ => rfl)
          refine ⟨q (fun _ => rfl), fun j hj => ?_, fun n hn => by rw [clr_at, if_pos hn], ?_, fun n hn => absurd hn (Nat.not_lt_zero _)⟩
          · rw [(q3.1 42 0 j rfl).1]; exact c42 42 j (by decide)
          · rw [(q3.1 26 0 21 rfl).1, e1, gI_same]; exact nI_0.symm
        · rw [← eS]
          intro x rx
          refine ⟨rfl, ?_⟩
          obtain ⟨B, eB⟩ : ∃ B, B = sI x 26 0 20 (gI x 26 0 20 + 1) := ⟨_, rfl⟩
          rw [← eB]
          have xB : ∀ {F : Nat → Nat → Bool}, F 26 20 = false → Eqo F x B := fun q1 => by rw [eB]; exact Eqo.rf.sI q1
          have aW : Eqo FW h B := ((yFW.tr (s1 rfl)).tr (rx.1.mono FW_m)).tr (xB rfl)
          have g : ∀ c i k, FW c k = true → gI B c i k = gI h c i k := fun c i k w => (aW.1 c i k w).1
          have gr : ∀ c i k, FW c k = true → gR B c i k = gR h c i k := fun c i k w => (aW.1 c i k w).2
          -- from the end of the class's run on
          have yB : Eqo (fun c _ => c == 62 || c == 3 || c == 4) y B := ((s1 rfl).tr (rx.1.mono (fun c k w => by
            have : (c = 62 ∨ c = 3) ∨ c = 4 := by simpa using w
            rcases this with (rfl | rfl) | rfl <;> rfl))).tr (xB rfl)
          have xBm : Eqo (fun c k => c == 42 || c == 44 || c == 26 && k == 21) x B := xB rfl
          have x20 : gI x 26 0 20 = nI r := by rw [(rx.1.1 26 0 20 rfl).1, g1 20 (by decide), v3]
          have hc20 : S.2.2.2.1 ≤ 20 := by
            have := vCnt_le (f := S.1) 20
            unfold Vok at okS
            omega
          refine ⟨⟨D, nt, ns, ⟨⟨hD, hnt, hns⟩, by rw [g 0 0 10 rfl]; exact a1, by rw [g 26 0 0 rfl]; exact a2, by rw [g 26 0 1 rfl]; exact a3, by rw [g 26 0 2 rfl]; exact a4, a5.keep (fun i k => ⟨g 1 i k rfl, gr 1 i k rfl⟩) (fun i k => gr 63 i k rfl) (fun m => by rw [aW.2]), a6.keep (fun i k => ⟨g 2 i k rfl, gr 2 i k rfl⟩) (fun i k => gr 64 i k rfl) (fun m => by rw [aW.2]), fun t ht => ?_, fun i hi => ?_, fun t ht d => by rw [g 27 0 _ rfl, g 29 0 t rfl, g 30 0 t rfl]; exact a9 t ht d, by rw [aW.2]; exact a10⟩⟩, ⟨?_, ⟨r + 1, by omega, by rw [eB, gI_same, x20, nI_1]⟩, S.2.2.2.1, hc20, by rw [(yB.1 3 0 2 rfl).1]; exact ry.2.2.2.1, by rw [(xBm.1 26 0 21 rfl).1]; exact rx.2.2.2.1, fun j hj => ?_⟩, iT.keep (aW.mono FT_w), iR.keep (aW.mono FR_w), iF.keep (aW.mono FF_w), iC.keep (aW.mono FC_w)⟩
          · obtain ⟨b1, b2, b3, b4, b5, b6, b7⟩ := a7 t ht
            exact ⟨by rw [gr 60 t 0 rfl]; exact b1, by rw [g 60 t 1 rfl, g 31 0 t rfl]; exact b2, by rw [g 60 t 2 rfl, g 28 0 t rfl]; exact b3, by rw [g 60 t 3 rfl, g 29 0 t rfl]; exact b4, by rw [g 60 t 4 rfl, g 30 0 t rfl]; exact b5, fun d hd => by rw [g 61 t d rfl, g 27 0 _ rfl]; exact b6 d hd, by rw [g 31 0 t rfl]; exact b7⟩
          · obtain ⟨c1, c2, c3, c4, c5, c6, c7, c8, c9, c10, c11, c12, c13, c14, c15⟩ := a8 i hi
            refine ⟨by rw [g 62 i 0 rfl, g 32 0 i rfl]; exact c1, by rw [g 62 i 1 rfl, g 33 0 i rfl]; exact c2, by rw [g 62 i 2 rfl, g 34 0 i rfl]; exact c3, by rw [gr 62 i 3 rfl, g 35 0 i rfl]; exact c4, by rw [g 62 i 4 rfl, g 36 0 i rfl]; exact c5, by rw [g 62 i 5 rfl, g 37 0 i rfl]; exact c6, by rw [g 62 i 6 rfl, g 38 0 i rfl]; exact c7, by rw [g 62 i 7 rfl, g 43 0 i rfl]; exact c8, by rw [g 62 i 8 rfl, g 39 0 i rfl]; exact c9, by rw [g 62 i 9 rfl, g 40 0 i rfl]; exact c10, by rw [g 62 i 10 rfl, g 41 0 i rfl]; exact c11, ?_, by rw [g 38 0 i rfl, g 40 0 i rfl, g 41 0 i rfl, g 32 0 i rfl]; exact c13, by rw [g 40 0 i rfl]; exact c14, by rw [g 37 0 i rfl]; exact c15⟩
            rw [(yB.1 62 i 11 rfl).1, ry.2.1 i hi, (xBm.1 42 0 i rfl).1, rx.2.1 i hi]
          · rw [(yB.1 3 0 3 rfl).1, eB, gI_same, x20, nI_1, (ry.1.1 3 0 3 rfl).1, e0]
            rfl
          · rw [(yB.1 4 0 j rfl).1, ry.2.2.2.2 j hj, (xBm.1 44 0 j rfl).1, rx.2.2.2.2 j hj]
      rw [Int32.sub_self] at key
      exact key
  · exfalso
    rw [v1, v3, e2, nI_ltI (by omega) (by omega)] at z2
    rw [v3, e2, nI_eq (by omega) (by omega)] at y
    omega
end OPE

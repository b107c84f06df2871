-- ===== van: the reference =====
section OPD
variable {h : HS} {P : Option AV → HS → Prop} {d bc bs : Nat}
theorem lp_m116 {ns : Nat} {hh room gone ii : Int32} (hL : gI h 26 0 2 = nI ns) (hn : ns ≤ 120) (k1 : acc (fun j s => if gI h 37 0 j = hh ∧ mPar h j then s + gI h 36 0 j else s) ns 0 ≤ room → V true mX10_van (d + 3) bc bs 185 [(0, aR 26 0), (2, aI (room - acc (fun j s => if gI h 37 0 j = hh ∧ mPar h j then s + gI h 36 0 j else s) ns 0)), (3, aI gone), (4, aI ii), (5, aI hh), (7, aI 0)] [] h P) (k2 : ¬ acc (fun j s => if gI h 37 0 j = hh ∧ mPar h j then s + gI h 36 0 j else s) ns 0 ≤ room → V true mX10_van (d + 3) bc bs 57 [(0, aR 26 0), (2, aI room), (3, aI gone), (4, aI (ii + 1))] [] h P) : ∀ m j, j + m = ns → V true mX10_van (d + 3) bc bs 116 [(0, aR 26 0), (2, aI room), (3, aI gone), (4, aI ii), (5, aI hh), (6, aI (acc (fun j s => if gI h 37 0 j = hh ∧ mPar h j then s + gI h 36 0 j else s) j 0)), (7, aI (nI j))] [] h P := by
  intro m
  induction m with
  | zero =>
    intro j hj
    obtain rfl : j = ns := by omega
    exact wX10_van_116 ⟨fun _ => ⟨k1, k2⟩, fun z => absurd (by rw [hL]; exact nI_le (Nat.le_refl _) (by omega)) z⟩
  | succ m ih =>
    intro j hj
    have q := ih (j + 1) (by omega)
    have v : vp_in (nI j) 120 := vp_in_nI (by omega) (by decide)
    refine wX10_van_116 ⟨fun z => absurd z (by rw [hL]; exact nI_ge (by omega) (by omega)), fun _ => ⟨v, ?_⟩⟩
    rw [nI_clamp (by omega), nI_1, Int32.add_zero]
    refine ⟨fun z => ?_, fun z => ⟨v, fun z2 => ?_, fun z2 => ⟨v, ?_⟩⟩⟩
    · rw [show acc (fun j s => if gI h 37 0 j = hh ∧ mPar h j then s + gI h 36 0 j else s) (j + 1) (0 : Int32) = acc (fun j s => if gI h 37 0 j = hh ∧ mPar h j then s + gI h 36 0 j else s) j 0 from if_neg (fun y => z y.2)] at q
      exact q
    · rw [show acc (fun j s => if gI h 37 0 j = hh ∧ mPar h j then s + gI h 36 0 j else s) (j + 1) (0 : Int32) = acc (fun j s => if gI h 37 0 j = hh ∧ mPar h j then s + gI h 36 0 j else s) j 0 from if_neg (fun y => z2 y.1)] at q
      exact q
    · rw [show acc (fun j s => if gI h 37 0 j = hh ∧ mPar h j then s + gI h 36 0 j else s) (j + 1) (0 : Int32) = acc (fun j s => if gI h 37 0 j = hh ∧ mPar h j then s + gI h 36 0 j else s) j 0 + gI h 36 0 j from if_pos ⟨z2, z⟩] at q
      exact q
theorem tkM_par {hh rd : Int32} {j : Nat} : (mPar (acc (tkM hh rd) j h) j ↔ mPar h j) ∧ gI (acc (tkM hh rd) j h) 37 0 j = gI h 37 0 j ∧ gI (acc (tkM hh rd) j h) 36 0 j = gI h 36 0 j := by
  have eq : Eqo FVm h (acc (tkM hh rd) j h) := Eqo.acc (tkM_E (fun _ => rfl))
  refine ⟨?_, (eq.1 37 0 j rfl).1, (eq.1 36 0 j rfl).1⟩
  unfold mPar
  rw [(eq.1 37 0 j rfl).1, (eq.1 41 0 j rfl).1, tkM_at, if_neg (by omega)]
theorem lp_m185 {ns hc : Nat} {hh room gone ii rd : Int32} (hL : gI h 26 0 2 = nI ns) (hn : ns ≤ 120) (hr : 2 * gI h 26 0 0 + gI h 26 0 20 = rd) (h21 : gI h 26 0 21 = nI hc) (hc20 : hc < 20) (k1 : V true mX10_van (d + 3) bc bs 57 [(0, aR 26 0), (2, aI room), (3, aI (acc (fun j s => if gI h 37 0 j = hh ∧ mPar h j then s + gI h 36 0 j else s) ns gone)), (4, aI (ii + 1))] [] (sI (sI (acc (tkM hh rd) ns h) 44 0 hc hh) 26 0 21 (nI (hc + 1))) P) : ∀ m j, j + m = ns → V true mX10_van (d + 3) bc bs 185 [(0, aR 26 0), (2, aI room), (3, aI (acc (fun j s => if gI h 37 0 j = hh ∧ mPar h j then s + gI h 36 0 j else s) j gone)), (4, aI ii), (5, aI hh), (7, aI (nI j))] [] (acc (tkM hh rd) j h) P := by
  have eq : ∀ j, Eqo FVm h (acc (tkM hh rd) j h) := fun j => Eqo.acc (tkM_E (fun _ => rfl))
  have e26 : ∀ j, Eqo (F1 26) h (acc (tkM hh rd) j h) := fun j => Eqo.acc (tkM_E (fun _ => rfl))
  have g26 : ∀ j k, gI (acc (tkM hh rd) j h) 26 0 k = gI h 26 0 k := fun j k => ((e26 j).1 26 0 k rfl).1
  intro m
  induction m with
  | zero =>
    intro j hj
    obtain rfl : j = ns := by omega
    refine wX10_van_185 ⟨fun _ => ?_, fun z => absurd (by rw [g26, hL]; exact nI_le (Nat.le_refl _) (by omega)) z⟩
    rw [g26, h21, nI_clamp (by omega), nI_1]
    exact ⟨vp_in_nI hc20 (by decide), k1⟩
  | succ m ih =>
    intro j hj
    have q := ih (j + 1) (by omega)
    have q : V true mX10_van (d + 3) bc bs 185 [(0, aR 26 0), (2, aI room), (3, aI (acc (fun j s => if gI h 37 0 j = hh ∧ mPar h j then s + gI h 36 0 j else s) (j + 1) gone)), (4, aI ii), (5, aI hh), (7, aI (nI (j + 1)))] [] (tkM hh rd j (acc (tkM hh rd) j h)) P := q
    rw [tkM_eq] at q
    obtain ⟨p1, p2, p3⟩ := tkM_par (h := h) (hh := hh) (rd := rd) (j := j)
    have v : vp_in (nI j) 120 := vp_in_nI (by omega) (by decide)
    refine wX10_van_185 ⟨fun z => absurd z (by rw [g26, hL]; exact nI_ge (by omega) (by omega)), fun _ => ⟨v, ?_⟩⟩
    rw [nI_clamp (by omega), nI_1, g26, g26, hr]
    refine ⟨fun z => ?_, fun z => ⟨v, fun z2 => ⟨v, v, ?_⟩, fun z2 => ?_⟩⟩
    · rw [if_neg (fun y => z y.2), show acc (fun j s => if gI h 37 0 j = hh ∧ mPar h j then s + gI h 36 0 j else s) (j + 1) gone = acc (fun j s => if gI h 37 0 j = hh ∧ mPar h j then s + gI h 36 0 j else s) j gone from if_neg (fun y => z (p1.mpr y.2))] at q
      exact q
    · rw [if_pos ⟨z2, z⟩, show acc (fun j s => if gI h 37 0 j = hh ∧ mPar h j then s + gI h 36 0 j else s) (j + 1) gone = acc (fun j s => if gI h 37 0 j = hh ∧ mPar h j then s + gI h 36 0 j else s) j gone + gI h 36 0 j from if_pos ⟨by rw [← p2]; exact z2, p1.mp z⟩] at q
      rw [p3]
      exact q
    · rw [if_neg (fun y => z2 y.1), show acc (fun j s => if gI h 37 0 j = hh ∧ mPar h j then s + gI h 36 0 j else s) (j + 1) gone = acc (fun j s => if gI h 37 0 j = hh ∧ mPar h j then s + gI h 36 0 j else s) j gone from if_neg (fun y => z2 (by rw [p2]; exact y.1))] at q
      exact q
theorem lp_mV {h0 : HS} {ns : Nat} {hs bk pc : Nat → Int32} {room rd : Int32} (hn : ns ≤ 120) (hL : gI h0 26 0 2 = nI ns) (hr : 2 * gI h0 26 0 0 + gI h0 26 0 20 = rd) (hh : hsOK hs ns) (d5 : ∀ j, j < ns → gI h0 37 0 j = hs j) (d10 : ∀ j, j < ns → gI h0 41 0 j = bk j) (d4 : ∀ j, j < ns → gI h0 36 0 j = pc j) : ∀ m i S x, i + m = ns → RM h0 ns S x → Vok S → (∀ y, RM h0 ns (vRun hs bk pc rd ns m i S) y → P (some (aI (room - (vRun hs bk pc rd ns m i S).2.2.2.2))) (sI y 26 0 20 (gI y 26 0 20 + 1))) → V true mX10_van (d + 3) bc bs 57 [(0, aR 26 0), (2, aI S.2.2.2.2), (3, aI (room - S.2.2.2.2)), (4, aI (nI i))] [] x P := by
  have g26 : ∀ {S x k}, RM h0 ns S x → k ≠ 21 → gI x 26 0 k = gI h0 26 0 k := fun {S x k} r hk => (r.1.1 26 0 k (by simp [FVm, hk])).1
  intro m
  induction m with
  | zero =>
    intro i S x hi r ok kk
    obtain rfl : i = ns := by omega
    exact wX10_van_57 ⟨fun _ => kk x r, fun z => absurd (by rw [g26 r (by decide), hL]; exact nI_le (Nat.le_refl _) (by omega)) z⟩
  | succ m ih =>
    intro i S x hi r ok kk
    have hin : i < ns := by omega
    have v : vp_in (nI i) 120 := vp_in_nI (by omega) (by decide)
    have kk' : ∀ S2, vSt hs bk pc rd ns i S = S2 → ∀ y, RM h0 ns (vRun hs bk pc rd ns m (i + 1) S2) y → P (some (aI (room - (vRun hs bk pc rd ns m (i + 1) S2).2.2.2.2))) (sI y 26 0 20 (gI y 26 0 20 + 1)) := fun S2 e => e ▸ kk
    have okn : ∀ S2, vSt hs bk pc rd ns i S = S2 → Vok S2 := fun S2 e => e ▸ vSt_ok hh hin ok
    have nx : ∀ S2 x2, vSt hs bk pc rd ns i S = S2 → RM h0 ns S2 x2 → V true mX10_van (d + 3) bc bs 57 [(0, aR 26 0), (2, aI S2.2.2.2.2), (3, aI (room - S2.2.2.2.2)), (4, aI (nI i + 1))] [] x2 P := fun S2 x2 e r2 => by
      rw [nI_1]
      exact ih (i + 1) S2 x2 (by omega) r2 (okn S2 e) (kk' S2 e)
    have g5 : ∀ {S2 x2}, RM h0 ns S2 x2 → gI x2 37 0 i = hs i := fun r2 => by rw [(r2.1.1 37 0 i rfl).1, d5 i hin]
    refine wX10_van_57 ⟨fun z => absurd z (by rw [g26 r (by decide), hL]; exact nI_ge (by omega) (by omega)), fun _ => ⟨v, ?_⟩⟩
    rw [nI_clamp (by omega), g5 r]
    refine ⟨fun z => ?_, fun z => ?_⟩
    · exact nx S x (by unfold vSt; rw [if_neg (fun y => z ((mPar_v r d5 d10 hin).mpr y))]) r
    · have zp := (mPar_v r d5 d10 hin).mp z
      rcases hh i hin with q | ⟨n, hn20, q⟩
      · exact absurd q zp.1
      have ecl : (hs i).toNatClampNeg = n := by rw [q]; exact nI_clamp (by omega)
      have vin20 : vp_in (hs i) 20 := by rw [q]; exact vp_in_nI hn20 (by decide)
      rw [ecl]
      refine ⟨v, vin20, ⟨fun w => ⟨v, vin20, ?_⟩, fun w => ?_⟩⟩
      · rw [r.2.2.1 n hn20] at w
        have r1 := r.ask (n := n)
        obtain ⟨x1, ex1⟩ : ∃ x1, x1 = sI x 45 0 n 1 := ⟨_, rfl⟩
        rw [← ex1] at r1 ⊢
        have esum : ∀ a, acc (fun j s => if gI x1 37 0 j = hs i ∧ mPar x1 j then s + gI x1 36 0 j else s) ns a = vSum hs bk pc S.2.1 (hs i) ns a := fun a => by
          unfold vSum
          refine acc_cg (fun j hj s => ?_)
          have e1 := mPar_v r1 d5 d10 hj
          have e2 : gI x1 37 0 j = hs j := by rw [(r1.1.1 37 0 j rfl).1, d5 j hj]
          have e3 : gI x1 36 0 j = pc j := by rw [(r1.1.1 36 0 j rfl).1, d4 j hj]
          by_cases e : hs j = hs i ∧ vPar hs bk S.2.1 j
          · rw [if_pos e, if_pos ⟨by rw [e2]; exact e.1, e1.mpr e.2⟩, e3]
          · rw [if_neg e, if_neg (fun y => e ⟨by rw [← e2]; exact y.1, e1.mp y.2⟩)]
        refine lp_m116 (by rw [g26 r1 (by decide), hL]) hn (fun y => ?_) (fun y => ?_) ns 0 (by omega)
        · rw [esum] at y ⊢
          have hc20 : S.2.2.2.1 < 20 := by
            have e := vCnt_fu w 20 hn20
            have e2 := vCnt_le (f := fu S.1 n 1) 20
            unfold Vok at ok
            omega
          have y' : ¬ S.2.2.2.2 < vSum hs bk pc S.2.1 (hs i) ns 0 := by rw [iLt]; rw [iLe] at y; omega
          refine lp_m185 (rd := rd) (hc := S.2.2.2.1) (by rw [g26 r1 (by decide), hL]) hn (by rw [g26 r1 (by decide), g26 r1 (by decide)]; exact hr) r1.2.2.2.1 hc20 ?_ ns 0 (by omega)
          rw [esum, show vSum hs bk pc S.2.1 (hs i) ns (room - S.2.2.2.2) = room - (S.2.2.2.2 - vSum hs bk pc S.2.1 (hs i) ns 0) by
            rw [i_subadd]; exact acc_sh (f := fun j => hs j = hs i ∧ vPar hs bk S.2.1 j) (fun j => inferInstance) ns _]
          refine nx (fu S.1 n 1, (fun j => if j < ns ∧ hs j = hs i ∧ vPar hs bk S.2.1 j then rd else S.2.1 j), fu S.2.2.1 S.2.2.2.1 (hs i), S.2.2.2.1 + 1, S.2.2.2.2 - vSum hs bk pc S.2.1 (hs i) ns 0) _ (by unfold vSt; rw [if_pos zp, ecl, if_pos w, if_neg y']) ?_
          have eq : ∀ {F : Nat → Nat → Bool}, (∀ k, F 42 k = false) → Eqo F x1 (acc (tkM (hs i) rd) ns x1) := fun q => Eqo.acc (tkM_E q)
          have x3 : Eqo (fun c _ => c == 44 || c == 45) x1 (acc (tkM (hs i) rd) ns x1) := eq (fun _ => rfl)
          obtain ⟨p1, p2, p3, p4, p5⟩ := id r1
          refine ⟨((p1.tr (eq (fun _ => rfl))).sI rfl).sI rfl, fun j hj => ?_, fun k hk => ?_, gI_same, fun k hk => ?_⟩
          · show gI (acc (tkM (hs i) rd) ns x1) 42 0 j = if j < ns ∧ hs j = hs i ∧ vPar hs bk S.2.1 j then rd else S.2.1 j
            have e5 : gI x1 37 0 j = hs j := by rw [(r1.1.1 37 0 j rfl).1, d5 j hj]
            have e1 := mPar_v r1 d5 d10 hj
            rw [tkM_at]
            by_cases e : j < ns ∧ hs j = hs i ∧ vPar hs bk S.2.1 j
            · rw [if_pos e, if_pos ⟨e.1, by rw [e5]; exact e.2.1, e1.mpr e.2.2⟩]
            · rw [if_neg e, if_neg (fun w => e ⟨w.1, by rw [← e5]; exact w.2.1, e1.mp w.2.2⟩)]
              exact p2 j hj
          · show gI (acc (tkM (hs i) rd) ns x1) 45 0 k = _
            rw [(x3.1 45 0 k rfl).1]; exact p3 k hk
          · rw [gI_sI, if_neg (by omega), gI_sI]
            by_cases e : k = S.2.2.2.1
            · rw [if_pos ⟨rfl, e, rfl⟩, e]; exact fu_s.symm
            · rw [if_neg (fun w => e w.2.1), (x3.1 44 0 k rfl).1]
              have hk' : k < S.2.2.2.1 + 1 := hk
              exact (p5 k (show k < S.2.2.2.1 by omega)).trans (fu_n e).symm
        · rw [esum] at y
          have y' : S.2.2.2.2 < vSum hs bk pc S.2.1 (hs i) ns 0 := by rw [iLt]; rw [iLe] at y; omega
          exact nx (fu S.1 n 1, S.2) _ (by unfold vSt; rw [if_pos zp, ecl, if_pos w, if_pos y']) r1
      · rw [r.2.2.1 n hn20] at w
        exact nx S x (by unfold vSt; rw [if_pos zp, ecl, if_neg w]) r
-- the clearing loops
def clr (c j : Nat) (x : HS) : HS := sI x c 0 j 0
theorem clr_at {c : Nat} : ∀ n j, gI (acc (clr c) n h) c 0 j = if j < n then 0 else gI h c 0 j
  | 0, j => by rw [if_neg (by omega)]; rfl
  | n + 1, j => by
    show gI (sI (acc (clr c) n h) c 0 n 0) c 0 j = _
    rw [gI_sI]
    by_cases e : j = n
    · rw [if_pos ⟨rfl, e, rfl⟩, if_pos (by omega)]
    · rw [if_neg (fun z => e z.2.1), clr_at n j]
      by_cases e2 : j < n
      · rw [if_pos e2, if_pos (by omega)]
      · rw [if_neg e2, if_neg (by omega)]
theorem clr_E {F : Nat → Nat → Bool} {c : Nat} (hF : ∀ k, F c k = false) {x : HS} : ∀ i y, Eqo F x y → Eqo F x (clr c i y) := fun _ _ e => e.sI (hF _)
theorem lp_c31 {room rd : Int32} (k : V true mX8_goRound (d + 3) bc bs 55 [(0, aR 3 0), (1, aR 2 0), (2, aI room), (4, aI rd), (5, aI room), (6, aI 0)] [] (acc (clr 5) 20 h) P) : ∀ m j, j + m = 20 → V true mX8_goRound (d + 3) bc bs 31 [(0, aR 3 0), (1, aR 2 0), (2, aI room), (4, aI rd), (5, aI room), (6, aI (nI j))] [] (acc (clr 5) j h) P := by
  intro m
  induction m with
  | zero =>
    intro j hj
    obtain rfl : j = 20 := by omega
    exact wX8_goRound_31 ⟨fun _ => k, fun z => absurd (by decide) z⟩
  | succ m ih =>
    intro j hj
    refine wX8_goRound_31 ⟨fun z => absurd (show nI 20 ≤ nI j from z) (nI_ge (by omega) (by decide)), fun _ => ⟨vp_in_nI (by omega) (by decide), ?_⟩⟩
    rw [nI_clamp (by omega), nI_1]
    exact ih (j + 1) (by omega)
theorem lp_m33 {room g : Int32} (k : V true mX10_van (d + 3) bc bs 57 [(0, aR 26 0), (2, aI room), (3, aI g), (4, aI 0)] [] (acc (clr 45) 20 h) P) : ∀ m j, j + m = 20 → V true mX10_van (d + 3) bc bs 33 [(0, aR 26 0), (2, aI room), (3, aI g), (4, aI (nI j))] [] (acc (clr 45) j h) P := by
  intro m
  induction m with
  | zero =>
    intro j hj
    obtain rfl : j = 20 := by omega
    exact wX10_van_33 ⟨fun _ => k, fun z => absurd (by decide) z⟩
  | succ m ih =>
    intro j hj
    refine wX10_van_33 ⟨fun z => absurd (show nI 20 ≤ nI j from z) (nI_ge (by omega) (by decide)), fun _ => ⟨vp_in_nI (by omega) (by decide), ?_⟩⟩
    rw [nI_clamp (by omega), nI_1]
    exact ih (j + 1) (by omega)
end OPD

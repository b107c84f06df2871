-- ===== tag, of, count, paper, back =====
def FB (c k : Nat) : Bool := match c with
  | 0 => k == 10
  | 1 => true
  | 2 => true
  | 26 => decide (k < 3)
  | 62 => true
  | 63 => true
  | 64 => true
  | c => decide (31 ≤ c ∧ c ≤ 43)
theorem SL.keep {h h2 : HS} {D nt i : Nat} (e : Eqo FB h h2) (a : SL h D nt i) : SL h2 D nt i := by
  have g : ∀ c i k, FB c k = true → gI h2 c i k = gI h c i k := fun c i k z => (e.1 c i k z).1
  have r : ∀ c i k, FB c k = true → gR h2 c i k = gR h c i k := fun c i k z => (e.1 c i k z).2
  obtain ⟨b1, b2, b3, b4, b5, b6, b7, b8, b9, b10, b11, b12, b13, b14, b15⟩ := a
  exact ⟨by rw [g 62 i 0 rfl, g 32 0 i rfl]; exact b1, by rw [g 62 i 1 rfl, g 33 0 i rfl]; exact b2, by rw [g 62 i 2 rfl, g 34 0 i rfl]; exact b3, by rw [r 62 i 3 rfl, g 35 0 i rfl]; exact b4, by rw [g 62 i 4 rfl, g 36 0 i rfl]; exact b5, by rw [g 62 i 5 rfl, g 37 0 i rfl]; exact b6, by rw [g 62 i 6 rfl, g 38 0 i rfl]; exact b7, by rw [g 62 i 7 rfl, g 43 0 i rfl]; exact b8, by rw [g 62 i 8 rfl, g 39 0 i rfl]; exact b9, by rw [g 62 i 9 rfl, g 40 0 i rfl]; exact b10, by rw [g 62 i 10 rfl, g 41 0 i rfl]; exact b11, by rw [g 62 i 11 rfl, g 42 0 i rfl]; exact b12, by rw [g 38 0 i rfl, g 40 0 i rfl, g 41 0 i rfl, g 32 0 i rfl]; exact b13, by rw [g 40 0 i rfl]; exact b14, by rw [g 37 0 i rfl]; exact b15⟩
/-- the things' cells have changed alone -/
theorem IA.th {h h2 : HS} {D nt ns : Nat} (a : IA h D nt ns) (e : Eqo FB h h2) (t1 : ∀ t, t < nt → TH h2 D t) (t2 : ∀ t, nt ≤ t → ∀ d, gI h2 27 0 (364 * t + d) = 0 ∧ gI h2 29 0 t = 0 ∧ gI h2 30 0 t = 0) : IA h2 D nt ns := by
  obtain ⟨a0, a1, a2, a3, a4, a5, a6, a7, a8, a9, a10⟩ := a
  have g : ∀ c i k, FB c k = true → gI h2 c i k = gI h c i k := fun c i k z => (e.1 c i k z).1
  have r : ∀ c i k, FB c k = true → gR h2 c i k = gR h c i k := fun c i k z => (e.1 c i k z).2
  exact ⟨a0, by rw [g 0 0 10 rfl]; exact a1, by rw [g 26 0 0 rfl]; exact a2, by rw [g 26 0 1 rfl]; exact a3, by rw [g 26 0 2 rfl]; exact a4, a5.keep (fun i k => ⟨g 1 i k rfl, r 1 i k rfl⟩) (fun i k => r 63 i k rfl) (fun m => by rw [e.2]), a6.keep (fun i k => ⟨g 2 i k rfl, r 2 i k rfl⟩) (fun i k => r 64 i k rfl) (fun m => by rw [e.2]), t1, fun i hi => (a8 i hi).keep e, t2, by rw [e.2]; exact a10⟩
theorem tgF_nI {h : HS} {t d : Nat} (hd : d < 364) : tgF h t (nI d) = gI h 61 t d := by
  unfold tgF
  rw [if_neg (nI_pos (by omega)), if_neg (show ¬ (364 : Int32) ≤ nI d from nI_ge (a := d) (b := 364) hd (by decide)), nI_clamp (by omega)]
theorem ix364 {j D : Nat} : (364 : Int32) * nI j + nI D = nI (364 * j + D) := by
  rw [show (364 : Int32) = nI 364 from rfl, pk_mul, nI_add]
section OP2
variable {h : HS}
theorem sim_of {t w : Int32} (I : Inv h) : Sim mX9_of mX10_of 0 0 [aI t, aI w] h := by
  obtain ⟨⟨D, nt, ns, iA⟩, iV, iT, iR, iF, iC⟩ := id I
  obtain ⟨⟨hD, hnt, hns⟩, a1, a2, a3, a4, a5, a6, a7, a8, a9, a10⟩ := id iA
  refine wX9_of (cThingAt a5 (by omega) (fun z => Or.inl ⟨rfl, ⟨_, rfl, ?_⟩⟩) (fun j hj ej => Or.inr ⟨j, rfl, ?_⟩))
  · exact wX10_of ⟨fun y => absurd (by rw [← a3]; exact y) z, fun _ => ⟨rfl, I⟩⟩
  · subst ej
    obtain ⟨b1, b2, b3, b4, b5, b6, b7⟩ := a7 j hj
    have hin : inR (nI j) 0 (gI h 26 0 1 - 1) := by rw [a3]; exact inR_of (by omega) hj
    have h12 : vp_in (nI j) 12 := vp_in_nI (by omega) (by decide)
    have ec : (nI j).toNatClampNeg = j := nI_clamp (by omega)
    have e3 : (364 : Int32) * nI j + gI h 26 0 0 = nI (364 * j + D) := by rw [a2]; exact ix364
    have h43 : vp_in ((364 : Int32) * nI j + gI h 26 0 0) 4368 := by rw [e3]; exact vp_in_nI (by omega) (by decide)
    have ecd : ((364 : Int32) * nI j + gI h 26 0 0).toNatClampNeg = 364 * j + D := by rw [e3]; exact nI_clamp (by omega)
    have l0 : (0 : Int32).toInt = 0 := by decide
    have l1 : (1 : Int32).toInt = 1 := by decide
    have l2 : (2 : Int32).toInt = 2 := by decide
    have l3 : (3 : Int32).toInt = 3 := by decide
    have lk : (1000 : Int32).toInt = 1000 := by decide
    have go : ∀ {x : Int32}, ((w = 0 → vp_in ((364 : Int32) * nI j + gI h 26 0 0) 4368 ∧ (some (aI (gI h 27 0 ((364 : Int32) * nI j + gI h 26 0 0).toNatClampNeg)) = some (aI x) ∧ Inv h)) ∧ (w = 1 → vp_in (nI j) 12 ∧ (some (aI (gI h 28 0 (nI j).toNatClampNeg)) = some (aI x) ∧ Inv h)) ∧ (w = 2 → vp_in (nI j) 12 ∧ (some (aI (gI h 29 0 (nI j).toNatClampNeg)) = some (aI x) ∧ Inv h)) ∧ (w = 3 → vp_in (nI j) 12 ∧ (some (aI (gI h 30 0 (nI j).toNatClampNeg)) = some (aI x) ∧ Inv h)) ∧ (¬ (0 ≤ w.toInt ∧ w.toInt ≤ 3) → ((¬ inR w 1000 (1000 + gI h 26 0 0) → some (aI (-1)) = some (aI x) ∧ Inv h) ∧ (inR w 1000 (1000 + gI h 26 0 0) → vp_in ((364 : Int32) * nI j + w - 1000) 4368 ∧ (some (aI (gI h 27 0 ((364 : Int32) * nI j + w - 1000).toNatClampNeg)) = some (aI x) ∧ Inv h))))) → Cl true mX10_of 100 0 0 [aR 26 0, aI (nI j), aI w] h (fun r2 h2 => r2 = some (aI x) ∧ Inv h2) := fun q => wX10_of ⟨fun _ => q, fun y => absurd hin y⟩
    refine ⟨fun z => ⟨fun y => ⟨b1, _, rfl, go ⟨fun _ => ⟨h43, ?_, I⟩, fun e => absurd (y.symm.trans e) (by decide), fun e => absurd (y.symm.trans e) (by decide), fun e => absurd (y.symm.trans e) (by decide), fun e => absurd (by rw [y]; decide) e⟩⟩, fun y => ⟨_, rfl, go ⟨fun e => absurd (y.symm.trans e) (by decide), fun _ => ⟨h12, ?_, I⟩, fun e => absurd (y.symm.trans e) (by decide), fun e => absurd (y.symm.trans e) (by decide), fun e => absurd (by rw [y]; decide) e⟩⟩, fun y => ⟨_, rfl, go ⟨fun e => absurd (y.symm.trans e) (by decide), fun e => absurd (y.symm.trans e) (by decide), fun _ => ⟨h12, ?_, I⟩, fun e => absurd (y.symm.trans e) (by decide), fun e => absurd (by rw [y]; decide) e⟩⟩, fun y => ⟨_, rfl, go ⟨fun e => absurd (y.symm.trans e) (by decide), fun e => absurd (y.symm.trans e) (by decide), fun e => absurd (y.symm.trans e) (by decide), fun _ => ⟨h12, ?_, I⟩, fun e => absurd (by rw [y]; decide) e⟩⟩, fun y => ⟨_, rfl, go ⟨fun e => absurd (by rw [e]; decide) y, fun e => absurd (by rw [e]; decide) y, fun e => absurd (by rw [e]; decide) y, fun e => absurd (by rw [e]; decide) y, fun _ => ⟨fun _ => ⟨rfl, I⟩, fun e => absurd z e.1⟩⟩⟩⟩, fun z => ?_⟩
    · rw [a1, tgF_nI hD, ecd, b6 D hD]
    · rw [ec, b3]
    · rw [ec, b4]
    · rw [ec, b5]
    · have hw0 : 1000 ≤ w.toInt := by rw [iLt, lk] at z; omega
      obtain ⟨m, hm, rfl⟩ := nI_of (x := w) (by rw [iLt, l0]; omega)
      rw [nI_toInt hm] at hw0
      have es : nI m - 1000 = nI (m - 1000) := pk_sub (a := m) (b := 1000) (by omega)
      have ew : ¬ (0 ≤ (nI m).toInt ∧ (nI m).toInt ≤ 3) := by rw [nI_toInt hm]; omega
      have nw : ∀ {v : Int32}, (0 ≤ v.toInt ∧ v.toInt ≤ 3) → ¬ nI m = v := fun hv e => ew (e ▸ hv)
      rw [a1, es]
      refine ⟨fun y => ⟨_, rfl, go ⟨fun e => absurd e (nw (by decide)), fun e => absurd e (nw (by decide)), fun e => absurd e (nw (by decide)), fun e => absurd e (nw (by decide)), fun _ => ⟨fun _ => ⟨rfl, I⟩, fun e => ?_⟩⟩⟩, fun y => ⟨b1, _, rfl, go ⟨fun e => absurd e (nw (by decide)), fun e => absurd e (nw (by decide)), fun e => absurd e (nw (by decide)), fun e => absurd e (nw (by decide)), fun _ => ⟨fun e => ?_, fun e => ?_⟩⟩⟩⟩
      · have e2 := e.2
        rw [a2, show (1000 : Int32) + nI D = nI (1000 + D) from nI_add 1000 D, iLt, nI_toInt (by omega), nI_toInt hm] at e2
        rw [iLt, nI_toInt (by omega), nI_toInt (by omega)] at y
        omega
      · refine absurd ⟨z, ?_⟩ e
        rw [iLt, nI_toInt (by omega), nI_toInt (by omega)] at y
        rw [a2, show (1000 : Int32) + nI D = nI (1000 + D) from nI_add 1000 D, iLt, nI_toInt (by omega), nI_toInt hm]
        omega
      · rw [iLt, nI_toInt (by omega), nI_toInt (by omega)] at y
        have ei : (364 : Int32) * nI j + nI m - 1000 = nI (364 * j + (m - 1000)) := by
          rw [ix364, show (1000 : Int32) = nI 1000 from rfl, pk_sub (by omega), show 364 * j + m - 1000 = 364 * j + (m - 1000) by omega]
        rw [ei, nI_clamp (by omega), tgF_nI (by omega), b6 (m - 1000) (by omega)]
        exact ⟨vp_in_nI (by omega) (by decide), rfl, I⟩
theorem inv_th {h2 : HS} {D nt ns : Nat} (I : Inv h) (iA : IA h D nt ns) (e1 : Eqo FB h h2) (e2 : Eqo FV h h2) (e3 : Eqo FT h h2) (e4 : Eqo FR h h2) (e5 : Eqo FF h h2) (e6 : Eqo FC h h2) (t1 : ∀ t, t < nt → TH h2 D t) (t2 : ∀ t, nt ≤ t → ∀ d, gI h2 27 0 (364 * t + d) = 0 ∧ gI h2 29 0 t = 0 ∧ gI h2 30 0 t = 0) : Inv h2 := by
  obtain ⟨-, iV, iT, iR, iF, iC⟩ := I
  exact ⟨⟨D, nt, ns, iA.th e1 t1 t2⟩, iV.keep e2, iT.keep e3, iR.keep e4, iF.keep e5, iC.keep e6⟩
theorem sim_count {t n : Int32} (I : Inv h) : Sim mX9_count mX10_count 0 0 [aI t, aI n] h := by
  obtain ⟨D, nt, ns, iA⟩ := I.1
  obtain ⟨⟨hD, hnt, hns⟩, a1, a2, a3, a4, a5, a6, a7, a8, a9, a10⟩ := id iA
  refine wX9_count (cThingAt a5 (by omega) (fun z => Or.inl ⟨rfl, ⟨_, rfl, ?_⟩⟩) (fun j hj ej => Or.inr ⟨j, rfl, ?_⟩))
  · exact wX10_count ⟨fun _ => ⟨rfl, I⟩, fun y => absurd (by rw [← a3]; exact y) z⟩
  · subst ej
    obtain ⟨b1, b2, b3, b4, b5, b6, b7⟩ := a7 j hj
    have hin : inR (nI j) 0 (gI h 26 0 1 - 1) := by rw [a3]; exact inR_of (by omega) hj
    refine ⟨fun z => ⟨b1, _, rfl, ?_⟩, fun z => ⟨_, rfl, wX10_count ⟨fun y => absurd hin y, fun _ => ⟨fun y => absurd y z, fun _ => ⟨rfl, I⟩⟩⟩⟩⟩
    have h12 : vp_in (nI j) 12 := vp_in_nI (by omega) (by decide)
    have ec : (nI j).toNatClampNeg = j := nI_clamp (by omega)
    have e3 : (364 : Int32) * nI j + nI D = nI (364 * j + D) := ix364
    have et : tgF (sI h 60 j 2 n) j (gI h 0 0 10) = gI h 27 0 (364 * j + D) := by rw [a1, tgF_nI hD]; exact b6 D hD
    refine wX10_count ⟨fun y => absurd hin y, fun _ => ⟨fun _ => ⟨h12, h12, h12, ?_, h12, ?_, ?_⟩, fun y => absurd z y⟩⟩
    · show vp_in ((364 : Int32) * nI j + gI h 26 0 0) 4368
      rw [a2, e3]
      exact vp_in_nI (by omega) (by decide)
    · show some (aI (gI h 28 0 (nI j).toNatClampNeg - n)) = _
      rw [ec, b3]
    · show Inv (sI (sI (sI (sI h 60 j 2 n) 60 j 4 (gI h 60 j 4 + (gI h 60 j 2 - n) * tgF (sI h 60 j 2 n) j (gI h 0 0 10))) 28 0 (nI j).toNatClampNeg n) 30 0 (nI j).toNatClampNeg (gI h 30 0 (nI j).toNatClampNeg + (gI h 28 0 (nI j).toNatClampNeg - n) * gI h 27 0 ((364 : Int32) * nI j + gI h 26 0 0).toNatClampNeg))
      rw [ec, et, a2, e3, nI_clamp (by omega), b3, b5]
      refine inv_th I iA ((((Eqo.rf.sI rfl).sI rfl).sI rfl).sI rfl) ((((Eqo.rf.sI rfl).sI rfl).sI rfl).sI rfl) ((((Eqo.rf.sI rfl).sI rfl).sI rfl).sI rfl) ((((Eqo.rf.sI rfl).sI rfl).sI rfl).sI rfl) ((((Eqo.rf.sI rfl).sI rfl).sI rfl).sI rfl) ((((Eqo.rf.sI rfl).sI rfl).sI rfl).sI rfl) (fun t ht => ?_) (fun t ht d => ?_)
      · obtain ⟨c1, c2, c3, c4, c5, c6, c7⟩ := a7 t ht
        by_cases e : t = j
        · subst e
          simp only [TH, gI_sI, gR_sI]
          simp
          exact ⟨c1, c2, c4, fun d hd => c6 d hd, c7⟩
        · simp only [TH, gI_sI, gR_sI]
          simp [e]
          exact ⟨c1, c2, c3, c4, c5, fun d hd => c6 d hd, c7⟩
      · have e : ¬ t = j := by omega
        simp only [gI_sI]
        simp [e]
        exact a9 t ht d
theorem sim_tag {t v : Int32} (I : Inv h) : Sim mX9_tag mX10_tag 0 0 [aI t, aI v] h := by
  obtain ⟨D, nt, ns, iA⟩ := I.1
  obtain ⟨⟨hD, hnt, hns⟩, a1, a2, a3, a4, a5, a6, a7, a8, a9, a10⟩ := id iA
  refine wX9_tag (cThingAt a5 (by omega) (fun z => Or.inl ⟨rfl, ⟨_, rfl, ?_⟩⟩) (fun j hj ej => Or.inr ⟨j, rfl, ?_⟩))
  · exact wX10_tag ⟨fun _ => ⟨rfl, I⟩, fun y => absurd (by rw [← a3]; exact y) z⟩
  · subst ej
    obtain ⟨b1, b2, b3, b4, b5, b6, b7⟩ := a7 j hj
    have hin : inR (nI j) 0 (gI h 26 0 1 - 1) := by rw [a3]; exact inR_of (by omega) hj
    refine ⟨fun z => ?_, fun z => ⟨_, rfl, wX10_tag ⟨fun y => absurd hin y, fun _ => ⟨fun y => absurd y z, fun _ => ⟨rfl, I⟩⟩⟩⟩⟩
    have h12 : vp_in (nI j) 12 := vp_in_nI (by omega) (by decide)
    have ec : (nI j).toNatClampNeg = j := nI_clamp (by omega)
    have e3 : (364 : Int32) * nI j + nI D = nI (364 * j + D) := ix364
    have h43 : vp_in (nI (364 * j + D)) 4368 := vp_in_nI (by omega) (by decide)
    have ecd : (nI (364 * j + D)).toNatClampNeg = 364 * j + D := nI_clamp (by omega)
    have eD : (nI D).toNatClampNeg = D := nI_clamp (by omega)
    have et : tgF h j (nI D) = gI h 27 0 (364 * j + D) := by rw [tgF_nI hD]; exact b6 D hD
    have fin : ∀ h2 : HS, Eqo FB h h2 → Eqo FV h h2 → Eqo FT h h2 → Eqo FR h h2 → Eqo FF h h2 → Eqo FC h h2 → (∀ t, gR h2 60 t 0 = gR h 60 t 0 ∧ gI h2 60 t 1 = gI h 60 t 1 ∧ gI h2 60 t 2 = gI h 60 t 2 ∧ gI h2 60 t 4 = gI h 60 t 4 ∧ gI h2 28 0 t = gI h 28 0 t ∧ gI h2 30 0 t = gI h 30 0 t) → (∀ t, t < nt → gI h2 60 t 3 = gI h2 29 0 t) → (∀ t, nt ≤ t → gI h2 29 0 t = gI h 29 0 t) → (∀ k, gI h2 27 0 k = if k = 364 * j + D then v else gI h 27 0 k) → (∀ t d, gI h2 61 t d = if t = j ∧ d = D then v else gI h 61 t d) → Inv h2 := by
      intro h2 q1 q2 q3 q4 q5 q6 q7 q8 q9 q10 q11
      refine inv_th I iA q1 q2 q3 q4 q5 q6 (fun t ht => ?_) (fun t ht d => ?_)
      · obtain ⟨c1, c2, c3, c4, c5, c6, c7⟩ := a7 t ht
        obtain ⟨p1, p2, p3, p4, p5, p6⟩ := q7 t
        have g31 : gI h2 31 0 t = gI h 31 0 t := (q1.1 31 0 t rfl).1
        refine ⟨p1.trans c1, by rw [p2, g31]; exact c2, by rw [p3, p5]; exact c3, q8 t ht, by rw [p4, p6]; exact c5, fun d hd => ?_, by rw [g31]; exact c7⟩
        rw [q10, q11]
        by_cases e : t = j ∧ d = D
        · rw [if_pos e, if_pos (by rw [e.1, e.2])]
        · rw [if_neg e, if_neg (fun y => e (by omega))]
          exact c6 d hd
      · rw [q10, if_neg (by omega), (q7 t).2.2.2.2.2, q9 t ht]
        exact a9 t ht d
    rw [a1]
    refine wX6_changeTag ⟨b1, ⟨fun y => ⟨_, rfl, ⟨_, rfl, ?_⟩⟩, fun y => ⟨fun y2 => absurd y2 (nI_pos (by omega)), fun _ => ⟨fun _ => ⟨b1, vp_in_nI hD (by decide), ⟨fun y3 => ⟨_, rfl, ⟨_, rfl, ?_⟩⟩, fun y3 => ⟨_, rfl, ⟨_, rfl, ?_⟩⟩⟩⟩, fun y2 => absurd (show nI D < nI 364 from nI_lt hD (by decide)) y2⟩⟩⟩⟩
    · rw [et] at y
      refine wX10_tag ⟨fun w => absurd hin w, fun _ => ⟨fun _ => ?_, fun w => absurd z w⟩⟩
      rw [a2, e3, ecd, ← y]
      have le : v ≤ v := by rw [iLe]; omega
      refine ⟨h43, h43, ⟨fun _ => ⟨fun _ => ⟨fun _ => ⟨rfl, ?_⟩, fun w => absurd le w⟩, fun w => absurd le w⟩, fun w => absurd le w⟩⟩
      refine fin _ (Eqo.rf.sI rfl) (Eqo.rf.sI rfl) (Eqo.rf.sI rfl) (Eqo.rf.sI rfl) (Eqo.rf.sI rfl) (Eqo.rf.sI rfl) (fun t => ⟨rfl, rfl, rfl, rfl, rfl, rfl⟩) (fun t ht => (a7 t ht).2.2.2.1) (fun t _ => rfl) (fun k => ?_) (fun t d => ?_)
      · rw [gI_sI]
        by_cases e : k = 364 * j + D
        · rw [if_pos ⟨rfl, e, rfl⟩, if_pos e]
        · rw [if_neg (fun w => e w.2.1), if_neg e]
      · show gI h 61 t d = _
        by_cases e : t = j ∧ d = D
        · rw [if_pos e, e.1, e.2, b6 D hD]
          exact y.symm
        · rw [if_neg e]
    · rw [et] at y y3
      have hlt : ¬ v ≤ gI h 27 0 (364 * j + D) := fun w => y (by rw [iLe] at w y3; exact iEq.mpr (by omega))
      refine wX10_tag ⟨fun w => absurd hin w, fun _ => ⟨fun _ => ?_, fun w => absurd z w⟩⟩
      show vp_in ((364 : Int32) * nI j + gI h 26 0 0) 4368 ∧ _
      have E1 : ∀ k, gI (sI (sI h 61 j (nI D).toNatClampNeg v) 60 j 3 (gI h 60 j 3 + 1)) 27 0 k = gI h 27 0 k := fun k => rfl
      have E2 : gI (sI (sI h 61 j (nI D).toNatClampNeg v) 60 j 3 (gI h 60 j 3 + 1)) 26 0 0 = gI h 26 0 0 := rfl
      have E3 : ∀ k, gI (sI (sI h 61 j (nI D).toNatClampNeg v) 60 j 3 (gI h 60 j 3 + 1)) 29 0 k = gI h 29 0 k := fun k => rfl
      simp only [E1, E2, E3, a2, e3, ecd, ec]
      refine ⟨h43, h43, ⟨fun w => absurd w hlt, fun _ => ⟨h12, h12, ⟨fun _ => ⟨fun w => absurd w hlt, fun _ => ⟨trivial, ?_⟩⟩, fun w => absurd y3 w⟩⟩⟩⟩
      rw [eD]
      refine fin _ ((((Eqo.rf.sI rfl).sI rfl).sI rfl).sI rfl) ((((Eqo.rf.sI rfl).sI rfl).sI rfl).sI rfl) ((((Eqo.rf.sI rfl).sI rfl).sI rfl).sI rfl) ((((Eqo.rf.sI rfl).sI rfl).sI rfl).sI rfl) ((((Eqo.rf.sI rfl).sI rfl).sI rfl).sI rfl) ((((Eqo.rf.sI rfl).sI rfl).sI rfl).sI rfl) (fun t => ⟨rfl, rfl, rfl, rfl, rfl, rfl⟩) (fun t ht => ?_) (fun t ht => ?_) (fun k => ?_) (fun t d => ?_)
      · obtain ⟨c1, c2, c3, c4, c5, c6, c7⟩ := a7 t ht
        simp only [gI_sI]
        by_cases e : t = j
        · subst e
          simp [c4]
        · simp [e, c4]
      · have e : ¬ t = j := by omega
        simp only [gI_sI]
        simp [e]
      · simp only [gI_sI]
        by_cases e : k = 364 * j + D <;> simp [e]
      · simp only [gI_sI]
        by_cases e1 : t = j <;> by_cases e2 : d = D <;> simp [e1, e2]
    · rw [et] at y y3
      have hlt : ¬ gI h 27 0 (364 * j + D) ≤ v := y3
      have hle : v ≤ gI h 27 0 (364 * j + D) := by rw [iLe] at y3 ⊢; omega
      refine wX10_tag ⟨fun w => absurd hin w, fun _ => ⟨fun _ => ?_, fun w => absurd z w⟩⟩
      have E1 : ∀ k, gI (sI h 61 j (nI D).toNatClampNeg v) 27 0 k = gI h 27 0 k := fun k => rfl
      have E2 : gI (sI h 61 j (nI D).toNatClampNeg v) 26 0 0 = gI h 26 0 0 := rfl
      simp only [E1, E2, a2, e3, ecd, ec]
      refine ⟨h43, h43, ⟨fun _ => ⟨fun w => absurd w hlt, fun _ => ⟨trivial, ?_⟩⟩, fun w => absurd hle w⟩⟩
      rw [eD]
      refine fin _ ((Eqo.rf.sI rfl).sI rfl) ((Eqo.rf.sI rfl).sI rfl) ((Eqo.rf.sI rfl).sI rfl) ((Eqo.rf.sI rfl).sI rfl) ((Eqo.rf.sI rfl).sI rfl) ((Eqo.rf.sI rfl).sI rfl) (fun t => ⟨rfl, rfl, rfl, rfl, rfl, rfl⟩) (fun t ht => (a7 t ht).2.2.2.1) (fun t _ => rfl) (fun k => ?_) (fun t d => ?_)
      · simp only [gI_sI]
        by_cases e : k = 364 * j + D <;> simp [e]
      · simp only [gI_sI]
        by_cases e1 : t = j <;> by_cases e2 : d = D <;> simp [e1, e2]
end OP2

-- ===== THE RULE as steps: (kind, number) in the class, ints in the reference =====
/-- the ints of the reference for a step of the class -/
def ex1 (s : Nat × Nat) : List Nat := if s.1 = 47 then [s.2, 1000013] else if s.1 = 258 then [s.2] else if s.1 = 43 then [1000010] else if s.1 = 45 then [1000011] else if s.1 = 42 then [1000012] else if s.1 = 60 then [1000014] else if s.1 = 61 then [1000015] else if s.1 = 62 then [1000016] else if s.1 = 261 then [1000017] else if s.1 = 262 then [1000001] else if s.1 = 263 then [1000002] else if s.1 = 264 then [1000003] else [1000004]
def exs (l : List (Nat × Nat)) : List Nat := l.flatMap ex1
def SgC (h : HS) (ρ p : Nat) (l : List (Nat × Nat)) : Prop := ∀ j s, l[j]? = some s → gI h 13 ρ (p + j) = nI s.1 ∧ gI h 14 ρ (p + j) = nI s.2
def SgM (h : HS) (c p : Nat) (l : List Nat) : Prop := ∀ j s, l[j]? = some s → gI h c 0 (p + j) = nI s
/-- a step that may stand in a rule -/
def stOK (s : Nat × Nat) : Prop := s.2 < 1000000 ∧ (s.1 = 258 ∨ (262 ≤ s.1 ∧ s.1 ≤ 265) ∨ (s.1 = 47 ∧ s.2 ≠ 0) ∨ s.1 = 43 ∨ s.1 = 45 ∨ s.1 = 42 ∨ s.1 = 60 ∨ s.1 = 61 ∨ s.1 = 62 ∨ s.1 = 261)
/-- how many values lie there behind the steps, if never too few and never more than m -/
def hts (m : Nat) : List (Nat × Nat) → Nat → Option Nat
  | [], n => some n
  | s :: t, n => if s.1 = 258 ∨ 262 ≤ s.1 then (if n < m then hts m t (n + 1) else none) else if s.1 = 47 then (if 1 ≤ n then hts m t n else none) else if 2 ≤ n then hts m t (n - 1) else none
/-- a line: pay, when -/
def LnOK (h : HS) (ρ k : Nat) : Prop := ∃ (pl wl : List (Nat × Nat)) (p mp : Nat), (∀ s ∈ pl, stOK s) ∧ (∀ s ∈ wl, stOK s) ∧ hts 60 pl 0 = some 1 ∧ hts 60 wl 0 = some 1 ∧ (∃ w0 c, (c.1 = 60 ∨ c.1 = 61 ∨ c.1 = 62) ∧ (wl = w0 ++ [c] ∨ ∃ a, a.1 = 261 ∧ wl = w0 ++ [c, a])) ∧ p + pl.length + wl.length ≤ 400 ∧ mp + (exs pl).length + (exs wl).length ≤ 500 ∧ SgC h ρ p pl ∧ SgC h ρ (p + pl.length) wl ∧ SgM h 48 mp (exs pl) ∧ SgM h 48 (mp + (exs pl).length) (exs wl) ∧
  gI h 15 ρ k = nI p ∧ gI h 16 ρ k = nI (p + pl.length) ∧ gI h 17 ρ k = nI (p + pl.length + wl.length) ∧ gI h 46 0 k = nI mp ∧ gI h 47 0 k = nI (mp + (exs pl).length) ∧ gI h 46 0 (k + 1) = nI (mp + (exs pl).length + (exs wl).length)
def IR (h : HS) : Prop := ∃ ρ, ρ ≤ 1 ∧ gR h 0 0 8 = some (12, ρ) ∧ gR h 0 0 9 = some (12, 1 - ρ) ∧ (∃ j, j ≤ 1 ∧ gR h 19 0 1 = some (12, j)) ∧ ∃ nl, nl ≤ 8 ∧ gI h 12 ρ 7 = nI nl ∧ gI h 26 0 24 = nI nl ∧ ∀ k, k < nl → LnOK h ρ k
def FR (c k : Nat) : Bool := match c with
  | 0 => k == 8 || k == 9
  | 12 => k == 7
  | 13 => true
  | 14 => true
  | 15 => true
  | 16 => true
  | 17 => true
  | 19 => k == 1
  | 26 => k == 24
  | 46 => true
  | 47 => true
  | 48 => true
  | _ => false
theorem IR.keep {h h2 : HS} (e : Eqo FR h h2) (a : IR h) : IR h2 := by
  have g : ∀ c i k, FR c k = true → gI h2 c i k = gI h c i k := fun c i k z => (e.1 c i k z).1
  have r : ∀ c i k, FR c k = true → gR h2 c i k = gR h c i k := fun c i k z => (e.1 c i k z).2
  obtain ⟨ρ, a1, a2, a3, a4, nl, b1, b2, b3, b4⟩ := a
  refine ⟨ρ, a1, by rw [r 0 0 8 rfl]; exact a2, by rw [r 0 0 9 rfl]; exact a3, by rw [r 19 0 1 rfl]; exact a4, nl, b1, by rw [g 12 ρ 7 rfl]; exact b2, by rw [g 26 0 24 rfl]; exact b3, fun k hk => ?_⟩
  obtain ⟨pl, wl, p, mp, c1, c2, c3, c4, c5, c6, c7, c8, c9, c10, c11, c12, c13, c14, c15, c16, c17⟩ := b4 k hk
  refine ⟨pl, wl, p, mp, c1, c2, c3, c4, c5, c6, c7, fun j s hs => ?_, fun j s hs => ?_, fun j s hs => ?_, fun j s hs => ?_, by rw [g 15 ρ k rfl]; exact c12, by rw [g 16 ρ k rfl]; exact c13, by rw [g 17 ρ k rfl]; exact c14, by rw [g 46 0 k rfl]; exact c15, by rw [g 47 0 k rfl]; exact c16, by rw [g 46 0 (k + 1) rfl]; exact c17⟩
  · rw [g 13 ρ _ rfl, g 14 ρ _ rfl]; exact c8 j s hs
  · rw [g 13 ρ _ rfl, g 14 ρ _ rfl]; exact c9 j s hs
  · rw [g 48 0 _ rfl]; exact c10 j s hs
  · rw [g 48 0 _ rfl]; exact c11 j s hs
/-- what holds between the calls -/
def Inv (h : HS) : Prop := (∃ D nt ns, IA h D nt ns) ∧ IV h ∧ IT h ∧ IR h ∧ IF h ∧ IC h
/-- class, then reference, at the same arguments: the same answer, and Inv again -/
def Sim (Mc Mm : MT) (bc bs : Nat) (as : List AV) (h : HS) : Prop := Cl true Mc 100 bc bs (aR 0 0 :: as) h (fun r h1 => ∃ x : Int32, r = some (aI x) ∧ Cl true Mm 100 0 0 (aR 26 0 :: as) h1 (fun r2 h2 => r2 = some (aI x) ∧ Inv h2))
-- ===== level, fault, end, house =====
section OP1
variable {h : HS}
theorem sim_fault {w : Int32} (I : Inv h) : Sim mX9_fault mX10_fault 0 0 [aI w] h := by
  obtain ⟨iA, iV, iT, iR, iF, iC⟩ := id I
  refine wX9_fault ⟨fun z => ⟨_, rfl, ?_⟩, fun z => ⟨_, rfl, ?_⟩, fun z => ⟨_, rfl, ?_⟩⟩
  · refine wX10_fault ⟨fun y => absurd z y, fun _ => ⟨by rw [iF.1], I⟩⟩
  · refine wX10_fault ⟨fun _ => ⟨fun y => absurd z y, fun _ => ⟨by rw [iF.2], I⟩⟩, fun y => absurd (y.symm.trans z) (by decide)⟩
  · refine wX10_fault ⟨fun _ => ⟨fun _ => ⟨rfl, I⟩, fun y => absurd y z.2⟩, fun y => absurd y z.1⟩
theorem sim_end {n : Int32} (I : Inv h) : Sim mX9_end mX10_end 0 0 [aI n] h := by
  obtain ⟨iA, iV, ⟨tp, t1, t2, t3, t4⟩, iR, iF, iC⟩ := id I
  have e : gI h 6 0 1 = gI h 26 0 35 := t2.trans t3.symm
  refine wX9_end ⟨fun z => ⟨_, rfl, ?_⟩, fun z => ⟨_, rfl, ?_⟩⟩
  · refine wX10_end ⟨fun _ => ⟨rfl, ?_⟩, fun y => absurd (e ▸ z) y⟩
    rw [t2] at z
    obtain ⟨j, hj, rfl⟩ := inR_nat (n := tp) (nI_toInt (by omega)) z
    obtain ⟨D, nt, ns, iA⟩ := iA
    exact ⟨⟨D, nt, ns, iA.keep ((Eqo.rf.sI rfl).sI rfl)⟩, iV.keep ((Eqo.rf.sI rfl).sI rfl), ⟨j, by omega, rfl, rfl, fun i hi => t4 i (by omega)⟩, iR.keep ((Eqo.rf.sI rfl).sI rfl), iF.keep ((Eqo.rf.sI rfl).sI rfl), iC.keep ((Eqo.rf.sI rfl).sI rfl)⟩
  · exact wX10_end ⟨fun y => absurd (e.symm ▸ y) z, fun _ => ⟨rfl, I⟩⟩
theorem sim_house {i : Int32} (I : Inv h) : Sim mX9_house mX10_house 0 0 [aI i] h := by
  obtain ⟨iA, ⟨v1, v2, n, n1, n2, n3, n4⟩, iT, iR, iF, iC⟩ := id I
  have no : ¬ inR i 0 (gI h 26 0 21 - 1) → Cl true mX10_house 100 0 0 [aR 26 0, aI i] h (fun r2 h2 => r2 = some (aI (-1)) ∧ Inv h2) := fun z => wX10_house ⟨fun _ => ⟨rfl, I⟩, fun y => absurd y z⟩
  rw [n3] at no
  refine wX9_house (wX8_houseAt ⟨fun z => ⟨_, rfl, ⟨_, rfl, no (nix_of (by omega) (Or.inl z))⟩⟩, fun z => ⟨fun z2 => ⟨_, rfl, ⟨_, rfl, no (nix_of (by omega) (Or.inr (by rw [← n2]; exact z2)))⟩⟩, fun z2 => ?_⟩⟩)
  obtain ⟨j, hj, rfl⟩ := ix_of (n := n) (by omega) z (by rw [← n2]; exact z2)
  refine ⟨fun z3 => absurd (show nI 20 ≤ nI j from z3) (nI_ge (by omega) (by decide)), fun _ => ⟨vp_in_nI (by omega) (by decide), ⟨_, rfl, ⟨_, rfl, ?_⟩⟩⟩⟩
  rw [nI_clamp (by omega), n4 j hj]
  refine wX10_house ⟨fun y => absurd (by rw [n3]; exact inR_of (by omega) hj) y, fun _ => ⟨vp_in_nI (by omega) (by decide), by rw [nI_clamp (by omega)], I⟩⟩
theorem sim_level {l p w : Int32} (I : Inv h) : Sim mX9_level mX10_level 0 0 [aI l, aI p, aI w] h := by
  obtain ⟨iA, iV, iT, iR, iF, iC⟩ := id I
  refine wX9_level ⟨fun z => ⟨_, rfl, wX10_level ⟨fun _ => ⟨rfl, I⟩, fun y => absurd y z⟩⟩, fun z => ⟨fun z2 => ⟨_, rfl, wX10_level ⟨fun y => absurd z y, fun _ => ⟨fun _ => ⟨rfl, I⟩, fun y => absurd y z2⟩⟩⟩, fun z2 => ⟨fun z3 => ?_, fun z3 => ⟨_, rfl, wX10_level ⟨fun y => absurd z y, fun _ => ⟨fun y => absurd z2 y, fun _ => ⟨fun y => absurd y z3, fun _ => ⟨rfl, I⟩⟩⟩⟩⟩⟩⟩⟩
  obtain ⟨j, hj, rfl⟩ := inR_nat (n := 3) (by decide) z
  obtain ⟨pn, hp, rfl⟩ := inR_nat (n := 999) (by decide) z2
  obtain ⟨wn, hw, rfl⟩ := inR_nat (n := 99) (by decide) z3
  have hin : vp_in (nI j) 4 := vp_in_nI (by omega) (by decide)
  have ec : (nI j).toNatClampNeg = j := nI_clamp (by omega)
  refine ⟨hin, hin, ⟨_, rfl, wX10_level ⟨fun y => absurd z y, fun _ => ⟨fun y => absurd z2 y, fun _ => ⟨fun _ => ⟨hin, hin, rfl, ?_⟩, fun y => absurd z3 y⟩⟩⟩⟩⟩
  rw [ec]
  obtain ⟨D, nt, ns, iA⟩ := iA
  refine ⟨⟨D, nt, ns, iA.keep ((((Eqo.rf.sI rfl).sI rfl).sI rfl).sI rfl)⟩, iV.keep ((((Eqo.rf.sI rfl).sI rfl).sI rfl).sI rfl), iT.keep ((((Eqo.rf.sI rfl).sI rfl).sI rfl).sI rfl), iR.keep ((((Eqo.rf.sI rfl).sI rfl).sI rfl).sI rfl), iF.keep ((((Eqo.rf.sI rfl).sI rfl).sI rfl).sI rfl), fun q hq => ?_⟩
  obtain ⟨c1, c2, c3, c4⟩ := iC q hq
  simp only [gI_sI]
  by_cases e : q = j
  · simp only [e, and_self, if_true]
    simp
    exact ⟨⟨pn, hp, rfl⟩, ⟨wn, hw, rfl⟩⟩
  · simp [e]
    exact ⟨c1, c2, c3, c4⟩
end OP1

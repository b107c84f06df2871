-- ===== next =====
def ktC (D t : Nat) (h : HS) : HS := sI h 61 t (D + 1) (gI h 61 t D)
def ktM (D t : Nat) (h : HS) : HS := sI h 27 0 (364 * t + D + 1) (gI h 27 0 (364 * t + D))
def sbC (D i : Nat) (h : HS) : HS := if gI h 62 i 0 = 2 ∧ stF h i = 1 ∧ ¬ nI (D + 1) < gI h 62 i 6 + 7 then sI h 62 i 9 (gI h 62 i 6 + 7) else h
def sbM (D i : Nat) (h : HS) : HS := if gI h 32 0 i = 2 ∧ gI h 40 0 i = -1 ∧ gI h 41 0 i = -1 ∧ gI h 38 0 i + 7 = nI (D + 1) then sI h 40 0 i (nI (D + 1)) else h
theorem sbC_eq (D i : Nat) (h : HS) : sbC D i h = (if gI h 62 i 0 = 2 ∧ stF h i = 1 ∧ ¬ nI (D + 1) < gI h 62 i 6 + 7 then sI h 62 i 9 (gI h 62 i 6 + 7) else h) := rfl
theorem sbM_eq (D i : Nat) (h : HS) : sbM D i h = (if gI h 32 0 i = 2 ∧ gI h 40 0 i = -1 ∧ gI h 41 0 i = -1 ∧ gI h 38 0 i + 7 = nI (D + 1) then sI h 40 0 i (nI (D + 1)) else h) := rfl
theorem Eqo.acc {F : Nat → Nat → Bool} {f : Nat → HS → HS} {n : Nat} {h : HS} (hf : ∀ i x, Eqo F h x → Eqo F h (f i x)) : Eqo F h (acc f n h) := acc_inv (R := fun _ x => Eqo F h x) Eqo.rf (fun i x _ => hf i x)
theorem ktC_at {D : Nat} {h : HS} : ∀ (n t k : Nat), gI (acc (ktC D) n h) 61 t k = if t < n ∧ k = D + 1 then gI h 61 t D else gI h 61 t k
  | 0, t, k => by rw [if_neg (by omega)]; rfl
  | n + 1, t, k => by
    show gI (ktC D n (acc (ktC D) n h)) 61 t k = _
    unfold ktC
    rw [gI_sI]
    by_cases e : k = D + 1 ∧ t = n
    · rw [if_pos ⟨rfl, e.1, e.2⟩, if_pos ⟨by omega, e.1⟩]
      show gI (acc (ktC D) n h) 61 n D = _
      rw [ktC_at n n D, if_neg (by omega), e.2]
    · rw [if_neg (fun z => e z.2)]
      show gI (acc (ktC D) n h) 61 t k = _
      rw [ktC_at n t k]
      by_cases e2 : t < n ∧ k = D + 1
      · rw [if_pos e2, if_pos ⟨by omega, e2.2⟩]
      · rw [if_neg e2, if_neg (fun z => e2 ⟨by omega, z.2⟩)]
theorem ktM_at {D : Nat} {h : HS} (hD : D + 1 < 364) : ∀ (n t k : Nat), k < 364 → gI (acc (ktM D) n h) 27 0 (364 * t + k) = if t < n ∧ k = D + 1 then gI h 27 0 (364 * t + D) else gI h 27 0 (364 * t + k)
  | 0, t, k, _ => by rw [if_neg (by omega)]; rfl
  | n + 1, t, k, hk => by
    show gI (ktM D n (acc (ktM D) n h)) 27 0 (364 * t + k) = _
    unfold ktM
    rw [gI_sI]
    by_cases e : k = D + 1 ∧ t = n
    · rw [if_pos ⟨rfl, by rw [e.1, e.2]; omega, rfl⟩, if_pos ⟨by omega, e.1⟩]
      show gI (acc (ktM D) n h) 27 0 (364 * n + D) = _
      rw [ktM_at hD n n D (by omega), if_neg (by omega), e.2]
    · rw [if_neg (fun z => e (by omega))]
      show gI (acc (ktM D) n h) 27 0 (364 * t + k) = _
      rw [ktM_at hD n t k hk]
      by_cases e2 : t < n ∧ k = D + 1
      · rw [if_pos e2, if_pos ⟨by omega, e2.2⟩]
      · rw [if_neg e2, if_neg (fun z => e2 ⟨by omega, z.2⟩)]
section OP6
variable {d bc bs : Nat} {h : HS} {P : Option AV → HS → Prop}
theorem cKeep {t D : Nat} {x : Int32} (hx : x = nI (D + 1)) (hD : D + 1 < 364) (hr : gR h 60 t 0 = some (61, t)) (k : P none (ktC D t h)) : Cl true mX6_keepTag (d + 3) bc bs [aR 60 t, aI x] h P := by
  subst hx
  have e1 : nI (D + 1) - 1 = nI D := nI_pred D
  refine wX6_keepTag ⟨fun z => absurd z (show ¬ nI (D + 1) < nI 1 from nI_nlt (by omega) (by omega)), fun _ => ⟨fun z => absurd (show nI 364 ≤ nI (D + 1) from z) (nI_ge hD (by decide)), fun _ => ⟨hr, hr, ?_⟩⟩⟩
  rw [e1, nI_clamp (by omega), nI_clamp (by omega)]
  exact ⟨vp_in_nI (by omega) (by decide), vp_in_nI hD (by decide), k⟩
theorem cSell {i D : Nat} {x : Int32} (hx : x = nI (D + 1)) (hk : stF h i = 1 → gI h 62 i 0 = 2) (k : P none (sbC D i h)) : Cl true mX3_sellBy (d + 3) bc bs [aR 62 i, aI x] h P := by
  subst hx
  unfold sbC at k
  refine wX3_sellBy ⟨fun z => ⟨fun z2 => ?_, fun z2 => absurd (hk z2) z⟩, fun z => ⟨fun z2 => ?_, fun z2 => ⟨fun z3 => ?_, fun z3 => ?_⟩⟩⟩
  · rw [if_neg (fun y => z2 y.2.1)] at k; exact k
  · rw [if_neg (fun y => z2 y.2.1)] at k; exact k
  · rw [if_neg (fun y => y.2.2 z3)] at k; exact k
  · rw [if_pos ⟨z, z2, z3⟩] at k; exact k
/-- what the loops keep -/
def FN (c k : Nat) : Bool := match c with
  | 60 => true
  | 61 => false
  | 62 => k != 9
  | 27 => false
  | 40 => false
  | _ => true
theorem lp_cN1 {nt D : Nat} (hD : D + 1 < 364) (hn : nt ≤ 12) (h0 : gI h 0 0 10 = nI (D + 1)) (hL : LsL h 1 63 60 nt) (hr : ∀ t, t < nt → gR h 60 t 0 = some (61, t)) (k : V true mX9_next (d + 8) bc bs 61 [(0, aR 0 0), (1, aI 0)] [] (acc (ktC D) nt h) P) : ∀ m j, j + m = nt → V true mX9_next (d + 8) bc bs 24 [(0, aR 0 0), (1, aI (nI j))] [] (acc (ktC D) j h) P := by
  have eq : ∀ j, Eqo FN h (acc (ktC D) j h) := fun j => Eqo.acc (fun i x e => e.sI rfl)
  have L : ∀ j, LsL (acc (ktC D) j h) 1 63 60 nt := fun j => hL.keep (fun i k => (eq j).1 1 i k rfl) (fun i k => ((eq j).1 63 i k rfl).2) (fun m => by rw [(eq j).2])
  intro m
  induction m with
  | zero =>
    intro j hj
    obtain rfl : j = nt := by omega
    exact wX9_next_24 ⟨fun _ => k, fun z => absurd (by rw [(L j).1]; exact nI_le (Nat.le_refl _) (by omega)) z⟩
  | succ m ih =>
    intro j hj
    refine wX9_next_24 ⟨fun z => absurd z (by rw [(L j).1]; exact nI_ge (by omega) (by omega)), fun _ => cGet_1 (L j) (by omega) ⟨_, rfl, ?_⟩⟩
    refine cKeep (D := D) (by rw [((eq j).1 0 0 10 rfl).1]; exact h0) hD (by rw [((eq j).1 60 j 0 rfl).2]; exact hr j (by omega)) ⟨rfl, ?_⟩
    rw [nI_1]
    exact ih (j + 1) (by omega)
theorem lp_cN2 {ns D : Nat} (hn : ns ≤ 120) (h0 : gI h 0 0 10 = nI (D + 1)) (hL : LsL h 2 64 62 ns) (hk : ∀ i, i < ns → ∀ j, stF (acc (sbC D) j h) i = 1 → gI h 62 i 0 = 2) (k : P (some (aI (nI (D + 1)))) (sI (acc (sbC D) ns h) 3 0 3 0)) : ∀ m j, j + m = ns → V true mX9_next (d + 8) bc bs 61 [(0, aR 0 0), (1, aI (nI j))] [] (acc (sbC D) j h) P := by
  have eq : ∀ j, Eqo FN h (acc (sbC D) j h) := fun j => Eqo.acc (fun i x e => by
    unfold sbC
    split
    · exact e.sI rfl
    · exact e)
  have L : ∀ j, LsL (acc (sbC D) j h) 2 64 62 ns := fun j => hL.keep (fun i k => (eq j).1 2 i k rfl) (fun i k => ((eq j).1 64 i k rfl).2) (fun m => by rw [(eq j).2])
  have e0 : ∀ j, gI (acc (sbC D) j h) 0 0 10 = nI (D + 1) := fun j => by rw [((eq j).1 0 0 10 rfl).1]; exact h0
  intro m
  induction m with
  | zero =>
    intro j hj
    obtain rfl : j = ns := by omega
    refine wX9_next_61 ⟨fun _ => by rw [e0]; exact k, fun z => absurd (by rw [(L j).1]; exact nI_le (Nat.le_refl _) (by omega)) z⟩
  | succ m ih =>
    intro j hj
    refine wX9_next_61 ⟨fun z => absurd z (by rw [(L j).1]; exact nI_ge (by omega) (by omega)), fun _ => cGet_2 (L j) (by omega) ⟨_, rfl, ?_⟩⟩
    refine cSell (D := D) (e0 j) (fun y => by rw [((eq j).1 62 j 0 rfl).1]; exact hk j (by omega) j y) ⟨rfl, ?_⟩
    rw [nI_1]
    exact ih (j + 1) (by omega)
theorem lp_mN1 {nt D : Nat} (hD : D + 1 < 364) (hn : nt ≤ 12) (h0 : gI h 26 0 0 = nI (D + 1)) (h1 : gI h 26 0 1 = nI nt) (k : V true mX10_next (d + 3) bc bs 72 [(0, aR 26 0), (1, aI 0)] [] (acc (ktM D) nt h) P) : ∀ m j, j + m = nt → V true mX10_next (d + 3) bc bs 24 [(0, aR 26 0), (1, aI (nI j))] [] (acc (ktM D) j h) P := by
  have eq : ∀ j, Eqo FN h (acc (ktM D) j h) := fun j => Eqo.acc (fun i x e => e.sI rfl)
  intro m
  induction m with
  | zero =>
    intro j hj
    obtain rfl : j = nt := by omega
    exact wX10_next_24 ⟨fun _ => k, fun z => absurd (by rw [((eq j).1 26 0 1 rfl).1, h1]; exact nI_le (Nat.le_refl _) (by omega)) z⟩
  | succ m ih =>
    intro j hj
    have e3 : (364 : Int32) * nI j + nI (D + 1) = nI (364 * j + D + 1) := ix364
    have e4 : nI (364 * j + D + 1) - 1 = nI (364 * j + D) := nI_pred _
    refine wX10_next_24 ⟨fun z => absurd z (by rw [((eq j).1 26 0 1 rfl).1, h1]; exact nI_ge (by omega) (by omega)), fun _ => ?_⟩
    rw [((eq j).1 26 0 0 rfl).1, h0, e3, e4, nI_clamp (by omega), nI_clamp (by omega), nI_1]
    exact ⟨vp_in_nI (by omega) (by decide), vp_in_nI (by omega) (by decide), ih (j + 1) (by omega)⟩
theorem lp_mN2 {ns D : Nat} (hn : ns ≤ 120) (h0 : gI h 26 0 0 = nI (D + 1)) (h1 : gI h 26 0 2 = nI ns) (k : P (some (aI (nI (D + 1)))) (sI (acc (sbM D) ns h) 26 0 20 0)) : ∀ m j, j + m = ns → V true mX10_next (d + 3) bc bs 72 [(0, aR 26 0), (1, aI (nI j))] [] (acc (sbM D) j h) P := by
  have eq : ∀ j, Eqo FN h (acc (sbM D) j h) := fun j => Eqo.acc (fun i x e => by
    unfold sbM
    split
    · exact e.sI rfl
    · exact e)
  have e0 : ∀ j, gI (acc (sbM D) j h) 26 0 0 = nI (D + 1) := fun j => by rw [((eq j).1 26 0 0 rfl).1]; exact h0
  intro m
  induction m with
  | zero =>
    intro j hj
    obtain rfl : j = ns := by omega
    refine wX10_next_72 ⟨fun _ => by rw [e0]; exact k, fun z => absurd (by rw [((eq j).1 26 0 2 rfl).1, h1]; exact nI_le (Nat.le_refl _) (by omega)) z⟩
  | succ m ih =>
    intro j hj
    have v : vp_in (nI j) 120 := vp_in_nI (by omega) (by decide)
    have w := ih (j + 1) (by omega)
    have w : V true mX10_next (d + 3) bc bs 72 [(0, aR 26 0), (1, aI (nI (j + 1)))] [] (sbM D j (acc (sbM D) j h)) P := w
    rw [sbM_eq] at w
    refine wX10_next_72 ⟨fun z => absurd z (by rw [((eq j).1 26 0 2 rfl).1, h1]; exact nI_ge (by omega) (by omega)), fun _ => ⟨v, ?_⟩⟩
    rw [nI_clamp (by omega), nI_1, e0]
    refine ⟨fun z1 => ?_, fun z1 => ⟨v, fun z2 => ?_, fun z2 => ⟨v, fun z3 => ?_, fun z3 => ⟨v, fun z4 => ?_, fun z4 => ⟨v, ?_⟩⟩⟩⟩⟩
    · rw [if_neg (fun y => z1 y.1)] at w; exact w
    · rw [if_neg (fun y => z2 y.2.1)] at w; exact w
    · rw [if_neg (fun y => z3 y.2.2.1)] at w; exact w
    · rw [if_neg (fun y => z4 y.2.2.2)] at w; exact w
    · rw [if_pos ⟨z1, z2, z3, z4⟩] at w; exact w
end OP6

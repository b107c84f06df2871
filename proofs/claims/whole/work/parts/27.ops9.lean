-- ===== slip =====
/-- when the reference takes a slip -/
abbrev slOK (h : HS) (t : Nat) (l1 l2 l3 l4 l5 l6 l7 : Int32) : Prop := inR l1 0 2 ∧ inR l2 0 7 ∧ inR l4 0 (gI h 26 0 1 - 1) ∧ inR l5 1 99 ∧ inR l6 (-1) 19 ∧ ¬ gI h 26 0 2 = 120 ∧ (l1 = 0 → l3 = -1) ∧ (¬ l1 = 0 → inR l3 0 9) ∧ inR l7 (gI h 26 0 0 - 28) (gI h 26 0 0) ∧ ¬ l7 < 0 ∧ ¬ l7 < gI h 31 0 t ∧ l5 ≤ gI h 28 0 t
def soF (l1 l7 dd : Int32) : Int32 := if l1 = 2 then (if dd < l7 + 7 then -1 else l7 + 7) else l7
def slM (h : HS) (i t x : Nat) (l1 l2 l3 l4 l5 l6 l7 so : Int32) : HS := sI (sI (sI (sI (sI (sI (sI (sI (sI (sI (sI (sI (sI (sI h 26 0 2 (nI i + 1)) 32 0 i l1) 33 0 i l2) 34 0 i l3) 35 0 i l4) 36 0 i l5) 37 0 i l6) 38 0 i l7) 39 0 i (gI h 26 0 0)) 40 0 i so) 41 0 i (-1)) 42 0 i (-1)) 43 0 i (l5 * gI h 27 0 x)) 28 0 t (gI h 28 0 t - l5)
section OP9
variable {h : HS} {P : Option AV → HS → Prop} {d bc bs : Nat}
theorem mSlip {t i x : Nat} {l1 l2 l3 l4 l5 l6 l7 : Int32} (hi : gI h 26 0 2 = nI i) (hx : i ≤ 120) (ht : inR l4 0 (gI h 26 0 1 - 1) → l4 = nI t ∧ t < 12) (hX : slOK h t l1 l2 l3 l4 l5 l6 l7 → x < 4368 ∧ 364 * l4 + l7 = nI x) (no : ¬ slOK h t l1 l2 l3 l4 l5 l6 l7 → P (some (aI (-1))) h) (yes : slOK h t l1 l2 l3 l4 l5 l6 l7 → P (some (aI (nI i))) (slM h i t x l1 l2 l3 l4 l5 l6 l7 (soF l1 l7 (gI h 26 0 0)))) : Cl true mX10_slip (d + 3) bc bs [aR 26 0, aI l1, aI l2, aI l3, aI l4, aI l5, aI l6, aI l7] h P := by
  have v4 : inR l4 0 (gI h 26 0 1 - 1) → vp_in l4 12 := fun q => by rw [(ht q).1]; exact vp_in_nI (ht q).2 (by decide)
  have k4 : inR l4 0 (gI h 26 0 1 - 1) → l4.toNatClampNeg = t := fun q => by have := (ht q).2; rw [(ht q).1]; exact nI_clamp (by omega)
  have hi2 : ¬ gI h 26 0 2 = 120 → i < 120 := fun q => by
    rcases Nat.lt_or_ge i 120 with w | w
    · exact w
    · exact absurd (by rw [hi, show i = 120 by omega]; rfl) q
  have vi : ¬ gI h 26 0 2 = 120 → vp_in (gI h 26 0 2) 120 := fun q => by rw [hi]; exact vp_in_nI (hi2 q) (by decide)
  have ki : (gI h 26 0 2).toNatClampNeg = i := by rw [hi]; exact nI_clamp (by omega)
  have fin : ∀ so, slOK h t l1 l2 l3 l4 l5 l6 l7 → soF l1 l7 (gI h 26 0 0) = so → vp_in (gI h 26 0 2) 120 ∧ vp_in (gI h 26 0 2) 120 ∧ vp_in (gI h 26 0 2) 120 ∧ vp_in ((364 * l4) + l7) 4368 ∧ vp_in (gI h 26 0 2) 120 ∧ vp_in l4 12 ∧ vp_in l4 12 ∧ P (some (aI (gI h 26 0 2))) (sI (sI (sI (sI (sI (sI (sI (sI (sI (sI (sI (sI (sI (sI h 26 0 2 ((gI h 26 0 2) + 1)) 32 0 (gI h 26 0 2).toNatClampNeg l1) 33 0 (gI h 26 0 2).toNatClampNeg l2) 34 0 (gI h 26 0 2).toNatClampNeg l3) 35 0 (gI h 26 0 2).toNatClampNeg l4) 36 0 (gI h 26 0 2).toNatClampNeg l5) 37 0 (gI h 26 0 2).toNatClampNeg l6) 38 0 (gI h 26 0 2).toNatClampNeg l7) 39 0 (gI h 26 0 2).toNatClampNeg (gI h 26 0 0)) 40 0 (gI h 26 0 2).toNatClampNeg so) 41 0 (gI h 26 0 2).toNatClampNeg (-1)) 42 0 (gI h 26 0 2).toNatClampNeg (-1)) 43 0 (gI h 26 0 2).toNatClampNeg (l5 * (gI h 27 0 ((364 * l4) + l7).toNatClampNeg))) 28 0 l4.toNatClampNeg ((gI h 28 0 l4.toNatClampNeg) - l5)) := by
    intro so c e
    have y := yes c
    obtain ⟨x1, x2⟩ := hX c
    have q3 := c.2.2.1
    have q6 := c.2.2.2.2.2.1
    have v := vi q6
    rw [e] at y
    refine ⟨v, v, v, by rw [x2]; exact vp_in_nI x1 (by decide), v, v4 q3, v4 q3, ?_⟩
    rw [ki, k4 q3, x2, nI_clamp (by omega), hi]
    exact y
  exact wX10_slip ⟨fun q1 => no (fun c => q1 c.1), fun q1 => ⟨fun q2 => no (fun c => q2 c.2.1), fun q2 => ⟨fun q3 => no (fun c => q3 c.2.2.1), fun q3 => ⟨fun q4 => no (fun c => q4 c.2.2.2.1), fun q4 => ⟨fun q5 => no (fun c => q5 c.2.2.2.2.1), fun q5 => ⟨fun q6 => ⟨fun q7 => ⟨fun q8 => ⟨fun q9 => no (fun c => q9 c.2.2.2.2.2.2.2.2.1), fun q9 => ⟨fun q10 => no (fun c => c.2.2.2.2.2.2.2.2.2.1 q10), fun q10 => ⟨v4 q3, fun q11 => no (fun c => c.2.2.2.2.2.2.2.2.2.2.1 (k4 q3 ▸ q11)), fun q11 => ⟨v4 q3, fun q12 => ⟨vi q6, vi q6, vi q6, vi q6, vi q6, vi q6, vi q6, vi q6, fun q13 => ⟨fun q14 => fin _ ⟨q1, q2, q3, q4, q5, q6, (fun w => absurd w q7), (fun _ => q8), q9, q10, (k4 q3 ▸ q11), (k4 q3 ▸ q12)⟩ (by unfold soF; rw [if_pos q13, if_pos q14]), fun q14 => fin _ ⟨q1, q2, q3, q4, q5, q6, (fun w => absurd w q7), (fun _ => q8), q9, q10, (k4 q3 ▸ q11), (k4 q3 ▸ q12)⟩ (by unfold soF; rw [if_pos q13, if_neg q14])⟩, fun q13 => fin _ ⟨q1, q2, q3, q4, q5, q6, (fun w => absurd w q7), (fun _ => q8), q9, q10, (k4 q3 ▸ q11), (k4 q3 ▸ q12)⟩ (by unfold soF; rw [if_neg q13])⟩, fun q12 => no (fun c => q12 ((k4 q3).symm ▸ c.2.2.2.2.2.2.2.2.2.2.2))⟩⟩⟩⟩, fun q8 => no (fun c => q8 (c.2.2.2.2.2.2.2.1 q7))⟩, fun q7 => ⟨fun q8 => ⟨fun q9 => no (fun c => q9 c.2.2.2.2.2.2.2.2.1), fun q9 => ⟨fun q10 => no (fun c => c.2.2.2.2.2.2.2.2.2.1 q10), fun q10 => ⟨v4 q3, fun q11 => no (fun c => c.2.2.2.2.2.2.2.2.2.2.1 (k4 q3 ▸ q11)), fun q11 => ⟨v4 q3, fun q12 => ⟨vi q6, vi q6, vi q6, vi q6, vi q6, vi q6, vi q6, vi q6, fun q13 => ⟨fun q14 => fin _ ⟨q1, q2, q3, q4, q5, q6, (fun _ => q8), (fun w => absurd q7 w), q9, q10, (k4 q3 ▸ q11), (k4 q3 ▸ q12)⟩ (by unfold soF; rw [if_pos q13, if_pos q14]), fun q14 => fin _ ⟨q1, q2, q3, q4, q5, q6, (fun _ => q8), (fun w => absurd q7 w), q9, q10, (k4 q3 ▸ q11), (k4 q3 ▸ q12)⟩ (by unfold soF; rw [if_pos q13, if_neg q14])⟩, fun q13 => fin _ ⟨q1, q2, q3, q4, q5, q6, (fun _ => q8), (fun w => absurd q7 w), q9, q10, (k4 q3 ▸ q11), (k4 q3 ▸ q12)⟩ (by unfold soF; rw [if_neg q13])⟩, fun q12 => no (fun c => q12 ((k4 q3).symm ▸ c.2.2.2.2.2.2.2.2.2.2.2))⟩⟩⟩⟩, fun q8 => no (fun c => q8 (c.2.2.2.2.2.2.1 q7))⟩⟩, fun q6 => no (fun c => c.2.2.2.2.2.1 q6)⟩⟩⟩⟩⟩⟩
end OP9

-- ===== next: class and reference alike =====
theorem nI_ne1 {n : Nat} (hn : n < 2 ^ 31) : ¬ nI n = -1 := fun k => by
  have := congrArg Int32.toInt k
  rw [nI_toInt hn] at this
  have e1 : (-1 : Int32).toInt = -1 := by decide
  omega
theorem stF_1 {h : HS} {i : Nat} : stF h i = 1 ↔ gI h 62 i 9 = -1 ∧ gI h 62 i 10 = -1 := by
  unfold stF
  constructor
  · intro z
    by_cases e1 : gI h 62 i 10 = -1
    · rw [if_pos e1] at z
      by_cases e2 : gI h 62 i 9 = -1
      · exact ⟨e2, e1⟩
      · rw [if_neg e2] at z; exact absurd z (by decide)
    · rw [if_neg e1] at z; exact absurd z (by decide)
  · intro z
    rw [if_pos z.2, if_pos z.1]
theorem ktC_E {F : Nat → Nat → Bool} (hF : ∀ k, F 61 k = false) {D : Nat} {x : HS} : ∀ i y, Eqo F x y → Eqo F x (ktC D i y) := fun _ _ e => e.sI (hF _)
theorem ktM_E {F : Nat → Nat → Bool} (hF : ∀ k, F 27 k = false) {D : Nat} {x : HS} : ∀ i y, Eqo F x y → Eqo F x (ktM D i y) := fun _ _ e => e.sI (hF _)
theorem sbC_E {F : Nat → Nat → Bool} (hF : F 62 9 = false) {D : Nat} {x : HS} : ∀ i y, Eqo F x y → Eqo F x (sbC D i y) := fun i y e => by
  rw [sbC_eq]
  split
  · exact e.sI hF
  · exact e
theorem sbM_E {F : Nat → Nat → Bool} (hF : ∀ k, F 40 k = false) {D : Nat} {x : HS} : ∀ i y, Eqo F x y → Eqo F x (sbM D i y) := fun i y e => by
  rw [sbM_eq]
  split
  · exact e.sI (hF _)
  · exact e
theorem sbC_at {D : Nat} {h : HS} : ∀ (n i : Nat), gI (acc (sbC D) n h) 62 i 9 = if i < n ∧ (gI h 62 i 0 = 2 ∧ (gI h 62 i 9 = -1 ∧ gI h 62 i 10 = -1) ∧ ¬ nI (D + 1) < gI h 62 i 6 + 7) then gI h 62 i 6 + 7 else gI h 62 i 9
  | 0, i => by rw [if_neg (by omega)]; rfl
  | n + 1, i => by
    show gI (sbC D n (acc (sbC D) n h)) 62 i 9 = _
    have eq : Eqo FN h (acc (sbC D) n h) := Eqo.acc (sbC_E rfl)
    have g : ∀ k, k ≠ 9 → gI (acc (sbC D) n h) 62 n k = gI h 62 n k := fun k hk => (eq.1 62 n k (by simp [FN, hk])).1
    have g9 : gI (acc (sbC D) n h) 62 n 9 = gI h 62 n 9 := by rw [sbC_at n n, if_neg (by omega)]
    by_cases e : i = n
    · subst e
      rw [sbC_eq]
      simp only [stF_1]
      rw [g9, g 10 (by decide), g 0 (by decide), g 6 (by decide)]
      by_cases e2 : gI h 62 i 0 = 2 ∧ (gI h 62 i 9 = -1 ∧ gI h 62 i 10 = -1) ∧ ¬ nI (D + 1) < gI h 62 i 6 + 7
      · rw [if_pos e2, if_pos ⟨by omega, e2⟩, gI_same]
      · rw [if_neg e2, if_neg (fun z => e2 z.2)]
        exact g9
    · have e3 : gI (sbC D n (acc (sbC D) n h)) 62 i 9 = gI (acc (sbC D) n h) 62 i 9 := by
        rw [sbC_eq]
        split
        · rw [gI_sI, if_neg (fun z => e z.2.2)]
        · rfl
      rw [e3, sbC_at n i]
      by_cases e2 : i < n ∧ (gI h 62 i 0 = 2 ∧ (gI h 62 i 9 = -1 ∧ gI h 62 i 10 = -1) ∧ ¬ nI (D + 1) < gI h 62 i 6 + 7)
      · rw [if_pos e2, if_pos ⟨by omega, e2.2⟩]
      · rw [if_neg e2, if_neg (fun z => e2 ⟨by omega, z.2⟩)]
theorem sbM_at {D : Nat} {h : HS} : ∀ (n i : Nat), gI (acc (sbM D) n h) 40 0 i = if i < n ∧ (gI h 32 0 i = 2 ∧ gI h 40 0 i = -1 ∧ gI h 41 0 i = -1 ∧ gI h 38 0 i + 7 = nI (D + 1)) then nI (D + 1) else gI h 40 0 i
  | 0, i => by rw [if_neg (by omega)]; rfl
  | n + 1, i => by
    show gI (sbM D n (acc (sbM D) n h)) 40 0 i = _
    have eq : Eqo FN h (acc (sbM D) n h) := Eqo.acc (sbM_E (fun _ => rfl))
    have g9 : gI (acc (sbM D) n h) 40 0 n = gI h 40 0 n := by rw [sbM_at n n, if_neg (by omega)]
    rw [sbM_eq, g9, (eq.1 32 0 n rfl).1, (eq.1 41 0 n rfl).1, (eq.1 38 0 n rfl).1]
    by_cases e : i = n
    · subst e
      by_cases e2 : gI h 32 0 i = 2 ∧ gI h 40 0 i = -1 ∧ gI h 41 0 i = -1 ∧ gI h 38 0 i + 7 = nI (D + 1)
      · rw [if_pos e2, if_pos ⟨by omega, e2⟩, gI_same]
      · rw [if_neg e2, if_neg (fun z => e2 z.2)]
        exact g9
    · have e3 : gI (if gI h 32 0 n = 2 ∧ gI h 40 0 n = -1 ∧ gI h 41 0 n = -1 ∧ gI h 38 0 n + 7 = nI (D + 1) then sI (acc (sbM D) n h) 40 0 n (nI (D + 1)) else acc (sbM D) n h) 40 0 i = gI (acc (sbM D) n h) 40 0 i := by
        split
        · rw [gI_sI, if_neg (fun z => e z.2.1)]
        · rfl
      rw [e3, sbM_at n i]
      by_cases e2 : i < n ∧ (gI h 32 0 i = 2 ∧ gI h 40 0 i = -1 ∧ gI h 41 0 i = -1 ∧ gI h 38 0 i + 7 = nI (D + 1))
      · rw [if_pos e2, if_pos ⟨by omega, e2.2⟩]
      · rw [if_neg e2, if_neg (fun z => e2 ⟨by omega, z.2⟩)]
def F1 (a c _k : Nat) : Bool := c == a
def FX (c k : Nat) : Bool := match c with
  | 0 => k != 10
  | 3 => k != 3
  | 26 => k != 0 && k != 20
  | 27 => false
  | 40 => false
  | 61 => false
  | 62 => k != 9
  | _ => true
section OP7
variable {h : HS}
theorem sim_next (I : Inv h) : Sim mX9_next mX10_next 0 0 [] h := by
  obtain ⟨⟨D, nt, ns, iA⟩, ⟨v1, ⟨r, v2, v3⟩, nh, v4, v5, v6, v7⟩, iT, iR, iF, iC⟩ := id I
  obtain ⟨⟨hD, hnt, hns⟩, a1, a2, a3, a4, a5, a6, a7, a8, a9, a10⟩ := id iA
  have e363 : (363 : Int32) = nI 363 := rfl
  refine wX9_next ⟨fun z => ?_, fun z => ⟨_, rfl, wX10_next ⟨fun y => ?_, fun _ => ⟨rfl, I⟩⟩⟩⟩
  · have hD1 : D + 1 < 364 := by
      rw [a1, e363, nI_ltI (by omega) (by omega)] at z; omega
    rw [a1, nI_1]
    obtain ⟨h1, e1⟩ : ∃ x, x = sI h 0 0 10 (nI (D + 1)) := ⟨_, rfl⟩
    obtain ⟨h2, e2⟩ : ∃ x, x = acc (ktC D) nt h1 := ⟨_, rfl⟩
    obtain ⟨h3, e3⟩ : ∃ x, x = acc (sbC D) ns h2 := ⟨_, rfl⟩
    obtain ⟨h4, e4⟩ : ∃ x, x = sI h3 3 0 3 0 := ⟨_, rfl⟩
    obtain ⟨h5, e5⟩ : ∃ x, x = sI h4 26 0 0 (nI (D + 1)) := ⟨_, rfl⟩
    obtain ⟨h6, e6⟩ : ∃ x, x = acc (ktM D) nt h5 := ⟨_, rfl⟩
    obtain ⟨h7, e7⟩ : ∃ x, x = acc (sbM D) ns h6 := ⟨_, rfl⟩
    obtain ⟨h8, e8⟩ : ∃ x, x = sI h7 26 0 20 0 := ⟨_, rfl⟩
    have s1 : ∀ {F : Nat → Nat → Bool}, F 0 10 = false → Eqo F h h1 := fun q => by rw [e1]; exact Eqo.rf.sI q
    have s2 : ∀ {F : Nat → Nat → Bool}, (∀ k, F 61 k = false) → Eqo F h1 h2 := fun q => by rw [e2]; exact Eqo.acc (ktC_E q)
    have s3 : ∀ {F : Nat → Nat → Bool}, F 62 9 = false → Eqo F h2 h3 := fun q => by rw [e3]; exact Eqo.acc (sbC_E q)
    have s4 : ∀ {F : Nat → Nat → Bool}, F 3 3 = false → Eqo F h3 h4 := fun q => by rw [e4]; exact Eqo.rf.sI q
    have s5 : ∀ {F : Nat → Nat → Bool}, F 26 0 = false → Eqo F h4 h5 := fun q => by rw [e5]; exact Eqo.rf.sI q
    have s6 : ∀ {F : Nat → Nat → Bool}, (∀ k, F 27 k = false) → Eqo F h5 h6 := fun q => by rw [e6]; exact Eqo.acc (ktM_E q)
    have s7 : ∀ {F : Nat → Nat → Bool}, (∀ k, F 40 k = false) → Eqo F h6 h7 := fun q => by rw [e7]; exact Eqo.acc (sbM_E q)
    have s8 : ∀ {F : Nat → Nat → Bool}, F 26 20 = false → Eqo F h7 h8 := fun q => by rw [e8]; exact Eqo.rf.sI q
    have all : ∀ {F : Nat → Nat → Bool}, F 0 10 = false → (∀ k, F 61 k = false) → F 62 9 = false → F 3 3 = false → F 26 0 = false → (∀ k, F 27 k = false) → (∀ k, F 40 k = false) → F 26 20 = false → Eqo F h h8 := fun q1 q2 q3 q4 q5 q6 q7 q8 => (((((((s1 q1).tr (s2 q2)).tr (s3 q3)).tr (s4 q4)).tr (s5 q5)).tr (s6 q6)).tr (s7 q7)).tr (s8 q8)
    have aX : Eqo FX h h8 := all rfl (fun _ => rfl) rfl rfl rfl (fun _ => rfl) (fun _ => rfl) rfl
    have g : ∀ c i k, FX c k = true → gI h8 c i k = gI h c i k := fun c i k w => (aX.1 c i k w).1
    have gr : ∀ c i k, FX c k = true → gR h8 c i k = gR h c i k := fun c i k w => (aX.1 c i k w).2
    have h010 : gI h1 0 0 10 = nI (D + 1) := by rw [e1, gI_same]
    -- the slips' cells ahead of the second loop
    have p62 : Eqo (F1 62) h h2 := (s1 rfl).tr (s2 (fun _ => rfl))
    have g62 : ∀ i k, gI h2 62 i k = gI h 62 i k := fun i k => (p62.1 62 i k rfl).1
    have cls : Cl true mX10_next 100 0 0 [aR 26 0] h4 (fun r2 h2 => r2 = some (aI (nI (D + 1))) ∧ Inv h2) := by
      have x26 : Eqo (F1 26) h h4 := (((s1 rfl).tr (s2 (fun _ => rfl))).tr (s3 rfl)).tr (s4 rfl)
      have z26 : ∀ k, gI h4 26 0 k = gI h 26 0 k := fun k => (x26.1 26 0 k rfl).1
      have y26 : Eqo (F1 26) h5 h6 := s6 (fun _ => rfl)
      refine wX10_next ⟨fun _ => ?_, fun y => absurd y (by rw [z26, a2, e363, nI_eq (by omega) (by omega)]; omega)⟩
      rw [z26, a2, nI_1, ← e5]
      refine lp_mN1 (D := D) hD1 (by omega) (by rw [e5, gI_same]) (by rw [e5]; show gI h4 26 0 1 = _; rw [z26, a3]) ?_ nt 0 (by omega)
      rw [← e6]
      refine lp_mN2 (D := D) (by omega) ?_ ?_ ?_ ns 0 (by omega)
      · rw [(y26.1 26 0 0 rfl).1, e5, gI_same]
      · rw [(y26.1 26 0 2 rfl).1, e5]; show gI h4 26 0 2 = _; rw [z26, a4]
      rw [← e7, ← e8]
      refine ⟨rfl, ?_⟩
      -- what has become of the tags
      have t61 : ∀ t k, gI h8 61 t k = if t < nt ∧ k = D + 1 then gI h 61 t D else gI h 61 t k := fun t k => by
        have x : Eqo (F1 61) h2 h8 := (((((s3 rfl).tr (s4 rfl)).tr (s5 rfl)).tr (s6 (fun _ => rfl))).tr (s7 (fun _ => rfl))).tr (s8 rfl)
        have y : Eqo (F1 61) h h1 := s1 rfl
        rw [(x.1 61 t k rfl).1, e2, ktC_at, (y.1 61 t D rfl).1, (y.1 61 t k rfl).1]
      have t27 : ∀ t k, k < 364 → gI h8 27 0 (364 * t + k) = if t < nt ∧ k = D + 1 then gI h 27 0 (364 * t + D) else gI h 27 0 (364 * t + k) := fun t k hk => by
        have x : Eqo (F1 27) h6 h8 := (s7 (fun _ => rfl)).tr (s8 rfl)
        have y : Eqo (F1 27) h h5 := ((((s1 rfl).tr (s2 (fun _ => rfl))).tr (s3 rfl)).tr (s4 rfl)).tr (s5 rfl)
        rw [(x.1 27 0 _ rfl).1, e6, ktM_at hD1 nt t k hk, (y.1 27 0 _ rfl).1, (y.1 27 0 _ rfl).1]
      have w62 : ∀ i, gI h8 62 i 9 = if i < ns ∧ (gI h 62 i 0 = 2 ∧ (gI h 62 i 9 = -1 ∧ gI h 62 i 10 = -1) ∧ ¬ nI (D + 1) < gI h 62 i 6 + 7) then gI h 62 i 6 + 7 else gI h 62 i 9 := fun i => by
        have x : Eqo (F1 62) h3 h8 := ((((s4 rfl).tr (s5 rfl)).tr (s6 (fun _ => rfl))).tr (s7 (fun _ => rfl))).tr (s8 rfl)
        rw [(x.1 62 i 9 rfl).1, e3, sbC_at, g62, g62, g62, g62]
      have w40 : ∀ i, gI h8 40 0 i = if i < ns ∧ (gI h 32 0 i = 2 ∧ gI h 40 0 i = -1 ∧ gI h 41 0 i = -1 ∧ gI h 38 0 i + 7 = nI (D + 1)) then nI (D + 1) else gI h 40 0 i := fun i => by
        have x : Eqo (F1 40) h7 h8 := s8 rfl
        have y : ∀ {c}, c = 32 ∨ c = 40 ∨ c = 41 ∨ c = 38 → gI h6 c 0 i = gI h c 0 i := fun {c} hc => by
          have y : Eqo (fun a _ => a == 32 || a == 40 || a == 41 || a == 38) h h6 := (((((s1 rfl).tr (s2 (fun _ => rfl))).tr (s3 rfl)).tr (s4 rfl)).tr (s5 rfl)).tr (s6 (fun _ => rfl))
          rcases hc with rfl | rfl | rfl | rfl <;> exact (y.1 _ 0 i rfl).1
        rw [(x.1 40 0 i rfl).1, e7, sbM_at, y (by decide), y (by decide), y (by decide), y (by decide)]
      have iA8 : IA h8 (D + 1) nt ns := by
        refine ⟨⟨hD1, hnt, hns⟩, ?_, ?_, by rw [g 26 0 1 rfl]; exact a3, by rw [g 26 0 2 rfl]; exact a4, a5.keep (fun i k => ⟨g 1 i k rfl, gr 1 i k rfl⟩) (fun i k => gr 63 i k rfl) (fun m => by rw [aX.2]), a6.keep (fun i k => ⟨g 2 i k rfl, gr 2 i k rfl⟩) (fun i k => gr 64 i k rfl) (fun m => by rw [aX.2]), fun t ht => ?_, fun i hi => ?_, fun t ht d => ?_, by rw [aX.2]; exact a10⟩
        · have x : Eqo (F1 0) h1 h8 := ((((((s2 (fun _ => rfl)).tr (s3 rfl)).tr (s4 rfl)).tr (s5 rfl)).tr (s6 (fun _ => rfl))).tr (s7 (fun _ => rfl))).tr (s8 rfl)
          rw [(x.1 0 0 10 rfl).1, h010]
        · have x : Eqo (F1 26) h5 h7 := (s6 (fun _ => rfl)).tr (s7 (fun _ => rfl))
          rw [e8]
          show gI h7 26 0 0 = _
          rw [(x.1 26 0 0 rfl).1, e5, gI_same]
        · obtain ⟨b1, b2, b3, b4, b5, b6, ⟨cm, b7, b8⟩⟩ := a7 t ht
          refine ⟨by rw [gr 60 t 0 rfl]; exact b1, by rw [g 60 t 1 rfl, g 31 0 t rfl]; exact b2, by rw [g 60 t 2 rfl, g 28 0 t rfl]; exact b3, by rw [g 60 t 3 rfl, g 29 0 t rfl]; exact b4, by rw [g 60 t 4 rfl, g 30 0 t rfl]; exact b5, fun d hd => ?_, ⟨cm, by omega, by rw [g 31 0 t rfl]; exact b8⟩⟩
          rw [t61, t27 t d hd]
          by_cases e : t < nt ∧ d = D + 1
          · rw [if_pos e, if_pos e]; exact b6 D hD
          · rw [if_neg e, if_neg e]; exact b6 d hd
        · obtain ⟨c1, c2, c3, c4, c5, c6, c7, c8, c9, c10, c11, c12, ⟨y, y1, y2, y3⟩, c14, c15⟩ := a8 i hi
          have e7 : nI y + 7 = nI (y + 7) := nI_add y 7
          have key : gI h8 40 0 i = if gI h 32 0 i = 2 ∧ (gI h 40 0 i = -1 ∧ gI h 41 0 i = -1) ∧ y + 7 = D + 1 then nI (D + 1) else gI h 40 0 i := by
            rw [w40]
            by_cases e : gI h 32 0 i = 2 ∧ (gI h 40 0 i = -1 ∧ gI h 41 0 i = -1) ∧ y + 7 = D + 1
            · rw [if_pos e, if_pos ⟨hi, e.1, e.2.1.1, e.2.1.2, by rw [y2, e7, e.2.2]⟩]
            · rw [if_neg e, if_neg (fun w => e ⟨w.2.1, ⟨w.2.2.1, w.2.2.2.1⟩, by have q := w.2.2.2.2; rw [y2, e7] at q; exact (nI_eq (by omega) (by omega)).mp q⟩)]
          have key2 : gI h8 62 i 9 = gI h8 40 0 i := by
            rw [key, w62, c1, c10, c11, c7, y2, e7]
            by_cases e : gI h 32 0 i = 2 ∧ (gI h 40 0 i = -1 ∧ gI h 41 0 i = -1) ∧ y + 7 = D + 1
            · rw [if_pos e, if_pos ⟨hi, e.1, e.2.1, by rw [e.2.2]; exact nI_nlt (Nat.le_refl _) (by omega)⟩, e.2.2]
            · rw [if_neg e, if_neg (fun w => e ⟨w.2.1, w.2.2.1, by
                have q := w.2.2.2
                rw [nI_ltI (by omega) (by omega)] at q
                have := (y3 w.2.2.1).2
                omega⟩)]
          refine ⟨by rw [g 62 i 0 rfl, g 32 0 i rfl]; exact c1, by rw [g 62 i 1 rfl, g 33 0 i rfl]; exact c2, by rw [g 62 i 2 rfl, g 34 0 i rfl]; exact c3, by rw [gr 62 i 3 rfl, g 35 0 i rfl]; exact c4, by rw [g 62 i 4 rfl, g 36 0 i rfl]; exact c5, by rw [g 62 i 5 rfl, g 37 0 i rfl]; exact c6, by rw [g 62 i 6 rfl, g 38 0 i rfl]; exact c7, by rw [g 62 i 7 rfl, g 43 0 i rfl]; exact c8, by rw [g 62 i 8 rfl, g 39 0 i rfl]; exact c9, key2, by rw [g 62 i 10 rfl, g 41 0 i rfl]; exact c11, by rw [g 62 i 11 rfl, g 42 0 i rfl]; exact c12, ⟨y, by omega, by rw [g 38 0 i rfl]; exact y2, ?_⟩, ?_, by rw [g 37 0 i rfl]; exact c15⟩
          · rw [key, g 41 0 i rfl, g 32 0 i rfl]
            intro w
            by_cases e : gI h 32 0 i = 2 ∧ (gI h 40 0 i = -1 ∧ gI h 41 0 i = -1) ∧ y + 7 = D + 1
            · rw [if_pos e] at w
              exact absurd w.1 (nI_ne1 (by omega))
            · rw [if_neg e] at w
              obtain ⟨q1, q2⟩ := y3 w
              refine ⟨q1, ?_⟩
              have : ¬ y + 7 = D + 1 := fun q => e ⟨q1, w, q⟩
              omega
          · rw [key]
            by_cases e : gI h 32 0 i = 2 ∧ (gI h 40 0 i = -1 ∧ gI h 41 0 i = -1) ∧ y + 7 = D + 1
            · rw [if_pos e]; exact Or.inr ⟨D + 1, by omega, rfl⟩
            · rw [if_neg e]; exact c14
        · rw [show 364 * t + d = 364 * (t + d / 364) + d % 364 by omega, t27 _ _ (Nat.mod_lt _ (by decide)), if_neg (by omega), g 29 0 t rfl, g 30 0 t rfl]
          exact ⟨(a9 (t + d / 364) (by omega) (d % 364)).1, (a9 t ht d).2⟩
      refine ⟨⟨D + 1, nt, ns, iA8⟩, ⟨?_, ⟨0, by omega, by rw [e8, gI_same, nI_0]⟩, nh, v4, by rw [g 3 0 2 rfl]; exact v5, by rw [g 26 0 21 rfl]; exact v6, fun j hj => by rw [g 4 0 j rfl, g 44 0 j rfl]; exact v7 j hj⟩, iT.keep (all rfl (fun _ => rfl) rfl rfl rfl (fun _ => rfl) (fun _ => rfl) rfl), iR.keep (all rfl (fun _ => rfl) rfl rfl rfl (fun _ => rfl) (fun _ => rfl) rfl), iF.keep (all rfl (fun _ => rfl) rfl rfl rfl (fun _ => rfl) (fun _ => rfl) rfl), iC.keep (all rfl (fun _ => rfl) rfl rfl rfl (fun _ => rfl) (fun _ => rfl) rfl)⟩
      have x : Eqo (F1 3) h4 h8 := (((s5 rfl).tr (s6 (fun _ => rfl))).tr (s7 (fun _ => rfl))).tr (s8 rfl)
      rw [(x.1 3 0 3 rfl).1, e4, gI_same, e8, gI_same]
    rw [← e1]
    refine lp_cN1 (d := 92) (D := D) hD1 (by omega) h010 (a5.keep (fun i k => ?_) (fun i k => ?_) (fun m => ?_)) (fun t ht => ?_) ?_ nt 0 (by omega)
    · rw [e1]; exact ⟨rfl, rfl⟩
    · rw [e1]; rfl
    · rw [e1]; exact Iff.rfl
    · rw [e1]; exact (a7 t ht).1
    rw [← e2]
    have x0 : Eqo (F1 0) h1 h2 := s2 (fun _ => rfl)
    have x2 : Eqo (fun c _ => c == 2 || c == 64) h h2 := (s1 rfl).tr (s2 (fun _ => rfl))
    refine lp_cN2 (d := 92) (D := D) (by omega) (by rw [(x0.1 0 0 10 rfl).1]; exact h010) (a6.keep (fun i k => x2.1 2 i k rfl) (fun i k => (x2.1 64 i k rfl).2) (fun m => by rw [x2.2])) (fun i hi j => ?_) ?_ ns 0 (by omega)
    · rw [stF_1, sbC_at, g62, g62, g62, g62]
      intro w
      obtain ⟨c1, c2, c3, c4, c5, c6, c7, c8, c9, c10, c11, c12, ⟨y, y1, y2, y3⟩, c14, c15⟩ := a8 i hi
      by_cases e : i < j ∧ (gI h 62 i 0 = 2 ∧ (gI h 62 i 9 = -1 ∧ gI h 62 i 10 = -1) ∧ ¬ nI (D + 1) < gI h 62 i 6 + 7)
      · exact e.2.1
      · rw [if_neg e] at w
        have w2 := w.2
        have eq : Eqo FN h2 (acc (sbC D) j h2) := Eqo.acc (sbC_E rfl)
        rw [(eq.1 62 i 10 rfl).1, g62] at w2
        rw [c1]
        exact (y3 ⟨by rw [← c10]; exact w.1, by rw [← c11]; exact w2⟩).1
    · rw [← e3, ← e4]
      exact ⟨_, rfl, cls⟩
  · exfalso
    rw [a1, e363, nI_ltI (by omega) (by omega)] at z
    rw [a2, e363, nI_eq (by omega) (by omega)] at y
    omega
end OP7

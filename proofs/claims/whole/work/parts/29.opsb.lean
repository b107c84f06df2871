-- ===== feed =====
def byF (l : Int32) (k : Nat) : Nat := l.toBitVec.toNat / 2 ^ k % 256
theorem byF_lt (l : Int32) (k : Nat) : byF l k < 256 := Nat.mod_lt _ (by decide)
theorem toI_mod (x : Int32) : x.toInt % 256 = (x.toBitVec.toNat : Int) % 256 := by
  have e : x.toInt = x.toBitVec.toInt := rfl
  have hb := x.toBitVec.isLt
  rw [e, BitVec.toInt_eq_toNat_cond]
  split <;> omega
theorem toI8_cg {x y : Int32} (e : x.toBitVec.toNat % 256 = y.toBitVec.toNat % 256) : x.toInt8.toInt32 = y.toInt8.toInt32 := by
  have q : x.toInt8 = y.toInt8 := by
    apply Int8.toInt_inj.mp
    rw [Int32.toInt_toInt8, Int32.toInt_toInt8]
    have ex := toI_mod x
    have ey := toI_mod y
    have e2 : x.toInt % 256 = y.toInt % 256 := by rw [ex, ey]; omega
    unfold Int.bmod
    show (if x.toInt % 256 < (256 + 1) / 2 then x.toInt % 256 else x.toInt % 256 - 256) = (if y.toInt % 256 < (256 + 1) / 2 then y.toInt % 256 else y.toInt % 256 - 256)
    rw [e2]
  rw [q]
theorem by_C (l s : Int32) (k : Nat) (hs : ((s.toUInt32 &&& Int32.toUInt32 31).toBitVec % 32).toNat = k) : vp_nar .byte (((l.toUInt32 >>> (s.toUInt32 &&& Int32.toUInt32 31)).toInt32).toInt8.toInt32) = (nI (byF l k)).toInt8.toInt32 := by
  rw [pk_vb]
  apply toI8_cg
  rw [pk_ushr l s k hs, pk_tn (by have := byF_lt l k; omega)]
  unfold byF
  omega
theorem by_M (l s : Int32) (k : Nat) (hk : k = 24 ∨ k = 16 ∨ k = 8 ∨ k = 0) (hs : (s.toBitVec.smod 32).toNat = k) : (l >>> s) &&& 255 = nI (byF l k) := by
  rw [pk_and _ 8 (by decide)]
  congr 1
  have e1 := toI_mod (l >>> s)
  rw [pk_shr l s k hs, Int.shiftRight_eq_div_pow] at e1
  have e2 : l.toInt = l.toBitVec.toInt := rfl
  have hb := l.toBitVec.isLt
  rw [e2, BitVec.toInt_eq_toNat_cond] at e1
  unfold byF
  show (l >>> s).toBitVec.toNat % 256 = _
  rcases hk with rfl | rfl | rfl | rfl
  · split at e1 <;> omega
  · split at e1 <;> omega
  · split at e1 <;> omega
  · split at e1 <;> omega
def bC (l : Int32) (k : Nat) : Int32 := (nI (byF l k)).toInt8.toInt32
def wrC (h : HS) (n : Nat) (v : Int32) : HS := sI (sI h 7 0 n v) 6 0 1 (nI (n + 1))
def wrM (h : HS) (n : Nat) (v : Int32) : HS := sI (sI h 53 0 n v) 26 0 35 (nI (n + 1))
def fC (l : List Int32) (n k : Nat) (h : HS) : HS := wrC h (n + k) (bC (l.getD (k / 4) 0) (24 - 8 * (k % 4)))
def fM (l : List Int32) (n k : Nat) (h : HS) : HS := wrM h (n + k) (nI (byF (l.getD (k / 4) 0) (24 - 8 * (k % 4))))
theorem fC_E {F : Nat → Nat → Bool} (h7 : ∀ k, F 7 k = false) (h6 : F 6 1 = false) {l : List Int32} {n : Nat} {x : HS} : ∀ i y, Eqo F x y → Eqo F x (fC l n i y) := fun _ _ e => (e.sI (h7 _)).sI h6
theorem fM_E {F : Nat → Nat → Bool} (h7 : ∀ k, F 53 k = false) (h6 : F 26 35 = false) {l : List Int32} {n : Nat} {x : HS} : ∀ i y, Eqo F x y → Eqo F x (fM l n i y) := fun _ _ e => (e.sI (h7 _)).sI h6
theorem fC_n {l : List Int32} {n : Nat} {h : HS} (h0 : gI h 6 0 1 = nI n) : ∀ m, gI (acc (fC l n) m h) 6 0 1 = nI (n + m)
  | 0 => h0
  | m + 1 => by
    show gI (fC l n m (acc (fC l n) m h)) 6 0 1 = _
    unfold fC wrC
    rw [gI_same]; rfl
theorem fM_n {l : List Int32} {n : Nat} {h : HS} (h0 : gI h 26 0 35 = nI n) : ∀ m, gI (acc (fM l n) m h) 26 0 35 = nI (n + m)
  | 0 => h0
  | m + 1 => by
    show gI (fM l n m (acc (fM l n) m h)) 26 0 35 = _
    unfold fM wrM
    rw [gI_same]; rfl
theorem fC_at {l : List Int32} {n : Nat} {h : HS} : ∀ m j, gI (acc (fC l n) m h) 7 0 j = if n ≤ j ∧ j < n + m then bC (l.getD ((j - n) / 4) 0) (24 - 8 * ((j - n) % 4)) else gI h 7 0 j
  | 0, j => by rw [if_neg (by omega)]; rfl
  | m + 1, j => by
    show gI (sI (sI (acc (fC l n) m h) 7 0 (n + m) (bC (l.getD (m / 4) 0) (24 - 8 * (m % 4)))) 6 0 1 (nI (n + m + 1))) 7 0 j = _
    rw [gI_sI, if_neg (by omega), gI_sI]
    by_cases e : j = n + m
    · rw [if_pos ⟨rfl, e, rfl⟩, if_pos (by omega), show j - n = m by omega]
    · rw [if_neg (by omega), fC_at m j]
      by_cases e2 : n ≤ j ∧ j < n + m
      · rw [if_pos e2, if_pos (by omega)]
      · rw [if_neg e2, if_neg (by omega)]
theorem fM_at {l : List Int32} {n : Nat} {h : HS} : ∀ m j, gI (acc (fM l n) m h) 53 0 j = if n ≤ j ∧ j < n + m then nI (byF (l.getD ((j - n) / 4) 0) (24 - 8 * ((j - n) % 4))) else gI h 53 0 j
  | 0, j => by rw [if_neg (by omega)]; rfl
  | m + 1, j => by
    show gI (sI (sI (acc (fM l n) m h) 53 0 (n + m) (nI (byF (l.getD (m / 4) 0) (24 - 8 * (m % 4))))) 26 0 35 (nI (n + m + 1))) 53 0 j = _
    rw [gI_sI, if_neg (by omega), gI_sI]
    by_cases e : j = n + m
    · rw [if_pos ⟨rfl, e, rfl⟩, if_pos (by omega), show j - n = m by omega]
    · rw [if_neg (by omega), fM_at m j]
      by_cases e2 : n ≤ j ∧ j < n + m
      · rw [if_pos e2, if_pos (by omega)]
      · rw [if_neg e2, if_neg (by omega)]
theorem by_R (l : Int32) : ∀ r, r < 4 → (l >>> ((24 - (8 * nI r)) &&& 31)) &&& 255 = nI (byF l (24 - 8 * r))
  | 0, _ => by_M l _ 24 (by decide) (by decide +kernel)
  | 1, _ => by_M l _ 16 (by decide) (by decide +kernel)
  | 2, _ => by_M l _ 8 (by decide) (by decide +kernel)
  | 3, _ => by_M l _ 0 (by decide) (by decide +kernel)
section OPB
variable {h : HS} {P : Option AV → HS → Prop} {d bc bs : Nat}
theorem apC1 {l s : Int32} {n k : Nat} (hn : gI h 6 0 1 = nI n) (hn2 : n < 400) (h0 : ¬ s < 0) (hs : ((s.toUInt32 &&& Int32.toUInt32 31).toBitVec % 32).toNat = k) {s2 : Int32} (e2 : s + (-8) = s2) (nx : V true mX5_append (d + 3) bc bs 3 [(0, aR 6 0), (1, aI l), (2, aI s2)] [] (wrC h n (bC l k)) P) : V true mX5_append (d + 3) bc bs 3 [(0, aR 6 0), (1, aI l), (2, aI s)] [] h P := by
  refine wX5_append_3 ⟨fun z => absurd z h0, fun _ => ⟨fun z => absurd z (by rw [hn]; exact nI_pos (by omega)), fun _ => ⟨fun z => absurd (show nI 400 ≤ nI n by rw [← hn]; exact z) (nI_ge hn2 (by decide)), fun _ => ⟨by rw [hn]; exact vp_in_nI hn2 (by decide), ?_⟩⟩⟩⟩
  rw [e2, hn, nI_clamp (by omega), nI_1, by_C l s k hs]
  exact nx
theorem cApp {l : Int32} {n : Nat} (hn : gI h 6 0 1 = nI n) (hn2 : n + 4 ≤ 400) (k : P none (wrC (wrC (wrC (wrC h n (bC l 24)) (n + 1) (bC l 16)) (n + 2) (bC l 8)) (n + 3) (bC l 0))) : Cl true mX5_append (d + 3) bc bs [aR 6 0, aI l] h P := by
  refine wX5_append (apC1 (k := 24) hn (by omega) (by decide) (by decide +kernel) (s2 := 16) (by decide) (apC1 (n := n + 1) (k := 16) gI_same (by omega) (by decide) (by decide +kernel) (s2 := 8) (by decide) (apC1 (n := n + 2) (k := 8) gI_same (by omega) (by decide) (by decide +kernel) (s2 := 0) (by decide) (apC1 (n := n + 3) (k := 0) gI_same (by omega) (by decide) (by decide +kernel) (s2 := -8) (by decide) ?_))))
  exact wX5_append_3 ⟨fun _ => k, fun z => absurd (by decide) z⟩
theorem fdM {k n : Nat} {l1 l2 l3 l4 l5 : Int32} (hk : k < 20) (hn : gI h 26 0 35 = nI (n + k)) (hn2 : n + k < 400) (nx : V true mX10_feed (d + 3) bc bs 18 [(0, aR 26 0), (1, aI l1), (2, aI l2), (3, aI l3), (4, aI l4), (5, aI l5), (6, aI (nI (k + 1)))] [] (fM [l1, l2, l3, l4, l5] n k h) P) : V true mX10_feed (d + 3) bc bs 18 [(0, aR 26 0), (1, aI l1), (2, aI l2), (3, aI l3), (4, aI l4), (5, aI l5), (6, aI (nI k))] [] h P := by
  have er : nI k - nI k / 4 * 4 = nI (k % 4) := pk_rem (a := k) (d := 4) (by omega) (by decide) (by decide)
  have v : vp_in (gI h 26 0 35) 400 := by rw [hn]; exact vp_in_nI hn2 (by decide)
  have leaf : ∀ l, ([l1, l2, l3, l4, l5].getD (k / 4) 0) = l → V true mX10_feed (d + 3) bc bs 18 [(0, aR 26 0), (1, aI l1), (2, aI l2), (3, aI l3), (4, aI l4), (5, aI l5), (6, aI (nI k + 1))] [] (sI (sI h 53 0 (gI h 26 0 35).toNatClampNeg ((l >>> ((24 - (8 * (nI k - nI k / 4 * 4))) &&& 31)) &&& 255)) 26 0 35 ((gI h 26 0 35) + 1)) P := fun l e => by
    rw [er, by_R l (k % 4) (Nat.mod_lt _ (by decide)), hn, nI_clamp (by omega), nI_1, nI_1, ← e]
    exact nx
  refine wX10_feed_18 ⟨fun z => absurd (show nI 20 ≤ nI k from z) (nI_ge hk (by decide)), fun _ => ⟨fun q1 => ⟨fun q2 => ⟨fun q3 => ⟨fun q4 => ⟨v, leaf _ ?_⟩, fun q4 => ⟨v, leaf _ ?_⟩⟩, fun q3 => ⟨v, leaf _ ?_⟩⟩, fun q2 => ⟨v, leaf _ ?_⟩⟩, fun q1 => ⟨v, leaf _ ?_⟩⟩⟩
  · rw [show (16 : Int32) = nI 16 from rfl, nI_leI (by omega) (by omega)] at q4
    rw [show k / 4 = 4 by omega]; rfl
  · rw [show (16 : Int32) = nI 16 from rfl, nI_leI (by omega) (by omega)] at q4
    rw [show (12 : Int32) = nI 12 from rfl, nI_leI (by omega) (by omega)] at q3
    rw [show k / 4 = 3 by omega]; rfl
  · rw [show (12 : Int32) = nI 12 from rfl, nI_leI (by omega) (by omega)] at q3
    rw [show (8 : Int32) = nI 8 from rfl, nI_leI (by omega) (by omega)] at q2
    rw [show k / 4 = 2 by omega]; rfl
  · rw [show (8 : Int32) = nI 8 from rfl, nI_leI (by omega) (by omega)] at q2
    rw [show (4 : Int32) = nI 4 from rfl, nI_leI (by omega) (by omega)] at q1
    rw [show k / 4 = 1 by omega]; rfl
  · rw [show (4 : Int32) = nI 4 from rfl, nI_leI (by omega) (by omega)] at q1
    rw [show k / 4 = 0 by omega]; rfl
theorem lp_mFd {n : Nat} {l1 l2 l3 l4 l5 : Int32} (hn : gI h 26 0 35 = nI n) (hn2 : n + 20 ≤ 400) (kk : P (some (aI (nI (n + 20)))) (acc (fM [l1, l2, l3, l4, l5] n) 20 h)) : ∀ m k, k + m = 20 → V true mX10_feed (d + 3) bc bs 18 [(0, aR 26 0), (1, aI l1), (2, aI l2), (3, aI l3), (4, aI l4), (5, aI l5), (6, aI (nI k))] [] (acc (fM [l1, l2, l3, l4, l5] n) k h) P := by
  intro m
  induction m with
  | zero =>
    intro k hk
    obtain rfl : k = 20 := by omega
    refine wX10_feed_18 ⟨fun _ => ?_, fun z => absurd (by decide) z⟩
    rw [fM_n hn 20]
    exact kk
  | succ m ih =>
    intro k hk
    exact fdM (by omega) (fM_n hn k) (by omega) (ih (k + 1) (by omega))
theorem sim_feed {l1 l2 l3 l4 l5 : Int32} (I : Inv h) : Sim mX9_feed mX10_feed 0 0 [aI l1, aI l2, aI l3, aI l4, aI l5] h := by
  obtain ⟨⟨D, nt, ns, iA⟩, iV, ⟨n, t1, t2, t3, t4⟩, iR, iF, iC⟩ := id I
  have e380 : (380 : Int32) = nI 380 := rfl
  have e20 : nI n + 20 = nI (n + 20) := nI_add n 20
  refine wX9_feed ⟨fun z => ?_, fun z => ⟨_, rfl, wX10_feed ⟨fun y => ?_, fun _ => ⟨rfl, I⟩⟩⟩⟩
  · rw [t2, e380, nI_leI (by omega) (by omega)] at z
    refine cApp t2 (by omega) ⟨rfl, cApp (n := n + 4) gI_same (by omega) ⟨rfl, cApp (n := n + 8) gI_same (by omega) ⟨rfl, cApp (n := n + 12) gI_same (by omega) ⟨rfl, cApp (n := n + 16) gI_same (by omega) ⟨rfl, _, rfl, ?_⟩⟩⟩⟩⟩
    show Cl true mX10_feed 100 0 0 [aR 26 0, aI l1, aI l2, aI l3, aI l4, aI l5] (acc (fC [l1, l2, l3, l4, l5] n) 20 h) (fun r2 h2 => r2 = some (aI (gI (acc (fC [l1, l2, l3, l4, l5] n) 20 h) 6 0 1)) ∧ Inv h2)
    rw [fC_n t2]
    obtain ⟨A, eA⟩ : ∃ x, x = acc (fC [l1, l2, l3, l4, l5] n) 20 h := ⟨_, rfl⟩
    rw [← eA]
    have sA : ∀ {F : Nat → Nat → Bool}, (∀ k, F 7 k = false) → F 6 1 = false → Eqo F h A := fun q1 q2 => by rw [eA]; exact Eqo.acc (fC_E q1 q2)
    have a35 : gI A 26 0 35 = nI n := by
      have x : Eqo (F1 26) h A := sA (fun _ => rfl) rfl
      rw [(x.1 26 0 35 rfl).1]; exact t3
    refine wX10_feed ⟨fun _ => lp_mFd a35 (by omega) ⟨rfl, ?_⟩ 20 0 rfl, fun y => absurd (by rw [a35, e20]; exact nI_le (a := n + 20) (b := 400) (by omega) (by decide)) y⟩
    obtain ⟨B, eB⟩ : ∃ x, x = acc (fM [l1, l2, l3, l4, l5] n) 20 A := ⟨_, rfl⟩
    rw [← eB]
    have sB : ∀ {F : Nat → Nat → Bool}, (∀ k, F 53 k = false) → F 26 35 = false → Eqo F A B := fun q1 q2 => by rw [eB]; exact Eqo.acc (fM_E q1 q2)
    have all : ∀ {F : Nat → Nat → Bool}, (∀ k, F 7 k = false) → F 6 1 = false → (∀ k, F 53 k = false) → F 26 35 = false → Eqo F h B := fun q1 q2 q3 q4 => (sA q1 q2).tr (sB q3 q4)
    have x6 : Eqo (fun c _ => c == 6 || c == 7) A B := sB (fun _ => rfl) rfl
    have x53 : Eqo (F1 53) h A := sA (fun _ => rfl) rfl
    refine ⟨⟨D, nt, ns, iA.keep (all (fun _ => rfl) rfl (fun _ => rfl) rfl)⟩, iV.keep (all (fun _ => rfl) rfl (fun _ => rfl) rfl), ⟨n + 20, by omega, ?_, ?_, fun j hj => ?_⟩, iR.keep (all (fun _ => rfl) rfl (fun _ => rfl) rfl), iF.keep (all (fun _ => rfl) rfl (fun _ => rfl) rfl), iC.keep (all (fun _ => rfl) rfl (fun _ => rfl) rfl)⟩
    · rw [(x6.1 6 0 1 rfl).1, eA, fC_n t2]
    · rw [eB, fM_n a35]
    · rw [eB, fM_at, (x53.1 53 0 j rfl).1, ← eB, (x6.1 7 0 j rfl).1, eA, fC_at]
      by_cases e : n ≤ j ∧ j < n + 20
      · rw [if_pos e, if_pos e]
        exact ⟨_, byF_lt _ _, rfl, rfl⟩
      · rw [if_neg e, if_neg e]
        exact t4 j (by omega)
  · exfalso
    rw [t2, e380, nI_leI (by omega) (by omega)] at z
    rw [t3, e20, show (400 : Int32) = nI 400 from rfl, nI_leI (by omega) (by omega)] at y
    omega
end OPB

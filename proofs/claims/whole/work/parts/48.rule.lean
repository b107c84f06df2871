-- ===== rule: alike =====
def FRm (c k : Nat) : Bool := match c with
  | 26 => decide (k < 24 ∨ 44 < k)
  | 46 => false
  | 47 => false
  | 48 => false
  | 49 => false
  | 50 => false
  | 51 => false
  | _ => true
def F48 (c _k : Nat) : Bool := decide (c ≠ 46 ∧ c ≠ 47 ∧ c ≠ 48)
theorem FRm_t (c k : Nat) (z : FRm c k = true) : FNt c k = true := by
  unfold FRm at z
  unfold FNt
  split at z <;> first | rfl | (simp at z; simp; omega) | exact z | (exact absurd z (by decide)) | (split <;> first | rfl | (exfalso; contradiction))
theorem FRm_g (c k : Nat) (z : FRm c k = true) : FGm c k = true := by
  unfold FRm at z
  unfold FGm
  split at z <;> first | rfl | (simp at z; simp; omega) | exact z | (exact absurd z (by decide)) | (split <;> first | rfl | (exfalso; contradiction))
theorem FRm_48 (c k : Nat) (z : FRm c k = true) : F48 c k = true := by
  unfold FRm at z
  unfold F48
  apply decide_eq_true
  split at z <;> first | (simp; done) | (exact absurd z (by decide)) | (refine ⟨?_, ?_, ?_⟩ <;> assumption)
section RL
variable {b : Nat → Nat} {n c s : Nat} {P : Option AV → HS → Prop} {d bc bs : Nat}
theorem mC143 {x : HS} {S : Nat} {v : Int32} (hS : S ≤ 500) (e26 : gI x 26 0 26 = nI S) (e24 : gI x 26 0 24 = v) (k : ∀ y, Eqo F48 x y → (∀ q, gI y 46 0 q = gI x 46 0 q ∧ gI y 47 0 q = gI x 47 0 q) → (∀ q, q < S → gI y 48 0 q = gI x 51 0 q) → P (some (aI v)) y) : V true mX10_rule (d + 3) bc bs 143 [(0, aR 26 0), (2, aI 0)] [] x P := by
  have lp : ∀ r j y, j + r = S → Eqo F48 x y → (∀ q, gI y 46 0 q = gI x 46 0 q ∧ gI y 47 0 q = gI x 47 0 q) → (∀ q, q < j → gI y 48 0 q = gI x 51 0 q) → V true mX10_rule (d + 3) bc bs 143 [(0, aR 26 0), (2, aI (nI j))] [] y P := by
    intro r
    induction r with
    | zero =>
      intro j y hj e a1 a2
      obtain rfl : j = S := by omega
      have y26 : gI y 26 0 26 = nI j := ((e.1 26 0 26 rfl).1).trans e26
      refine wX10_rule_143 ⟨fun _ => ?_, fun z => absurd (by rw [y26]; exact nI_le (Nat.le_refl _) (by omega)) z⟩
      rw [(e.1 26 0 24 rfl).1, e24]
      exact k y e a1 a2
    | succ r ih =>
      intro j y hj e a1 a2
      have y26 : gI y 26 0 26 = nI S := ((e.1 26 0 26 rfl).1).trans e26
      have vin : vp_in (nI j) 500 := vp_in_nI (by omega) (by decide)
      refine wX10_rule_143 ⟨fun z => absurd z (by rw [y26]; exact nI_ge (by omega) (by omega)), fun _ => ⟨vin, vin, ?_⟩⟩
      rw [nI_1, nI_clamp (by omega)]
      refine ih (j + 1) _ (by omega) (e.sI rfl) (fun q => a1 q) (fun q hq => ?_)
      simp only [gI_sI]
      by_cases z : q = j
      · simp [z]
        exact (e.1 51 0 j rfl).1
      · simp [z]
        exact a2 q (by omega)
  exact lp S 0 x (by omega) Eqo.rf (fun _ => ⟨rfl, rfl⟩) (fun q hq => absurd hq (Nat.not_lt_zero _))
theorem mC90 {x : HS} {nl S : Nat} (hn : nl ≤ 8) (hS : S ≤ 500) (e24 : gI x 26 0 24 = nI nl) (e26 : gI x 26 0 26 = nI S) (k : ∀ y, Eqo F48 x y → (∀ q, q < nl → gI y 46 0 q = gI x 49 0 q ∧ gI y 47 0 q = gI x 50 0 q) → gI y 46 0 nl = nI S → (∀ q, q < S → gI y 48 0 q = gI x 51 0 q) → P (some (aI (nI nl))) y) : V true mX10_rule (d + 3) bc bs 90 [(0, aR 26 0), (2, aI 0)] [] x P := by
  have lp : ∀ r j y, j + r = nl → Eqo F48 x y → (∀ q, q < j → gI y 46 0 q = gI x 49 0 q ∧ gI y 47 0 q = gI x 50 0 q) → V true mX10_rule (d + 3) bc bs 90 [(0, aR 26 0), (2, aI (nI j))] [] y P := by
    intro r
    induction r with
    | zero =>
      intro j y hj e a1
      obtain rfl : j = nl := by omega
      have y24 : gI y 26 0 24 = nI j := ((e.1 26 0 24 rfl).1).trans e24
      have y26 : gI y 26 0 26 = nI S := ((e.1 26 0 26 rfl).1).trans e26
      refine wX10_rule_90 ?_
      rw [y24, y26, nI_clamp (by omega)]
      refine ⟨fun _ => ⟨vp_in_nI (by omega) (by decide), ?_⟩, fun z => absurd (nI_le (Nat.le_refl _) (by omega)) z⟩
      refine mC143 hS y26 y24 (fun y2 e2 c1 c2 => k y2 ((e.sI rfl).tr e2) (fun q hq => ?_) ?_ (fun q hq => (c2 q hq).trans (e.1 51 0 q rfl).1))
      · rw [(c1 q).1, (c1 q).2, gI_sI, if_neg (by omega)]
        exact a1 q hq
      · rw [(c1 j).1, gI_same]
    | succ r ih =>
      intro j y hj e a1
      have y24 : gI y 26 0 24 = nI nl := ((e.1 26 0 24 rfl).1).trans e24
      have v9 : vp_in (nI j) 9 := vp_in_nI (by omega) (by decide)
      have v8 : vp_in (nI j) 8 := vp_in_nI (by omega) (by decide)
      refine wX10_rule_90 ⟨fun z => absurd z (by rw [y24]; exact nI_ge (by omega) (by omega)), fun _ => ⟨v9, v9, v8, v8, ?_⟩⟩
      rw [nI_1, nI_clamp (by omega)]
      refine ih (j + 1) _ (by omega) ((e.sI rfl).sI rfl) (fun q hq => ?_)
      simp only [gI_sI]
      by_cases z : q = j
      · simp [z]
        exact ⟨(e.1 49 0 j rfl).1, (e.1 50 0 j rfl).1⟩
      · simp [z]
        exact a1 q (by omega)
  exact lp nl 0 x (by omega) Eqo.rf (fun q hq => absurd hq (Nat.not_lt_zero _))
theorem mRule {z : HS} {r : TRr} (hn : n ≤ 400) (hb : ∀ j, j < n → b j < 256) (mR : RRd b n 0 0 r) (h8 : ∀ L, r = .inr L → L.length ≤ 8 ∧ (exs (flatL L)).length ≤ 500) (tp : TP b n z)
    (k0 : ∀ f j, r = .inl (f, j) → ∀ y, Eqo FRm z y → gI y 26 0 35 = 0 → gI y 26 0 42 = nI f → gI y 26 0 44 = nI (tL b n j) → gI y 26 0 24 = gI z 26 0 24 → (∀ q, gI y 46 0 q = gI z 46 0 q ∧ gI y 47 0 q = gI z 47 0 q ∧ gI y 48 0 q = gI z 48 0 q) → P (some (aI (-1))) y)
    (k1 : ∀ L, r = .inr L → ∀ y, Eqo FRm z y → gI y 26 0 35 = 0 → gI y 26 0 42 = 0 → gI y 26 0 44 = -1 → gI y 26 0 24 = nI L.length → (∀ t, t ≤ L.length → gI y 46 0 t = nI (exs (flatL (L.take t))).length) → (∀ t q, L[t]? = some q → gI y 47 0 t = nI ((exs (flatL (L.take t))).length + (exs q.1).length)) → SgM y 48 0 (exs (flatL L)) → P (some (aI (nI L.length))) y) : Cl true mX10_rule 100 bc bs [aR 26 0] z P := by
  refine wX10_rule (d := 97) ?_
  obtain ⟨z0, hz0⟩ : ∃ z0, z0 = sI (sI (sI (sI z 26 0 40 0) 26 0 36 0) 26 0 25 0) 26 0 26 0 := ⟨_, rfl⟩
  rw [← hz0]
  have tp0 : TP b n z0 := by rw [hz0]; exact ⟨tp.1, tp.2⟩
  have ez : Eqo FRm z z0 := by rw [hz0]; exact (((Eqo.rf.sI rfl).sI rfl).sI rfl).sI rfl
  have z36 : gI z0 26 0 36 = nI 0 := by rw [hz0]; rfl
  have z25 : gI z0 26 0 25 = nI 0 := by rw [hz0]; rfl
  have z26 : gI z0 26 0 26 = nI 0 := by rw [hz0]; rfl
  have z40 : gI z0 26 0 40 = 0 := by rw [hz0]; rfl
  have z24 : gI z0 26 0 24 = gI z 26 0 24 := by rw [hz0]; rfl
  have z4 : ∀ q, gI z0 46 0 q = gI z 46 0 q ∧ gI z0 47 0 q = gI z 47 0 q ∧ gI z0 48 0 q = gI z 48 0 q := fun q => by rw [hz0]; exact ⟨rfl, rfl, rfl⟩
  refine mNext (d := 96) hn hb tp0 (Nat.zero_le _) z36 (fun y e1 e2 => ⟨rfl, ?_⟩)
  have tpy : TP b n y := tp0.keep e1
  have ey : Eqo FRm z y := ez.tr (e1.mono FRm_t)
  refine mR y tpy 96 bc bs [] P (by decide) (((e1.1 26 0 25 rfl).1).trans z25) ⟨e2, ((e1.1 26 0 26 rfl).1).trans z26, fun j t ht => by simp at ht⟩ (Nat.zero_le _) (fun f j hr y2 a1 a2 a3 => ?_) (fun L hr y2 a1 a2 a3 a4 a5 a6 a7 a8 => ?_)
  · refine wX10_rule_26 (d := 97) ⟨fun _ => ⟨fun _ => ⟨fun q => absurd rfl q, fun _ => ?_⟩, fun q => absurd rfl q⟩, fun q => absurd rfl q⟩
    have ew : Eqo FRm z y2 := ey.tr (a1.mono FRm_g)
    refine k0 f j hr _ (((ew.sI rfl).sI rfl).sI rfl) rfl a2 a3 (((a1.1 26 0 24 rfl).1).trans (((e1.1 26 0 24 rfl).1).trans z24)) (fun q => ?_)
    obtain ⟨w1, w2, w3⟩ := z4 q
    exact ⟨((a1.1 46 0 q rfl).1).trans (((e1.1 46 0 q rfl).1).trans w1), ((a1.1 47 0 q rfl).1).trans (((e1.1 47 0 q rfl).1).trans w2), ((a1.1 48 0 q rfl).1).trans (((e1.1 48 0 q rfl).1).trans w3)⟩
  · obtain ⟨l8, l5⟩ := h8 L hr
    rw [List.nil_append] at a2 a3
    have a4' : gI y2 26 0 25 = nI L.length := by rw [a4, Nat.zero_add]
    have ew : Eqo FRm z y2 := ey.tr (a1.mono FRm_g)
    refine wX10_rule_26 (d := 97) ⟨fun q => absurd q (by decide), fun _ => ⟨fun _ => ⟨fun q => absurd q (by decide), fun _ => ⟨fun _ => ?_, fun q => absurd q (by decide)⟩⟩, fun q => absurd a6 q⟩⟩
    refine mC90 (d := 97) (nl := L.length) (S := (exs (flatL L)).length) l8 l5 a4' a2 (fun y3 e3 c1 c2 c3 => ?_)
    have e40 : gI y2 26 0 40 = 0 := a5.trans (((e1.1 26 0 40 rfl).1).trans z40)
    refine k1 L hr y3 ((((((ew.sI rfl).sI rfl).sI rfl).sI rfl)).tr (e3.mono FRm_48)) ((e3.1 26 0 35 rfl).1) (((e3.1 26 0 42 rfl).1).trans e40) ((e3.1 26 0 44 rfl).1) (((e3.1 26 0 24 rfl).1).trans a4') (fun t ht => ?_) (fun t q hq => ?_) (fun j t ht => ?_)
    · rcases Nat.lt_or_ge t L.length with q | q
      · rw [(c1 t q).1]
        obtain ⟨u, hu⟩ : ∃ u, L[t]? = some u := ⟨L[t], List.getElem?_eq_getElem q⟩
        have w := (a7 t u hu).1
        rw [Nat.zero_add, List.length_nil, Nat.zero_add] at w
        exact w
      · obtain rfl : t = L.length := by omega
        rw [List.take_length]
        exact c2
    · have q1 := (List.getElem?_eq_some_iff.mp hq).1
      rw [(c1 t q1).2]
      have w := (a7 t q hq).2
      rw [Nat.zero_add, List.length_nil, Nat.zero_add] at w
      exact w
    · have q1 := (List.getElem?_eq_some_iff.mp ht).1
      rw [Nat.zero_add, c3 j q1]
      have w := a3 j t ht
      rw [Nat.zero_add] at w
      exact w
end RL
def FCz (c k : Nat) : Bool := decide (¬ (c = 0 ∧ (k = 8 ∨ k = 9)) ∧ ¬ (c = 6 ∧ k = 1) ∧ ¬ (8 ≤ c ∧ c ≤ 17) ∧ c ≠ 19)
theorem FCz_s (c k : Nat) (z : FCz c k = true) : FS c k = true := by
  have q := of_decide_eq_true z
  unfold FS
  split <;> first | rfl | (exfalso; omega)
theorem FCz_g (c k : Nat) (z : FCz c k = true) : FG c k = true := by
  have q := of_decide_eq_true z
  unfold FG
  split <;> first | rfl | (exfalso; omega)
/-- what rule leaves -/
def FZ (c k : Nat) : Bool := decide (¬ (c = 0 ∧ (k = 8 ∨ k = 9)) ∧ ¬ (c = 6 ∧ k = 1) ∧ ¬ (8 ≤ c ∧ c ≤ 17) ∧ c ≠ 19 ∧ ¬ (c = 26 ∧ 24 ≤ k ∧ k ≤ 44) ∧ ¬ (46 ≤ c ∧ c ≤ 51))
theorem FZ_c (c k : Nat) (z : FZ c k = true) : FCz c k = true := by
  have q := of_decide_eq_true z
  exact decide_eq_true (by omega)
theorem FZ_m (c k : Nat) (z : FZ c k = true) : FRm c k = true := by
  have q := of_decide_eq_true z
  unfold FRm
  split <;> first | rfl | (simp; omega) | (exfalso; omega)
theorem FA_z (c k : Nat) (z : FA c k = true) : FZ c k = true := by
  unfold FA at z
  unfold FZ
  apply decide_eq_true
  split at z <;> simp at z <;> omega
theorem FV_z (c k : Nat) (z : FV c k = true) : FZ c k = true := by
  unfold FV at z
  unfold FZ
  apply decide_eq_true
  split at z <;> simp at z <;> omega
theorem FC_z (c k : Nat) (z : FC c k = true) : FZ c k = true := by
  unfold FC at z
  unfold FZ
  apply decide_eq_true
  split at z <;> simp at z <;> omega
theorem flat_at {L : List LN2} {k : Nat} {q : LN2} (h : L[k]? = some q) : flatL L = flatL (L.take k) ++ (q.1 ++ (q.2 ++ flatL (L.drop (k + 1)))) ∧ flatL (L.take (k + 1)) = flatL (L.take k) ++ (q.1 ++ q.2) := by
  obtain ⟨hk, e⟩ := List.getElem?_eq_some_iff.mp h
  have e1 : L = L.take k ++ (q :: L.drop (k + 1)) := by
    rw [← e, ← List.drop_eq_getElem_cons hk, List.take_append_drop]
  have e2 : L.take (k + 1) = L.take k ++ [q] := by
    rw [List.take_succ, h]
    rfl
  constructor
  · have : flatL L = flatL (L.take k ++ (q :: L.drop (k + 1))) := congrArg flatL e1
    rw [this]
    unfold flatL
    rw [List.flatMap_append, List.flatMap_cons]
    simp
  · rw [e2]
    unfold flatL
    rw [List.flatMap_append]
    simp
theorem SgC.app {h : HS} {s p : Nat} {a b : List (Nat × Nat)} (q : SgC h s p (a ++ b)) : SgC h s p a ∧ SgC h s (p + a.length) b := by
  refine ⟨fun j t ht => q j t ?_, fun j t ht => ?_⟩
  · rw [List.getElem?_append_left (List.getElem?_eq_some_iff.mp ht).1]
    exact ht
  · have w := q (a.length + j) t (by rw [List.getElem?_append_right (by omega), Nat.add_sub_cancel_left]; exact ht)
    rw [Nat.add_assoc]
    exact w
theorem LnOK.keep {h y : HS} {ρ k : Nat} (e1 : ∀ c q, 13 ≤ c → c ≤ 17 → gI y c ρ q = gI h c ρ q) (e2 : ∀ q, gI y 46 0 q = gI h 46 0 q ∧ gI y 47 0 q = gI h 47 0 q ∧ gI y 48 0 q = gI h 48 0 q) (a : LnOK h ρ k) : LnOK y ρ k := by
  obtain ⟨pl, wl, p, mp, c1, c2, c3, c4, c5, c6, c7, c8, c9, c10, c11, c12, c13, c14, c15, c16, c17⟩ := a
  have g : ∀ c q, 13 ≤ c → c ≤ 17 → gI y c ρ q = gI h c ρ q := e1
  refine ⟨pl, wl, p, mp, c1, c2, c3, c4, c5, c6, c7, fun j s hs => ?_, fun j s hs => ?_, fun j s hs => ?_, fun j s hs => ?_, by rw [g 15 k (by decide) (by decide)]; exact c12, by rw [g 16 k (by decide) (by decide)]; exact c13, by rw [g 17 k (by decide) (by decide)]; exact c14, by rw [(e2 k).1]; exact c15, by rw [(e2 k).2.1]; exact c16, by rw [(e2 (k + 1)).1]; exact c17⟩
  · rw [g 13 _ (by decide) (by decide), g 14 _ (by decide) (by decide)]; exact c8 j s hs
  · rw [g 13 _ (by decide) (by decide), g 14 _ (by decide) (by decide)]; exact c9 j s hs
  · rw [(e2 _).2.2]; exact c10 j s hs
  · rw [(e2 _).2.2]; exact c11 j s hs
section RU
variable {h : HS}
set_option maxHeartbeats 1000000 in
theorem sim_rule (I : Inv h) : Sim mX9_rule mX10_rule 0 0 [] h := by
  obtain ⟨⟨D, nt, ns, iA⟩, iV, ⟨n, hn, t2, t3, t4⟩, ⟨ρ, hρ, r8, r9, rj, nl, hnl, n7, n24, hL⟩, iF, iC⟩ := id I
  obtain ⟨b, hbd⟩ : ∃ b : Nat → Nat, ∀ j, j < n → b j < 256 ∧ gI h 53 0 j = nI (b j) ∧ gI h 7 0 j = sg8 (b j) := by
    refine ⟨fun j => (gI h 53 0 j).toNatClampNeg, fun j hj => ?_⟩
    obtain ⟨v, hv, e1, e2⟩ := t4 j hj
    show (gI h 53 0 j).toNatClampNeg < 256 ∧ gI h 53 0 j = nI ((gI h 53 0 j).toNatClampNeg) ∧ gI h 7 0 j = sg8 ((gI h 53 0 j).toNatClampNeg)
    rw [e1, nI_clamp (by omega)]
    exact ⟨hv, rfl, e2⟩
  have hb : ∀ j, j < n → b j < 256 := fun j hj => (hbd j hj).1
  obtain ⟨s, hs⟩ : ∃ s, s = 1 - ρ := ⟨_, rfl⟩
  have hsρ : ρ ≠ s := by omega
  rw [← hs] at r9
  have inv : ∀ y, Eqo FZ h y → (∃ m, m ≤ 400 ∧ gI y 6 0 1 = nI m ∧ gI y 26 0 35 = nI m ∧ m = 0) → IR y → IF y → Inv y := fun y e tz r f => ⟨⟨D, nt, ns, iA.keep (e.mono FA_z)⟩, iV.keep (e.mono FV_z), (by
    obtain ⟨m, m1, m2, m3, m4⟩ := tz
    exact ⟨m, m1, m2, m3, fun j hj => by omega⟩), r, f, iC.keep (e.mono FC_z)⟩
  refine wX9_rule (d := 97) ?_
  rw [t2]
  refine cScan (d := 89) hn hb (fun j hj => (hbd j hj).2.2) (fun y c hc ey ta e8 kc kj => ⟨rfl, s, ((ey.1 0 0 9 rfl).2).trans r9, ?_⟩)
  have T : Tks b n c := ⟨hn, hb, hc, kc, kj⟩
  obtain ⟨r, cR, mR, gG⟩ := xR (s := s) T c 0 0 (by omega) (Nat.zero_le _) (by decide)
  have h8 : ∀ L, r = .inr L → L.length ≤ 8 ∧ (exs (flatL L)).length ≤ 500 := fun L hr => by
    have := gG L hr
    exact ⟨by omega, by omega⟩
  refine wX2_read (d := 96) ⟨s, rfl, wX1_clear (d := 95) ⟨rfl, ?_⟩⟩
  obtain ⟨x, hx⟩ : ∃ x, x = sI (sI (sI (sI (sI (sR (sI y 6 0 1 0) 19 0 1 (some (12, s))) 12 s 6 0) 12 s 7 0) 19 0 2 0) 19 0 3 0) 19 0 4 (-1) := ⟨_, rfl⟩
  rw [← hx]
  have Bx : CB b n c s x := by
    rw [hx]
    exact ⟨e8, fun j hj => ta j hj, rfl⟩
  have ex : Eqo FCz h x := by
    rw [hx]
    exact ((((((((ey.mono FCz_s).sI rfl).sR rfl).sI rfl).sI rfl).sI rfl).sI rfl).sI rfl)
  have x7 : gI x 12 s 7 = nI 0 := by
    rw [hx]
    simp only [gI_sI]
    simp
    rfl
  have csx : CSx s 0 [] x := by
    rw [hx]
    refine ⟨rfl, ?_, fun j t ht => by simp at ht, rfl, rfl⟩
    simp only [gI_sI]
    simp
    rfl
  have kρ : ∀ q k, 12 ≤ q → q ≤ 17 → gI x q ρ k = gI h q ρ k := fun q k h1 h2 => by
    rw [hx]
    have e0 : gI y q ρ k = gI h q ρ k := (ey.1 q ρ k (by
      unfold FS
      split <;> first | rfl | (exfalso; omega))).1
    rw [gI_sI, if_neg (by omega), gI_sI, if_neg (by omega), gI_sI, if_neg (by omega), gI_sI, if_neg (fun z => hsρ z.2.2), gI_sI, if_neg (fun z => hsρ z.2.2), gI_sR, gI_sI, if_neg (by omega)]
    exact e0
  have x6 : gI x 6 0 1 = 0 := by rw [hx]; rfl
  have x08 : gR x 0 0 8 = some (12, ρ) := by rw [hx]; exact ((ey.1 0 0 8 rfl).2).trans r8
  have x09 : gR x 0 0 9 = some (12, s) := by rw [hx]; exact ((ey.1 0 0 9 rfl).2).trans r9
  refine cR x Bx 95 0 0 [] _ (by decide) x7 csx (Nat.zero_le _) (fun f j hr y1 a1 a2 a3 => ⟨0, rfl, fun z => absurd rfl z, fun _ => ⟨_, rfl, ?_⟩⟩) (fun L hr y1 a1 a2 a3 a4 a5 => ⟨1, rfl, fun _ => ⟨ρ, ((a1.1.1 0 0 8 rfl).2).trans x08, s, ((a1.1.1 0 0 9 rfl).2).trans x09, s, rfl, ?_⟩, fun z => absurd z (by decide)⟩)
  · have e1 : Eqo FCz h y1 := ex.tr (a1.1.mono FCz_g)
    have tp : TP b n y1 := ⟨((e1.1 26 0 35 rfl).1).trans t3, fun j hj => ((e1.1 53 0 j rfl).1).trans (hbd j hj).2.1⟩
    refine mRule hn hb mR h8 tp (fun f' j' hr' y2 d1 d2 d3 d4 d5 d6 => ⟨rfl, ?_⟩) (fun L hr' => by rw [hr] at hr'; cases hr')
    rw [hr] at hr'
    cases hr'
    refine inv y2 ((e1.mono FZ_c).tr (d1.mono FZ_m)) ⟨0, by decide, ?_, d2, rfl⟩ ⟨ρ, hρ, ?_, ?_, ⟨s, by omega, ?_⟩, nl, hnl, ?_, ?_, fun k hk => (hL k hk).keep (fun q k h1 h2 => ?_) (fun q => ?_)⟩ ⟨?_, ?_⟩
    · exact ((d1.1 6 0 1 rfl).1).trans (((a1.1.1 6 0 1 rfl).1).trans x6)
    · exact ((d1.1 0 0 8 rfl).2).trans (((a1.1.1 0 0 8 rfl).2).trans x08)
    · rw [← hs]; exact ((d1.1 0 0 9 rfl).2).trans (((a1.1.1 0 0 9 rfl).2).trans x09)
    · exact ((d1.1 19 0 1 rfl).2).trans (((a1.1.1 19 0 1 rfl).2).trans Bx.2.2)
    · exact ((d1.1 12 ρ 7 rfl).1).trans ((a1.2 12 ρ 7 (by decide) (by decide) hsρ).trans ((kρ 12 7 (by decide) (by decide)).trans n7))
    · exact d5.trans (((e1.1 26 0 24 rfl).1).trans n24)
    · have f1 : FRm q k = true := by
        unfold FRm
        split <;> first | rfl | (exfalso; omega)
      exact ((d1.1 q ρ k f1).1).trans ((a1.2 q ρ k (by omega) h2 hsρ).trans (kρ q k (by omega) h2))
    · obtain ⟨w1, w2, w3⟩ := d6 q
      exact ⟨w1.trans (e1.1 46 0 q rfl).1, w2.trans (e1.1 47 0 q rfl).1, w3.trans (e1.1 48 0 q rfl).1⟩
    · exact (((d1.1 19 0 3 rfl).1).trans a2).trans d3.symm
    · exact (((d1.1 19 0 4 rfl).1).trans a3).trans d4.symm
  · obtain ⟨i', a2⟩ := a2
    rw [List.nil_append] at a2
    have g8 := gG L hr
    have e1 : Eqo FCz h (sR (sR y1 0 0 8 (some (12, s))) 0 0 9 (some (12, ρ))) := ((ex.tr (a1.1.mono FCz_g)).sR rfl).sR rfl
    have tp : TP b n (sR (sR y1 0 0 8 (some (12, s))) 0 0 9 (some (12, ρ))) := ⟨((e1.1 26 0 35 rfl).1).trans t3, fun j hj => ((e1.1 53 0 j rfl).1).trans (hbd j hj).2.1⟩
    have a3' : gI y1 12 s 7 = nI L.length := by rw [a3, Nat.zero_add]
    rw [a3']
    refine ⟨_, rfl, ?_⟩
    refine mRule hn hb mR h8 tp (fun f' j' hr' => by rw [hr] at hr'; cases hr') (fun L' hr' y2 d1 d2 d3 d4 d5 d6 d7 d8 => ?_)
    rw [hr] at hr'
    cases hr'
    refine ⟨rfl, inv y2 ((e1.mono FZ_c).tr (d1.mono FZ_m)) ⟨0, by decide, ?_, d2, rfl⟩ ⟨s, by omega, ?_, ?_, ⟨s, by omega, ?_⟩, L.length, by omega, ?_, d5, fun k hk => ?_⟩ ⟨?_, ?_⟩⟩
    · exact ((d1.1 6 0 1 rfl).1).trans (((a1.1.1 6 0 1 rfl).1).trans x6)
    · exact (d1.1 0 0 8 rfl).2
    · rw [show 1 - s = ρ by omega]
      exact (d1.1 0 0 9 rfl).2
    · exact ((d1.1 19 0 1 rfl).2).trans (((a1.1.1 19 0 1 rfl).2).trans Bx.2.2)
    · exact ((d1.1 12 s 7 rfl).1).trans a3'
    · obtain ⟨q, hq⟩ : ∃ q, L[k]? = some q := ⟨L[k], List.getElem?_eq_getElem hk⟩
      obtain ⟨f1, f2⟩ := flat_at hq
      obtain ⟨g1, g2, g3, g4, g5⟩ := g8.2.1 q (List.mem_of_getElem? hq)
      have len := congrArg List.length f1
      have lex := congrArg (fun l => (exs l).length) f1
      have lek := congrArg (fun l => (exs l).length) f2
      simp only [exs_app, List.length_append] at len lex lek
      have sc : SgC y2 s 0 (flatL L) := fun j t ht => by
        rw [(d1.1 13 s _ rfl).1, (d1.1 14 s _ rfl).1]
        exact a2.2.2.1 j t ht
      rw [f1] at sc
      have sm := d8
      rw [f1, exs_app, exs_app, exs_app] at sm
      have sc1 := sc.app.2
      have sm1 := sm.app.2
      rw [Nat.zero_add] at sc1 sm1
      obtain ⟨w1, w2, w3⟩ := a4 k q hq
      rw [Nat.zero_add, List.length_nil, Nat.zero_add] at w1 w2 w3
      refine ⟨q.1, q.2, (flatL (L.take k)).length, (exs (flatL (L.take k))).length, g1, g2, g3, g4, g5, by omega, by omega, sc1.app.1, sc1.app.2.app.1, sm1.app.1, sm1.app.2.app.1, ?_, ?_, ?_, d6 k (by omega), d7 k q hq, ?_⟩
      · exact ((d1.1 15 s k rfl).1).trans w1
      · exact ((d1.1 16 s k rfl).1).trans w2
      · exact ((d1.1 17 s k rfl).1).trans w3
      · rw [d6 (k + 1) (by omega), lek]
        congr 1
        omega
    · exact (((d1.1 19 0 3 rfl).1).trans a2.2.2.2.1).trans d3.symm
    · exact (((d1.1 19 0 4 rfl).1).trans a2.2.2.2.2).trans d4.symm
end RU

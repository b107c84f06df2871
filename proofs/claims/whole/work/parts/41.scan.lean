-- ===== the class's tokens =====
def posT (b : Nat → Nat) (n : Nat) : Nat → Nat
  | 0 => 0
  | i + 1 => (nxT b n (posT b n i)).2.2.2
def tokT (b : Nat → Nat) (n i : Nat) : Tk := nxT b n (posT b n i)
def TCb (b : Nat → Nat) (n : Nat) (y : HS) : Prop := ∀ j, j < n → gI y 7 0 j = sg8 (b j)
def FS (c k : Nat) : Bool := match c with
  | 8 => k != 3
  | 9 => false
  | 10 => false
  | 11 => false
  | _ => true
def TA (b : Nat → Nat) (n i : Nat) (y : HS) : Prop := ∀ j, j < i → gI y 9 0 j = nI (tokT b n j).1 ∧ gI y 10 0 j = nI (tokT b n j).2.1 ∧ gI y 11 0 j = nI (tokT b n j).2.2.1
theorem vlN_lt {b : Nat → Nat} {q : Nat} : ∀ m, (∀ j, j < m → dg8 (b (q + j)) = true) → vlN b q m < 10 ^ m
  | 0, _ => by show (0 : Nat) < 1; decide
  | m + 1, h => by
    have l := of_decide_eq_true (h m (by omega))
    have := vlN_lt m (fun j hj => h j (by omega))
    show 10 * vlN b q m + (b (q + m) - 48) < 10 ^ (m + 1)
    rw [Nat.pow_succ]
    omega
/-- f holds on all of what sp passes -/
theorem sp_all {f : Nat → Bool} {n : Nat} : ∀ m p, n - p = m → ∀ j, p ≤ j → j < sp f n p → f j = true := by
  intro m
  induction m with
  | zero =>
    intro p hm j h1 h2
    rw [sp_0 (Or.inl (by omega))] at h2
    omega
  | succ m ih =>
    intro p hm j h1 h2
    cases e : f p with
    | true =>
      rw [sp_1 (by omega) e] at h2
      rcases Nat.lt_or_ge p j with q | q
      · exact ih (p + 1) (by omega) j (by omega) h2
      · rw [show j = p by omega]; exact e
    | false =>
      rw [sp_0 (Or.inr e)] at h2
      omega
theorem tk1_ok {b : Nat → Nat} {n q : Nat} (hb : ∀ j, j < n → b j < 256) (hq : q < n) : (tk1 b n q).1 ≠ 256 ∧ (tk1 b n q).1 ≤ 265 ∧ (tk1 b n q).2.1 = q ∧ (tk1 b n q).2.2.1 < 1000000 ∧ q < (tk1 b n q).2.2.2 ∧ (tk1 b n q).2.2.2 ≤ n := by
  unfold tk1
  by_cases e : lt8 (b q) = true
  · rw [if_pos e]
    have r := wk_rng (rb b q (tkL b n q - q))
    have s := sp_b (f := fun j => lt8 (b j)) (n := n) (n - (q + 1)) (q + 1) rfl (by omega)
    rw [← sp_1 (f := fun j => lt8 (b j)) hq e] at s
    have s1 : q + 1 ≤ tkL b n q := s.1
    have s2 : tkL b n q ≤ n := s.2.1
    exact ⟨by show wk _ ≠ 256; omega, by show wk _ ≤ 265; omega, rfl, by show 0 < 1000000; decide, s1, s2⟩
  · rw [if_neg e]
    by_cases e2 : dg8 (b q) = true
    · rw [if_pos e2]
      have s := sp_b (f := fun j => dg8 (b j)) (n := n) (n - (q + 1)) (q + 1) rfl (by omega)
      rw [← sp_1 (f := fun j => dg8 (b j)) hq e2] at s
      have s1 : q + 1 ≤ tkD b n q := s.1
      have s2 : tkD b n q ≤ n := s.2.1
      by_cases e3 : tkD b n q - q ≤ 6
      · rw [if_pos e3]
        have v := vlN_lt (b := b) (q := q) (tkD b n q - q) (fun j hj => sp_all (f := fun j => dg8 (b j)) (n - q) q rfl (q + j) (by omega) (show q + j < tkD b n q by omega))
        exact ⟨by show 258 ≠ 256; decide, by show 258 ≤ 265; decide, rfl, Nat.lt_of_lt_of_le v (Nat.pow_le_pow_right (by decide) e3), s1, s2⟩
      · rw [if_neg e3]
        exact ⟨by show 257 ≠ 256; decide, by show 257 ≤ 265; decide, rfl, by show 0 < 1000000; decide, s1, s2⟩
    · rw [if_neg e2]
      have := hb q hq
      exact ⟨by show b q ≠ 256; omega, by show b q ≤ 265; omega, rfl, by show 0 < 1000000; decide, by show q < q + 1; omega, by show q + 1 ≤ n; omega⟩
theorem nxT_ok {b : Nat → Nat} {n p : Nat} (hb : ∀ j, j < n → b j < 256) (hp : p ≤ n) : (nxT b n p).1 ≤ 265 ∧ (nxT b n p).2.1 ≤ n ∧ (nxT b n p).2.2.1 < 1000000 ∧ (nxT b n p).2.2.2 ≤ n := by
  unfold nxT
  by_cases e : sp (fun j => bl8 (b j)) n p < n
  · rw [if_pos e]
    have t := tk1_ok hb e
    exact ⟨t.2.1, by omega, t.2.2.2.1, t.2.2.2.2.2⟩
  · rw [if_neg e]
    exact ⟨by show 256 ≤ 265; decide, Nat.le_refl _, by show 0 < 1000000; decide, Nat.le_refl _⟩
theorem posT_le {b : Nat → Nat} {n : Nat} (hb : ∀ j, j < n → b j < 256) : ∀ i, posT b n i ≤ n
  | 0 => Nat.zero_le _
  | i + 1 => (nxT_ok hb (posT_le hb i)).2.2.2
def sBN : List (List Nat) := [[112, 97, 121], [119, 104, 101, 110], [97, 110, 100], [115, 117, 109], [115, 108, 105, 112, 115], [98, 97, 99, 107], [109, 111, 110, 116, 104]]
def wdL (j : Nat) : List Nat := rb (fun i => (sBN.getD j []).getD i 0) 0 (sLn.getD j 0)
theorem sB_N : ∀ j, j < 7 → ∀ i, i < 5 → (sBy.getD j []).getD i 0 = nI ((sBN.getD j []).getD i 0) ∧ (sBN.getD j []).getD i 0 < 256 := by decide +kernel
theorem rb_cg {b c : Nat → Nat} {q : Nat} : ∀ m, (∀ i, i < m → b (q + i) = c i) → rb b q m = rb c 0 m
  | 0, _ => rfl
  | m + 1, h => by
    show b (q + m) :: rb b q m = c (0 + m) :: rb c 0 m
    rw [rb_cg m (fun i hi => h i (by omega)), h m (by omega), Nat.zero_add]
theorem rb_ij {b c : Nat → Nat} {q : Nat} : ∀ m, rb b q m = rb c 0 m → ∀ i, i < m → b (q + i) = c i
  | 0, _, i, hi => absurd hi (Nat.not_lt_zero _)
  | m + 1, h, i, hi => by
    have h' : b (q + m) :: rb b q m = c (0 + m) :: rb c 0 m := h
    injection h' with h1 h2
    rcases Nat.lt_or_ge i m with z | z
    · exact rb_ij m h2 i z
    · rw [show i = m by omega, h1, Nat.zero_add]
section SC
variable {h : HS} {P : Option AV → HS → Prop} {d bc bs : Nat} {b : Nat → Nat} {n : Nat}
theorem cAddT {i : Nat} {kv pv nv : Int32} (e : gI h 8 0 3 = nI i) (hi : i ≤ 400) (ta : TA b n i h) (hk : kv = nI (tokT b n i).1) (hp : pv = nI (tokT b n i).2.1) (hv : nv = nI (tokT b n i).2.2.1) (k : ∀ y, Eqo FS h y → TA b n (i + 1) y → gI y 8 0 3 = nI (i + 1) → P none y) : Cl true mX7_add (d + 3) bc bs [aR 8 0, aI kv, aI pv, aI nv] h P := by
  have vin : vp_in (nI i) 401 := vp_in_nI (by omega) (by decide)
  refine wX7_add ?_
  rw [e, nI_clamp (by omega), nI_1]
  refine ⟨fun z => absurd z (nI_pos (by omega)), fun _ => ⟨fun z => absurd (show nI 400 < nI i from z) (nI_nlt (by omega) (by decide)), fun _ => ⟨vin, vin, vin, k _ ((((Eqo.rf.sI rfl).sI rfl).sI rfl).sI rfl) (fun j hj => ?_) gI_same⟩⟩⟩
  simp only [gI_sI]
  by_cases q : j = i
  · subst q
    simp [hk, hp, hv]
  · simp [q]
    exact ta j (by omega)
theorem cNum {q m : Nat} (hn : n ≤ 400) (hb : ∀ j, j < n → b j < 256) (tc : TCb b n h) (hq : q + m ≤ n) (hd : ∀ j, j < m → dg8 (b (q + j)) = true) (k : P (some (aI (nI (vlN b q m)))) h) : Cl true mX7_numberOf (d + 3) bc bs [aR 7 0, aI (nI q), aI (nI (q + m))] h P := by
  have lp : ∀ r j, j + r = m → V true mX7_numberOf (d + 3) bc bs 5 [(0, aR 7 0), (2, aI (nI (q + m))), (3, aI (nI (vlN b q j))), (4, aI (nI (q + j)))] [] h P := by
    intro r
    induction r with
    | zero =>
      intro j hj
      obtain rfl : j = m := by omega
      exact wX7_numberOf_5 ⟨fun _ => k, fun z => absurd (nI_le (Nat.le_refl _) (by omega)) z⟩
    | succ r ih =>
      intro j hj
      have hbj := hb (q + j) (by omega)
      have dj := hd j (by omega)
      have l48 := of_decide_eq_true dj
      refine wX7_numberOf_5 ⟨fun z => absurd z (nI_ge (by omega) (by omega)), fun _ => ⟨fun z => absurd (show nI 400 ≤ nI (q + j) from z) (nI_ge (by omega) (by decide)), fun _ => ⟨vp_in_nI (by omega) (by decide), ?_⟩⟩⟩
      rw [nI_clamp (by omega), tc (q + j) (by omega), (by_lo _ hbj (Or.inr dj)).1, nI_1]
      have ev : 10 * nI (vlN b q j) + nI (b (q + j)) - 48 = nI (vlN b q (j + 1)) := by
        rw [show (10 : Int32) = nI 10 from rfl, show (48 : Int32) = nI 48 from rfl, pk_mul, nI_add, pk_sub (by omega)]
        congr 1
        show _ = 10 * vlN b q j + (b (q + j) - 48)
        omega
      rw [ev]
      exact ih (j + 1) (by omega)
  exact wX7_numberOf (lp m 0 (by omega))
theorem cIsW {j q m : Nat} (hj : j < 7) (hn : n ≤ 400) (hb : ∀ j, j < n → b j < 256) (tc : TCb b n h) (hq : q + m ≤ n) (hl : ∀ i, i < m → lt8 (b (q + i)) = true) (k : P (some (aI (bI (rb b q m = wdL j)))) h) : Cl true mX7_isWord (d + 7) bc bs [aR 65 j, aR 7 0, aI (nI q), aI (nI (q + m))] h P := by
  have es : nI (q + m) - nI q = nI m := by rw [pk_sub (by omega), Nat.add_sub_cancel_left]
  have h5 := sLn5 j hj
  have neg : ¬ rb b q m = wdL j → P (some (aI 0)) h := fun z => by rw [bI_f z] at k; exact k
  refine wX7_isWord ⟨hj, cLen (d := d + 2) hj ⟨_, rfl, fun z => neg (fun w => ?_), fun z => ⟨fun z2 => absurd z2 (nI_pos (by omega)), fun _ => ⟨fun _ => ?_, fun z2 => absurd (show nI (q + m) ≤ nI 400 from nI_le (by omega) (by decide)) z2⟩⟩⟩⟩
  · rw [es] at z
    have := congrArg List.length w
    unfold wdL at this
    rw [rb_len, rb_len] at this
    exact z (by rw [this])
  · rw [es] at z
    have hm : m = sLn.getD j 0 := (nI_eq (by omega) (by omega)).mp z
    have lp : ∀ r i, i + r = m → (∀ i', i' < i → b (q + i') = (sBN.getD j []).getD i' 0) → V true mX7_isWord (d + 7) bc bs 25 [(0, aR 65 j), (1, aR 7 0), (2, aI (nI q)), (3, aI (nI (q + m))), (4, aI (nI (q + i)))] [] h P := by
      intro r
      induction r with
      | zero =>
        intro i hi ha
        obtain rfl : i = m := by omega
        refine wX7_isWord_25 ⟨fun _ => ?_, fun z => absurd (nI_le (Nat.le_refl _) (by omega)) z⟩
        have : rb b q i = wdL j := by
          unfold wdL
          rw [← hm]
          exact rb_cg i ha
        rw [bI_t this] at k
        exact k
      | succ r ih =>
        intro i hi ha
        obtain ⟨s1, s2⟩ := sB_N j hj i (by omega)
        refine wX7_isWord_25 ⟨fun z => absurd z (nI_ge (by omega) (by omega)), fun _ => ⟨vp_in_nI (by omega) (by decide), hj, ?_⟩⟩
        rw [show nI (q + i) - nI q = nI i by rw [pk_sub (by omega), Nat.add_sub_cancel_left]]
        refine cChar hj (by omega) ⟨_, rfl, ?_⟩
        rw [nI_clamp (by omega), tc (q + i) (by omega), (by_lo _ (hb (q + i) (by omega)) (Or.inl (hl i (by omega)))).1, s1, nI_1]
        have hbi := hb (q + i) (by omega)
        refine ⟨fun z => ih (i + 1) (by omega) (fun i' hi' => ?_), fun z => neg (fun w => ?_)⟩
        · rcases Nat.lt_or_ge i' i with y | y
          · exact ha i' y
          · rw [show i' = i by omega]
            exact (nI_eq (by omega) (by omega)).mp z
        · unfold wdL at w
          rw [← hm] at w
          exact z (by rw [rb_ij m w i (by omega)])
    exact lp m 0 (by omega) (fun i' hi' => absurd hi' (Nat.not_lt_zero _))
theorem cWk {q m : Nat} (hn : n ≤ 400) (hb : ∀ j, j < n → b j < 256) (tc : TCb b n h) (hq : q + m ≤ n) (hl : ∀ i, i < m → lt8 (b (q + i)) = true) (k : P (some (aI (nI (wk (rb b q m))))) h) : Cl true mX7_wordKind (d + 8) bc bs [aR 7 0, aI (nI q), aI (nI (q + m))] h P := by
  have yes : ∀ {j v : Nat}, wk (wdL j) = v → ¬ bI (rb b q m = wdL j) = 0 → P (some (aI (nI v))) h := fun hv z => by
    rw [bI_1 z, hv] at k
    exact k
  refine wX7_wordKind (cIsW (by decide) hn hb tc hq hl ⟨_, rfl, fun z0 => ?_, fun z => yes (j := 0) rfl z⟩)
  refine cIsW (by decide) hn hb tc hq hl ⟨_, rfl, fun z1 => ?_, fun z => yes (j := 1) rfl z⟩
  refine cIsW (by decide) hn hb tc hq hl ⟨_, rfl, fun z2 => ?_, fun z => yes (j := 2) rfl z⟩
  refine cIsW (by decide) hn hb tc hq hl ⟨_, rfl, fun z3 => ?_, fun z => yes (j := 3) rfl z⟩
  refine cIsW (by decide) hn hb tc hq hl ⟨_, rfl, fun z4 => ?_, fun z => yes (j := 4) rfl z⟩
  refine cIsW (by decide) hn hb tc hq hl ⟨_, rfl, fun z5 => ?_, fun z => yes (j := 5) rfl z⟩
  refine cIsW (by decide) hn hb tc hq hl ⟨_, rfl, fun z6 => ?_, fun z => yes (j := 6) rfl z⟩
  have : wk (rb b q m) = 257 := by
    unfold wk
    rw [if_neg (show ¬ rb b q m = [121, 97, 112] from bI_0 z0), if_neg (show ¬ rb b q m = [110, 101, 104, 119] from bI_0 z1), if_neg (show ¬ rb b q m = [100, 110, 97] from bI_0 z2), if_neg (show ¬ rb b q m = [109, 117, 115] from bI_0 z3), if_neg (show ¬ rb b q m = [115, 112, 105, 108, 115] from bI_0 z4), if_neg (show ¬ rb b q m = [107, 99, 97, 98] from bI_0 z5), if_neg (show ¬ rb b q m = [104, 116, 110, 111, 109] from bI_0 z6)]
  rw [this] at k
  exact k
theorem cTok {q i : Nat} (hn : n ≤ 400) (hb : ∀ j, j < n → b j < 256) (tc : TCb b n h) (hq : q < n) (ei : tokT b n i = tk1 b n q) (e : gI h 8 0 3 = nI i) (hi : i ≤ 400) (ta : TA b n i h) (k : ∀ y, Eqo FS h y → TA b n (i + 1) y → gI y 8 0 3 = nI (i + 1) → P (some (aI (nI (tk1 b n q).2.2.2))) y) : Cl true mX7_scanToken (d + 9) bc bs [aR 8 0, aR 7 0, aI (nI q), aI (nI n)] h P := by
  have hbq := hb q hq
  have vin : vp_in (nI q) 400 := vp_in_nI (by omega) (by decide)
  have bp : ∀ j, j < n → (ltr (gI h 7 0 j) ↔ lt8 (b j) = true) ∧ (inR (gI h 7 0 j) 48 57 ↔ dg8 (b j) = true) := fun j hj => by
    rw [tc j hj]
    exact ⟨by_lt _ (hb j hj), by_dg _ (hb j hj)⟩
  refine wX7_scanToken ?_
  rw [nI_clamp (by omega), nI_1]
  refine ⟨vin, fun z => ⟨vin, fun z2 => ⟨vin, ?_⟩, fun z2 => ?_⟩, fun z => ?_⟩
  · have ek : tk1 b n q = (b q, q, 0, q + 1) := by
      unfold tk1
      rw [if_neg (fun w => z ((bp q hq).1.mpr w)), if_neg (fun w => z2 ((bp q hq).2.mpr w))]
    rw [tc q hq, by_and _ hbq]
    refine cAddT e hi ta (by rw [ei, ek]) (by rw [ei, ek]) (by rw [ei, ek]; rfl) (fun y e1 e2 e3 => ⟨rfl, ?_⟩)
    have := k y e1 e2 e3
    rw [ek] at this
    exact this
  · have d0 := (bp q hq).2.mp z2
    have l0 : ¬ lt8 (b q) = true := fun w => z ((bp q hq).1.mpr w)
    have fin : ∀ m, q + m ≤ n → tkD b n q = q + m → (∀ j, j < m → dg8 (b (q + j)) = true) → ((6 < nI (q + m) - nI q → Cl true mX7_add (d + 8) 0 0 [aR 8 0, aI 257, aI (nI q), aI 0] h (fun r1 h2 => r1 = none ∧ P (some (aI (nI (q + m)))) h2)) ∧ (¬ 6 < nI (q + m) - nI q → Cl true mX7_numberOf (d + 8) 0 0 [aR 7 0, aI (nI q), aI (nI (q + m))] h (fun r3 h4 => ∃ x5 : Int32, r3 = some (aI x5) ∧ (Cl true mX7_add (d + 8) 0 0 [aR 8 0, aI 258, aI (nI q), aI x5] h4 (fun r6 h7 => r6 = none ∧ P (some (aI (nI (q + m)))) h7))))) := by
      intro m h1 h2 h3
      have ek : tk1 b n q = if m ≤ 6 then (258, q, vlN b q m, q + m) else (257, q, 0, q + m) := by
        unfold tk1
        rw [if_neg l0, if_pos d0, h2, Nat.add_sub_cancel_left]
      rw [pk_sub (by omega), Nat.add_sub_cancel_left]
      refine ⟨fun y => ?_, fun y => ?_⟩
      · have hm : 6 < m := (nI_ltI (a := 6) (by decide) (by omega)).mp y
        rw [if_neg (by omega)] at ek
        refine cAddT (d := d + 5) e hi ta (by rw [ei, ek]; rfl) (by rw [ei, ek]) (by rw [ei, ek]; rfl) (fun y e1 e2 e3 => ⟨rfl, ?_⟩)
        have := k y e1 e2 e3
        rw [ek] at this
        exact this
      · have hm : ¬ 6 < m := fun w => y ((nI_ltI (a := 6) (by decide) (by omega)).mpr w)
        rw [if_pos (by omega)] at ek
        refine cNum (d := d + 5) hn hb tc h1 h3 ⟨_, rfl, ?_⟩
        refine cAddT (d := d + 5) e hi ta (by rw [ei, ek]; rfl) (by rw [ei, ek]) (by rw [ei, ek]) (fun y e1 e2 e3 => ⟨rfl, ?_⟩)
        have := k y e1 e2 e3
        rw [ek] at this
        exact this
    have lp : ∀ r m, n - (q + m) = r → q + m ≤ n → tkD b n q = tkD b n (q + m) → (∀ j, j < m → dg8 (b (q + j)) = true) → V true mX7_scanToken (d + 9) bc bs 61 [(0, aR 8 0), (1, aR 7 0), (2, aI (nI q)), (3, aI (nI n)), (4, aI (nI (q + m)))] [] h P := by
      intro r
      induction r with
      | zero =>
        intro m hr h1 h2 h3
        refine wX7_scanToken_61 ⟨fun _ => fin m h1 (h2.trans (sp_0 (Or.inl (by omega)))) h3, fun y => absurd (nI_le (by omega) (by omega)) y⟩
      | succ r ih =>
        intro m hr h1 h2 h3
        refine wX7_scanToken_61 ⟨fun y => absurd y (nI_ge (by omega) (by omega)), fun _ => ⟨vp_in_nI (by omega) (by decide), ?_⟩⟩
        rw [nI_clamp (by omega), nI_1]
        refine ⟨fun y => fin m h1 (h2.trans (sp_0 (Or.inr ?_))) h3, fun y => ?_⟩
        · cases w : dg8 (b (q + m)) with
          | true => exact absurd ((bp (q + m) (by omega)).2.mpr w) y
          | false => rfl
        · have l := (bp (q + m) (by omega)).2.mp y
          exact ih (m + 1) (by omega) (by omega) (h2.trans (sp_1 (f := fun j => dg8 (b j)) (by omega) l)) (fun j hj => by
            rcases Nat.lt_or_ge j m with q1 | q1
            · exact h3 j q1
            · rw [show j = m by omega]; exact l)
    exact lp (n - (q + 1)) 1 rfl (by omega) (sp_1 (f := fun j => dg8 (b j)) hq d0) (fun j hj => by rw [show j = 0 by omega]; exact d0)
  · have l0 := (bp q hq).1.mp z
    have fin : ∀ m, q + m ≤ n → tkL b n q = q + m → (∀ j, j < m → lt8 (b (q + j)) = true) → Cl true mX7_wordKind (d + 8) 0 0 [aR 7 0, aI (nI q), aI (nI (q + m))] h (fun r1 h2 => ∃ x3 : Int32, r1 = some (aI x3) ∧ (Cl true mX7_add (d + 8) 0 0 [aR 8 0, aI x3, aI (nI q), aI 0] h2 (fun r4 h5 => r4 = none ∧ P (some (aI (nI (q + m)))) h5))) := by
      intro m h1 h2 h3
      have ek : tk1 b n q = (wk (rb b q m), q, 0, q + m) := by
        unfold tk1
        rw [if_pos l0, h2, Nat.add_sub_cancel_left]
      refine cWk hn hb tc h1 h3 ⟨_, rfl, ?_⟩
      refine cAddT (d := d + 5) e hi ta (by rw [ei, ek]) (by rw [ei, ek]) (by rw [ei, ek]; rfl) (fun y e1 e2 e3 => ⟨rfl, ?_⟩)
      have := k y e1 e2 e3
      rw [ek] at this
      exact this
    have lp : ∀ r m, n - (q + m) = r → q + m ≤ n → tkL b n q = tkL b n (q + m) → (∀ j, j < m → lt8 (b (q + j)) = true) → V true mX7_scanToken (d + 9) bc bs 14 [(0, aR 8 0), (1, aR 7 0), (2, aI (nI q)), (3, aI (nI n)), (4, aI (nI (q + m)))] [] h P := by
      intro r
      induction r with
      | zero =>
        intro m hr h1 h2 h3
        refine wX7_scanToken_14 ⟨fun _ => fin m h1 (h2.trans (sp_0 (Or.inl (by omega)))) h3, fun y => absurd (nI_le (by omega) (by omega)) y⟩
      | succ r ih =>
        intro m hr h1 h2 h3
        refine wX7_scanToken_14 ⟨fun y => absurd y (nI_ge (by omega) (by omega)), fun _ => ⟨vp_in_nI (by omega) (by decide), ?_⟩⟩
        rw [nI_clamp (by omega), nI_1]
        refine ⟨fun y => fin m h1 (h2.trans (sp_0 (Or.inr ?_))) h3, fun y => ?_⟩
        · cases w : lt8 (b (q + m)) with
          | true => exact absurd ((bp (q + m) (by omega)).1.mpr w) y
          | false => rfl
        · have l := (bp (q + m) (by omega)).1.mp y
          exact ih (m + 1) (by omega) (by omega) (h2.trans (sp_1 (f := fun j => lt8 (b j)) (by omega) l)) (fun j hj => by
            rcases Nat.lt_or_ge j m with q1 | q1
            · exact h3 j q1
            · rw [show j = m by omega]; exact l)
    exact lp (n - (q + 1)) 1 rfl (by omega) (sp_1 (f := fun j => lt8 (b j)) hq l0) (fun j hj => by rw [show j = 0 by omega]; exact l0)
theorem cScan (hn : n ≤ 400) (hb : ∀ j, j < n → b j < 256) (tc : TCb b n h) (k : ∀ y c, c ≤ n → Eqo FS h y → TA b n (c + 1) y → gI y 8 0 3 = nI (c + 1) → (tokT b n c).1 = 256 → (∀ j, j < c → (tokT b n j).1 ≠ 256) → P none y) : Cl true mX7_scan (d + 10) bc bs [aR 8 0, aR 7 0, aI (nI n)] h P := by
  have lp : ∀ r p m i x, n - p = r → p ≤ n → m ≤ p → i ≤ p → Eqo FS h x → TA b n i x → gI x 8 0 3 = nI i → tokT b n i = nxT b n p → (∀ j, j < i → (tokT b n j).1 ≠ 256) → V true mX7_scan (d + 10) bc bs 18 [(0, aR 8 0), (1, aR 7 0), (3, aI (nI n)), (4, aI (nI p)), (5, aI (nI m))] [] x P := by
    have stop : ∀ i x, i ≤ n → Eqo FS h x → TA b n i x → gI x 8 0 3 = nI i → tokT b n i = nxT b n n → (∀ j, j < i → (tokT b n j).1 ≠ 256) → Cl true mX7_add (d + 9) 0 0 [aR 8 0, aI 256, aI (nI n), aI 0] x (fun r1 h2 => r1 = none ∧ P none h2) := by
      intro i x hi e ta e8 et hk
      rw [nxT_end] at et
      exact cAddT (d := d + 6) e8 (by omega) ta (by rw [et]; rfl) (by rw [et]) (by rw [et]; rfl) (fun y e1 e2 e3 => ⟨rfl, k y i hi (e.tr e1) e2 e3 (by rw [et]) hk⟩)
    intro r
    induction r using Nat.strongRecOn with
    | _ r ih =>
      intro p m i x hr hp hm hi e ta e8 et hk
      rcases Nat.lt_or_ge p n with hlt | hge
      · have hbp := hb p hlt
        have tc' : TCb b n x := fun j hj => ((e.1 7 0 j rfl).1).trans (tc j hj)
        have vin : vp_in (nI p) 400 := vp_in_nI (by omega) (by decide)
        have bl : bl8 (b p) = true → V true mX7_scan (d + 10) bc bs 18 [(0, aR 8 0), (1, aR 7 0), (3, aI (nI n)), (4, aI (nI (p + 1))), (5, aI (nI (m + 1)))] [] x P := fun q => ih (n - (p + 1)) (by omega) (p + 1) (m + 1) i x rfl (by omega) (by omega) (by omega) e ta e8 (et.trans (nxT_bl hlt q)) hk
        refine wX7_scan_18 ⟨fun z => absurd (show nI 400 ≤ nI m from z) (nI_ge (by omega) (by decide)), fun _ => ⟨fun z => absurd z (nI_ge hlt (by omega)), fun _ => ⟨vin, ?_⟩⟩⟩
        rw [nI_clamp (by omega), tc' p hlt, nI_1, nI_1]
        refine ⟨fun z => bl (decide_eq_true (Or.inl ((by_32 _ hbp).mp z))), fun z1 => ⟨vin, fun z2 => ?_, fun z => bl (decide_eq_true (Or.inr ((by_10 _ hbp).mp z)))⟩⟩
        have nb : bl8 (b p) = false := decide_eq_false (fun z => by
          rcases z with z | z
          · exact z1 ((by_32 _ hbp).mpr z)
          · exact z2 ((by_10 _ hbp).mpr z))
        have et' : tokT b n i = tk1 b n p := et.trans (nxT_nb hlt nb)
        have ok := tk1_ok hb hlt
        refine cTok (d := d) hn hb tc' hlt et' e8 (by omega) ta (fun y e1 e2 e3 => ⟨_, rfl, ?_⟩)
        refine ih (n - (tk1 b n p).2.2.2) (by omega) _ (m + 1) (i + 1) y rfl ok.2.2.2.2.2 (by omega) (by omega) (e.tr e1) e2 e3 ?_ (fun j hj => ?_)
        · show nxT b n (nxT b n (posT b n i)).2.2.2 = _
          rw [show nxT b n (posT b n i) = tk1 b n p from et']
        · rcases Nat.lt_or_ge j i with q | q
          · exact hk j q
          · rw [show j = i by omega, et']; exact ok.1
      · obtain rfl : p = n := by omega
        refine wX7_scan_18 ⟨fun _ => stop i x hi e ta e8 et hk, fun _ => ⟨fun _ => stop i x hi e ta e8 et hk, fun z => absurd (nI_le (Nat.le_refl _) (by omega)) z⟩⟩
  refine wX7_scan ?_
  rw [show minF (nI n) 400 = nI n from if_neg (show ¬ nI 400 < nI n from nI_nlt hn (by decide))]
  exact lp n 0 0 0 _ rfl (Nat.zero_le _) (Nat.le_refl _) (Nat.le_refl _) (Eqo.rf.sI rfl) (fun j hj => absurd hj (Nat.not_lt_zero _)) (gI_same.trans nI_0.symm) rfl (fun j hj => absurd hj (Nat.not_lt_zero _))
end SC

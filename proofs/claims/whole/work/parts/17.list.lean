-- ===== numbers =====
theorem toI_lit0 : (0 : Int32).toInt = 0 := by decide
theorem toI_lit1 : (1 : Int32).toInt = 1 := by decide
theorem nI_sub1 {n : Nat} (hn : n < 2 ^ 30) : (nI n - 1).toInt = (n : Int) - 1 := by
  have := pk_sub_toInt (a := n) (b := 1) hn (by decide)
  exact this
theorem inR_ix {x : Int32} {n : Nat} (hn : n < 2 ^ 30) (h : inR x 0 (nI n - 1)) : ∃ j : Nat, j < n ∧ x = nI j := by
  obtain ⟨j, hj, rfl⟩ := nI_of h.1
  refine ⟨j, ?_, rfl⟩
  have h2 := h.2
  rw [iLt, nI_sub1 hn, nI_toInt hj] at h2
  omega
theorem inR_of {j n : Nat} (hn : n < 2 ^ 30) (hj : j < n) : inR (nI j) 0 (nI n - 1) := by
  refine ⟨nI_pos (by omega), ?_⟩
  rw [iLt, nI_sub1 hn, nI_toInt (by omega)]
  omega
theorem inR_iff {x a b : Int32} : inR x a b ↔ a.toInt ≤ x.toInt ∧ x.toInt ≤ b.toInt := by
  unfold inR
  rw [iLt, iLt]
  omega
/-- a range of numbers from 0 on -/
theorem inR_nat {x b : Int32} {n : Nat} (hb : b.toInt = n) (h : inR x 0 b) : ∃ j : Nat, j ≤ n ∧ x = nI j := by
  obtain ⟨j, hj, rfl⟩ := nI_of h.1
  refine ⟨j, ?_, rfl⟩
  have h2 := h.2
  rw [iLt, nI_toInt hj, hb] at h2
  omega
-- ===== the library's checks, texts =====
section LB
variable {d bc bs : Nat} {h : HS} {P : Option AV → HS → Prop}
theorem cChk {a b : Int32} {q : Option PT} (h0 : ¬ a < 0) (h1 : a < b) (k : P (some (aI a)) h) : Cl true mJ3_checkIndex_8e157 (d + 3) bc bs [aI a, aI b, aP q] h P := wJ3_checkIndex_8e157 ⟨fun z => absurd z h0, fun _ => ⟨fun _ => k, fun z2 => absurd h1 z2⟩⟩
theorem cOchk {a b : Int32} (h0 : ¬ a < 0) (h1 : a < b) (k : P (some (aI a)) h) : Cl true mJ15_checkIndex_7cf53 (d + 4) bc bs [aI a, aI b] h P := wJ15_checkIndex_7cf53 (cChk h0 h1 ⟨_, rfl, k⟩)
theorem cLen {j : Nat} (hj : j < 7) (k : P (some (aI (nI (sLn.getD j 0)))) h) : Cl true mJ0_length_8abf5 (d + 4) bc bs [aR 65 j] h P := by
  refine wJ0_length_8abf5 hj ⟨hj, wJ0_coder_7d493 hj ⟨by decide +kernel, ⟨_, rfl, ?_⟩⟩⟩
  rw [show Int32.ofNat (sLn.getD j 0) >>> ((0 : Int32) &&& 31) = nI (sLn.getD j 0) from sb_shr0 _]
  exact k
theorem sBy_char : ∀ j, j < 7 → ∀ i, i < 5 → (Int32.toUInt32 (((sBy.getD j []).getD i 0) &&& 255) % 65536).toInt32 = (sBy.getD j []).getD i 0 ∧ narrow .char (.int ((sBy.getD j []).getD i 0)) = .int ((sBy.getD j []).getD i 0) := by decide +kernel
theorem sLn5 : ∀ j, j < 7 → sLn.getD j 0 ≤ 5 := by decide
theorem cChar {j i : Nat} (hj : j < 7) (hi : i < sLn.getD j 0) (k : P (some (aI ((sBy.getD j []).getD i 0))) h) : Cl true mJ0_charAt_5068e (d + 6) bc bs [aR 65 j, aI (nI i)] h P := by
  have h5 := sLn5 j hj
  obtain ⟨e1, e2⟩ := sBy_char j hj i (by omega)
  have ec : (nI i).toNatClampNeg = i := nI_clamp (by omega)
  refine wJ0_charAt_5068e hj ⟨hj, wJ0_isLatin1_aae02 hj ⟨_, rfl, ⟨fun z => absurd z (by decide), fun _ => ?_⟩⟩⟩
  refine wJ1_charAt_3b067 hj (wJ0_checkIndex_df160 (fun q => cChk (nI_pos (by omega)) (nI_lt hi (by omega)) ⟨_, rfl, rfl, vp_in_nI hi (by omega), ?_⟩))
  rw [ec, e1]
  exact ⟨e2, ⟨_, rfl, e2, k⟩⟩
end LB
-- ===== lists: n elements (e, 0) .. (e, n - 1) in the row (b, cap) =====
def LsL (h : HS) (c b e n : Nat) : Prop := gI h c 0 2 = nI n ∧ ((n = 0 ∧ gR h c 0 1 = some (66, 0) ∧ ∀ m, (b, m) ∉ h.2.2) ∨ ∃ cap, gR h c 0 1 = some (b, cap) ∧ n ≤ cap ∧ 10 ≤ cap ∧ cap ≤ 200 ∧ (∀ m, (b, m) ∈ h.2.2 → m ≤ cap) ∧ ∀ j, j < n → gR h b cap j = some (e, j))
def AddR (h h2 : HS) (c b e n : Nat) : Prop := (∀ c' i k, c' ≠ c → c' ≠ b → gI h2 c' i k = gI h c' i k) ∧ (∀ c' i k, c' ≠ c → c' ≠ b → gR h2 c' i k = gR h c' i k) ∧ LsL h2 c b e (n + 1) ∧ ∀ q : PT, q.1 ≠ b → (q ∈ h2.2.2 ↔ q ∈ h.2.2)
theorem shr1 {n : Nat} (hn : n < 2 ^ 31) : Int32.ofNat n >>> ((1 : Int32) &&& 31) = nI (n / 2) := by
  have k := pk_shrN (n := n) hn ((1 : Int32) &&& 31) 1 (by decide)
  rw [Nat.pow_one] at k
  exact k
section LS1
variable {d bc bs : Nat} {h : HS} {P : Option AV → HS → Prop}
theorem cGet_1 {n j : Nat} (hL : LsL h 1 63 60 n) (hj : j < n) (k : P (some (aR 60 j)) h) : Cl true mJx4a65c_get_915e3 (d + 5) bc bs [aR 1 0, aI (nI j)] h P := by
  obtain ⟨e1, ⟨h0, -⟩ | ⟨cap, hc, hle, hc1, hc2, -, he⟩⟩ := hL
  · omega
  · refine wJx4a65c_get_915e3_1 (cOchk (nI_pos (by omega)) (by rw [e1]; exact nI_lt hj (by omega)) ⟨_, rfl, ?_⟩)
    refine wJx4a65c_elementData_915e3_1 ⟨hc, vp_in_nI (by omega) (by omega), ⟨_, rfl, ?_⟩⟩
    rw [nI_clamp (by omega), he j hj]
    exact k
set_option maxHeartbeats 1000000 in
theorem cAdd_1 {n : Nat} (hL : LsL h 1 63 60 n) (hn : n < 120) (k : ∀ h2, AddR h h2 1 63 60 n → P (some (aI 1)) h2) : Cl true mJx4a65c_add_9ea2d (d + 8) 1 200 [aR 1 0, aR 60 n] h P := by
  obtain ⟨e1, h2⟩ := hL
  have ecn : (nI n).toNatClampNeg = n := nI_clamp (by omega)
  rcases h2 with ⟨h0, hr, hf⟩ | ⟨cap, hc, hle, hc1, hc2, hm, he⟩
  · subst h0
    refine wJx4a65c_add_9ea2d_1e ⟨hr, Nat.le_refl _, Nat.le_refl _, ?_⟩
    rw [e1]
    refine wJx4a65c_add_72be8_1e ⟨fun z => absurd nI_0 z, fun _ => ⟨Nat.le_refl _, Nat.le_refl _, ?_⟩⟩
    refine wJx4a65c_grow_d5877_1 ⟨Nat.le_refl _, Nat.le_refl _, ?_⟩
    have em : maxF 10 (gI (sI h 1 0 0 (gI h 1 0 0 + 1)) 1 0 2 + 1) = nI 10 := by
      rw [show gI (sI h 1 0 0 (gI h 1 0 0 + 1)) 1 0 2 = gI h 1 0 2 from rfl, e1]
      decide
    refine wJx4a65c_grow_92f84_1e ⟨hr, hr, 10, by rw [em]; decide, by rw [em]; decide, by decide, Nat.le_refl _, by decide, hf 10, ⟨_, rfl, ⟨10, rfl, vp_in_nI (by decide) (by decide), ⟨rfl, ?_⟩⟩⟩⟩
    refine k _ ⟨fun c' i q n1 n2 => ?_, fun c' i q n1 n2 => ?_, ⟨?_, Or.inr ⟨10, ?_, by decide, by decide, by decide, fun m hm => ?_, fun j hj => ?_⟩⟩, fun q hq => ?_⟩
    · rw [gI_sI, if_neg (fun z => n1 z.1), gI_sR, gI_sR, gI_nw, if_neg (fun z => n2 z.1), gI_sI, if_neg (fun z => n1 z.1)]
    · rw [gR_sI, gR_sR, if_neg (fun z => n2 z.1), gR_sR, if_neg (fun z => n1 z.1), gR_nw, if_neg (fun z => n2 z.1), gR_sI]
    · rw [gI_same]; exact nI_1 0
    · rfl
    · have hm' : (63, m) ∈ h.2.2 ++ [(63, 10)] := hm
      rcases List.mem_append.mp hm' with z | z
      · exact absurd z (hf m)
      · have : (63, m) = (63, 10) := by simpa using z
        cases this
        exact Nat.le_refl _
    · have : j = 0 := by omega
      subst this
      rw [gR_sI, gR_sR, if_pos ⟨rfl, by rw [ecn], rfl⟩]
    · show q ∈ h.2.2 ++ [(63, 10)] ↔ q ∈ h.2.2
      constructor
      · intro z
        rcases List.mem_append.mp z with z | z
        · exact z
        · have : q = (63, 10) := by simpa using z
          exact absurd (by rw [this]) hq
      · exact fun z => List.mem_append_left _ z
  · refine wJx4a65c_add_9ea2d_1b (t0 := cap) ⟨hc, Nat.le_refl _, Nat.le_refl _, ?_⟩
    rw [e1]
    refine wJx4a65c_add_72be8_1b ⟨fun z => ⟨vp_in_nI ?_ (by omega), ⟨rfl, ?_⟩⟩, fun z => ⟨Nat.le_refl _, Nat.le_refl _, ?_⟩⟩
    · rcases Nat.lt_or_ge n cap with q | q
      · exact q
      · exact absurd (by rw [show n = cap by omega]; rfl) z
    · refine k _ ⟨fun c' i q n1 n2 => ?_, fun c' i q n1 n2 => ?_, ⟨?_, Or.inr ⟨cap, ?_, ?_, hc1, hc2, hm, fun j hj => ?_⟩⟩, fun q hq => Iff.rfl⟩
      · rw [gI_sI, if_neg (fun z => n1 z.1), gI_sR, gI_sI, if_neg (fun z => n1 z.1)]
      · rw [gR_sI, gR_sR, if_neg (fun z => n2 z.1), gR_sI]
      · rw [gI_same]; exact nI_1 n
      · rw [gR_sI, gR_sR, if_neg (fun z => absurd z.1 (by decide)), gR_sI]; exact hc
      · rcases Nat.lt_or_ge n cap with q | q
        · omega
        · exact absurd (by rw [show n = cap by omega]; rfl) z
      · rw [gR_sI, gR_sR, ecn]
        by_cases e : j = n
        · rw [if_pos ⟨rfl, e, rfl⟩, e]
        · rw [if_neg (fun z => e z.2.1), gR_sI]; exact he j (by omega)
    · have hnc : n = cap := (nI_eq (by omega) (by omega)).mp z
      subst hnc
      have hn2 : n ≠ n + n / 2 := by omega
      have enl : Int32.ofNat n + maxF (nI n + 1 - Int32.ofNat n) (Int32.ofNat n >>> ((1 : Int32) &&& 31)) = nI (n + n / 2) := by
        rw [shr1 (by omega), show nI n + 1 - Int32.ofNat n = nI 1 by
          rw [nI_1]
          have k := pk_sub (a := n + 1) (b := n) (by omega)
          rw [Nat.add_sub_cancel_left] at k
          exact k]
        unfold maxF
        rw [if_pos (nI_lt (by omega) (by omega))]
        exact nI_add n (n / 2)
      have emin : Int32.toNatClampNeg (minF (Int32.ofNat n) (nI (n + n / 2))) = n := by
        unfold minF
        rw [if_neg (show ¬ nI (n + n / 2) < Int32.ofNat n from nI_nlt (a := n + n / 2) (b := n) (by omega) (by omega))]
        exact nI_clamp (by omega)
      have emin0 : ¬ minF (Int32.ofNat n) (nI (n + n / 2)) < 0 := by
        unfold minF
        rw [if_neg (show ¬ nI (n + n / 2) < Int32.ofNat n from nI_nlt (a := n + n / 2) (b := n) (by omega) (by omega))]
        exact nI_pos (n := n) (by omega)
      refine wJx4a65c_grow_d5877_1 ⟨Nat.le_refl _, Nat.le_refl _, ?_⟩
      rw [show gI (sI h 1 0 0 (gI h 1 0 0 + 1)) 1 0 2 = gI h 1 0 2 from rfl, e1]
      refine wJx4a65c_grow_92f84_1b (t0 := n) ⟨hc, ⟨fun _ => ?_, fun z => absurd (show nI 0 < nI n from nI_lt (by omega) (by omega)) z⟩⟩
      refine wJ8_newLength_cabcc ⟨fun z => ?_, fun _ => ⟨fun z => ?_, fun _ => ⟨_, rfl, hc, Nat.le_refl _, Nat.le_refl _, ?_⟩⟩⟩
      · rw [enl] at z
        exact absurd z (nI_nle (by omega) (by omega))
      · rw [enl] at z
        exact absurd z (show ¬ nI 2147483639 < nI (n + n / 2) from nI_nlt (by omega) (by decide))
      · rw [enl]
        refine wJ7_copyOf_1904c_1 ⟨Nat.le_refl _, Nat.le_refl _, wJ7_copyOf_6403c_1 ⟨n + n / 2, nI_pos (by omega), nI_clamp (by omega), by omega, Nat.le_refl _, by omega, fun z => ?_, hn2, emin0, by rw [emin]; omega, by rw [emin]; omega, fun q hq p hp => ?_, ?_⟩⟩
        · have := hm _ z
          omega
        · rw [emin] at hq
          rw [gR_nw, if_neg (fun z => hn2 z.2), gR_sI, he q hq] at hp
          cases hp
          exact Or.inl ⟨q, rfl⟩
        · rw [emin]
          refine ⟨_, rfl, ⟨_, rfl, ⟨_, rfl, ⟨_, rfl, vp_in_nI (by omega) (by omega), rfl, ?_⟩⟩⟩⟩
          refine k _ ⟨fun c' i q n1 n2 => ?_, fun c' i q n1 n2 => ?_, ⟨?_, Or.inr ⟨n + n / 2, ?_, by omega, by omega, by omega, fun m hm2 => ?_, fun j hj => ?_⟩⟩, fun q hq => ?_⟩
          · rw [gI_sI, if_neg (fun z => n1 z.1), gI_sR, gI_sR, gI_cp, gI_nw, if_neg (fun z => n2 z.1), gI_sI, if_neg (fun z => n1 z.1)]
          · rw [gR_sI, gR_sR, if_neg (fun z => n2 z.1), gR_sR, if_neg (fun z => n1 z.1), gR_cp, if_neg (fun z => n2 z.1), gR_nw, if_neg (fun z => n2 z.1), gR_sI]
          · rw [gI_same]; exact nI_1 n
          · rw [gR_sI, gR_sR, if_neg (fun z => absurd z.1 (by decide)), gR_sR, if_pos ⟨rfl, rfl, rfl⟩]
          · have hm' : (63, m) ∈ h.2.2 ++ [(63, n + n / 2)] := hm2
            rcases List.mem_append.mp hm' with z | z
            · have := hm m z
              omega
            · have : (63, m) = (63, n + n / 2) := by simpa using z
              cases this
              exact Nat.le_refl _
          · rw [gR_sI, gR_sR, ecn]
            by_cases e : j = n
            · rw [if_pos ⟨rfl, e, rfl⟩, e]
            · rw [if_neg (fun z => e z.2.1), gR_sR, if_neg (fun z => absurd z.1 (by decide)), gR_cp, if_pos ⟨rfl, rfl, by omega⟩, gR_nw, if_neg (fun z => hn2 z.2), gR_sI]
              exact he j (by omega)
          · show q ∈ h.2.2 ++ [(63, n + n / 2)] ↔ q ∈ h.2.2
            constructor
            · intro z
              rcases List.mem_append.mp z with z | z
              · exact z
              · have : q = (63, n + n / 2) := by simpa using z
                exact absurd (by rw [this]) hq
            · exact fun z => List.mem_append_left _ z
end LS1
section LS2
variable {d bc bs : Nat} {h : HS} {P : Option AV → HS → Prop}
theorem cGet_2 {n j : Nat} (hL : LsL h 2 64 62 n) (hj : j < n) (k : P (some (aR 62 j)) h) : Cl true mJx4a65c_get_915e3 (d + 5) bc bs [aR 2 0, aI (nI j)] h P := by
  obtain ⟨e1, ⟨h0, -⟩ | ⟨cap, hc, hle, hc1, hc2, -, he⟩⟩ := hL
  · omega
  · refine wJx4a65c_get_915e3_2 (cOchk (nI_pos (by omega)) (by rw [e1]; exact nI_lt hj (by omega)) ⟨_, rfl, ?_⟩)
    refine wJx4a65c_elementData_915e3_2 ⟨hc, vp_in_nI (by omega) (by omega), ⟨_, rfl, ?_⟩⟩
    rw [nI_clamp (by omega), he j hj]
    exact k
set_option maxHeartbeats 1000000 in
theorem cAdd_2 {n : Nat} (hL : LsL h 2 64 62 n) (hn : n < 120) (k : ∀ h2, AddR h h2 2 64 62 n → P (some (aI 1)) h2) : Cl true mJx4a65c_add_9ea2d (d + 8) 1 200 [aR 2 0, aR 62 n] h P := by
  obtain ⟨e1, h2⟩ := hL
  have ecn : (nI n).toNatClampNeg = n := nI_clamp (by omega)
  rcases h2 with ⟨h0, hr, hf⟩ | ⟨cap, hc, hle, hc1, hc2, hm, he⟩
  · subst h0
    refine wJx4a65c_add_9ea2d_2e ⟨hr, Nat.le_refl _, Nat.le_refl _, ?_⟩
    rw [e1]
    refine wJx4a65c_add_72be8_2e ⟨fun z => absurd nI_0 z, fun _ => ⟨Nat.le_refl _, Nat.le_refl _, ?_⟩⟩
    refine wJx4a65c_grow_d5877_2 ⟨Nat.le_refl _, Nat.le_refl _, ?_⟩
    have em : maxF 10 (gI (sI h 2 0 0 (gI h 2 0 0 + 1)) 2 0 2 + 1) = nI 10 := by
      rw [show gI (sI h 2 0 0 (gI h 2 0 0 + 1)) 2 0 2 = gI h 2 0 2 from rfl, e1]
      decide
    refine wJx4a65c_grow_92f84_2e ⟨hr, hr, 10, by rw [em]; decide, by rw [em]; decide, by decide, Nat.le_refl _, by decide, hf 10, ⟨_, rfl, ⟨10, rfl, vp_in_nI (by decide) (by decide), ⟨rfl, ?_⟩⟩⟩⟩
    refine k _ ⟨fun c' i q n1 n2 => ?_, fun c' i q n1 n2 => ?_, ⟨?_, Or.inr ⟨10, ?_, by decide, by decide, by decide, fun m hm => ?_, fun j hj => ?_⟩⟩, fun q hq => ?_⟩
    · rw [gI_sI, if_neg (fun z => n1 z.1), gI_sR, gI_sR, gI_nw, if_neg (fun z => n2 z.1), gI_sI, if_neg (fun z => n1 z.1)]
    · rw [gR_sI, gR_sR, if_neg (fun z => n2 z.1), gR_sR, if_neg (fun z => n1 z.1), gR_nw, if_neg (fun z => n2 z.1), gR_sI]
    · rw [gI_same]; exact nI_1 0
    · rfl
    · have hm' : (64, m) ∈ h.2.2 ++ [(64, 10)] := hm
      rcases List.mem_append.mp hm' with z | z
      · exact absurd z (hf m)
      · have : (64, m) = (64, 10) := by simpa using z
        cases this
        exact Nat.le_refl _
    · have : j = 0 := by omega
      subst this
      rw [gR_sI, gR_sR, if_pos ⟨rfl, by rw [ecn], rfl⟩]
    · show q ∈ h.2.2 ++ [(64, 10)] ↔ q ∈ h.2.2
      constructor
      · intro z
        rcases List.mem_append.mp z with z | z
        · exact z
        · have : q = (64, 10) := by simpa using z
          exact absurd (by rw [this]) hq
      · exact fun z => List.mem_append_left _ z
  · refine wJx4a65c_add_9ea2d_2b (t0 := cap) ⟨hc, Nat.le_refl _, Nat.le_refl _, ?_⟩
    rw [e1]
    refine wJx4a65c_add_72be8_2b ⟨fun z => ⟨vp_in_nI ?_ (by omega), ⟨rfl, ?_⟩⟩, fun z => ⟨Nat.le_refl _, Nat.le_refl _, ?_⟩⟩
    · rcases Nat.lt_or_ge n cap with q | q
      · exact q
      · exact absurd (by rw [show n = cap by omega]; rfl) z
    · refine k _ ⟨fun c' i q n1 n2 => ?_, fun c' i q n1 n2 => ?_, ⟨?_, Or.inr ⟨cap, ?_, ?_, hc1, hc2, hm, fun j hj => ?_⟩⟩, fun q hq => Iff.rfl⟩
      · rw [gI_sI, if_neg (fun z => n1 z.1), gI_sR, gI_sI, if_neg (fun z => n1 z.1)]
      · rw [gR_sI, gR_sR, if_neg (fun z => n2 z.1), gR_sI]
      · rw [gI_same]; exact nI_1 n
      · rw [gR_sI, gR_sR, if_neg (fun z => absurd z.1 (by decide)), gR_sI]; exact hc
      · rcases Nat.lt_or_ge n cap with q | q
        · omega
        · exact absurd (by rw [show n = cap by omega]; rfl) z
      · rw [gR_sI, gR_sR, ecn]
        by_cases e : j = n
        · rw [if_pos ⟨rfl, e, rfl⟩, e]
        · rw [if_neg (fun z => e z.2.1), gR_sI]; exact he j (by omega)
    · have hnc : n = cap := (nI_eq (by omega) (by omega)).mp z
      subst hnc
      have hn2 : n ≠ n + n / 2 := by omega
      have enl : Int32.ofNat n + maxF (nI n + 1 - Int32.ofNat n) (Int32.ofNat n >>> ((1 : Int32) &&& 31)) = nI (n + n / 2) := by
        rw [shr1 (by omega), show nI n + 1 - Int32.ofNat n = nI 1 by
          rw [nI_1]
          have k := pk_sub (a := n + 1) (b := n) (by omega)
          rw [Nat.add_sub_cancel_left] at k
          exact k]
        unfold maxF
        rw [if_pos (nI_lt (by omega) (by omega))]
        exact nI_add n (n / 2)
      have emin : Int32.toNatClampNeg (minF (Int32.ofNat n) (nI (n + n / 2))) = n := by
        unfold minF
        rw [if_neg (show ¬ nI (n + n / 2) < Int32.ofNat n from nI_nlt (a := n + n / 2) (b := n) (by omega) (by omega))]
        exact nI_clamp (by omega)
      have emin0 : ¬ minF (Int32.ofNat n) (nI (n + n / 2)) < 0 := by
        unfold minF
        rw [if_neg (show ¬ nI (n + n / 2) < Int32.ofNat n from nI_nlt (a := n + n / 2) (b := n) (by omega) (by omega))]
        exact nI_pos (n := n) (by omega)
      refine wJx4a65c_grow_d5877_2 ⟨Nat.le_refl _, Nat.le_refl _, ?_⟩
      rw [show gI (sI h 2 0 0 (gI h 2 0 0 + 1)) 2 0 2 = gI h 2 0 2 from rfl, e1]
      refine wJx4a65c_grow_92f84_2b (t0 := n) ⟨hc, ⟨fun _ => ?_, fun z => absurd (show nI 0 < nI n from nI_lt (by omega) (by omega)) z⟩⟩
      refine wJ8_newLength_cabcc ⟨fun z => ?_, fun _ => ⟨fun z => ?_, fun _ => ⟨_, rfl, hc, Nat.le_refl _, Nat.le_refl _, ?_⟩⟩⟩
      · rw [enl] at z
        exact absurd z (nI_nle (by omega) (by omega))
      · rw [enl] at z
        exact absurd z (show ¬ nI 2147483639 < nI (n + n / 2) from nI_nlt (by omega) (by decide))
      · rw [enl]
        refine wJ7_copyOf_1904c_2 ⟨Nat.le_refl _, Nat.le_refl _, wJ7_copyOf_6403c_2 ⟨n + n / 2, nI_pos (by omega), nI_clamp (by omega), by omega, Nat.le_refl _, by omega, fun z => ?_, hn2, emin0, by rw [emin]; omega, by rw [emin]; omega, fun q hq p hp => ?_, ?_⟩⟩
        · have := hm _ z
          omega
        · rw [emin] at hq
          rw [gR_nw, if_neg (fun z => hn2 z.2), gR_sI, he q hq] at hp
          cases hp
          exact Or.inr ⟨q, rfl⟩
        · rw [emin]
          refine ⟨_, rfl, ⟨_, rfl, ⟨_, rfl, ⟨_, rfl, vp_in_nI (by omega) (by omega), rfl, ?_⟩⟩⟩⟩
          refine k _ ⟨fun c' i q n1 n2 => ?_, fun c' i q n1 n2 => ?_, ⟨?_, Or.inr ⟨n + n / 2, ?_, by omega, by omega, by omega, fun m hm2 => ?_, fun j hj => ?_⟩⟩, fun q hq => ?_⟩
          · rw [gI_sI, if_neg (fun z => n1 z.1), gI_sR, gI_sR, gI_cp, gI_nw, if_neg (fun z => n2 z.1), gI_sI, if_neg (fun z => n1 z.1)]
          · rw [gR_sI, gR_sR, if_neg (fun z => n2 z.1), gR_sR, if_neg (fun z => n1 z.1), gR_cp, if_neg (fun z => n2 z.1), gR_nw, if_neg (fun z => n2 z.1), gR_sI]
          · rw [gI_same]; exact nI_1 n
          · rw [gR_sI, gR_sR, if_neg (fun z => absurd z.1 (by decide)), gR_sR, if_pos ⟨rfl, rfl, rfl⟩]
          · have hm' : (64, m) ∈ h.2.2 ++ [(64, n + n / 2)] := hm2
            rcases List.mem_append.mp hm' with z | z
            · have := hm m z
              omega
            · have : (64, m) = (64, n + n / 2) := by simpa using z
              cases this
              exact Nat.le_refl _
          · rw [gR_sI, gR_sR, ecn]
            by_cases e : j = n
            · rw [if_pos ⟨rfl, e, rfl⟩, e]
            · rw [if_neg (fun z => e z.2.1), gR_sR, if_neg (fun z => absurd z.1 (by decide)), gR_cp, if_pos ⟨rfl, rfl, by omega⟩, gR_nw, if_neg (fun z => hn2 z.2), gR_sI]
              exact he j (by omega)
          · show q ∈ h.2.2 ++ [(64, n + n / 2)] ↔ q ∈ h.2.2
            constructor
            · intro z
              rcases List.mem_append.mp z with z | z
              · exact z
              · have : q = (64, n + n / 2) := by simpa using z
                exact absurd (by rw [this]) hq
            · exact fun z => List.mem_append_left _ z
end LS2

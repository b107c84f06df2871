-- ===== reading the rule: loops of terms and sums =====
def CLx (b : Nat → Nat) (n c s : Nat) (M : MT) (o D j : Nat) (r : RR) : Prop := ∀ (h : HS), CB b n c s h → ∀ (D' bc bs q : Nat) (sl : List (Nat × Nat)) (x : HS) (P : Option AV → HS → Prop), D ≤ D' → q ≤ j → CF s h x → CSx s j sl x → sl.length ≤ j → CPost b n s h P sl r → V true M D' bc bs 12 [(0, aR 19 0), (1, aI (nI o)), (2, aI (nI q))] [] x P
def RLx (b : Nat → Nat) (n : Nat) (M : MT) (o D j : Nat) (r : RR) : Prop := ∀ (g : HS), TP b n g → ∀ (D' bc bs : Nat) (sm : List Nat) (x : HS) (P : Option AV → HS → Prop), D ≤ D' → Eqo FMp g x → RSx b n j sm x → sm.length ≤ j → gI x 26 0 43 = nI o → gI x 26 0 40 = gI g 26 0 40 → RPost b n g P o sm r → V true M D' bc bs 9 [(0, aR 26 0)] [] x P
def RGl (c j w : Nat) (r : RR) : Prop := ∀ j2 l, r = .inr (j2, l) → j ≤ j2 ∧ j2 ≤ c ∧ l.length ≤ j2 - j ∧ (exs l).length ≤ j2 - j ∧ (∀ t ∈ l, stOK t) ∧ ∀ m, m + w ≤ 60 → hts 60 l (m + 1) = some (m + 1)
def XL (b : Nat → Nat) (n c s : Nat) (Mc Mm : MT) (o D w j : Nat) : Prop := ∃ r, CLx b n c s Mc o D j r ∧ RLx b n Mm o D j r ∧ RGl c j w r
section EY
variable {b : Nat → Nat} {n c s : Nat} {h g : HS} {P : Option AV → HS → Prop} {d bc bs : Nat}
/-- a part, then the rest of its loop -/
theorem seqQ {Mc Mm : MT} {o D w : Nat} {l0 : List (Nat × Nat)} (r1 : RR) (hL : ∀ j1 l1, r1 = .inr (j1, l1) → XL b n c s Mc Mm o D w j1) : ∃ r : RR, (∀ f j, r1 = .inl (f, j) → r = .inl (f, j)) ∧ (∀ j1 l1, r1 = .inr (j1, l1) → ∃ r2, CLx b n c s Mc o D j1 r2 ∧ RLx b n Mm o D j1 r2 ∧ RGl c j1 w r2 ∧ r = seqR (l1 ++ l0) r2) := by
  rcases r1 with ⟨f, j⟩ | ⟨j, l⟩
  · exact ⟨.inl (f, j), fun f' j' e => e, fun j' l' e => (by cases e)⟩
  · obtain ⟨r2, a1, a2, a3⟩ := hL j l rfl
    exact ⟨seqR (l ++ l0) r2, fun f' j' e => (by cases e), fun j' l' e => (by cases e; exact ⟨r2, a1, a2, a3, rfl⟩)⟩
theorem xTl {o i : Nat} (T : Tks b n c) (ho : o ≤ 8) (U : ∀ i2, i < i2 → i2 ≤ c → XU b n c s o i2) : ∀ m j, c - j = m → i ≤ j → j ≤ c → XL b n c s mX2_readTerm mX10_product o (3 * (8 - o) + 9) (18 - 2 * o) j := by
  have h400 := T.1
  have hcn := T.2.2.1
  intro m
  induction m using Nat.strongRecOn with
  | _ m ih =>
  intro j hm hij hj
  have kb := T.k j
  have clt : ∀ {v : Nat}, v < 1000 → (nI (tK b n j) = nI v ↔ tK b n j = v) := fun hv => cKe kb hv
  by_cases k42 : tK b n j = 42
  · have jc : j < c := T.lt hj (by omega)
    obtain ⟨r1, c1, m1, g1⟩ := U (j + 1) (by omega) (by omega)
    obtain ⟨r, Q1, Q2⟩ := seqQ (l0 := [(42, 0)]) r1 (fun j1 l1 hr => ih (c - j1) (by have := g1 j1 l1 hr; omega) j1 rfl (by have := g1 j1 l1 hr; omega) (g1 j1 l1 hr).2.1)
    refine ⟨r, ?_, ?_, ?_⟩
    · intro h B D bc bs q sl x P hD hq e cs hl po
      obtain ⟨d, rfl⟩ : ∃ d, D = d + 4 := ⟨D - 4, by omega⟩
      refine wX2_readTerm_12 (d := d + 1) ?_
      rw [(knT T B e hj cs.1).1, nI_1]
      refine ⟨fun z => absurd (show nI 400 < nI q from z) (nI_nlt (by omega) (by decide)), fun _ => ⟨fun z => absurd ((clt (v := 42) (by decide)).mpr k42) z, fun _ => ?_⟩⟩
      refine c1 h B _ 0 0 sl _ _ (by omega) (e.sI rfl) cs.at (by omega) ⟨fun f j1 hr y a1 a2 a3 => ⟨0, rfl, fun z => absurd rfl z, fun _ => po.1 f j1 (Q1 f j1 hr) y a1 a2 a3⟩, fun j1 l1 hr y a1 a2 => ⟨1, rfl, fun _ => ⟨s, ((a1.1.1 19 0 1 rfl).2).trans B.2.2, ?_⟩, fun z => absurd z (by decide)⟩⟩
      obtain ⟨r2, b1, b2, b3, b4⟩ := Q2 j1 l1 hr
      have hj1 := g1 j1 l1 hr
      rw [b4] at po
      have len : (sl ++ l1).length ≤ j1 - 1 := by rw [List.length_append]; omega
      refine cAdS (d := d) a1 a2 (by omega) (kk := 42) (v := 0) rfl rfl (fun y2 a3 a4 => ⟨rfl, ?_⟩)
      have pq := po.seq
      rw [← List.append_assoc] at pq
      exact b1 h B _ bc bs (q + 1) _ y2 P (by omega) (by omega) a3 a4 (by rw [List.length_append]; simp; omega) pq
    · intro g tp D bc bs sm x P hD e rs hl e43 e40 po
      obtain ⟨d, rfl⟩ : ∃ d, D = d + 4 := ⟨D - 4, by omega⟩
      refine wX10_product_9 (d := d + 1) ?_
      rw [rs.1.2.1]
      have n47 : ¬ nI (mK (tokT b n j).1) = 47 := fun z => absurd ((m47 kb).mp z) (by omega)
      refine ⟨fun _ => ⟨fun _ => ?_, fun z => absurd z n47⟩, fun z => absurd ((m42 kb).mpr k42) z⟩
      refine mNx T tp e rs (fun y d1 d2 d3 d4 => ⟨rfl, ?_⟩)
      refine m1 g tp _ 0 0 sm y _ (by omega) d1 d2 (by omega) (d3.trans e43) (d4.trans e40) ⟨fun f j1 hr y2 a1 a2 a3 => ⟨0, rfl, fun z => absurd rfl z, fun _ => po.1 f j1 (Q1 f j1 hr) y2 a1 a2 a3⟩, fun j1 l1 hr y2 a1 a2 a3 a4 => ⟨1, rfl, fun _ => ?_, fun z => absurd z (by decide)⟩⟩
      obtain ⟨r2, b1, b2, b3, b4⟩ := Q2 j1 l1 hr
      have hj1 := g1 j1 l1 hr
      rw [b4] at po
      have len : (sm ++ exs l1).length ≤ j1 - 1 := by rw [List.length_append]; omega
      refine mLay (d := d) a1 a2 (by omega) (v := 1000012) rfl (fun y3 a5 a6 a7 a8 => ⟨rfl, ?_⟩)
      have pq := po.seq
      rw [exs_app, ← List.append_assoc] at pq
      exact b2 g tp _ bc bs _ y3 P (by omega) a5 a6 (by rw [List.length_append]; simp; omega) (a7.trans a3) (a8.trans a4) pq
    · intro j2 l hr
      rcases r1 with ⟨f, j1⟩ | ⟨j1, l1⟩
      · rw [Q1 f j1 rfl] at hr; cases hr
      · obtain ⟨r2, b1, b2, b3, b4⟩ := Q2 j1 l1 rfl
        have hj1 := g1 j1 l1 rfl
        rcases r2 with ⟨f, j3⟩ | ⟨j3, l3⟩
        · rw [b4] at hr; cases hr
        · rw [b4] at hr
          cases hr
          have hj2 := b3 j2 l3 rfl
          refine ⟨by omega, by omega, by simp; omega, by rw [exs_app, exs_app, List.length_append, List.length_append, show (exs [(42, 0)]).length = 1 from rfl]; omega, fun t ht => ?_, fun m hm => ?_⟩
          · rcases List.mem_append.mp ht with z | z
            · rcases List.mem_append.mp z with z | z
              · exact hj1.2.2.2.2.1 t z
              · have : t = (42, 0) := by simpa using z
                rw [this]
                exact ⟨by decide, by simp⟩
            · exact hj2.2.2.2.2.1 t z
          · rw [List.append_assoc, hts_app (hj1.2.2.2.2.2 (m + 1) (by omega))]
            show hts 60 ((42, 0) :: l3) (m + 1 + 1) = _
            rw [hts_bE (by decide) (by decide) (by omega)]
            exact hj2.2.2.2.2.2 m (by omega)
  by_cases k47 : tK b n j = 47
  · have jc : j < c := T.lt hj (by omega)
    have n42 : ¬ nI (tK b n j) = 42 := fun z => k42 ((clt (v := 42) (by decide)).mp z)
    have kb1 := T.k (j + 1)
    have e47 : nI (tK b n j) = 47 := (clt (v := 47) (by decide)).mpr k47
    have m47' : nI (mK (tokT b n j).1) = 47 := (m47 kb).mpr k47
    have n42' : ¬ nI (mK (tokT b n j).1) = 42 := fun z => k42 ((m42 kb).mp z)
    by_cases kn : tK b n (j + 1) = 258
    · have jc1 : j + 1 < c := T.lt (by omega) (by omega)
      have mn : nI (mK (tokT b n (j + 1)).1) = 2 := (m_2 kb1).mpr kn
      by_cases z0 : tN b n (j + 1) = 0
      · refine ⟨.inl (2, j + 1), ?_, ?_, fun j2 l hr => (by cases hr)⟩
        · intro h B D bc bs q sl x P hD hq e cs hl po
          obtain ⟨d, rfl⟩ : ∃ d, D = d + 5 := ⟨D - 5, by omega⟩
          refine wX2_readTerm_12 (d := d + 2) ?_
          rw [(knT T B e hj cs.1).1]
          refine ⟨fun z => absurd (show nI 400 < nI q from z) (nI_nlt (by omega) (by decide)), fun _ => ⟨fun _ => ⟨fun z => absurd e47 z, fun _ => ?_⟩, fun z => absurd z n42⟩⟩
          have kt := knT T B (e.sI (k := 2) (v := gI x 19 0 2 + 1) rfl) (show j + 1 ≤ c by omega) cs.at.1
          refine wX2_readDivisor (d := d + 1) ?_
          rw [kt.1, kt.2]
          refine ⟨fun _ => ⟨fun z => absurd (by rw [z0]; rfl) z, fun _ => ?_⟩, fun z => absurd ((cKe kb1 (v := 258) (by decide)).mpr kn) z⟩
          exact cFail (f := 2) T B (e.sI rfl) (show j + 1 ≤ c by omega) cs.at.1 rfl (fun y a1 a2 a3 => ⟨0, rfl, Or.inl rfl, ⟨0, rfl, fun z => absurd rfl z, fun _ => po.1 2 (j + 1) rfl y a1 a2 a3⟩⟩)
        · intro g tp D bc bs sm x P hD e rs hl e43 e40 po
          obtain ⟨d, rfl⟩ : ∃ d, D = d + 4 := ⟨D - 4, by omega⟩
          refine wX10_product_9 (d := d + 1) ?_
          rw [rs.1.2.1]
          refine ⟨fun z => absurd z n42', fun _ => ⟨fun z => absurd m47' z, fun _ => ⟨fun z => absurd m47' z, fun _ => ?_⟩⟩⟩
          refine mNx T tp e rs (fun y d1 d2 d3 d4 => ⟨rfl, ?_⟩)
          rw [d2.1.2.1, d2.1.2.2.2 kn]
          exact ⟨fun _ => ⟨fun z => absurd (show nI (tN b n (j + 1)) = 0 by rw [z0]; rfl) z, fun _ => mBadB d1 d2 rfl po rfl⟩, fun z => absurd mn z⟩
      · obtain ⟨r2, b1, b2, b3⟩ := ih (c - (j + 2)) (by omega) (j + 2) rfl (by omega) (by omega)
        have hN := T.m (j + 1)
        have nz : ¬ nI (tN b n (j + 1)) = 0 := nI_ne0 (by omega) (by omega)
        refine ⟨seqR [(47, tN b n (j + 1))] r2, ?_, ?_, ?_⟩
        · intro h B D bc bs q sl x P hD hq e cs hl po
          obtain ⟨d, rfl⟩ : ∃ d, D = d + 5 := ⟨D - 5, by omega⟩
          refine wX2_readTerm_12 (d := d + 2) ?_
          rw [(knT T B e hj cs.1).1, nI_1]
          refine ⟨fun z => absurd (show nI 400 < nI q from z) (nI_nlt (by omega) (by decide)), fun _ => ⟨fun _ => ⟨fun z => absurd e47 z, fun _ => ?_⟩, fun z => absurd z n42⟩⟩
          have kt := knT T B (e.sI (k := 2) (v := gI x 19 0 2 + 1) rfl) (show j + 1 ≤ c by omega) cs.at.1
          refine wX2_readDivisor (d := d + 1) ?_
          rw [kt.1, kt.2]
          refine ⟨fun _ => ⟨fun _ => ⟨s, ((e.1.1 19 0 1 rfl).2).trans B.2.2, ?_⟩, fun z => absurd z nz⟩, fun z => absurd ((cKe kb1 (v := 258) (by decide)).mpr kn) z⟩
          refine cAdS (d := d) (e.sI rfl) cs.at (by omega) (kk := 47) (v := tN b n (j + 1)) rfl rfl (fun y2 a3 a4 => ⟨rfl, ⟨1, rfl, fun _ => ?_, fun z => absurd z (by decide)⟩⟩)
          exact b1 h B _ bc bs (q + 1) _ _ P (by omega) (by omega) (a3.sI rfl) a4.at (by rw [List.length_append]; simp; omega) po.seq
        · intro g tp D bc bs sm x P hD e rs hl e43 e40 po
          obtain ⟨d, rfl⟩ : ∃ d, D = d + 5 := ⟨D - 5, by omega⟩
          refine wX10_product_9 (d := d + 2) ?_
          rw [rs.1.2.1]
          refine ⟨fun z => absurd z n42', fun _ => ⟨fun z => absurd m47' z, fun _ => ⟨fun z => absurd m47' z, fun _ => ?_⟩⟩⟩
          refine mNx (d := d + 1) T tp e rs (fun y d1 d2 d3 d4 => ⟨rfl, ?_⟩)
          rw [d2.1.2.1, d2.1.2.2.2 kn]
          refine ⟨fun _ => ⟨fun _ => ?_, fun z => absurd z nz⟩, fun z => absurd mn z⟩
          refine mUnum T tp d1 d2 (by omega) kn (fun y2 a1 a2 a3 a4 => ⟨1, rfl, fun _ => ?_, fun z => absurd z (by decide)⟩)
          refine mLay (d := d + 1) a1 a2 (by rw [List.length_append]; simp; omega) (v := 1000013) rfl (fun y3 a5 a6 a7 a8 => ⟨rfl, ?_⟩)
          have pq := po.seq
          rw [show exs [(47, tN b n (j + 1))] = [tN b n (j + 1)] ++ [1000013] from rfl, ← List.append_assoc] at pq
          exact b2 g tp _ bc bs _ y3 P (by omega) a5 a6 (by simp; omega) ((a7.trans (a3.trans d3)).trans e43) ((a8.trans (a4.trans d4)).trans e40) pq
        · intro j2 l hr
          rcases r2 with ⟨f, j3⟩ | ⟨j3, l3⟩
          · cases hr
          · cases hr
            have hj2 := b3 j2 l3 rfl
            refine ⟨by omega, by omega, by simp; omega, by rw [exs_app, show exs [(47, tN b n (j + 1))] = [tN b n (j + 1), 1000013] from rfl]; simp; omega, fun t ht => ?_, fun m hm => ?_⟩
            · rcases List.mem_append.mp ht with z | z
              · have : t = (47, tN b n (j + 1)) := by simpa using z
                rw [this]
                exact ⟨hN, Or.inr (Or.inr (Or.inl ⟨rfl, z0⟩))⟩
              · exact hj2.2.2.2.2.1 t z
            · show hts 60 ((47, tN b n (j + 1)) :: l3) (m + 1) = _
              rw [hts_dE rfl (by omega)]
              exact hj2.2.2.2.2.2 m (by omega)
    · refine ⟨.inl (1, j + 1), ?_, ?_, fun j2 l hr => (by cases hr)⟩
      · intro h B D bc bs q sl x P hD hq e cs hl po
        obtain ⟨d, rfl⟩ : ∃ d, D = d + 5 := ⟨D - 5, by omega⟩
        refine wX2_readTerm_12 (d := d + 2) ?_
        rw [(knT T B e hj cs.1).1]
        refine ⟨fun z => absurd (show nI 400 < nI q from z) (nI_nlt (by omega) (by decide)), fun _ => ⟨fun _ => ⟨fun z => absurd e47 z, fun _ => ?_⟩, fun z => absurd z n42⟩⟩
        have kt := knT T B (e.sI (k := 2) (v := gI x 19 0 2 + 1) rfl) (show j + 1 ≤ c by omega) cs.at.1
        refine wX2_readDivisor (d := d + 1) ?_
        rw [kt.1]
        refine ⟨fun z => absurd ((cKe kb1 (v := 258) (by decide)).mp z) kn, fun _ => ?_⟩
        exact cFail (f := 1) T B (e.sI rfl) (show j + 1 ≤ c by omega) cs.at.1 rfl (fun y a1 a2 a3 => ⟨0, rfl, Or.inl rfl, ⟨0, rfl, fun z => absurd rfl z, fun _ => po.1 1 (j + 1) rfl y a1 a2 a3⟩⟩)
      · intro g tp D bc bs sm x P hD e rs hl e43 e40 po
        obtain ⟨d, rfl⟩ : ∃ d, D = d + 4 := ⟨D - 4, by omega⟩
        refine wX10_product_9 (d := d + 1) ?_
        rw [rs.1.2.1]
        refine ⟨fun z => absurd z n42', fun _ => ⟨fun z => absurd m47' z, fun _ => ⟨fun z => absurd m47' z, fun _ => ?_⟩⟩⟩
        refine mNx T tp e rs (fun y d1 d2 d3 d4 => ⟨rfl, ?_⟩)
        rw [d2.1.2.1]
        exact ⟨fun z => absurd ((m_2 kb1).mp z) kn, fun _ => mBadB d1 d2 rfl po rfl⟩
  · refine ⟨.inr (j, []), ?_, ?_, ?_⟩
    · intro h B D bc bs q sl x P hD hq e cs hl po
      obtain ⟨d, rfl⟩ : ∃ d, D = d + 3 := ⟨D - 3, by omega⟩
      refine wX2_readTerm_12 ?_
      rw [(knT T B e hj cs.1).1]
      exact ⟨fun z => absurd (show nI 400 < nI q from z) (nI_nlt (by omega) (by decide)), fun _ => ⟨fun _ => ⟨fun _ => po.2 j [] rfl x e (by rw [List.append_nil]; exact cs), fun z => absurd ((clt (v := 47) (by decide)).mp z) k47⟩, fun z => absurd ((clt (v := 42) (by decide)).mp z) k42⟩⟩
    · intro g tp D bc bs sm x P hD e rs hl e43 e40 po
      obtain ⟨d, rfl⟩ : ∃ d, D = d + 3 := ⟨D - 3, by omega⟩
      refine wX10_product_9 ?_
      rw [rs.1.2.1]
      exact ⟨fun z => absurd ((m42 kb).mp z) k42, fun _ => ⟨fun _ => po.2 j [] rfl x e (by rw [show exs [] = [] from rfl, List.append_nil]; exact rs) e43 e40, fun z => absurd ((m47 kb).mp z) k47⟩⟩
    · intro j2 l hr
      cases hr
      exact ⟨Nat.le_refl _, hj, Nat.zero_le _, Nat.zero_le _, fun t ht => absurd ht List.not_mem_nil, fun m _ => rfl⟩
theorem xT {o i : Nat} (T : Tks b n c) (ho : o ≤ 8) (U1 : XU b n c s o i) (U : ∀ i2, i < i2 → i2 ≤ c → XU b n c s o i2) : XT b n c s o i := by
  obtain ⟨r1, c1, m1, g1⟩ := U1
  obtain ⟨r, Q1, Q2⟩ := seqQ (l0 := []) r1 (fun j1 l1 hr => xTl T ho U (c - j1) j1 rfl (by have := g1 j1 l1 hr; omega) (g1 j1 l1 hr).2.1)
  refine ⟨r, ?_, ?_, ?_⟩
  · intro h B D bc bs sl x P hD e cs hl po
    obtain ⟨d, rfl⟩ : ∃ d, D = d + 3 := ⟨D - 3, by omega⟩
    refine wX2_readTerm ?_
    refine c1 h B _ 0 0 sl _ _ (by omega) e cs hl ⟨fun f j1 hr y a1 a2 a3 => ⟨0, rfl, fun z => absurd rfl z, fun _ => po.1 f j1 (Q1 f j1 hr) y a1 a2 a3⟩, fun j1 l1 hr y a1 a2 => ⟨1, rfl, fun _ => ?_, fun z => absurd z (by decide)⟩⟩
    obtain ⟨r2, b1, b2, b3, b4⟩ := Q2 j1 l1 hr
    have hj1 := g1 j1 l1 hr
    rw [b4, List.append_nil] at po
    exact b1 h B _ bc bs 0 _ y P (by omega) (Nat.zero_le _) a1 a2 (by rw [List.length_append]; omega) po.seq
  · intro g tp D bc bs sm x P hD e rs hl e43 e40 po
    obtain ⟨d, rfl⟩ : ∃ d, D = d + 3 := ⟨D - 3, by omega⟩
    refine wX10_product ?_
    refine m1 g tp _ 0 0 sm x _ (by omega) e rs hl e43 e40 ⟨fun f j1 hr y2 a1 a2 a3 => ⟨0, rfl, fun z => absurd rfl z, fun _ => po.1 f j1 (Q1 f j1 hr) y2 a1 a2 a3⟩, fun j1 l1 hr y2 a1 a2 a3 a4 => ⟨1, rfl, fun _ => ?_, fun z => absurd z (by decide)⟩⟩
    obtain ⟨r2, b1, b2, b3, b4⟩ := Q2 j1 l1 hr
    have hj1 := g1 j1 l1 hr
    rw [b4, List.append_nil] at po
    exact b2 g tp _ bc bs _ y2 P (by omega) a1 a2 (by rw [List.length_append]; omega) a3 a4 po.seq
  · intro j2 l hr
    rcases r1 with ⟨f, j1⟩ | ⟨j1, l1⟩
    · rw [Q1 f j1 rfl] at hr; cases hr
    · obtain ⟨r2, b1, b2, b3, b4⟩ := Q2 j1 l1 rfl
      have hj1 := g1 j1 l1 rfl
      rw [List.append_nil] at b4
      rcases r2 with ⟨f, j3⟩ | ⟨j3, l3⟩
      · rw [b4] at hr; cases hr
      · rw [b4] at hr
        cases hr
        have hj2 := b3 j2 l3 rfl
        refine ⟨by omega, by omega, by simp; omega, by rw [exs_app, List.length_append]; omega, fun t ht => ?_, fun m hm => ?_⟩
        · rcases List.mem_append.mp ht with z | z
          · exact hj1.2.2.2.2.1 t z
          · exact hj2.2.2.2.2.1 t z
        · rw [hts_app (hj1.2.2.2.2.2 m (by omega))]
          exact hj2.2.2.2.2.2 m hm
theorem xSl {o i : Nat} (T : Tks b n c) (ho : o ≤ 8) (U : ∀ i2, i < i2 → i2 ≤ c → XT b n c s o i2) : ∀ m j, c - j = m → i ≤ j → j ≤ c → XL b n c s mX2_readSum mX10_sum o (3 * (8 - o) + 10) (19 - 2 * o) j := by
  have h400 := T.1
  have hcn := T.2.2.1
  intro m
  induction m using Nat.strongRecOn with
  | _ m ih =>
  intro j hm hij hj
  have kb := T.k j
  have clt : ∀ {v : Nat}, v < 1000 → (nI (tK b n j) = nI v ↔ tK b n j = v) := fun hv => cKe kb hv
  by_cases ks : tK b n j = 43 ∨ tK b n j = 45
  · have jc : j < c := T.lt hj (by omega)
    obtain ⟨r1, c1, m1, g1⟩ := U (j + 1) (by omega) (by omega)
    obtain ⟨r, Q1, Q2⟩ := seqQ (l0 := [(tK b n j, 0)]) r1 (fun j1 l1 hr => ih (c - j1) (by have := g1 j1 l1 hr; omega) j1 rfl (by have := g1 j1 l1 hr; omega) (g1 j1 l1 hr).2.1)
    refine ⟨r, ?_, ?_, ?_⟩
    · intro h B D bc bs q sl x P hD hq e cs hl po
      obtain ⟨d, rfl⟩ : ∃ d, D = d + 4 := ⟨D - 4, by omega⟩
      have go : Cl true mX2_readTerm (d + 3) 0 0 [aR 19 0, aI (nI o)] (sI x 19 0 2 (gI x 19 0 2 + 1)) (fun r6 h7 => ∃ x8 : Int32, r6 = some (aI x8) ∧ ((¬ x8 = 0 → (∃ t9, gR h7 19 0 1 = some (12, t9) ∧ (Cl true mX1_addStep (d + 3) 0 0 [aR 12 t9, aI (nI (tK b n j)), aI 0] h7 (fun r10 h11 => r10 = none ∧ (V true mX2_readSum (d + 4) bc bs 12 [(0, aR 19 0), (1, aI (nI o)), (2, aI (nI (q + 1)))] [] h11 P))))) ∧ (x8 = 0 → P (some (aI 0)) h7))) := by
        refine c1 h B _ 0 0 sl _ _ (by omega) (e.sI rfl) cs.at (by omega) ⟨fun f j1 hr y a1 a2 a3 => ⟨0, rfl, fun z => absurd rfl z, fun _ => po.1 f j1 (Q1 f j1 hr) y a1 a2 a3⟩, fun j1 l1 hr y a1 a2 => ⟨1, rfl, fun _ => ⟨s, ((a1.1.1 19 0 1 rfl).2).trans B.2.2, ?_⟩, fun z => absurd z (by decide)⟩⟩
        obtain ⟨r2, b1, b2, b3, b4⟩ := Q2 j1 l1 hr
        have hj1 := g1 j1 l1 hr
        rw [b4] at po
        have len : (sl ++ l1).length ≤ j1 - 1 := by rw [List.length_append]; omega
        refine cAdS (d := d) a1 a2 (by omega) (kk := tK b n j) (v := 0) rfl rfl (fun y2 a3 a4 => ⟨rfl, ?_⟩)
        have pq := po.seq
        rw [← List.append_assoc] at pq
        exact b1 h B _ bc bs (q + 1) _ y2 P (by omega) (by omega) a3 a4 (by rw [List.length_append]; simp; omega) pq
      refine wX2_readSum_12 (d := d + 1) ?_
      rw [(knT T B e hj cs.1).1, nI_1]
      refine ⟨fun z => absurd (show nI 400 < nI q from z) (nI_nlt (by omega) (by decide)), fun _ => ⟨fun _ => go, fun z1 => ⟨fun _ => go, fun z2 => ?_⟩⟩⟩
      rcases ks with k | k
      · exact absurd ((clt (v := 43) (by decide)).mpr k) z1
      · exact absurd ((clt (v := 45) (by decide)).mpr k) z2
    · intro g tp D bc bs sm x P hD e rs hl e43 e40 po
      obtain ⟨d, rfl⟩ : ∃ d, D = d + 4 := ⟨D - 4, by omega⟩
      have go : ∀ (v : Nat) (v1 : Int32), v1 = nI v → ex1 (tK b n j, 0) = [v] → Cl true mX10_next0 (d + 3) 0 0 [aR 26 0] x (fun r1 h2 => r1 = none ∧ (Cl true mX10_product (d + 3) 0 0 [aR 26 0] h2 (fun r3 h4 => ∃ x5 : Int32, r3 = some (aI x5) ∧ ((¬ x5 = 0 → (Cl true mX10_lay (d + 3) 0 0 [aR 26 0, aI v1] h4 (fun r6 h7 => r6 = none ∧ (V true mX10_sum (d + 4) bc bs 9 [(0, aR 26 0)] [] h7 P)))) ∧ (x5 = 0 → P (some (aI 0)) h4))))) := by
        intro v v1 hv hx
        refine mNx T tp e rs (fun y d1 d2 d3 d4 => ⟨rfl, ?_⟩)
        refine m1 g tp _ 0 0 sm y _ (by omega) d1 d2 (by omega) (d3.trans e43) (d4.trans e40) ⟨fun f j1 hr y2 a1 a2 a3 => ⟨0, rfl, fun z => absurd rfl z, fun _ => po.1 f j1 (Q1 f j1 hr) y2 a1 a2 a3⟩, fun j1 l1 hr y2 a1 a2 a3 a4 => ⟨1, rfl, fun _ => ?_, fun z => absurd z (by decide)⟩⟩
        obtain ⟨r2, b1, b2, b3, b4⟩ := Q2 j1 l1 hr
        have hj1 := g1 j1 l1 hr
        rw [b4] at po
        have len : (sm ++ exs l1).length ≤ j1 - 1 := by rw [List.length_append]; omega
        refine mLay (d := d) a1 a2 (by omega) hv (fun y3 a5 a6 a7 a8 => ⟨rfl, ?_⟩)
        have pq := po.seq
        rw [exs_app, ← List.append_assoc, show exs [(tK b n j, 0)] = [v] by rw [exs_c, hx]; rfl] at pq
        exact b2 g tp _ bc bs _ y3 P (by omega) a5 a6 (by rw [List.length_append]; simp; omega) (a7.trans a3) (a8.trans a4) pq
      refine wX10_sum_9 (d := d + 1) ?_
      rw [rs.1.2.1]
      rcases ks with k | k
      · have q43 : nI (mK (tokT b n j).1) = 43 := (m43 kb).mpr k
        exact ⟨fun _ => ⟨fun z => absurd q43 z, fun _ => go 1000010 _ rfl (by rw [k]; rfl)⟩, fun z => absurd q43 z⟩
      · have q43 : ¬ nI (mK (tokT b n j).1) = 43 := fun z => absurd ((m43 kb).mp z) (by omega)
        have q45 : nI (mK (tokT b n j).1) = 45 := (m45 kb).mpr k
        exact ⟨fun z => absurd z q43, fun _ => ⟨fun z => absurd q45 z, fun _ => ⟨fun _ => go 1000011 _ rfl (by rw [k]; rfl), fun z => absurd z q43⟩⟩⟩
    · intro j2 l hr
      rcases r1 with ⟨f, j1⟩ | ⟨j1, l1⟩
      · rw [Q1 f j1 rfl] at hr; cases hr
      · obtain ⟨r2, b1, b2, b3, b4⟩ := Q2 j1 l1 rfl
        have hj1 := g1 j1 l1 rfl
        have e1 : (exs [(tK b n j, 0)]).length = 1 := by
          rcases ks with k | k
          · rw [k]; rfl
          · rw [k]; rfl
        rcases r2 with ⟨f, j3⟩ | ⟨j3, l3⟩
        · rw [b4] at hr; cases hr
        · rw [b4] at hr
          cases hr
          have hj2 := b3 j2 l3 rfl
          refine ⟨by omega, by omega, by simp; omega, by rw [exs_app, exs_app, List.length_append, List.length_append, e1]; omega, fun t ht => ?_, fun m hm => ?_⟩
          · rcases List.mem_append.mp ht with z | z
            · rcases List.mem_append.mp z with z | z
              · exact hj1.2.2.2.2.1 t z
              · have : t = (tK b n j, 0) := by simpa using z
                rw [this]
                exact ⟨(by decide : (0 : Nat) < 1000000), by rcases ks with k | k <;> simp [k]⟩
            · exact hj2.2.2.2.2.1 t z
          · rw [List.append_assoc, hts_app (hj1.2.2.2.2.2 (m + 1) (by omega))]
            show hts 60 ((tK b n j, 0) :: l3) (m + 1 + 1) = _
            rw [hts_bE (by show ¬ (tK b n j = 258 ∨ 262 ≤ tK b n j); omega) (by show ¬ tK b n j = 47; omega) (by omega)]
            exact hj2.2.2.2.2.2 m (by omega)
  · refine ⟨.inr (j, []), ?_, ?_, ?_⟩
    · intro h B D bc bs q sl x P hD hq e cs hl po
      obtain ⟨d, rfl⟩ : ∃ d, D = d + 3 := ⟨D - 3, by omega⟩
      refine wX2_readSum_12 ?_
      rw [(knT T B e hj cs.1).1]
      exact ⟨fun z => absurd (show nI 400 < nI q from z) (nI_nlt (by omega) (by decide)), fun _ => ⟨fun z => absurd (Or.inl ((clt (v := 43) (by decide)).mp z)) ks, fun _ => ⟨fun z => absurd (Or.inr ((clt (v := 45) (by decide)).mp z)) ks, fun _ => po.2 j [] rfl x e (by rw [List.append_nil]; exact cs)⟩⟩⟩
    · intro g tp D bc bs sm x P hD e rs hl e43 e40 po
      obtain ⟨d, rfl⟩ : ∃ d, D = d + 3 := ⟨D - 3, by omega⟩
      refine wX10_sum_9 ?_
      rw [rs.1.2.1]
      exact ⟨fun z => absurd (Or.inl ((m43 kb).mp z)) ks, fun _ => ⟨fun _ => po.2 j [] rfl x e (by rw [show exs [] = [] from rfl, List.append_nil]; exact rs) e43 e40, fun z => absurd (Or.inr ((m45 kb).mp z)) ks⟩⟩
    · intro j2 l hr
      cases hr
      exact ⟨Nat.le_refl _, hj, Nat.zero_le _, Nat.zero_le _, fun t ht => absurd ht List.not_mem_nil, fun m _ => rfl⟩
theorem xS {o i : Nat} (T : Tks b n c) (ho : o ≤ 8) (U1 : XT b n c s o i) (U : ∀ i2, i < i2 → i2 ≤ c → XT b n c s o i2) : XS b n c s o i := by
  obtain ⟨r1, c1, m1, g1⟩ := U1
  obtain ⟨r, Q1, Q2⟩ := seqQ (l0 := []) r1 (fun j1 l1 hr => xSl T ho U (c - j1) j1 rfl (by have := g1 j1 l1 hr; omega) (g1 j1 l1 hr).2.1)
  refine ⟨r, ?_, ?_, ?_⟩
  · intro h B D bc bs sl x P hD e cs hl po
    obtain ⟨d, rfl⟩ : ∃ d, D = d + 3 := ⟨D - 3, by omega⟩
    refine wX2_readSum ?_
    refine c1 h B _ 0 0 sl _ _ (by omega) e cs hl ⟨fun f j1 hr y a1 a2 a3 => ⟨0, rfl, fun z => absurd rfl z, fun _ => po.1 f j1 (Q1 f j1 hr) y a1 a2 a3⟩, fun j1 l1 hr y a1 a2 => ⟨1, rfl, fun _ => ?_, fun z => absurd z (by decide)⟩⟩
    obtain ⟨r2, b1, b2, b3, b4⟩ := Q2 j1 l1 hr
    have hj1 := g1 j1 l1 hr
    rw [b4, List.append_nil] at po
    exact b1 h B _ bc bs 0 _ y P (by omega) (Nat.zero_le _) a1 a2 (by rw [List.length_append]; omega) po.seq
  · intro g tp D bc bs sm x P hD e rs hl e43 e40 po
    obtain ⟨d, rfl⟩ : ∃ d, D = d + 3 := ⟨D - 3, by omega⟩
    refine wX10_sum ?_
    refine m1 g tp _ 0 0 sm x _ (by omega) e rs hl e43 e40 ⟨fun f j1 hr y2 a1 a2 a3 => ⟨0, rfl, fun z => absurd rfl z, fun _ => po.1 f j1 (Q1 f j1 hr) y2 a1 a2 a3⟩, fun j1 l1 hr y2 a1 a2 a3 a4 => ⟨1, rfl, fun _ => ?_, fun z => absurd z (by decide)⟩⟩
    obtain ⟨r2, b1, b2, b3, b4⟩ := Q2 j1 l1 hr
    have hj1 := g1 j1 l1 hr
    rw [b4, List.append_nil] at po
    exact b2 g tp _ bc bs _ y2 P (by omega) a1 a2 (by rw [List.length_append]; omega) a3 a4 po.seq
  · intro j2 l hr
    rcases r1 with ⟨f, j1⟩ | ⟨j1, l1⟩
    · rw [Q1 f j1 rfl] at hr; cases hr
    · obtain ⟨r2, b1, b2, b3, b4⟩ := Q2 j1 l1 rfl
      have hj1 := g1 j1 l1 rfl
      rw [List.append_nil] at b4
      rcases r2 with ⟨f, j3⟩ | ⟨j3, l3⟩
      · rw [b4] at hr; cases hr
      · rw [b4] at hr
        cases hr
        have hj2 := b3 j2 l3 rfl
        refine ⟨by omega, by omega, by simp; omega, by rw [exs_app, List.length_append]; omega, fun t ht => ?_, fun m hm => ?_⟩
        · rcases List.mem_append.mp ht with z | z
          · exact hj1.2.2.2.2.1 t z
          · exact hj2.2.2.2.2.1 t z
        · rw [hts_app (hj1.2.2.2.2.2 m (by omega))]
          exact hj2.2.2.2.2.2 m hm
theorem xAll (T : Tks b n c) : ∀ m i, c - i = m → i ≤ c → ∀ o, o ≤ 8 → XU b n c s o i ∧ XT b n c s o i ∧ XS b n c s o i := by
  intro m
  induction m using Nat.strongRecOn with
  | _ m ih =>
  intro i hm hi o ho
  have nx : ∀ i2, i < i2 → i2 ≤ c → ∀ o2, o2 ≤ 8 → XU b n c s o2 i2 ∧ XT b n c s o2 i2 ∧ XS b n c s o2 i2 := fun i2 h1 h2 => ih (c - i2) (by omega) i2 rfl h2
  have u := xU (o := o) T hi ho (fun o8 ic => (nx (i + 1) (by omega) (by omega) (o + 1) (by omega)).2.2)
  have t := xT T ho u (fun i2 h1 h2 => (nx i2 h1 h2 o ho).1)
  exact ⟨u, t, xS T ho t (fun i2 h1 h2 => (nx i2 h1 h2 o ho).2.1)⟩
end EY

-- ===== reading the rule: conditions =====
def TCo (bc bs q d : Nat) (P : Option AV → HS → Prop) (y : HS) : Prop := (nI q ≤ 0 → ((knF y = 261 → V true mX2_readCondition (d + 4) bc bs 2 [(0, aR 19 0), (1, aI (nI q + 1))] [] (sI y 19 0 2 (gI y 19 0 2 + 1)) P) ∧ (¬ knF y = 261 → P (some (aI 1)) y))) ∧ (¬ nI q ≤ 0 → (∃ t17, gR y 19 0 1 = some (12, t17) ∧ Cl true mX1_addStep (d + 3) 0 0 [aR 12 t17, aI 261, aI 0] y (fun r18 h19 => r18 = none ∧ ((knF h19 = 261 → V true mX2_readCondition (d + 4) bc bs 2 [(0, aR 19 0), (1, aI (nI q + 1))] [] (sI h19 19 0 2 (gI h19 19 0 2 + 1)) P) ∧ (¬ knF h19 = 261 → P (some (aI 1)) h19)))))
abbrev cmpT (b : Nat → Nat) (n j : Nat) : Prop := tK b n j = 60 ∨ tK b n j = 61 ∨ tK b n j = 62
def CHx (b : Nat → Nat) (n c s i : Nat) (r : RR) : Prop := ∀ (h : HS), CB b n c s h → ∀ (d bc bs q : Nat) (sl : List (Nat × Nat)) (x : HS) (P : Option AV → HS → Prop), 31 ≤ d → q ≤ i → CF s h x → CSx s i sl x → sl.length ≤ i → (∀ f j, r = .inl (f, j) → ∀ y, CF s h y → gI y 19 0 3 = nI f → gI y 19 0 4 = nI (tL b n j) → P (some (aI 0)) y) → (∀ j l, r = .inr (j, l) → ∀ y, CF s h y → CSx s j (sl ++ l) y → TCo bc bs q d P y) → V true mX2_readCondition (d + 4) bc bs 2 [(0, aR 19 0), (1, aI (nI q))] [] x P
def RGh (c i : Nat) (r : RR) : Prop := ∀ j l, r = .inr (j, l) → i < j ∧ j ≤ c ∧ l.length ≤ j - i ∧ (exs l).length ≤ j - i ∧ (∀ t ∈ l, stOK t) ∧ (∀ m, m + 20 ≤ 60 → hts 60 l m = some (m + 1)) ∧ ∃ w k, (k = 60 ∨ k = 61 ∨ k = 62) ∧ l = w ++ [(k, 0)]
section CD
variable {b : Nat → Nat} {n c s : Nat} {P : Option AV → HS → Prop} {d bc bs : Nat}
theorem xH {i : Nat} (T : Tks b n c) (hi : i ≤ c) : ∃ r, CHx b n c s i r ∧ REx b n mX10_holds 0 35 i r ∧ RGh c i r := by
  have h400 := T.1
  have hcn := T.2.2.1
  have X : ∀ i, i ≤ c → XS b n c s 0 i := fun i hi => (xAll T (c - i) i rfl hi 0 (by decide)).2.2
  obtain ⟨r1, c1, m1, g1⟩ := X i hi
  obtain ⟨r, Q1, Q2, Q3⟩ : ∃ r : RR, (∀ f j, r1 = .inl (f, j) → r = .inl (f, j)) ∧ (∀ j1 l1, r1 = .inr (j1, l1) → ¬ cmpT b n j1 → r = .inl (1, j1)) ∧ (∀ j1 l1, r1 = .inr (j1, l1) → cmpT b n j1 → ∃ r2, CEx b n c s mX2_readSum 0 34 (j1 + 1) r2 ∧ REx b n mX10_sum 0 34 (j1 + 1) r2 ∧ RG c (j1 + 1) 19 r2 ∧ (∀ f j, r2 = .inl (f, j) → r = .inl (f, j)) ∧ (∀ j2 l2, r2 = .inr (j2, l2) → r = .inr (j2, l1 ++ l2 ++ [(tK b n j1, 0)]))) := by
    rcases r1 with ⟨f, j⟩ | ⟨j, l⟩
    · exact ⟨.inl (f, j), fun f' j' e => e, fun j' l' e => (by cases e), fun j' l' e => (by cases e)⟩
    · by_cases e : cmpT b n j
      · have jc : j < c := T.lt (g1 j l rfl).2.1 (by unfold cmpT at e; omega)
        obtain ⟨r2, a1, a2, a3⟩ := X (j + 1) (by omega)
        rcases r2 with ⟨f, j2⟩ | ⟨j2, l2⟩
        · exact ⟨.inl (f, j2), fun f' j' e => (by cases e), fun j' l' e2 z => (by cases e2; exact absurd e z), fun j' l' e2 _ => (by cases e2; exact ⟨.inl (f, j2), a1, a2, a3, fun f' j' e => e, fun j' l' e => (by cases e)⟩)⟩
        · exact ⟨.inr (j2, l ++ l2 ++ [(tK b n j, 0)]), fun f' j' e => (by cases e), fun j' l' e2 z => (by cases e2; exact absurd e z), fun j' l' e2 _ => (by cases e2; exact ⟨.inr (j2, l2), a1, a2, a3, fun f' j' e => (by cases e), fun j' l' e => (by cases e; rfl)⟩)⟩
      · exact ⟨.inl (1, j), fun f' j' e => (by cases e), fun j' l' e2 _ => (by cases e2; rfl), fun j' l' e2 z => (by cases e2; exact absurd z e)⟩
  refine ⟨r, ?_, ?_, ?_⟩
  · intro h B d bc bs q sl x P hd hq e cs hl k0 k1
    refine wX2_readCondition_2 (d := d + 1) ⟨fun z => absurd (show nI 400 < nI q from z) (nI_nlt (by omega) (by decide)), fun _ => ?_⟩
    refine c1 h B _ 0 0 sl x _ (by omega) e cs hl ⟨fun f j hr y a1 a2 a3 => ⟨0, rfl, fun z => absurd rfl z, fun _ => k0 f j (Q1 f j hr) y a1 a2 a3⟩, fun j1 l1 hr y a1 a2 => ⟨1, rfl, fun _ => ?_, fun z => absurd z (by decide)⟩⟩
    have hj1 := g1 j1 l1 hr
    have kb := T.k j1
    have ly : (sl ++ l1).length ≤ j1 := by rw [List.length_append]; omega
    rw [(knT T B a1 hj1.2.1 a2.1).1]
    have go : cmpT b n j1 → Cl true mX2_readSum (d + 3) 0 0 [aR 19 0, aI 0] (sI y 19 0 2 (gI y 19 0 2 + 1)) (fun r9 h10 => ∃ x11 : Int32, r9 = some (aI x11) ∧ ((¬ x11 = 0 → (∃ t12, gR h10 19 0 1 = some (12, t12) ∧ (Cl true mX1_addStep (d + 3) 0 0 [aR 12 t12, aI (nI (tK b n j1)), aI 0] h10 (fun r13 h14 => r13 = none ∧ TCo bc bs q d P h14)))) ∧ (x11 = 0 → P (some (aI 0)) h10))) := fun hc => by
      obtain ⟨r2, b1, b2, b3, b4, b5⟩ := Q3 j1 l1 hr hc
      have jc : j1 < c := T.lt hj1.2.1 (by unfold cmpT at hc; omega)
      refine b1 h B _ 0 0 _ _ _ (by omega) (a1.sI rfl) a2.at (by omega) ⟨fun f j hr2 y2 d1 d2 d3 => ⟨0, rfl, fun z => absurd rfl z, fun _ => k0 f j (b4 f j hr2) y2 d1 d2 d3⟩, fun j2 l2 hr2 y2 d1 d2 => ⟨1, rfl, fun _ => ⟨s, ((d1.1.1 19 0 1 rfl).2).trans B.2.2, ?_⟩, fun z => absurd z (by decide)⟩⟩
      have hj2 := b3 j2 l2 hr2
      refine cAdS (d := d) d1 d2 (by rw [List.length_append]; omega) (kk := tK b n j1) (v := 0) rfl rfl (fun y3 d3 d4 => ⟨rfl, k1 j2 _ (b5 j2 l2 hr2) y3 d3 ?_⟩)
      rw [List.append_assoc, ← List.append_assoc, ← List.append_assoc, List.append_assoc sl l1 l2] at *
      simpa [List.append_assoc] using d4
    refine ⟨fun z => go (Or.inl ((cKe kb (v := 60) (by decide)).mp z)), fun z1 => ⟨fun z => go (Or.inr (Or.inl ((cKe kb (v := 61) (by decide)).mp z))), fun z2 => ⟨fun z => go (Or.inr (Or.inr ((cKe kb (v := 62) (by decide)).mp z))), fun z3 => ?_⟩⟩⟩
    refine cFail (f := 1) T B a1 hj1.2.1 a2.1 rfl (fun y2 d1 d2 d3 => ⟨0, rfl, Or.inl rfl, k0 1 j1 (Q2 j1 l1 hr (fun w => ?_)) y2 d1 d2 d3⟩)
    rcases w with w | w | w
    · exact z1 ((cKe kb (v := 60) (by decide)).mpr w)
    · exact z2 ((cKe kb (v := 61) (by decide)).mpr w)
    · exact z3 ((cKe kb (v := 62) (by decide)).mpr w)
  · intro g tp D bc bs sm x P hD e rs hl e43 e40 po
    obtain ⟨d, rfl⟩ : ∃ d, D = d + 4 := ⟨D - 4, by omega⟩
    refine wX10_holds (d := d + 1) ?_
    refine m1 g tp _ 0 0 sm x _ (by omega) e rs hl e43 e40 ⟨fun f j hr y a1 a2 a3 => ⟨0, rfl, fun z => absurd rfl z, fun _ => po.1 f j (Q1 f j hr) y a1 a2 a3⟩, fun j1 l1 hr y a1 a2 a3 a4 => ⟨1, rfl, fun _ => ?_, fun z => absurd z (by decide)⟩⟩
    have hj1 := g1 j1 l1 hr
    have kb := T.k j1
    have ly : (sm ++ exs l1).length ≤ j1 := by rw [List.length_append]; omega
    have go : ∀ (v : Nat) (v1 : Int32), v1 = nI v → ex1 (tK b n j1, 0) = [v] → cmpT b n j1 → Cl true mX10_next0 (d + 3) 0 0 [aR 26 0] y (fun r7 h8 => r7 = none ∧ (Cl true mX10_sum (d + 3) 0 0 [aR 26 0] h8 (fun r9 h10 => ∃ x11 : Int32, r9 = some (aI x11) ∧ ((¬ x11 = 0 → (Cl true mX10_lay (d + 3) 0 0 [aR 26 0, aI v1] h10 (fun r12 h13 => r12 = none ∧ P (some (aI 1)) h13))) ∧ (x11 = 0 → P (some (aI 0)) h10))))) := fun v v1 hv hx hc => by
      obtain ⟨r2, b1, b2, b3, b4, b5⟩ := Q3 j1 l1 hr hc
      have jc : j1 < c := T.lt hj1.2.1 (by unfold cmpT at hc; omega)
      refine mNx T tp a1 a2 (fun y2 d1 d2 d3 d4 => ⟨rfl, ?_⟩)
      refine b2 g tp _ 0 0 _ y2 _ (by omega) d1 d2 (by omega) (d3.trans a3) (d4.trans a4) ⟨fun f j hr2 y3 f1 f2 f3 => ⟨0, rfl, fun z => absurd rfl z, fun _ => po.1 f j (b4 f j hr2) y3 f1 f2 f3⟩, fun j2 l2 hr2 y3 f1 f2 f3 f4 => ⟨1, rfl, fun _ => ?_, fun z => absurd z (by decide)⟩⟩
      have hj2 := b3 j2 l2 hr2
      refine mLay (d := d) f1 f2 (by rw [List.length_append]; omega) hv (fun y4 f5 f6 f7 f8 => ⟨rfl, po.2 j2 _ (b5 j2 l2 hr2) y4 f5 ?_ (f7.trans f3) (f8.trans f4)⟩)
      rw [exs_app, exs_app, show exs [(tK b n j1, 0)] = [v] by rw [exs_c, hx]; rfl]
      simpa [List.append_assoc] using f6
    rw [a2.1.2.1]
    refine ⟨fun z1 => ⟨fun z2 => ⟨fun z3 => ?_, fun z => ?_⟩, fun z => ?_⟩, fun z => ?_⟩
    · refine mBad (f := 1) a1 a2 rfl (fun y2 d1 d2 d3 => ⟨0, rfl, Or.inl rfl, po.1 1 j1 (Q2 j1 l1 hr (fun w => ?_)) y2 d1 d2 d3⟩)
      rcases w with w | w | w
      · exact z1 ((m60 kb).mpr w)
      · exact z2 ((m61 kb).mpr w)
      · exact z3 ((m62 kb).mpr w)
    · have k := (m62 kb).mp z
      exact go 1000016 _ rfl (by rw [k]; rfl) (Or.inr (Or.inr k))
    · have k := (m61 kb).mp z
      exact go 1000015 _ rfl (by rw [k]; rfl) (Or.inr (Or.inl k))
    · have k := (m60 kb).mp z
      exact go 1000014 _ rfl (by rw [k]; rfl) (Or.inl k)
  · intro j l hr
    rcases r1 with ⟨f, j1⟩ | ⟨j1, l1⟩
    · rw [Q1 f j1 rfl] at hr; cases hr
    · have hj1 := g1 j1 l1 rfl
      by_cases e : cmpT b n j1
      · obtain ⟨r2, b1, b2, b3, b4, b5⟩ := Q3 j1 l1 rfl e
        rcases r2 with ⟨f, j2⟩ | ⟨j2, l2⟩
        · rw [b4 f j2 rfl] at hr; cases hr
        · rw [b5 j2 l2 rfl] at hr
          cases hr
          have hj2 := b3 j l2 rfl
          have e1 : (exs [(tK b n j1, 0)]).length = 1 := by
            rcases e with k | k | k <;> rw [k] <;> rfl
          refine ⟨by omega, by omega, by simp; omega, by rw [exs_app, exs_app, List.length_append, List.length_append, e1]; omega, fun t ht => ?_, fun m hm => ?_, ⟨l1 ++ l2, tK b n j1, e, rfl⟩⟩
          · rcases List.mem_append.mp ht with z | z
            · rcases List.mem_append.mp z with z | z
              · exact hj1.2.2.2.2.1 t z
              · exact hj2.2.2.2.2.1 t z
            · have : t = (tK b n j1, 0) := by simpa using z
              rw [this]
              exact ⟨(by decide : (0 : Nat) < 1000000), by rcases e with k | k | k <;> simp [k]⟩
          · rw [List.append_assoc, hts_app (hj1.2.2.2.2.2 m (by omega)), hts_app (hj2.2.2.2.2.2 (m + 1) (by omega))]
            unfold cmpT at e
            rw [hts_bE (by show ¬ (tK b n j1 = 258 ∨ 262 ≤ tK b n j1); omega) (by show ¬ tK b n j1 = 47; omega) (by omega)]
            rfl
      · rw [Q2 j1 l1 rfl e] at hr; cases hr
end CD
def CBx (b : Nat → Nat) (n c s j : Nat) (r : RR) : Prop := ∀ (h : HS), CB b n c s h → ∀ (d bc bs q : Nat) (sl : List (Nat × Nat)) (y : HS) (P : Option AV → HS → Prop), 31 ≤ d → q ≤ j → CF s h y → CSx s j sl y → sl.length ≤ j → CPost b n s h P sl r → ((knF y = 261 → V true mX2_readCondition (d + 4) bc bs 2 [(0, aR 19 0), (1, aI (nI q + 1))] [] (sI y 19 0 2 (gI y 19 0 2 + 1)) P) ∧ (¬ knF y = 261 → P (some (aI 1)) y))
def RBx (b : Nat → Nat) (n j : Nat) (r : RR) : Prop := ∀ (g : HS), TP b n g → ∀ (d bc bs : Nat) (sm : List Nat) (y : HS) (P : Option AV → HS → Prop), 32 ≤ d → Eqo FMp g y → RSx b n j sm y → sm.length ≤ j → gI y 26 0 43 = nI 0 → gI y 26 0 40 = gI g 26 0 40 → (∀ f j', r = .inl (f, j') → ∀ z, Eqo FMp g z → gI z 26 0 40 = nI f → gI z 26 0 41 = nI (tL b n j') → P (some (aI 0)) z) → (∀ j2 l, r = .inr (j2, l) → ∀ z, Eqo FMp g z → RSx b n j2 (sm ++ exs l) z → gI z 26 0 40 = gI g 26 0 40 → Cl true mX10_need (d + 3) 0 0 [aR 26 0, aI 59] z (fun r1 h2 => ∃ x3 : Int32, r1 = some (aI x3) ∧ ((x3 = 0 ∨ x3 = 1) ∧ P (some (aI x3)) h2))) → V true mX10_aLine (d + 4) bc bs 100 [(0, aR 26 0)] [] y P
def RGb (c j : Nat) (r : RR) : Prop := ∀ j2 l, r = .inr (j2, l) → j ≤ j2 ∧ j2 ≤ c ∧ l.length ≤ j2 - j ∧ (exs l).length ≤ j2 - j ∧ (∀ t ∈ l, stOK t) ∧ hts 60 l 1 = some 1 ∧ (l = [] ∨ ∃ w k, (k = 60 ∨ k = 61 ∨ k = 62) ∧ l = w ++ [(k, 0), (261, 0)])
section CE
variable {b : Nat → Nat} {n c s : Nat} {P : Option AV → HS → Prop} {d bc bs : Nat}
theorem xB (T : Tks b n c) : ∀ m j, c - j = m → j ≤ c → ∃ r, CBx b n c s j r ∧ RBx b n j r ∧ RGb c j r := by
  have h400 := T.1
  have hcn := T.2.2.1
  intro m
  induction m using Nat.strongRecOn with
  | _ m ih =>
  intro j hm hj
  have kb := T.k j
  by_cases k1 : tK b n j = 261
  · have jc : j < c := T.lt hj (by omega)
    obtain ⟨r1, c1, m1, g1⟩ := xH (s := s) T (show j + 1 ≤ c by omega)
    obtain ⟨r, Q1, Q2⟩ : ∃ r : RR, (∀ f j, r1 = .inl (f, j) → r = .inl (f, j)) ∧ (∀ j1 l1, r1 = .inr (j1, l1) → ∃ r2, CBx b n c s j1 r2 ∧ RBx b n j1 r2 ∧ RGb c j1 r2 ∧ r = seqR (l1 ++ [(261, 0)]) r2) := by
      rcases r1 with ⟨f, j1⟩ | ⟨j1, l1⟩
      · exact ⟨.inl (f, j1), fun f' j' e => e, fun j' l' e => (by cases e)⟩
      · have hj1 := g1 j1 l1 rfl
        obtain ⟨r2, a1, a2, a3⟩ := ih (c - j1) (by omega) j1 rfl hj1.2.1
        exact ⟨seqR (l1 ++ [(261, 0)]) r2, fun f' j' e => (by cases e), fun j' l' e => (by cases e; exact ⟨r2, a1, a2, a3, rfl⟩)⟩
    refine ⟨r, ?_, ?_, ?_⟩
    · intro h B d bc bs q sl y P hd hq e cs hl po
      refine ⟨fun _ => ?_, fun z => absurd (by rw [(knT T B e hj cs.1).1, k1]; rfl) z⟩
      rw [nI_1]
      refine c1 h B d bc bs (q + 1) sl _ P hd (by omega) (e.sI rfl) cs.at (by omega) (fun f j1 hr => po.1 f j1 (Q1 f j1 hr)) (fun j1 l1 hr y2 a1 a2 => ⟨fun z => absurd z (nI_nle (by omega) (by omega)), fun _ => ⟨s, ((a1.1.1 19 0 1 rfl).2).trans B.2.2, ?_⟩⟩)
      obtain ⟨r2, b1, b2, b3, b4⟩ := Q2 j1 l1 hr
      have hj1 := g1 j1 l1 hr
      rw [b4] at po
      have pq := po.seq
      rw [← List.append_assoc] at pq
      have len : (sl ++ l1).length ≤ j1 - 1 := by rw [List.length_append]; omega
      exact cAdS (d := d) a1 a2 (by omega) (kk := 261) (v := 0) rfl rfl (fun y3 a3 a4 => ⟨rfl, b1 h B d bc bs (q + 1) _ y3 P hd (by omega) a3 a4 (by rw [List.length_append]; simp; omega) pq⟩)
    · intro g tp d bc bs sm y P hd e rs hl e43 e40 k0 k2
      refine wX10_aLine_100 (d := d + 1) ?_
      rw [rs.1.2.1]
      refine ⟨fun z => absurd ((m_5 kb).mpr k1) z, fun _ => ?_⟩
      refine mNx T tp e rs (fun y2 d1 d2 d3 d4 => ⟨rfl, ?_⟩)
      refine m1 g tp _ 0 0 sm y2 _ (by omega) d1 d2 (by omega) (d3.trans e43) (d4.trans e40) ⟨fun f j1 hr y3 a1 a2 a3 => ⟨0, rfl, fun z => absurd rfl z, fun _ => k0 f j1 (Q1 f j1 hr) y3 a1 a2 a3⟩, fun j1 l1 hr y3 a1 a2 a3 a4 => ⟨1, rfl, fun _ => ?_, fun z => absurd z (by decide)⟩⟩
      obtain ⟨r2, b1, b2, b3, b4⟩ := Q2 j1 l1 hr
      have hj1 := g1 j1 l1 hr
      have len : (sm ++ exs l1).length ≤ j1 - 1 := by rw [List.length_append]; omega
      refine mLay (d := d) a1 a2 (by omega) (v := 1000017) rfl (fun y4 a5 a6 a7 a8 => ⟨rfl, ?_⟩)
      refine b2 g tp d bc bs _ y4 P hd a5 a6 (by rw [List.length_append]; simp; omega) (a7.trans a3) (a8.trans a4) (fun f j' hr2 => k0 f j' (by rw [b4, hr2]; rfl)) (fun j2 l2 hr2 z q1 q2 q3 => k2 j2 (l1 ++ [(261, 0)] ++ l2) (by rw [b4, hr2]; rfl) z q1 ?_ q3)
      rw [exs_app, exs_app, show exs [(261, 0)] = [1000017] from rfl]
      simpa [List.append_assoc] using q2
    · intro j2 l hr
      rcases r1 with ⟨f, j1⟩ | ⟨j1, l1⟩
      · rw [Q1 f j1 rfl] at hr; cases hr
      · obtain ⟨r2, b1, b2, b3, b4⟩ := Q2 j1 l1 rfl
        have hj1 := g1 j1 l1 rfl
        rcases r2 with ⟨f, j3⟩ | ⟨j3, l3⟩
        · rw [b4] at hr; cases hr
        · rw [b4] at hr
          cases hr
          have hj2 := b3 j2 l3 rfl
          obtain ⟨w, k, hk, hw⟩ := hj1.2.2.2.2.2.2
          refine ⟨by omega, by omega, by simp; omega, by rw [exs_app, exs_app, List.length_append, List.length_append, show (exs [(261, 0)]).length = 1 from rfl]; omega, fun t ht => ?_, ?_, Or.inr ?_⟩
          · rcases List.mem_append.mp ht with z | z
            · rcases List.mem_append.mp z with z | z
              · exact hj1.2.2.2.2.1 t z
              · have : t = (261, 0) := by simpa using z
                rw [this]
                exact ⟨by decide, by simp⟩
            · exact hj2.2.2.2.2.1 t z
          · rw [List.append_assoc, hts_app (hj1.2.2.2.2.2.1 1 (by decide))]
            show hts 60 ((261, 0) :: l3) 2 = _
            rw [hts_bE (by decide) (by decide) (by decide)]
            exact hj2.2.2.2.2.2.1
          · rcases hj2.2.2.2.2.2.2 with z | ⟨w2, k2, hk2, hw2⟩
            · refine ⟨w, k, hk, ?_⟩
              rw [z, hw]
              simp
            · refine ⟨l1 ++ [(261, 0)] ++ w2, k2, hk2, ?_⟩
              rw [hw2]
              simp
  · refine ⟨.inr (j, []), ?_, ?_, ?_⟩
    · intro h B d bc bs q sl y P hd hq e cs hl po
      rw [(knT T B e hj cs.1).1]
      exact ⟨fun z => absurd ((cKe kb (v := 261) (by decide)).mp z) k1, fun _ => po.2 j [] rfl y e (by rw [List.append_nil]; exact cs)⟩
    · intro g tp d bc bs sm y P hd e rs hl e43 e40 k0 k2
      refine wX10_aLine_100 (d := d + 1) ?_
      rw [rs.1.2.1]
      exact ⟨fun _ => k2 j [] rfl y e (by rw [show exs [] = [] from rfl, List.append_nil]; exact rs) e40, fun z => absurd ((m_5 kb).mp z) k1⟩
    · intro j2 l hr
      cases hr
      exact ⟨Nat.le_refl _, hj, Nat.zero_le _, Nat.zero_le _, fun t ht => absurd ht List.not_mem_nil, rfl, Or.inl rfl⟩
end CE
def CCx (b : Nat → Nat) (n c s i : Nat) (r : RR) : Prop := ∀ (h : HS), CB b n c s h → ∀ (d bc bs : Nat) (sl : List (Nat × Nat)) (x : HS) (P : Option AV → HS → Prop), 31 ≤ d → CF s h x → CSx s i sl x → sl.length ≤ i → CPost b n s h P sl r → Cl true mX2_readCondition (d + 4) bc bs [aR 19 0] x P
def RCx (b : Nat → Nat) (n i : Nat) (r : RR) : Prop := ∀ (g : HS), TP b n g → ∀ (d bc bs : Nat) (sm : List Nat) (x : HS) (P : Option AV → HS → Prop), 32 ≤ d → Eqo FMp g x → RSx b n i sm x → sm.length ≤ i → gI x 26 0 43 = nI 0 → gI x 26 0 40 = gI g 26 0 40 → (∀ f j', r = .inl (f, j') → ∀ z, Eqo FMp g z → gI z 26 0 40 = nI f → gI z 26 0 41 = nI (tL b n j') → P (some (aI 0)) z) → (∀ j2 l, r = .inr (j2, l) → ∀ z, Eqo FMp g z → RSx b n j2 (sm ++ exs l) z → gI z 26 0 40 = gI g 26 0 40 → Cl true mX10_need (d + 3) 0 0 [aR 26 0, aI 59] z (fun r1 h2 => ∃ x3 : Int32, r1 = some (aI x3) ∧ ((x3 = 0 ∨ x3 = 1) ∧ P (some (aI x3)) h2))) → Cl true mX10_holds (d + 3) 0 0 [aR 26 0] x (fun r9 h10 => ∃ x11 : Int32, r9 = some (aI x11) ∧ ((¬ x11 = 0 → V true mX10_aLine (d + 4) bc bs 100 [(0, aR 26 0)] [] h10 P) ∧ (x11 = 0 → P (some (aI 0)) h10)))
def RGc (c i : Nat) (r : RR) : Prop := ∀ j l, r = .inr (j, l) → i < j ∧ j ≤ c ∧ l.length ≤ j - i ∧ (exs l).length ≤ j - i ∧ (∀ t ∈ l, stOK t) ∧ hts 60 l 0 = some 1 ∧ ∃ w0 k, (k.1 = 60 ∨ k.1 = 61 ∨ k.1 = 62) ∧ (l = w0 ++ [k] ∨ ∃ a : Nat × Nat, a.1 = 261 ∧ l = w0 ++ [k, a])
section CC
variable {b : Nat → Nat} {n c s : Nat} {P : Option AV → HS → Prop} {d bc bs : Nat}
theorem xC {i : Nat} (T : Tks b n c) (hi : i ≤ c) : ∃ r, CCx b n c s i r ∧ RCx b n i r ∧ RGc c i r := by
  have h400 := T.1
  have hcn := T.2.2.1
  obtain ⟨r1, c1, m1, g1⟩ := xH (s := s) T hi
  obtain ⟨r, Q1, Q2⟩ : ∃ r : RR, (∀ f j, r1 = .inl (f, j) → r = .inl (f, j)) ∧ (∀ j1 l1, r1 = .inr (j1, l1) → ∃ r2, CBx b n c s j1 r2 ∧ RBx b n j1 r2 ∧ RGb c j1 r2 ∧ r = seqR l1 r2) := by
    rcases r1 with ⟨f, j1⟩ | ⟨j1, l1⟩
    · exact ⟨.inl (f, j1), fun f' j' e => e, fun j' l' e => (by cases e)⟩
    · have hj1 := g1 j1 l1 rfl
      obtain ⟨r2, a1, a2, a3⟩ := xB (s := s) T (c - j1) j1 rfl hj1.2.1
      exact ⟨seqR l1 r2, fun f' j' e => (by cases e), fun j' l' e => (by cases e; exact ⟨r2, a1, a2, a3, rfl⟩)⟩
  refine ⟨r, ?_, ?_, ?_⟩
  · intro h B d bc bs sl x P hd e cs hl po
    refine wX2_readCondition (d := d + 1) ?_
    refine c1 h B d bc bs 0 sl x P hd (Nat.zero_le _) e cs hl (fun f j1 hr => po.1 f j1 (Q1 f j1 hr)) (fun j1 l1 hr y2 a1 a2 => ⟨fun _ => ?_, fun z => absurd (by decide) z⟩)
    obtain ⟨r2, b1, b2, b3, b4⟩ := Q2 j1 l1 hr
    have hj1 := g1 j1 l1 hr
    rw [b4] at po
    exact b1 h B d bc bs 0 _ y2 P hd (Nat.zero_le _) a1 a2 (by rw [List.length_append]; omega) po.seq
  · intro g tp d bc bs sm x P hd e rs hl e43 e40 k0 k2
    refine m1 g tp _ 0 0 sm x _ (by omega) e rs hl e43 e40 ⟨fun f j1 hr y3 a1 a2 a3 => ⟨0, rfl, fun z => absurd rfl z, fun _ => k0 f j1 (Q1 f j1 hr) y3 a1 a2 a3⟩, fun j1 l1 hr y3 a1 a2 a3 a4 => ⟨1, rfl, fun _ => ?_, fun z => absurd z (by decide)⟩⟩
    obtain ⟨r2, b1, b2, b3, b4⟩ := Q2 j1 l1 hr
    have hj1 := g1 j1 l1 hr
    refine b2 g tp d bc bs _ y3 P hd a1 a2 (by rw [List.length_append]; omega) a3 a4 (fun f j' hr2 => k0 f j' (by rw [b4, hr2]; rfl)) (fun j2 l2 hr2 z q1 q2 q3 => k2 j2 (l1 ++ l2) (by rw [b4, hr2]; rfl) z q1 ?_ q3)
    rw [exs_app]
    simpa [List.append_assoc] using q2
  · intro j2 l hr
    rcases r1 with ⟨f, j1⟩ | ⟨j1, l1⟩
    · rw [Q1 f j1 rfl] at hr; cases hr
    · obtain ⟨r2, b1, b2, b3, b4⟩ := Q2 j1 l1 rfl
      have hj1 := g1 j1 l1 rfl
      rcases r2 with ⟨f, j3⟩ | ⟨j3, l3⟩
      · rw [b4] at hr; cases hr
      · rw [b4] at hr
        cases hr
        have hj2 := b3 j2 l3 rfl
        obtain ⟨w, k, hk, hw⟩ := hj1.2.2.2.2.2.2
        refine ⟨by omega, by omega, by simp; omega, by rw [exs_app, List.length_append]; omega, fun t ht => ?_, ?_, ?_⟩
        · rcases List.mem_append.mp ht with z | z
          · exact hj1.2.2.2.2.1 t z
          · exact hj2.2.2.2.2.1 t z
        · rw [hts_app (hj1.2.2.2.2.2.1 0 (by decide))]
          exact hj2.2.2.2.2.2.1
        · rcases hj2.2.2.2.2.2.2 with z | ⟨w2, k2, hk2, hw2⟩
          · refine ⟨w, (k, 0), hk, Or.inl ?_⟩
            rw [z, List.append_nil]
            exact hw
          · refine ⟨l1 ++ w2, (k2, 0), hk2, Or.inr ⟨(261, 0), rfl, ?_⟩⟩
            rw [hw2, List.append_assoc]
end CC

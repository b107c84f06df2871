-- ===== reading the rule: units, terms, sums =====
theorem hts_pE {m n : Nat} {s : Nat × Nat} {l : List (Nat × Nat)} (e : s.1 = 258 ∨ 262 ≤ s.1) (q : n < m) : hts m (s :: l) n = hts m l (n + 1) := by
  rw [hts, if_pos e, if_pos q]
theorem hts_dE {m n : Nat} {s : Nat × Nat} {l : List (Nat × Nat)} (e : s.1 = 47) (q : 1 ≤ n) : hts m (s :: l) n = hts m l n := by
  rw [hts, if_neg (by omega), if_pos e, if_pos q]
theorem hts_bE {m n : Nat} {s : Nat × Nat} {l : List (Nat × Nat)} (e : ¬ (s.1 = 258 ∨ 262 ≤ s.1)) (e2 : ¬ s.1 = 47) (q : 2 ≤ n) : hts m (s :: l) n = hts m l (n - 1) := by
  rw [hts, if_neg e, if_neg e2, if_pos q]
theorem hts_app {m : Nat} : ∀ {a b : List (Nat × Nat)} {n k : Nat}, hts m a n = some k → hts m (a ++ b) n = hts m b k
  | [], b, n, k, h => by
    have : some n = some k := h
    cases this; rfl
  | s :: a, b, n, k, h => by
    show hts m (s :: (a ++ b)) n = _
    by_cases e : s.1 = 258 ∨ 262 ≤ s.1
    · obtain ⟨q, h2⟩ := hts_p e h
      rw [hts_pE e q]
      exact hts_app h2
    · by_cases e2 : s.1 = 47
      · obtain ⟨q, h2⟩ := hts_d e2 h
        rw [hts_dE e2 q]
        exact hts_app h2
      · obtain ⟨q, h2⟩ := hts_b e e2 h
        rw [hts_bE e e2 q]
        exact hts_app h2
theorem m40 {k : Nat} (hk : k ≤ 265) : nI (mK k) = 40 ↔ k = 40 := mKv (v := 40) hk (by decide) (by decide +kernel)
theorem m42 {k : Nat} (hk : k ≤ 265) : nI (mK k) = 42 ↔ k = 42 := mKv (v := 42) hk (by decide) (by decide +kernel)
theorem m43 {k : Nat} (hk : k ≤ 265) : nI (mK k) = 43 ↔ k = 43 := mKv (v := 43) hk (by decide) (by decide +kernel)
theorem m45 {k : Nat} (hk : k ≤ 265) : nI (mK k) = 45 ↔ k = 45 := mKv (v := 45) hk (by decide) (by decide +kernel)
theorem m47 {k : Nat} (hk : k ≤ 265) : nI (mK k) = 47 ↔ k = 47 := mKv (v := 47) hk (by decide) (by decide +kernel)
theorem m41 {k : Nat} (hk : k ≤ 265) : nI (mK k) = 41 ↔ k = 41 := mKv (v := 41) hk (by decide) (by decide +kernel)
theorem m59 {k : Nat} (hk : k ≤ 265) : nI (mK k) = 59 ↔ k = 59 := mKv (v := 59) hk (by decide) (by decide +kernel)
theorem m60 {k : Nat} (hk : k ≤ 265) : nI (mK k) = 60 ↔ k = 60 := mKv (v := 60) hk (by decide) (by decide +kernel)
theorem m61 {k : Nat} (hk : k ≤ 265) : nI (mK k) = 61 ↔ k = 61 := mKv (v := 61) hk (by decide) (by decide +kernel)
theorem m62 {k : Nat} (hk : k ≤ 265) : nI (mK k) = 62 ↔ k = 62 := mKv (v := 62) hk (by decide) (by decide +kernel)
theorem m_0 {k : Nat} (hk : k ≤ 265) : nI (mK k) = 0 ↔ k = 256 := mKv (v := 0) hk (by decide) (by decide +kernel)
theorem m_2 {k : Nat} (hk : k ≤ 265) : nI (mK k) = 2 ↔ k = 258 := mKv (v := 2) hk (by decide) (by decide +kernel)
theorem m_3 {k : Nat} (hk : k ≤ 265) : nI (mK k) = 3 ↔ k = 259 := mKv (v := 3) hk (by decide) (by decide +kernel)
theorem m_4 {k : Nat} (hk : k ≤ 265) : nI (mK k) = 4 ↔ k = 260 := mKv (v := 4) hk (by decide) (by decide +kernel)
theorem m_5 {k : Nat} (hk : k ≤ 265) : nI (mK k) = 5 ↔ k = 261 := mKv (v := 5) hk (by decide) (by decide +kernel)
theorem m_W {k : Nat} (hk : k ≤ 265) : 1000001 ≤ nI (mK k) ↔ 262 ≤ k := by
  have b := mK_lt k (by omega)
  rw [show (1000001 : Int32) = nI 1000001 from rfl, nI_leI (by decide) (by omega)]
  constructor
  · intro z
    rcases Nat.lt_or_ge k 262 with q | q
    · have := mK_nw k (by omega) q
      omega
    · exact q
  · intro z
    rw [mK_w k (by omega) z]
    omega
def RG (c i w : Nat) (r : RR) : Prop := ∀ j l, r = .inr (j, l) → i < j ∧ j ≤ c ∧ l.length ≤ j - i ∧ (exs l).length ≤ j - i ∧ (∀ t ∈ l, stOK t) ∧ ∀ m, m + w ≤ 60 → hts 60 l m = some (m + 1)
def CEx (b : Nat → Nat) (n c s : Nat) (M : MT) (o D i : Nat) (r : RR) : Prop := ∀ (h : HS), CB b n c s h → ∀ (D' bc bs : Nat) (sl : List (Nat × Nat)) (x : HS) (P : Option AV → HS → Prop), D ≤ D' → CF s h x → CSx s i sl x → sl.length ≤ i → CPost b n s h P sl r → Cl true M D' bc bs [aR 19 0, aI (nI o)] x P
def REx (b : Nat → Nat) (n : Nat) (M : MT) (o D i : Nat) (r : RR) : Prop := ∀ (g : HS), TP b n g → ∀ (D' bc bs : Nat) (sm : List Nat) (x : HS) (P : Option AV → HS → Prop), D ≤ D' → Eqo FMp g x → RSx b n i sm x → sm.length ≤ i → gI x 26 0 43 = nI o → gI x 26 0 40 = gI g 26 0 40 → RPost b n g P o sm r → Cl true M D' bc bs [aR 26 0] x P
def XP (b : Nat → Nat) (n c s : Nat) (Mc Mm : MT) (o D w i : Nat) : Prop := ∃ r, CEx b n c s Mc o D i r ∧ REx b n Mm o D i r ∧ RG c i w r
abbrev XU (b : Nat → Nat) (n c s : Nat) (o i : Nat) : Prop := XP b n c s mX2_readUnit mX10_unit o (3 * (8 - o) + 8) (17 - 2 * o) i
abbrev XT (b : Nat → Nat) (n c s : Nat) (o i : Nat) : Prop := XP b n c s mX2_readTerm mX10_product o (3 * (8 - o) + 9) (18 - 2 * o) i
abbrev XS (b : Nat → Nat) (n c s : Nat) (o i : Nat) : Prop := XP b n c s mX2_readSum mX10_sum o (3 * (8 - o) + 10) (19 - 2 * o) i
section EX
variable {b : Nat → Nat} {n c s : Nat} {h g : HS} {P : Option AV → HS → Prop} {d bc bs : Nat}
theorem mNeed {x : HS} {i w : Nat} {sm : List Nat} {v : Int32} (T : Tks b n c) (tp : TP b n g) (e : Eqo FMp g x) (q : RSx b n i sm x) (hv : nI (mK (tK b n i)) = v ↔ tK b n i = w) (k1 : tK b n i = w → ∀ y, Eqo FMp g y → RSx b n (i + 1) sm y → gI y 26 0 43 = gI x 26 0 43 → gI y 26 0 40 = gI x 26 0 40 → P (some (aI 1)) y) (k0 : ¬ tK b n i = w → ∀ y, Eqo FMp g y → gI y 26 0 40 = nI 1 → gI y 26 0 41 = nI (tL b n i) → P (some (aI 0)) y) : Cl true mX10_need (d + 4) bc bs [aR 26 0, aI v] x P := by
  refine wX10_need (d := d + 1) ?_
  rw [q.1.2.1]
  exact ⟨fun z => mNx T tp e q (fun y e1 q1 e2 e3 => ⟨rfl, k1 (hv.mp z) y e1 q1 e2 e3⟩), fun z => mBad (f := 1) e q rfl (fun y e1 e2 e3 => ⟨0, rfl, Or.inl rfl, k0 (fun w => z (hv.mpr w)) y e1 e2 e3⟩)⟩
theorem cPass {x : HS} {i w : Nat} {sl : List (Nat × Nat)} {v : Int32} (T : Tks b n c) (B : CB b n c s h) (e : CF s h x) (q : CSx s i sl x) (hi : i ≤ c) (hv : v = nI w) (hw : w < 1000) (k1 : tK b n i = w → ∀ y, CF s h y → CSx s (i + 1) sl y → P (some (aI 1)) y) (k0 : ¬ tK b n i = w → ∀ y, CF s h y → gI y 19 0 3 = nI 1 → gI y 19 0 4 = nI (tL b n i) → P (some (aI 0)) y) : Cl true mX2_pass (d + 4) bc bs [aR 19 0, aI v] x P := by
  refine wX2_pass (d := d + 1) ?_
  rw [(knT T B e hi q.1).1, hv]
  exact ⟨fun z => k1 ((cKe (T.k i) hw).mp z) _ (e.sI rfl) q.at, fun z => cFail (f := 1) T B e hi q.1 rfl (fun y e1 e2 e3 => ⟨0, rfl, Or.inl rfl, k0 (fun w => z ((cKe (T.k i) hw).mpr w)) y e1 e2 e3⟩)⟩
theorem mUnum {x : HS} {i : Nat} {sm : List Nat} (T : Tks b n c) (tp : TP b n g) (e : Eqo FMp g x) (q : RSx b n i sm x) (hl : sm.length < 500) (hk : tK b n i = 258) (k : ∀ y, Eqo FMp g y → RSx b n (i + 1) (sm ++ [tN b n i]) y → gI y 26 0 43 = gI x 26 0 43 → gI y 26 0 40 = gI x 26 0 40 → P (some (aI 1)) y) : Cl true mX10_unit (d + 4) bc bs [aR 26 0] x P := by
  refine wX10_unit (d := d + 1) ?_
  rw [q.1.2.1, show (tokT b n i).1 = 258 from hk]
  refine ⟨fun _ => ⟨fun _ => ⟨fun z => absurd (by decide) z, fun _ => mLay e q hl (q.1.2.2.2 hk) (fun y e1 q1 e2 e3 => ⟨rfl, mNx T tp e1 q1 (fun y2 e4 q4 e5 e6 => ⟨rfl, k y2 e4 q4 (e5.trans e2) (e6.trans e3)⟩)⟩)⟩, fun z => absurd (by decide) z⟩, fun z => absurd z (by decide)⟩
theorem xU {o i : Nat} (T : Tks b n c) (hi : i ≤ c) (ho : o ≤ 8) (S : o < 8 → i < c → XS b n c s (o + 1) (i + 1)) : XU b n c s o i := by
  have kb := T.k i
  have h400 := T.1
  have hcn := T.2.2.1
  have hN := T.m i
  have clt : ∀ {v : Nat}, v < 1000 → (nI (tK b n i) = nI v ↔ tK b n i = v) := fun hv => cKe kb hv
  by_cases A : tK b n i = 258 ∨ 262 ≤ tK b n i
  · have ic : i < c := T.lt hi (by omega)
    refine ⟨.inr (i + 1, [(tK b n i, tN b n i)]), ?_, ?_, ?_⟩
    · intro h B D bc bs sl x P hD e q hl po
      obtain ⟨d, rfl⟩ : ∃ d, D = d + 4 := ⟨D - 4, by omega⟩
      obtain ⟨k1, k2⟩ := knT T B e hi q.1
      have go : ∃ t3, gR x 19 0 1 = some (12, t3) ∧ Cl true mX1_addStep (d + 3) 0 0 [aR 12 t3, aI (knF x), aI (nbF x)] x (fun r6 h7 => r6 = none ∧ P (some (aI 1)) (sI h7 19 0 2 (gI h7 19 0 2 + 1))) := ⟨s, ((e.1.1 19 0 1 rfl).2).trans B.2.2, cAdS e q (by omega) k1 k2 (fun y e1 q1 => ⟨rfl, po.2 _ _ rfl _ (e1.sI rfl) q1.at⟩)⟩
      refine wX2_readUnit (d := d + 1) ⟨fun _ => go, fun z => ⟨fun z2 => ?_, fun z2 => ⟨fun z3 => ?_, fun _ => go⟩⟩⟩
      · rw [k1] at z z2
        rcases A with a | a
        · exact absurd ((clt (v := 258) (by decide)).mpr a) z
        · exact absurd (show nI (tK b n i) < nI 262 from z2) (nI_nlt a (by omega))
      · rw [k1] at z3
        exact absurd (show nI 265 < nI (tK b n i) from z3) (nI_nlt kb (by decide))
    · intro g tp D bc bs sm x P hD e q hl e43 e40 po
      obtain ⟨d, rfl⟩ : ∃ d, D = d + 4 := ⟨D - 4, by omega⟩
      have lay : ∀ (v1 : Int32) (v : Nat), v1 = nI v → ex1 (tK b n i, tN b n i) = [v] → Cl true mX10_lay (d + 3) 0 0 [aR 26 0, aI v1] x (fun r1 h2 => r1 = none ∧ Cl true mX10_next0 (d + 3) 0 0 [aR 26 0] h2 (fun r3 h4 => r3 = none ∧ P (some (aI 1)) h4)) := fun v1 v hv hx =>
        mLay e q (by omega) hv (fun y e1 q1 e2 e3 => ⟨rfl, mNx T tp e1 q1 (fun y2 e4 q4 e5 e6 => ⟨rfl, po.2 _ _ rfl y2 e4 (by rw [show exs [(tK b n i, tN b n i)] = [v] by rw [exs_c, hx]; rfl]; exact q4) ((e5.trans e2).trans e43) ((e6.trans e3).trans e40)⟩)⟩)
      refine wX10_unit (d := d + 1) ?_
      rw [q.1.2.1]
      refine ⟨fun _ => ⟨fun z => ⟨fun z2 => absurd z z2, fun _ => ?_⟩, fun z => ⟨fun z2 => ⟨fun _ => ?_, fun z3 => absurd z3 z⟩, fun z2 => ?_⟩⟩, fun z => ?_⟩
      · have k8 := (m_2 kb).mp z
        exact lay _ (tN b n i) (q.1.2.2.2 k8) (ex1_n k8)
      · have kw := (m_W kb).mp z2
        exact lay _ _ (by rw [mK_w _ (by omega) kw]) (ex1_w kw kb)
      · rcases A with a | a
        · exact absurd ((m_2 kb).mpr a) z
        · exact absurd ((m_W kb).mpr a) z2
      · have := (m40 kb).mp z
        omega
    · intro j l hr
      cases hr
      refine ⟨by omega, by omega, by simp, ?_, fun t ht => ?_, fun m hm => ?_⟩
      · rw [exs_c]
        rcases A with a | a
        · rw [ex1_n a]; simp [exs]
        · rw [ex1_w a kb]; simp [exs]
      · have : t = (tK b n i, tN b n i) := by simpa using ht
        rw [this]
        exact ⟨hN, by rcases A with a | a; exact Or.inl a; exact Or.inr (Or.inl ⟨a, kb⟩)⟩
      · rw [hts_pE A (by omega)]
        rfl
  by_cases Bk : tK b n i = 40
  · have ic : i < c := T.lt hi (by omega)
    have kk : nI (tK b n i) = 40 := (clt (v := 40) (by decide)).mpr Bk
    by_cases o8 : o < 8
    · obtain ⟨r, hc, hm, hg⟩ := S o8 ic
      obtain ⟨r2, Q1, Q2⟩ : ∃ r2 : RR, (∀ f j, r = .inl (f, j) → r2 = .inl (f, j)) ∧ (∀ j l, r = .inr (j, l) → (tK b n j = 41 → r2 = .inr (j + 1, l)) ∧ (¬ tK b n j = 41 → r2 = .inl (1, j))) := by
        rcases r with ⟨f, j⟩ | ⟨j, l⟩
        · exact ⟨.inl (f, j), fun f' j' e => e, fun j' l' e => by cases e⟩
        · by_cases e : tK b n j = 41
          · exact ⟨.inr (j + 1, l), fun f' j' e => (by cases e), fun j' l' e2 => (by cases e2; exact ⟨fun _ => rfl, fun z => absurd e z⟩)⟩
          · exact ⟨.inl (1, j), fun f' j' e => (by cases e), fun j' l' e2 => (by cases e2; exact ⟨fun z => absurd z e, fun _ => rfl⟩)⟩
      refine ⟨r2, ?_, ?_, ?_⟩
      · intro h B D bc bs sl x P hD e q hl po
        obtain ⟨d, rfl⟩ : ∃ d, D = d + 4 := ⟨D - 4, by omega⟩
        have k1 := (knT T B e hi q.1).1
        refine wX2_readUnit (d := d + 1) ?_
        rw [k1, nI_1]
        refine ⟨fun z => absurd (z.symm.trans kk) (by decide), fun _ => ⟨fun _ => ⟨fun _ => ⟨fun _ => ?_, fun z => absurd (show nI o < nI 8 from nI_lt o8 (by decide)) z⟩, fun z => absurd kk z⟩, fun z => absurd (by rw [kk]; decide) z⟩⟩
        refine hc h B _ 0 0 sl _ _ (by omega) (e.sI rfl) q.at (by omega) ⟨fun f j hr y c1 c2 c3 => ⟨0, rfl, fun z => absurd rfl z, fun _ => po.1 f j (Q1 f j hr) y c1 c2 c3⟩, fun j l hr y c1 c2 => ⟨1, rfl, fun _ => ?_, fun z => absurd z (by decide)⟩⟩
        have hj := hg j l hr
        rw [(knT T B c1 hj.2.1 c2.1).1]
        refine ⟨fun z => ?_, fun z => ?_⟩
        · exact po.2 _ _ ((Q2 j l hr).1 ((cKe (T.k j) (v := 41) (by decide)).mp z)) _ (c1.sI rfl) c2.at
        · exact cFailB T B c1 hj.2.1 c2.1 rfl po ((Q2 j l hr).2 (fun w => z ((cKe (T.k j) (v := 41) (by decide)).mpr w)))
      · intro g tp D bc bs sm x P hD e q hl e43 e40 po
        obtain ⟨d, rfl⟩ : ∃ d, D = d + 5 := ⟨D - 5, by omega⟩
        refine wX10_unit (d := d + 2) ?_
        rw [q.1.2.1, e43, nI_1]
        refine ⟨fun z => absurd ((m40 kb).mpr Bk) z, fun _ => ⟨fun _ => ?_, fun z => absurd ((nI_eq (by omega) (by decide)).mp (show nI o = nI 8 from z)) (by omega)⟩⟩
        refine mNx (d := d + 1) T tp (e.sI rfl) (sm := sm) (i := i) ⟨q.1, q.2.1, q.2.2⟩ (fun y e1 q1 e2 e3 => ⟨rfl, ?_⟩)
        refine hm g tp _ 0 0 sm y _ (by omega) e1 q1 (by omega) (e2.trans gI_same) (e3.trans e40) ⟨fun f j hr y2 c1 c2 c3 => ⟨0, rfl, fun _ => po.1 f j (Q1 f j hr) y2 c1 c2 c3, fun z => absurd rfl z⟩, fun j l hr y2 c1 c2 c3 c4 => ⟨1, rfl, fun z => absurd z (by decide), fun _ => ?_⟩⟩
        refine mNeed (w := 41) T tp c1 c2 (m41 (T.k j)) (fun hj y3 d1 d2 d3 d4 => ⟨1, rfl, fun _ => ?_, fun z => absurd z (by decide)⟩) (fun hj y3 d1 d2 d3 => ⟨0, rfl, fun z => absurd rfl z, fun _ => po.1 1 j ((Q2 j l hr).2 hj) y3 d1 d2 d3⟩)
        refine po.2 _ _ ((Q2 j l hr).1 hj) _ (d1.sI rfl) ⟨d2.1, d2.2.1, d2.2.2⟩ ?_ (d4.trans c4)
        rw [gI_same, d3, c3]
        exact nI_pred o
      · intro j l hr
        rcases r with ⟨f, j1⟩ | ⟨j1, l1⟩
        · rw [Q1 f j1 rfl] at hr
          cases hr
        · have hj := hg j1 l1 rfl
          by_cases e : tK b n j1 = 41
          · rw [(Q2 j1 l1 rfl).1 e] at hr
            cases hr
            have := T.lt hj.2.1 (by omega)
            refine ⟨by omega, by omega, by omega, by omega, hj.2.2.2.2.1, fun m hm => hj.2.2.2.2.2 m (by omega)⟩
          · rw [(Q2 j1 l1 rfl).2 e] at hr
            cases hr
    · refine ⟨.inl (3, i), ?_, ?_, fun j l hr => by cases hr⟩
      · intro h B D bc bs sl x P hD e q hl po
        obtain ⟨d, rfl⟩ : ∃ d, D = d + 4 := ⟨D - 4, by omega⟩
        have k1 := (knT T B e hi q.1).1
        refine wX2_readUnit (d := d + 1) ?_
        rw [k1]
        exact ⟨fun z => absurd (z.symm.trans kk) (by decide), fun _ => ⟨fun _ => ⟨fun _ => ⟨fun z => absurd (show nI o < nI 8 from z) (nI_nlt (by omega) (by omega)), fun _ => cFailB T B e hi q.1 rfl po rfl⟩, fun z => absurd kk z⟩, fun z => absurd (by rw [kk]; decide) z⟩⟩
      · intro g tp D bc bs sm x P hD e q hl e43 e40 po
        obtain ⟨d, rfl⟩ : ∃ d, D = d + 4 := ⟨D - 4, by omega⟩
        refine wX10_unit (d := d + 1) ?_
        rw [q.1.2.1, e43]
        exact ⟨fun z => absurd ((m40 kb).mpr Bk) z, fun _ => ⟨fun z => absurd (show nI o = nI 8 by rw [show o = 8 by omega]) z, fun _ => mBadB e q rfl po rfl⟩⟩
  · have n1 : ¬ nI (tK b n i) = 258 := fun z => A (Or.inl ((clt (v := 258) (by decide)).mp z))
    have n2 : ¬ nI (tK b n i) = 40 := fun z => Bk ((clt (v := 40) (by decide)).mp z)
    refine ⟨.inl (1, i), ?_, ?_, fun j l hr => by cases hr⟩
    · intro h B D bc bs sl x P hD e q hl po
      obtain ⟨d, rfl⟩ : ∃ d, D = d + 4 := ⟨D - 4, by omega⟩
      have k1 := (knT T B e hi q.1).1
      refine wX2_readUnit (d := d + 1) ?_
      rw [k1]
      exact ⟨fun z => absurd z n1, fun _ => ⟨fun _ => ⟨fun z => absurd z n2, fun _ => cFailB T B e hi q.1 rfl po rfl⟩, fun z => absurd (show nI (tK b n i) < nI 262 from nI_lt (by omega) (by decide)) z⟩⟩
    · intro g tp D bc bs sm x P hD e q hl e43 e40 po
      obtain ⟨d, rfl⟩ : ∃ d, D = d + 4 := ⟨D - 4, by omega⟩
      refine wX10_unit (d := d + 1) ?_
      rw [q.1.2.1]
      exact ⟨fun _ => ⟨fun z => absurd ((m_2 kb).mp z) (by omega), fun _ => ⟨fun z => absurd ((m_W kb).mp z) (by omega), fun _ => mBadB e q rfl po rfl⟩⟩, fun z => absurd ((m40 kb).mp z) Bk⟩
end EX

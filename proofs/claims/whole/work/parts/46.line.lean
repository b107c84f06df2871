-- ===== reading the rule: a line =====
def FG (c k : Nat) : Bool := match c with
  | 12 => decide (k ≠ 6 ∧ k ≠ 7)
  | 13 => false
  | 14 => false
  | 15 => false
  | 16 => false
  | 17 => false
  | 19 => decide (k < 2 ∨ 4 < k)
  | _ => true
theorem FG_E (c k : Nat) (z : FG c k = true) : FE c k = true := by
  unfold FG at z
  unfold FE
  split at z <;> first | rfl | (simp at z; simp; omega) | exact z | (exact absurd z (by decide)) | (split <;> first | rfl | (exfalso; contradiction))
def CG (s : Nat) (h x : HS) : Prop := Eqo FG h x ∧ ∀ r a k, 12 ≤ r → r ≤ 17 → a ≠ s → gI x r a k = gI h r a k
theorem CF.g {s : Nat} {h x : HS} (e : CF s h x) : CG s h x := ⟨e.1.mono FG_E, e.2⟩
theorem CG.tr {s : Nat} {h x y : HS} (a : CG s h x) (e : CG s x y) : CG s h y := ⟨a.1.tr e.1, fun r q k h1 h2 h3 => (e.2 r q k h1 h2 h3).trans (a.2 r q k h1 h2 h3)⟩
theorem CF.rf {s : Nat} {h : HS} : CF s h h := ⟨Eqo.rf, fun _ _ _ _ _ _ => rfl⟩
def FGm (c k : Nat) : Bool := match c with
  | 26 => decide (k ≠ 25 ∧ k ≠ 26 ∧ k ≠ 43 ∧ (k < 36 ∨ 41 < k))
  | 49 => false
  | 50 => false
  | 51 => false
  | _ => true
theorem FGm_M (c k : Nat) (z : FGm c k = true) : FMp c k = true := by
  unfold FGm at z
  unfold FMp
  split at z <;> first | rfl | (simp at z; simp; omega) | exact z | (exact absurd z (by decide)) | (split <;> first | rfl | (exfalso; contradiction))
abbrev LR : Type := (Nat × Nat) ⊕ (Nat × List (Nat × Nat) × List (Nat × Nat))
def CLn (b : Nat → Nat) (n c s k i : Nat) (r : LR) : Prop := ∀ (h : HS), CB b n c s h → ∀ (d bc bs : Nat) (sl : List (Nat × Nat)) (P : Option AV → HS → Prop), 33 ≤ d → gI h 12 s 7 = nI k → CSx s i sl h → sl.length ≤ i → (∀ f j, r = .inl (f, j) → ∀ y, CG s h y → gI y 19 0 3 = nI f → gI y 19 0 4 = nI (tL b n j) → P (some (aI 0)) y) → (∀ j pl wl, r = .inr (j, pl, wl) → ∀ y, CG s h y → CSx s j (sl ++ (pl ++ wl)) y → gI y 12 s 7 = nI (k + 1) → (∀ q, gI y 15 s q = if q = k then nI sl.length else gI h 15 s q) → (∀ q, gI y 16 s q = if q = k then nI (sl.length + pl.length) else gI h 16 s q) → (∀ q, gI y 17 s q = if q = k then nI (sl.length + pl.length + wl.length) else gI h 17 s q) → P (some (aI 1)) y) → Cl true mX2_readLine (d + 4) bc bs [aR 19 0, aI (nI k)] h P
def RLn (b : Nat → Nat) (n k i : Nat) (r : LR) : Prop := ∀ (g : HS), TP b n g → ∀ (d bc bs : Nat) (sm : List Nat) (P : Option AV → HS → Prop), 33 ≤ d → gI g 26 0 25 = nI k → RSx b n i sm g → sm.length ≤ i → (∀ f j, r = .inl (f, j) → ∀ y, Eqo FGm g y → gI y 26 0 40 = nI f → gI y 26 0 41 = nI (tL b n j) → P (some (aI 0)) y) → (∀ j pl wl, r = .inr (j, pl, wl) → ∀ y, Eqo FGm g y → RSx b n j (sm ++ exs (pl ++ wl)) y → gI y 26 0 25 = nI (k + 1) → gI y 26 0 40 = gI g 26 0 40 → (∀ q, gI y 49 0 q = if q = k then nI sm.length else gI g 49 0 q) → (∀ q, gI y 50 0 q = if q = k then nI (sm.length + (exs pl).length) else gI g 50 0 q) → P (some (aI 1)) y) → Cl true mX10_aLine (d + 4) bc bs [aR 26 0] g P
def gdL (q : List (Nat × Nat) × List (Nat × Nat)) : Prop := (∀ t ∈ q.1, stOK t) ∧ (∀ t ∈ q.2, stOK t) ∧ hts 60 q.1 0 = some 1 ∧ hts 60 q.2 0 = some 1 ∧ ∃ w0 k, (k.1 = 60 ∨ k.1 = 61 ∨ k.1 = 62) ∧ (q.2 = w0 ++ [k] ∨ ∃ a : Nat × Nat, a.1 = 261 ∧ q.2 = w0 ++ [k, a])
def RGn (c k i : Nat) (r : LR) : Prop := ∀ j pl wl, r = .inr (j, pl, wl) → k < 8 ∧ i < j ∧ j ≤ c ∧ pl.length + wl.length ≤ j - i ∧ (exs pl).length + (exs wl).length ≤ j - i ∧ gdL (pl, wl)
section LN
variable {b : Nat → Nat} {n c s : Nat} {P : Option AV → HS → Prop} {d bc bs : Nat}
theorem cAddL {x : HS} {k p w e : Nat} (h7 : gI x 12 s 7 = nI k) (hk : k < 8) (h6 : gI x 12 s 6 = nI e) (kk : P none (sI (sI (sI (sI x 15 s k (nI p)) 16 s k (nI w)) 17 s k (nI e)) 12 s 7 (nI (k + 1)))) : Cl true mX1_addLine (d + 3) bc bs [aR 12 s, aI (nI p), aI (nI w)] x P := by
  have vin : vp_in (nI k) 8 := vp_in_nI hk (by decide)
  refine wX1_addLine ?_
  rw [h7, h6, nI_clamp (by omega), nI_1]
  exact ⟨fun z => absurd z (nI_pos (by omega)), fun _ => ⟨fun z => absurd (show nI 8 ≤ nI k from z) (nI_ge hk (by decide)), fun _ => ⟨vin, vin, vin, kk⟩⟩⟩
theorem xLn {k i : Nat} (T : Tks b n c) (hi : i ≤ c) (hk : k ≤ 8) : ∃ r, CLn b n c s k i r ∧ RLn b n k i r ∧ RGn c k i r := by
  have h400 := T.1
  have hcn := T.2.2.1
  have kb := T.k i
  by_cases kp : tK b n i = 259
  · have ic : i < c := T.lt hi (by omega)
    by_cases k8 : k < 8
    · obtain ⟨r1, c1, m1, g1⟩ := (xAll (s := s) T (c - (i + 1)) (i + 1) rfl (by omega) 0 (by decide)).2.2
      obtain ⟨r, Q1, Q2, Q3⟩ : ∃ r : LR, (∀ f j, r1 = .inl (f, j) → r = .inl (f, j)) ∧ (∀ j1 pl, r1 = .inr (j1, pl) → ¬ tK b n j1 = 260 → r = .inl (1, j1)) ∧ (∀ j1 pl, r1 = .inr (j1, pl) → tK b n j1 = 260 → ∃ r2, CCx b n c s (j1 + 1) r2 ∧ RCx b n (j1 + 1) r2 ∧ RGc c (j1 + 1) r2 ∧ (∀ f j, r2 = .inl (f, j) → r = .inl (f, j)) ∧ (∀ j2 wl, r2 = .inr (j2, wl) → (tK b n j2 = 59 → r = .inr (j2 + 1, pl, wl)) ∧ (¬ tK b n j2 = 59 → r = .inl (1, j2)))) := by
        rcases r1 with ⟨f, j⟩ | ⟨j, l⟩
        · exact ⟨.inl (f, j), fun f' j' e => (by cases e; rfl), fun j' l' e => (by cases e), fun j' l' e => (by cases e)⟩
        · by_cases e : tK b n j = 260
          · have jc : j < c := T.lt (g1 j l rfl).2.1 (by omega)
            obtain ⟨r2, a1, a2, a3⟩ := xC (s := s) T (show j + 1 ≤ c by omega)
            rcases r2 with ⟨f, j2⟩ | ⟨j2, l2⟩
            · exact ⟨.inl (f, j2), fun f' j' e => (by cases e), fun j' l' e2 z => (by cases e2; exact absurd e z), fun j' l' e2 _ => (by cases e2; exact ⟨.inl (f, j2), a1, a2, a3, fun f' j' e => (by cases e; rfl), fun j' l' e => (by cases e)⟩)⟩
            · by_cases e3 : tK b n j2 = 59
              · exact ⟨.inr (j2 + 1, l, l2), fun f' j' e => (by cases e), fun j' l' e2 z => (by cases e2; exact absurd e z), fun j' l' e2 _ => (by cases e2; exact ⟨.inr (j2, l2), a1, a2, a3, fun f' j' e => (by cases e), fun j' l' e4 => (by cases e4; exact ⟨fun _ => rfl, fun z => absurd e3 z⟩)⟩)⟩
              · exact ⟨.inl (1, j2), fun f' j' e => (by cases e), fun j' l' e2 z => (by cases e2; exact absurd e z), fun j' l' e2 _ => (by cases e2; exact ⟨.inr (j2, l2), a1, a2, a3, fun f' j' e => (by cases e), fun j' l' e4 => (by cases e4; exact ⟨fun z => absurd z e3, fun _ => rfl⟩)⟩)⟩
          · exact ⟨.inl (1, j), fun f' j' e => (by cases e), fun j' l' e2 _ => (by cases e2; rfl), fun j' l' e2 z => (by cases e2; exact absurd z e)⟩
      refine ⟨r, ?_, ?_, ?_⟩
      · intro h B d bc bs sl P hd h7 cs hl k0 k1
        obtain ⟨e, rfl⟩ : ∃ e, d = e + 1 := ⟨d - 1, by omega⟩
        have k0' : ∀ f j, r = .inl (f, j) → ∀ y, CF s h y → gI y 19 0 3 = nI f → gI y 19 0 4 = nI (tL b n j) → P (some (aI 0)) y := fun f j hr y c1 c2 c3 => k0 f j hr y c1.g c2 c3
        refine wX2_readLine (d := e + 2) ?_
        rw [(knT T B CF.rf hi cs.1).1]
        refine ⟨fun _ => ⟨fun _ => ⟨s, B.2.2, ?_⟩, fun z => absurd (show nI k < nI 8 from nI_lt k8 (by decide)) z⟩, fun z => absurd ((cKe kb (v := 259) (by decide)).mpr kp) z⟩
        refine c1 h B _ 0 0 sl _ _ (by omega) (CF.rf.sI rfl) cs.at (by omega) ⟨fun f j hr y a1 a2 a3 => ⟨0, rfl, fun _ => k0' f j (Q1 f j hr) y a1 a2 a3, fun z => absurd rfl z⟩, fun j1 pl hr y a1 a2 => ⟨1, rfl, fun z => absurd z (by decide), fun _ => ?_⟩⟩
        have hj1 := g1 j1 pl hr
        refine cPass (w := 260) T B a1 a2 hj1.2.1 rfl (by decide) (fun kw y2 d1 d2 => ⟨1, rfl, fun _ => ⟨s, ((d1.1.1 19 0 1 rfl).2).trans B.2.2, ?_⟩, fun z => absurd z (by decide)⟩) (fun kw y2 d1 d2 d3 => ⟨0, rfl, fun z => absurd rfl z, fun _ => k0' 1 j1 (Q2 j1 pl hr kw) y2 d1 d2 d3⟩)
        obtain ⟨r2, b1, b2, b3, b4, b5⟩ := Q3 j1 pl hr kw
        have len1 : (sl ++ pl).length ≤ j1 := by rw [List.length_append]; omega
        refine b1 h B e 0 0 _ y2 _ (by omega) d1 d2 (by omega) ⟨fun f j hr2 y3 f1 f2 f3 => ⟨0, rfl, fun _ => k0' f j (b4 f j hr2) y3 f1 f2 f3, fun z => absurd rfl z⟩, fun j2 wl hr2 y3 f1 f2 => ⟨1, rfl, fun z => absurd z (by decide), fun _ => ?_⟩⟩
        have hj2 := b3 j2 wl hr2
        refine cPass (w := 59) T B f1 f2 hj2.2.1 rfl (by decide) (fun kx y4 p1 p2 => ⟨1, rfl, fun _ => ⟨s, ((p1.1.1 19 0 1 rfl).2).trans B.2.2, ?_⟩, fun z => absurd z (by decide)⟩) (fun kx y4 p1 p2 p3 => ⟨0, rfl, fun z => absurd rfl z, fun _ => k0' 1 j2 ((b5 j2 wl hr2).2 kx) y4 p1 p2 p3⟩)
        have h74 : gI y4 12 s 7 = nI k := ((p1.1.1 12 s 7 rfl).1).trans h7
        rw [show gI h 12 s 6 = nI sl.length from cs.2.1, show gI y2 12 s 6 = nI (sl ++ pl).length from d2.2.1]
        refine cAddL (d := e + 1) h74 k8 p2.2.1 ⟨rfl, k1 (j2 + 1) pl wl ((b5 j2 wl hr2).1 kx) _ ⟨((((p1.g.1.sI rfl).sI rfl).sI rfl).sI rfl), fun r a q h1 h2 h3 => ?_⟩ ⟨p2.1, ?_, fun j t ht => ?_, p2.2.2.2⟩ gI_same (fun q => ?_) (fun q => ?_) (fun q => ?_)⟩
        · rw [gI_sI, if_neg (fun z => h3 z.2.2), gI_sI, if_neg (fun z => h3 z.2.2), gI_sI, if_neg (fun z => h3 z.2.2), gI_sI, if_neg (fun z => h3 z.2.2)]
          exact p1.2 r a q h1 h2 h3
        · rw [← List.append_assoc]
          exact p2.2.1
        · rw [← List.append_assoc] at ht
          exact p2.2.2.1 j t ht
        · simp only [gI_sI]
          simp
          split
          · rfl
          · exact (p1.1.1 15 s q rfl).1
        · simp only [gI_sI]
          simp
          split
          · rfl
          · exact (p1.1.1 16 s q rfl).1
        · simp only [gI_sI]
          simp
          split
          · congr 1; omega
          · exact (p1.1.1 17 s q rfl).1
      · intro g tp d bc bs sm P hd h25 rs hl k0 k1
        obtain ⟨e, rfl⟩ : ∃ e, d = e + 1 := ⟨d - 1, by omega⟩
        refine wX10_aLine (d := e + 2) ?_
        rw [rs.1.2.1, h25, rs.2.1, nI_clamp (by omega)]
        refine ⟨fun _ => ⟨fun _ => ⟨vp_in_nI (by omega) (by decide), ?_⟩, fun z => absurd ((nI_eq (by omega) (by decide)).mp (show nI k = nI 8 from z)) (by omega)⟩, fun z => absurd ((m_3 kb).mpr kp) z⟩
        obtain ⟨ga, hga⟩ : ∃ ga, ga = sI (sI g 26 0 43 0) 49 0 k (nI sm.length) := ⟨_, rfl⟩
        rw [← hga]
        have tpa : TP b n ga := by rw [hga]; exact ⟨tp.1, tp.2⟩
        have rsa : RSx b n i sm ga := by rw [hga]; exact ⟨rs.1, rs.2.1, rs.2.2⟩
        have ea : Eqo FGm g ga := by rw [hga]; exact (Eqo.rf.sI rfl).sI rfl
        have a43 : gI ga 26 0 43 = nI 0 := by rw [hga]; rfl
        have a40 : gI ga 26 0 40 = gI g 26 0 40 := by rw [hga]; rfl
        have a25 : gI ga 26 0 25 = nI k := by rw [hga]; exact h25
        have a49 : ∀ q, gI ga 49 0 q = if q = k then nI sm.length else gI g 49 0 q := fun q => by
          rw [hga]
          simp only [gI_sI]
          simp
        have a50 : ∀ q, gI ga 50 0 q = gI g 50 0 q := fun q => by rw [hga]; rfl
        have k0a : ∀ f j, r = .inl (f, j) → ∀ y, Eqo FMp ga y → gI y 26 0 40 = nI f → gI y 26 0 41 = nI (tL b n j) → P (some (aI 0)) y := fun f j hr y c1 c2 c3 => k0 f j hr y (ea.tr (c1.mono FGm_M)) c2 c3
        refine mNx (d := e + 1) T tpa Eqo.rf rsa (fun y d1 d2 d3 d4 => ⟨rfl, ?_⟩)
        refine m1 ga tpa _ 0 0 sm y _ (by omega) d1 d2 (by omega) (d3.trans a43) d4 ⟨fun f j hr y2 a1 a2 a3 => ⟨0, rfl, fun z => absurd rfl z, fun _ => k0a f j (Q1 f j hr) y2 a1 a2 a3⟩, fun j1 pl hr y2 a1 a2 a3 a4 => ⟨1, rfl, fun _ => ?_, fun z => absurd z (by decide)⟩⟩
        have hj1 := g1 j1 pl hr
        have y25 : gI y2 26 0 25 = nI k := ((a1.1 26 0 25 rfl).1).trans a25
        rw [y25, a2.2.1, nI_clamp (by omega), nI_1]
        refine ⟨vp_in_nI k8 (by decide), ?_⟩
        obtain ⟨gb, hgb⟩ : ∃ gb, gb = sI (sI y2 50 0 k (nI (sm ++ exs pl).length)) 26 0 25 (nI (k + 1)) := ⟨_, rfl⟩
        rw [← hgb]
        have tpb : TP b n gb := by
          rw [hgb]
          exact ⟨((a1.1 26 0 35 rfl).1).trans tpa.1, fun j hj => ((a1.1 53 0 j rfl).1).trans (tpa.2 j hj)⟩
        have rsb : RSx b n j1 (sm ++ exs pl) gb := by rw [hgb]; exact ⟨a2.1, a2.2.1, a2.2.2⟩
        have eb : Eqo FGm g gb := by rw [hgb]; exact ((ea.tr (a1.mono FGm_M)).sI rfl).sI rfl
        have b43 : gI gb 26 0 43 = nI 0 := by rw [hgb]; exact a3
        have b40 : gI gb 26 0 40 = gI g 26 0 40 := by rw [hgb]; exact a4.trans a40
        have b25 : gI gb 26 0 25 = nI (k + 1) := by rw [hgb]; exact gI_same
        have b49 : ∀ q, gI gb 49 0 q = if q = k then nI sm.length else gI g 49 0 q := fun q => by
          rw [hgb]
          exact ((a1.1 49 0 q rfl).1).trans (a49 q)
        have b50 : ∀ q, gI gb 50 0 q = if q = k then nI (sm.length + (exs pl).length) else gI g 50 0 q := fun q => by
          rw [hgb]
          simp only [gI_sI]
          simp
          split
          · rfl
          · exact ((a1.1 50 0 q rfl).1).trans (a50 q)
        have k0b : ∀ f j, r = .inl (f, j) → ∀ y, Eqo FMp gb y → gI y 26 0 40 = nI f → gI y 26 0 41 = nI (tL b n j) → P (some (aI 0)) y := fun f j hr y c1 c2 c3 => k0 f j hr y (eb.tr (c1.mono FGm_M)) c2 c3
        refine mNeed (w := 260) T tpb Eqo.rf rsb (m_4 (T.k j1)) (fun kw y3 f1 f2 f3 f4 => ⟨1, rfl, fun z => absurd z (by decide), fun _ => ?_⟩) (fun kw y3 f1 f2 f3 => ⟨0, rfl, fun _ => k0b 1 j1 (Q2 j1 pl hr kw) y3 f1 f2 f3, fun z => absurd rfl z⟩)
        obtain ⟨r2, q1, q2, q3, q4, q5⟩ := Q3 j1 pl hr kw
        have len1 : (sm ++ exs pl).length ≤ j1 := by rw [List.length_append]; omega
        refine q2 gb tpb (e + 1) bc bs _ y3 P (by omega) f1 f2 (by omega) (f3.trans b43) f4 (fun f j hr2 => k0b f j (q4 f j hr2)) (fun j2 wl hr2 z s1 s2 s3 => ?_)
        refine mNeed (w := 59) T tpb s1 s2 (m59 (T.k j2)) (fun kx y5 p1 p2 p3 p4 => ⟨1, rfl, Or.inr rfl, k1 (j2 + 1) pl wl ((q5 j2 wl hr2).1 kx) y5 (eb.tr (p1.mono FGm_M)) ?_ (((p1.1 26 0 25 rfl).1).trans b25) ((p4.trans s3).trans b40) (fun q => ((p1.1 49 0 q rfl).1).trans (b49 q)) (fun q => ((p1.1 50 0 q rfl).1).trans (b50 q))⟩) (fun kx y5 p1 p2 p3 => ⟨0, rfl, Or.inl rfl, k0b 1 j2 ((q5 j2 wl hr2).2 kx) y5 p1 p2 p3⟩)
        rw [exs_app, ← List.append_assoc]
        exact p2
      · intro j pl wl hr
        rcases r1 with ⟨f, j1⟩ | ⟨j1, l1⟩
        · rw [Q1 f j1 rfl] at hr; cases hr
        · have hj1 := g1 j1 l1 rfl
          by_cases e : tK b n j1 = 260
          · obtain ⟨r2, q1, q2, q3, q4, q5⟩ := Q3 j1 l1 rfl e
            rcases r2 with ⟨f, j2⟩ | ⟨j2, l2⟩
            · rw [q4 f j2 rfl] at hr; cases hr
            · have hj2 := q3 j2 l2 rfl
              by_cases e3 : tK b n j2 = 59
              · rw [(q5 j2 l2 rfl).1 e3] at hr
                cases hr
                have := T.lt hj2.2.1 (by omega)
                refine ⟨k8, by omega, by omega, by omega, by omega, hj1.2.2.2.2.1, hj2.2.2.2.2.1, hj1.2.2.2.2.2 0 (by decide), hj2.2.2.2.2.2.1, hj2.2.2.2.2.2.2⟩
              · rw [(q5 j2 l2 rfl).2 e3] at hr; cases hr
          · rw [Q2 j1 l1 rfl e] at hr; cases hr
    · refine ⟨.inl (3, i), ?_, ?_, fun j pl wl hr => (by cases hr)⟩
      · intro h B d bc bs sl P hd h7 cs hl k0 k1
        refine wX2_readLine (d := d + 1) ?_
        rw [(knT T B CF.rf hi cs.1).1]
        refine ⟨fun _ => ⟨fun z => absurd (show nI k < nI 8 from z) (nI_nlt (by omega) (by omega)), fun _ => ?_⟩, fun z => absurd ((cKe kb (v := 259) (by decide)).mpr kp) z⟩
        exact cFail (f := 3) T B CF.rf hi cs.1 rfl (fun y a1 a2 a3 => ⟨0, rfl, Or.inl rfl, k0 3 i rfl y a1.g a2 a3⟩)
      · intro g tp d bc bs sm P hd h25 rs hl k0 k1
        refine wX10_aLine (d := d + 1) ?_
        rw [rs.1.2.1, h25]
        refine ⟨fun _ => ⟨fun z => absurd (show nI k = nI 8 by rw [show k = 8 by omega]) z, fun _ => ?_⟩, fun z => absurd ((m_3 kb).mpr kp) z⟩
        exact mBad (f := 3) Eqo.rf rs rfl (fun y a1 a2 a3 => ⟨0, rfl, Or.inl rfl, k0 3 i rfl y (a1.mono FGm_M) a2 a3⟩)
  · refine ⟨.inl (1, i), ?_, ?_, fun j pl wl hr => (by cases hr)⟩
    · intro h B d bc bs sl P hd h7 cs hl k0 k1
      refine wX2_readLine (d := d + 1) ?_
      rw [(knT T B CF.rf hi cs.1).1]
      refine ⟨fun z => absurd ((cKe kb (v := 259) (by decide)).mp z) kp, fun _ => ?_⟩
      exact cFail (f := 1) T B CF.rf hi cs.1 rfl (fun y a1 a2 a3 => ⟨0, rfl, Or.inl rfl, k0 1 i rfl y a1.g a2 a3⟩)
    · intro g tp d bc bs sm P hd h25 rs hl k0 k1
      refine wX10_aLine (d := d + 1) ?_
      rw [rs.1.2.1]
      refine ⟨fun z => absurd ((m_3 kb).mp z) kp, fun _ => ?_⟩
      exact mBad (f := 1) Eqo.rf rs rfl (fun y a1 a2 a3 => ⟨0, rfl, Or.inl rfl, k0 1 i rfl y (a1.mono FGm_M) a2 a3⟩)
end LN

-- ===== reading the rule: all lines =====
abbrev LN2 : Type := List (Nat × Nat) × List (Nat × Nat)
def flatL (L : List LN2) : List (Nat × Nat) := L.flatMap (fun q => q.1 ++ q.2)
theorem flatL_c {q : LN2} {L : List LN2} : flatL (q :: L) = q.1 ++ q.2 ++ flatL L := List.flatMap_cons
def CAr (s B k : Nat) (L : List LN2) (y : HS) : Prop := ∀ t q, L[t]? = some q → gI y 15 s (k + t) = nI (B + (flatL (L.take t)).length) ∧ gI y 16 s (k + t) = nI (B + (flatL (L.take t)).length + q.1.length) ∧ gI y 17 s (k + t) = nI (B + (flatL (L.take t)).length + q.1.length + q.2.length)
def MAr (B k : Nat) (L : List LN2) (y : HS) : Prop := ∀ t q, L[t]? = some q → gI y 49 0 (k + t) = nI (B + (exs (flatL (L.take t))).length) ∧ gI y 50 0 (k + t) = nI (B + (exs (flatL (L.take t))).length + (exs q.1).length)
abbrev TRr : Type := (Nat × Nat) ⊕ List LN2
def CRd (b : Nat → Nat) (n c s k i : Nat) (r : TRr) : Prop := ∀ (h : HS), CB b n c s h → ∀ (d bc bs : Nat) (sl : List (Nat × Nat)) (P : Option AV → HS → Prop), 34 ≤ d → gI h 12 s 7 = nI k → CSx s i sl h → sl.length ≤ i → (∀ f j, r = .inl (f, j) → ∀ y, CG s h y → gI y 19 0 3 = nI f → gI y 19 0 4 = nI (tL b n j) → P (some (aI 0)) y) → (∀ L, r = .inr L → ∀ y, CG s h y → (∃ i', CSx s i' (sl ++ flatL L) y) → gI y 12 s 7 = nI (k + L.length) → CAr s sl.length k L y → (∀ q, q < k → gI y 15 s q = gI h 15 s q ∧ gI y 16 s q = gI h 16 s q ∧ gI y 17 s q = gI h 17 s q) → P (some (aI 1)) y) → V true mX2_read (d + 4) bc bs 33 [(0, aR 19 0), (2, aI (nI k))] [] h P
def RRd (b : Nat → Nat) (n k i : Nat) (r : TRr) : Prop := ∀ (g : HS), TP b n g → ∀ (d bc bs : Nat) (sm : List Nat) (P : Option AV → HS → Prop), 34 ≤ d → gI g 26 0 25 = nI k → RSx b n i sm g → sm.length ≤ i → (∀ f j, r = .inl (f, j) → ∀ y, Eqo FGm g y → gI y 26 0 40 = nI f → gI y 26 0 41 = nI (tL b n j) → V true mX10_rule (d + 4) bc bs 26 [(0, aR 26 0), (1, aI 0)] [] y P) → (∀ L, r = .inr L → ∀ y, Eqo FGm g y → gI y 26 0 26 = nI (sm ++ exs (flatL L)).length → SgM y 51 0 (sm ++ exs (flatL L)) → gI y 26 0 25 = nI (k + L.length) → gI y 26 0 40 = gI g 26 0 40 → gI y 26 0 37 = 0 → MAr sm.length k L y → (∀ q, q < k → gI y 49 0 q = gI g 49 0 q ∧ gI y 50 0 q = gI g 50 0 q) → V true mX10_rule (d + 4) bc bs 26 [(0, aR 26 0), (1, aI 1)] [] y P) → V true mX10_rule (d + 4) bc bs 26 [(0, aR 26 0), (1, aI 1)] [] g P
def RGr (c k i : Nat) (r : TRr) : Prop := ∀ L, r = .inr L → k + L.length ≤ 8 ∧ (∀ q ∈ L, gdL q) ∧ (flatL L).length ≤ c - i ∧ (exs (flatL L)).length ≤ c - i
section RD
variable {b : Nat → Nat} {n c s : Nat}
theorem xR (T : Tks b n c) : ∀ m k i, c - i = m → i ≤ c → k ≤ 8 → ∃ r, CRd b n c s k i r ∧ RRd b n k i r ∧ RGr c k i r := by
  have h400 := T.1
  have hcn := T.2.2.1
  intro m
  induction m using Nat.strongRecOn with
  | _ m ih =>
  intro k i hm hi hk
  have kb := T.k i
  by_cases ke : tK b n i = 256
  · refine ⟨.inr [], ?_, ?_, ?_⟩
    · intro h B d bc bs sl P hd h7 cs hl k0 k1
      refine wX2_read_33 (d := d + 1) ?_
      rw [(knT T B CF.rf hi cs.1).1]
      refine ⟨fun z => absurd (show nI 8 < nI k from z) (nI_nlt hk (by decide)), fun _ => ⟨fun z => absurd ((cKe kb (v := 256) (by decide)).mpr ke) z, fun _ => ?_⟩⟩
      exact k1 [] rfl h ⟨Eqo.rf, fun _ _ _ _ _ _ => rfl⟩ ⟨i, by rw [show flatL [] = [] from rfl, List.append_nil]; exact cs⟩ h7 (fun t q hq => by simp at hq) (fun q _ => ⟨rfl, rfl, rfl⟩)
    · intro g tp d bc bs sm P hd h25 rs hl k0 k1
      refine k1 [] rfl g Eqo.rf ?_ ?_ h25 rfl ?_ (fun t q hq => by simp at hq) (fun q _ => ⟨rfl, rfl⟩)
      · rw [show exs (flatL []) = [] from rfl, List.append_nil]; exact rs.2.1
      · rw [show exs (flatL []) = [] from rfl, List.append_nil]; exact rs.2.2
      · rw [rs.1.2.1]
        exact (m_0 kb).mpr ke
    · intro L hr
      cases hr
      exact ⟨hk, fun q hq => absurd hq List.not_mem_nil, Nat.zero_le _, Nat.zero_le _⟩
  · have ic : i < c := T.lt hi ke
    obtain ⟨r1, c1, m1, g1⟩ := xLn (s := s) T hi hk
    obtain ⟨r, Q1, Q2⟩ : ∃ r : TRr, (∀ f j, r1 = .inl (f, j) → r = .inl (f, j)) ∧ (∀ j pl wl, r1 = .inr (j, pl, wl) → ∃ r2, CRd b n c s (k + 1) j r2 ∧ RRd b n (k + 1) j r2 ∧ RGr c (k + 1) j r2 ∧ (∀ f j', r2 = .inl (f, j') → r = .inl (f, j')) ∧ (∀ L, r2 = .inr L → r = .inr ((pl, wl) :: L))) := by
      rcases r1 with ⟨f, j⟩ | ⟨j, pl, wl⟩
      · exact ⟨.inl (f, j), fun f' j' e => (by cases e; rfl), fun j' p' w' e => (by cases e)⟩
      · have hj := g1 j pl wl rfl
        obtain ⟨r2, a1, a2, a3⟩ := ih (c - j) (by omega) (k + 1) j rfl hj.2.2.1 (by omega)
        rcases r2 with ⟨f, j2⟩ | L
        · exact ⟨.inl (f, j2), fun f' j' e => (by cases e), fun j' p' w' e => (by cases e; exact ⟨.inl (f, j2), a1, a2, a3, fun f' j' e => (by cases e; rfl), fun L e => (by cases e)⟩)⟩
        · exact ⟨.inr ((pl, wl) :: L), fun f' j' e => (by cases e), fun j' p' w' e => (by cases e; exact ⟨.inr L, a1, a2, a3, fun f' j' e => (by cases e), fun L e => (by cases e; rfl)⟩)⟩
    refine ⟨r, ?_, ?_, ?_⟩
    · intro h B d bc bs sl P hd h7 cs hl k0 k1
      obtain ⟨e, rfl⟩ : ∃ e, d = e + 1 := ⟨d - 1, by omega⟩
      refine wX2_read_33 (d := e + 2) ?_
      rw [(knT T B CF.rf hi cs.1).1, nI_1]
      refine ⟨fun z => absurd (show nI 8 < nI k from z) (nI_nlt hk (by decide)), fun _ => ⟨fun _ => ?_, fun z => absurd ((cKe kb (v := 256) (by decide)).mp z) ke⟩⟩
      refine c1 h B e 0 0 sl _ (by omega) h7 cs hl (fun f j hr y a1 a2 a3 => ⟨0, rfl, fun z => absurd rfl z, fun _ => k0 f j (Q1 f j hr) y a1 a2 a3⟩) (fun j pl wl hr y a1 a2 a3 a4 a5 a6 => ⟨1, rfl, fun _ => ?_, fun z => absurd z (by decide)⟩)
      obtain ⟨r2, b1, b2, b3, b4, b5⟩ := Q2 j pl wl hr
      have hj := g1 j pl wl hr
      have By : CB b n c s y := ⟨((a1.1.1 8 0 3 rfl).1).trans B.1, fun q hq => by
        rw [(a1.1.1 9 0 q rfl).1, (a1.1.1 10 0 q rfl).1, (a1.1.1 11 0 q rfl).1]
        exact B.2.1 q hq, ((a1.1.1 19 0 1 rfl).2).trans B.2.2⟩
      have len : (sl ++ (pl ++ wl)).length = sl.length + pl.length + wl.length := by simp; omega
      refine b1 y By (e + 1) bc bs _ P (by omega) a3 a2 (by rw [len]; omega) (fun f j' hr2 y2 d1 d2 d3 => k0 f j' (b4 f j' hr2) y2 (a1.tr d1) d2 d3) (fun L hr2 y2 d1 d2 d3 d4 d5 => k1 _ (b5 L hr2) y2 (a1.tr d1) ?_ ?_ ?_ (fun q hq => ?_))
      · obtain ⟨i', q⟩ := d2
        refine ⟨i', ?_⟩
        rw [flatL_c, ← List.append_assoc]
        exact q
      · rw [d3, List.length_cons]
        congr 1
        omega
      · intro t q hq
        match t, hq with
        | 0, hq =>
          have : (pl, wl) = q := by simpa using hq
          subst this
          obtain ⟨w1, w2, w3⟩ := d5 k (by omega)
          rw [Nat.add_zero, w1, w2, w3, a4, a5, a6, if_pos rfl, if_pos rfl, if_pos rfl]
          exact ⟨rfl, rfl, rfl⟩
        | t + 1, hq =>
          have hq' : L[t]? = some q := by simpa using hq
          obtain ⟨w1, w2, w3⟩ := d4 t q hq'
          have ef : (flatL (((pl, wl) :: L).take (t + 1))).length = pl.length + wl.length + (flatL (L.take t)).length := by
            rw [List.take_succ_cons, flatL_c]
            simp
            omega
          rw [show k + (t + 1) = k + 1 + t by omega, w1, w2, w3, ef, len]
          refine ⟨?_, ?_, ?_⟩ <;> (congr 1; omega)
      · obtain ⟨w1, w2, w3⟩ := d5 q (by omega)
        rw [w1, w2, w3, a4, a5, a6, if_neg (by omega), if_neg (by omega), if_neg (by omega)]
        exact ⟨rfl, rfl, rfl⟩
    · intro g tp d bc bs sm P hd h25 rs hl k0 k1
      obtain ⟨e, rfl⟩ : ∃ e, d = e + 1 := ⟨d - 1, by omega⟩
      refine wX10_rule_26 (d := e + 2) ⟨fun z => absurd z (by decide), fun _ => ⟨fun z => ?_, fun _ => ?_⟩⟩
      · rw [rs.1.2.1] at z
        exact absurd ((m_0 kb).mp z) ke
      refine m1 g tp e 0 0 sm _ (by omega) h25 rs hl (fun f j hr y a1 a2 a3 => ⟨0, rfl, k0 f j (Q1 f j hr) y a1 a2 a3⟩) (fun j pl wl hr y a1 a2 a3 a4 a5 a6 => ⟨1, rfl, ?_⟩)
      obtain ⟨r2, b1, b2, b3, b4, b5⟩ := Q2 j pl wl hr
      have hj := g1 j pl wl hr
      have ty : TP b n y := ⟨((a1.1 26 0 35 rfl).1).trans tp.1, fun q hq => ((a1.1 53 0 q rfl).1).trans (tp.2 q hq)⟩
      have len : (sm ++ exs (pl ++ wl)).length = sm.length + (exs pl).length + (exs wl).length := by rw [exs_app]; simp; omega
      refine b2 y ty (e + 1) bc bs _ P (by omega) a3 a2 (by rw [len]; omega) (fun f j' hr2 y2 d1 d2 d3 => k0 f j' (b4 f j' hr2) y2 (a1.tr d1) d2 d3) (fun L hr2 y2 d1 d2 d3 d4 d5 d6 d7 d8 => k1 _ (b5 L hr2) y2 (a1.tr d1) ?_ ?_ ?_ (d5.trans a4) d6 ?_ (fun q hq => ?_))
      · rw [flatL_c, exs_app, ← List.append_assoc]
        exact d2
      · rw [flatL_c, exs_app, ← List.append_assoc]
        exact d3
      · rw [d4, List.length_cons]
        congr 1
        omega
      · intro t q hq
        match t, hq with
        | 0, hq =>
          have : (pl, wl) = q := by simpa using hq
          subst this
          obtain ⟨w1, w2⟩ := d8 k (by omega)
          rw [Nat.add_zero, w1, w2, a5, a6, if_pos rfl, if_pos rfl]
          exact ⟨rfl, rfl⟩
        | t + 1, hq =>
          have hq' : L[t]? = some q := by simpa using hq
          obtain ⟨w1, w2⟩ := d7 t q hq'
          have ef : (exs (flatL (((pl, wl) :: L).take (t + 1)))).length = (exs pl).length + (exs wl).length + (exs (flatL (L.take t))).length := by
            rw [List.take_succ_cons, flatL_c, exs_app, exs_app]
            simp
            omega
          rw [show k + (t + 1) = k + 1 + t by omega, w1, w2, ef, len]
          refine ⟨?_, ?_⟩ <;> (congr 1; omega)
      · obtain ⟨w1, w2⟩ := d8 q (by omega)
        rw [w1, w2, a5, a6, if_neg (by omega), if_neg (by omega)]
        exact ⟨rfl, rfl⟩
    · intro L hr
      rcases r1 with ⟨f, j⟩ | ⟨j, pl, wl⟩
      · rw [Q1 f j rfl] at hr; cases hr
      · have hj := g1 j pl wl rfl
        obtain ⟨r2, b1, b2, b3, b4, b5⟩ := Q2 j pl wl rfl
        rcases r2 with ⟨f, j2⟩ | L2
        · rw [b4 f j2 rfl] at hr; cases hr
        · rw [b5 L2 rfl] at hr
          cases hr
          have h2 := b3 L2 rfl
          refine ⟨by simp; omega, fun q hq => ?_, ?_, ?_⟩
          · rcases List.mem_cons.mp hq with z | z
            · rw [z]; exact hj.2.2.2.2.2
            · exact h2.2.1 q z
          · rw [flatL_c]
            simp
            omega
          · rw [flatL_c, exs_app, exs_app]
            simp
            omega
end RD

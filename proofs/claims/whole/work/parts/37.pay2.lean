-- ===== the steps of a rule: class and reference work them alike =====
def FWp (c k : Nat) : Bool := match c with
  | 12 => k != 8
  | 18 => false
  | _ => true
def F52 (c _k : Nat) : Bool := c != 52
def tkCp (T : T4) (x : HS) : Prop := gI x 20 0 0 = T.1 ∧ gI x 20 0 1 = T.2.1 ∧ gI x 20 0 2 = T.2.2.1 ∧ gI x 20 0 3 = T.2.2.2
def tkMp (T : T4) (x : HS) : Prop := gI x 26 0 45 = T.1 ∧ gI x 26 0 46 = T.2.1 ∧ gI x 26 0 47 = T.2.2.1 ∧ gI x 26 0 48 = T.2.2.2
theorem hts_p {m n k : Nat} {s : Nat × Nat} {l : List (Nat × Nat)} (e : s.1 = 258 ∨ 262 ≤ s.1) (h : hts m (s :: l) n = some k) : n < m ∧ hts m l (n + 1) = some k := by
  unfold hts at h
  rw [if_pos e] at h
  by_cases q : n < m
  · rw [if_pos q] at h; exact ⟨q, h⟩
  · rw [if_neg q] at h; cases h
theorem hts_d {m n k : Nat} {s : Nat × Nat} {l : List (Nat × Nat)} (e : s.1 = 47) (h : hts m (s :: l) n = some k) : 1 ≤ n ∧ hts m l n = some k := by
  unfold hts at h
  rw [if_neg (by omega), if_pos e] at h
  by_cases q : 1 ≤ n
  · rw [if_pos q] at h; exact ⟨q, h⟩
  · rw [if_neg q] at h; cases h
theorem hts_b {m n k : Nat} {s : Nat × Nat} {l : List (Nat × Nat)} (e : ¬ (s.1 = 258 ∨ 262 ≤ s.1)) (e2 : ¬ s.1 = 47) (h : hts m (s :: l) n = some k) : 2 ≤ n ∧ hts m l (n - 1) = some k := by
  unfold hts at h
  rw [if_neg e, if_neg e2] at h
  by_cases q : 2 ≤ n
  · rw [if_pos q] at h; exact ⟨q, h⟩
  · rw [if_neg q] at h; cases h
theorem hts_le {m : Nat} : ∀ {l : List (Nat × Nat)} {n k : Nat}, n ≤ m → hts m l n = some k → k ≤ m
  | [], n, k, hn, h => by
    have : some n = some k := h
    cases this; exact hn
  | s :: l, n, k, hn, h => by
    by_cases e : s.1 = 258 ∨ 262 ≤ s.1
    · obtain ⟨q, h⟩ := hts_p e h
      exact hts_le (by omega) h
    · by_cases e2 : s.1 = 47
      · obtain ⟨q, h⟩ := hts_d e2 h
        exact hts_le hn h
      · obtain ⟨q, h⟩ := hts_b e e2 h
        exact hts_le (by omega) h
theorem stOK_c {s : Nat × Nat} (h : stOK s) : s.1 = 258 ∨ (262 ≤ s.1 ∧ s.1 ≤ 265) ∨ (s.1 = 47 ∧ s.2 ≠ 0) ∨ (s.1 < 262 ∧ s.1 ≠ 258 ∧ s.1 ≠ 47) := by
  obtain ⟨_, h⟩ := h
  omega
theorem vw_wd {T : T4} {x : HS} {s : Nat} (t : tkCp T x) (h1 : 262 ≤ s) (h2 : s ≤ 265) : vwF x (nI s) = wdF T s := by
  obtain ⟨t1, t2, t3, t4⟩ := t
  have : s = 262 ∨ s = 263 ∨ s = 264 ∨ s = 265 := by omega
  rcases this with rfl | rfl | rfl | rfl
  · exact t1
  · exact t2
  · exact t3
  · exact t4
section PV
variable {h : HS} {P : Option AV → HS → Prop} {d bc bs : Nat}
theorem cPush {i n : Nat} {v : Int32} (e : gI h 12 i 8 = nI n) (hn : n < 64) (k : P none (sI (sI h 18 i n v) 12 i 8 (nI (n + 1)))) : Cl true mX1_push (d + 3) bc bs [aR 12 i, aI v] h P := by
  refine wX1_push ?_
  rw [e, nI_clamp (by omega), nI_1]
  exact ⟨fun z => absurd z (nI_pos (by omega)), fun _ => ⟨fun z => absurd (show nI 64 ≤ nI n from z) (nI_ge hn (by decide)), fun _ => ⟨vp_in_nI hn (by decide), k⟩⟩⟩
theorem cPop {i n : Nat} (e : gI h 12 i 8 = nI (n + 1)) (hn : n < 64) (k : P (some (aI (gI h 18 i n))) (sI h 12 i 8 (nI n))) : Cl true mX1_pop (d + 3) bc bs [aR 12 i] h P := by
  refine wX1_pop ?_
  rw [e, nI_pred, nI_clamp (by omega)]
  exact ⟨fun z => absurd z (nI_nle (by omega) (by omega)), fun _ => ⟨fun _ => ⟨vp_in_nI hn (by decide), k⟩, fun z => absurd (show nI (n + 1) ≤ nI 64 from nI_le (by omega) (by decide)) z⟩⟩
theorem stk_push {ρ : Nat} {a w : Int32} {t : List Int32} {x : HS} (sk : stk 18 ρ t x) : stk 18 ρ (a :: t) (sI (sI x 18 ρ t.length a) 12 ρ 8 w) := ⟨by rw [gI_sI, if_neg (fun z => absurd z.1 (by decide)), gI_same], stk_cg (fun k => by rw [gI_sI, if_neg (fun z => absurd z.1 (by decide))]) (stk_sI (Nat.le_refl _) sk)⟩
theorem stk_12 {ρ : Nat} {v : Int32} {t : List Int32} {x : HS} (sk : stk 18 ρ t x) : stk 18 ρ t (sI x 12 ρ 8 v) := stk_cg (x := x) (y := sI x 12 ρ 8 v) (fun k => rfl) sk
theorem cVal_lp {ρ e : Nat} {T : T4} (he : e ≤ 400) (tk : tkCp T h) : ∀ (l : List (Nat × Nat)) (p : Nat) (st : List Int32) (x : HS), p + l.length = e → SgC h ρ p l → (∀ s ∈ l, stOK s) → st.length ≤ 60 → hts 60 l st.length = some 1 → Eqo FWp h x → gI x 12 ρ 8 = nI st.length → stk 18 ρ st x → (∀ y v, Eqo FWp h y → ev T l st = [v] → P (some (aI v)) y) → V true mX1_valueOf (d + 4) bc bs 12 [(0, aR 12 ρ), (2, aI (nI e)), (3, aR 20 0), (4, aI (nI p))] [] x P := by
  intro l
  induction l with
  | nil =>
    intro p st x hp _ _ _ hh ex e8 sk k
    have hp' : p = e := hp
    subst hp'
    have hl : some st.length = some 1 := hh
    match st, hl, e8, sk, k with
    | [v], _, e8, sk, k =>
      refine wX1_valueOf_12 ⟨fun _ => cPop (n := 0) e8 (by decide) ⟨_, rfl, ?_⟩, fun z => absurd (nI_le (Nat.le_refl _) (by omega)) z⟩
      rw [show gI x 18 ρ 0 = v from sk.1]
      exact k _ v (ex.sI rfl) rfl
  | cons s l ih =>
    intro p st x hp hS hok h60 hh ex e8 sk k
    have hp' : p + (l.length + 1) = e := hp
    have hs := hS 0 s rfl
    have g13 : gI x 13 ρ p = nI s.1 := ((ex.1 13 ρ p rfl).1).trans hs.1
    have g14 : gI x 14 ρ p = nI s.2 := ((ex.1 14 ρ p rfl).1).trans hs.2
    have hsl : SgC h ρ (p + 1) l := fun j t ht => by
      have q := hS (j + 1) t ht
      rw [show p + (j + 1) = p + 1 + j by omega] at q
      exact q
    have ok1 := hok s List.mem_cons_self
    have kb : s.1 ≤ 265 := by have := ok1.2; omega
    have vin : vp_in (nI p) 400 := vp_in_nI (by omega) (by decide)
    have nk : ∀ {a : Nat}, s.1 ≠ a → a < 1000 → ¬ nI s.1 = nI a := fun q qa z => q ((nI_eq (by omega) (by omega)).mp z)
    have tx : tkCp T x := ⟨((ex.1 20 0 0 rfl).1).trans tk.1, ((ex.1 20 0 1 rfl).1).trans tk.2.1, ((ex.1 20 0 2 rfl).1).trans tk.2.2.1, ((ex.1 20 0 3 rfl).1).trans tk.2.2.2⟩
    have nx : ∀ (st2 : List Int32) (y : HS), ev1 T s st = st2 → Eqo FWp h y → gI y 12 ρ 8 = nI st2.length → stk 18 ρ st2 y → st2.length ≤ 60 → hts 60 l st2.length = some 1 → V true mX1_valueOf (d + 4) bc bs 12 [(0, aR 12 ρ), (2, aI (nI e)), (3, aR 20 0), (4, aI (nI p + 1))] [] y P := fun st2 y q1 q2 q3 q4 q5 q6 => by
      rw [nI_1]
      exact ih (p + 1) st2 y (by omega) hsl (fun t ht => hok t (List.mem_cons_of_mem _ ht)) q5 q6 q2 q3 q4 (fun y v w1 w2 => k y v w1 (by show ev T l (ev1 T s st) = _; rw [q1]; exact w2))
    refine wX1_valueOf_12 ⟨fun z => absurd z (nI_ge (by omega) (by omega)), fun _ => ⟨fun z => absurd (show nI 400 ≤ nI p from z) (nI_ge (by omega) (by decide)), fun _ => ⟨vin, ?_⟩⟩⟩
    rw [nI_clamp (by omega), g13, g14]
    rcases stOK_c ok1 with q | ⟨q1, q2⟩ | ⟨q, q0⟩ | ⟨q1, q2, q3⟩
    · obtain ⟨hl, hh2⟩ := hts_p (Or.inl q) hh
      refine ⟨fun _ => ⟨vin, fun z => absurd (by rw [q]; rfl) z, fun _ => ⟨vin, cPush e8 (by omega) ⟨rfl, ?_⟩⟩⟩, fun z => absurd (show nI s.1 = nI 47 from z) (nk (by omega) (by decide))⟩
      exact nx (nI s.2 :: st) _ (by unfold ev1; rw [if_pos (Or.inl q), if_pos q]) ((ex.sI rfl).sI rfl) gI_same (stk_push sk) (show st.length + 1 ≤ 60 by omega) hh2
    · obtain ⟨hl, hh2⟩ := hts_p (Or.inr q1) hh
      refine ⟨fun _ => ⟨vin, fun _ => ⟨vin, fun z => absurd (show nI s.1 < nI 262 from z) (nI_nlt q1 (by omega)), fun _ => ⟨vin, ?_⟩⟩, fun z => absurd (show nI s.1 = nI 258 from z) (nk (by omega) (by decide))⟩, fun z => absurd (show nI s.1 = nI 47 from z) (nk (by omega) (by decide))⟩
      rw [vw_wd tx q1 q2]
      refine cPush e8 (by omega) ⟨rfl, ?_⟩
      exact nx (wdF T s.1 :: st) _ (by unfold ev1; rw [if_pos (Or.inr q1), if_neg (by omega)]) ((ex.sI rfl).sI rfl) gI_same (stk_push sk) (show st.length + 1 ≤ 60 by omega) hh2
    · obtain ⟨hl, hh2⟩ := hts_d q hh
      match st, hl, hh2, h60, e8, sk, nx with
      | a :: t, _, hh2, h60, e8, sk, nx =>
        have h60' : t.length + 1 ≤ 60 := h60
        refine ⟨fun z => absurd (by rw [q]; rfl) z, fun _ => cPop (n := t.length) e8 (by omega) ⟨_, rfl, vin, ?_⟩⟩
        show Cl true mX1_push _ _ _ [aR 12 ρ, aI (partF (gI x 18 ρ t.length) (gI x 14 ρ p))] _ _
        rw [g14, show gI x 18 ρ t.length = a from sk.1, show partF a (nI s.2) = a / nI s.2 from if_neg (nI_ne0 (by omega) (by have := ok1.1; omega))]
        refine cPush (n := t.length) gI_same (by omega) ⟨rfl, ?_⟩
        exact nx (a / nI s.2 :: t) _ (by unfold ev1; rw [if_neg (by omega), if_pos q]) (((ex.sI rfl).sI rfl).sI rfl) gI_same (stk_push (stk_12 sk.2)) h60' hh2
    · obtain ⟨hl, hh2⟩ := hts_b (by omega) q3 hh
      match st, hl, hh2, h60, e8, sk, nx with
      | b :: a :: t, _, hh2, h60, e8, sk, nx =>
        have h60' : t.length + 1 + 1 ≤ 60 := h60
        refine ⟨fun _ => ⟨vin, fun _ => ⟨vin, fun _ => cPop (n := t.length + 1) e8 (by omega) ⟨_, rfl, vin, cPop (n := t.length) gI_same (by omega) ⟨_, rfl, ?_⟩⟩, fun z => absurd (show nI s.1 < nI 262 from nI_lt q1 (by decide)) z⟩, fun z => absurd (show nI s.1 = nI 258 from z) (nk (by omega) (by decide))⟩, fun z => absurd (show nI s.1 = nI 47 from z) (nk (by omega) (by decide))⟩
        show Cl true mX1_push _ _ _ [aR 12 ρ, aI (joinF (gI x 13 ρ p) (gI x 18 ρ t.length) (gI x 18 ρ (t.length + 1)))] _ _
        rw [g13, show gI x 18 ρ t.length = a from sk.2.1, show gI x 18 ρ (t.length + 1) = b from sk.1]
        refine cPush (n := t.length) gI_same (by omega) ⟨rfl, ?_⟩
        exact nx (joinF (nI s.1) a b :: t) _ (by unfold ev1; rw [if_neg (by omega), if_neg q3]) ((((ex.sI rfl).sI rfl).sI rfl).sI rfl) gI_same (stk_push (stk_12 (stk_12 sk.2.2))) (show t.length + 1 ≤ 60 by omega) hh2
theorem cVal {ρ p : Nat} {l : List (Nat × Nat)} {T : T4} (tk : tkCp T h) (hS : SgC h ρ p l) (hok : ∀ s ∈ l, stOK s) (hp : p + l.length ≤ 400) (hh : hts 60 l 0 = some 1) (k : ∀ y v, Eqo FWp h y → ev T l [] = [v] → P (some (aI v)) y) : Cl true mX1_valueOf (d + 4) bc bs [aR 12 ρ, aI (nI p), aI (nI (p + l.length)), aR 20 0] h P := by
  refine wX1_valueOf ?_
  rw [show maxF (nI p) 0 = nI p from if_neg (nI_pos (by omega))]
  have hS2 : SgC (sI h 12 ρ 8 0) ρ p l := fun j s hs => hS j s hs
  exact cVal_lp (h := sI h 12 ρ 8 0) hp tk l p [] _ rfl hS2 hok (Nat.zero_le _) hh Eqo.rf (gI_same.trans nI_0.symm) trivial (fun y v e q => k y v ((Eqo.rf.sI rfl).tr e) q)
-- the reference
theorem mw1 {e n p c : Nat} (hp : p < e) (he : e ≤ 500) (hn : n < 500) (g : gI h 48 0 p = nI c) (hc : c < 1000000) (k : V true mX10_worked (d + 3) bc bs 5 [(0, aR 26 0), (2, aI (nI e)), (3, aI (nI (n + 1))), (4, aI (nI (p + 1)))] [] (sI h 52 0 n (nI c)) P) : V true mX10_worked (d + 3) bc bs 5 [(0, aR 26 0), (2, aI (nI e)), (3, aI (nI n)), (4, aI (nI p))] [] h P := by
  refine wX10_worked_5 ⟨fun z => absurd z (nI_ge hp (by omega)), fun _ => ⟨vp_in_nI (by omega) (by decide), ?_⟩⟩
  rw [nI_clamp (show p < 2 ^ 31 by omega), nI_clamp (show n < 2 ^ 31 by omega), g, nI_1, nI_1]
  have nk : ∀ {a : Nat}, 1000000 < a → a < 2000000 → ¬ nI c = nI a := fun q qa z => absurd ((nI_eq (by omega) (by omega)).mp z) (by omega)
  have vn : vp_in (nI n) 500 := vp_in_nI hn (by decide)
  exact ⟨fun z => absurd (show nI 1000010 ≤ nI c from z) (nI_ge (by omega) (by decide)), fun _ => ⟨fun _ => ⟨fun _ => ⟨fun _ => ⟨fun _ => ⟨vn, k⟩, fun z => absurd (show nI c = nI 1000004 from z) (nk (by decide) (by decide))⟩, fun z => absurd (show nI c = nI 1000003 from z) (nk (by decide) (by decide))⟩, fun z => absurd (show nI c = nI 1000002 from z) (nk (by decide) (by decide))⟩, fun z => absurd (show nI c = nI 1000001 from z) (nk (by decide) (by decide))⟩⟩
theorem mw2 {e n p w : Nat} {T : T4} (tk : tkMp T h) (hp : p < e) (he : e ≤ 500) (hn : n < 500) (h1 : 262 ≤ w) (h2 : w ≤ 265) (g : gI h 48 0 p = nI (1000001 + (w - 262))) (k : V true mX10_worked (d + 3) bc bs 5 [(0, aR 26 0), (2, aI (nI e)), (3, aI (nI (n + 1))), (4, aI (nI (p + 1)))] [] (sI h 52 0 n (wdF T w)) P) : V true mX10_worked (d + 3) bc bs 5 [(0, aR 26 0), (2, aI (nI e)), (3, aI (nI n)), (4, aI (nI p))] [] h P := by
  refine wX10_worked_5 ⟨fun z => absurd z (nI_ge hp (by omega)), fun _ => ⟨vp_in_nI (by omega) (by decide), ?_⟩⟩
  rw [nI_clamp (show p < 2 ^ 31 by omega), nI_clamp (show n < 2 ^ 31 by omega), g, nI_1, nI_1]
  obtain ⟨t1, t2, t3, t4⟩ := tk
  rw [t1, t2, t3, t4]
  have vn : vp_in (nI n) 500 := vp_in_nI hn (by decide)
  have : w = 262 ∨ w = 263 ∨ w = 264 ∨ w = 265 := by omega
  rcases this with rfl | rfl | rfl | rfl
  · exact ⟨fun z => absurd z (by decide), fun _ => ⟨fun z => absurd (by decide) z, fun _ => ⟨vn, k⟩⟩⟩
  · exact ⟨fun z => absurd z (by decide), fun _ => ⟨fun _ => ⟨fun z => absurd (by decide) z, fun _ => ⟨vn, k⟩⟩, fun z => absurd z (by decide)⟩⟩
  · exact ⟨fun z => absurd z (by decide), fun _ => ⟨fun _ => ⟨fun _ => ⟨fun z => absurd (by decide) z, fun _ => ⟨vn, k⟩⟩, fun z => absurd z (by decide)⟩, fun z => absurd z (by decide)⟩⟩
  · exact ⟨fun z => absurd z (by decide), fun _ => ⟨fun _ => ⟨fun _ => ⟨fun _ => ⟨fun z => absurd (by decide) z, fun _ => ⟨vn, k⟩⟩, fun z => absurd z (by decide)⟩, fun z => absurd z (by decide)⟩, fun z => absurd z (by decide)⟩⟩
theorem mw3 {e n p c : Nat} (hp : p < e) (he : e ≤ 500) (hn : n + 1 < 500) (g : gI h 48 0 p = nI c) (hc : 1000010 ≤ c) (hc2 : c < 2000000) (h0 : c = 1000013 → ¬ gI h 52 0 (n + 1) = 0) (k : V true mX10_worked (d + 3) bc bs 5 [(0, aR 26 0), (2, aI (nI e)), (3, aI (nI (n + 1))), (4, aI (nI (p + 1)))] [] (sI h 52 0 n (bothF (nI c) (gI h 52 0 n) (gI h 52 0 (n + 1)))) P) : V true mX10_worked (d + 3) bc bs 5 [(0, aR 26 0), (2, aI (nI e)), (3, aI (nI (n + 2))), (4, aI (nI p))] [] h P := by
  refine wX10_worked_5 ⟨fun z => absurd z (nI_ge hp (by omega)), fun _ => ⟨vp_in_nI (by omega) (by decide), ?_⟩⟩
  rw [nI_clamp (show p < 2 ^ 31 by omega), g, nI_1, show nI (n + 2) + (-1) = nI (n + 1) from pk_m1 (n + 1), nI_pred, nI_clamp (show n < 2 ^ 31 by omega), nI_clamp (show n + 1 < 2 ^ 31 by omega)]
  refine ⟨fun _ => ⟨vp_in_nI (by omega) (by decide), vp_in_nI (by omega) (by decide), fun z => h0 ((nI_eq (by omega) (by decide)).mp (show nI c = nI 1000013 from z)), vp_in_nI (by omega) (by decide), k⟩, fun z => absurd (show nI 1000010 ≤ nI c from nI_le hc (by omega)) z⟩
end PV

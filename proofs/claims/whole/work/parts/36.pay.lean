-- ===== pay: what a clerk took =====
abbrev T3 : Type := Int32 × Int32 × Int32
def tkT (h : HS) (c m : Int32) (i : Nat) (a : T3) : T3 := if gI h 33 0 i = c ∧ ¬ gI h 40 0 i = -1 then (if isOfP (gI h 41 0 i) m then ((if isOfP (gI h 40 0 i) m then (a.1 + gI h 43 0 i, a.2.1 + 1, a.2.2) else a).1 - gI h 43 0 i, (if isOfP (gI h 40 0 i) m then (a.1 + gI h 43 0 i, a.2.1 + 1, a.2.2) else a).2.1, (if isOfP (gI h 40 0 i) m then (a.1 + gI h 43 0 i, a.2.1 + 1, a.2.2) else a).2.2 + gI h 43 0 i) else (if isOfP (gI h 40 0 i) m then (a.1 + gI h 43 0 i, a.2.1 + 1, a.2.2) else a)) else a
theorem tkT_eq (h : HS) (c m : Int32) (i : Nat) (a : T3) : tkT h c m i a = if gI h 33 0 i = c ∧ ¬ gI h 40 0 i = -1 then (if isOfP (gI h 41 0 i) m then ((if isOfP (gI h 40 0 i) m then (a.1 + gI h 43 0 i, a.2.1 + 1, a.2.2) else a).1 - gI h 43 0 i, (if isOfP (gI h 40 0 i) m then (a.1 + gI h 43 0 i, a.2.1 + 1, a.2.2) else a).2.1, (if isOfP (gI h 40 0 i) m then (a.1 + gI h 43 0 i, a.2.1 + 1, a.2.2) else a).2.2 + gI h 43 0 i) else (if isOfP (gI h 40 0 i) m then (a.1 + gI h 43 0 i, a.2.1 + 1, a.2.2) else a)) else a := rfl
def F20 (c _k : Nat) : Bool := c != 20
def F45 (c k : Nat) : Bool := match c with
  | 26 => decide (k < 45 ∨ 48 < k)
  | _ => true
def tk20 (m : Int32) (a : T3) (x : HS) : Prop := gI x 20 0 0 = a.1 ∧ gI x 20 0 1 = a.2.1 ∧ gI x 20 0 2 = a.2.2 ∧ gI x 20 0 3 = m
def tk45 (m : Int32) (a : T3) (x : HS) : Prop := gI x 26 0 45 = a.1 ∧ gI x 26 0 46 = a.2.1 ∧ gI x 26 0 47 = a.2.2 ∧ gI x 26 0 48 = m
section PY
variable {h : HS} {P : Option AV → HS → Prop} {d bc bs : Nat}
theorem cGath {D nt ns : Nat} {c m : Int32} (hL : LsL h 2 64 62 ns) (hn : ns ≤ 120) (sl : ∀ i, i < ns → SL h D nt i) (k : ∀ y, Eqo F20 h y → tk20 m (acc (tkT h c m) ns (0, 0, 0)) y → P none y) : Cl true mX4_gather (d + 8) bc bs [aR 20 0, aR 2 0, aI c, aI m] h P := by
  have lp : ∀ q j x, j + q = ns → Eqo F20 h x → tk20 m (acc (tkT h c m) j (0, 0, 0)) x → V true mX4_gather (d + 8) bc bs 23 [(0, aR 20 0), (1, aR 2 0), (2, aI c), (4, aI (nI j))] [] x P := by
    have L : ∀ {x}, Eqo F20 h x → LsL x 2 64 62 ns := fun e => hL.keep (fun i k => e.1 2 i k rfl) (fun i k => (e.1 64 i k rfl).2) (fun m => by rw [e.2])
    intro q
    induction q with
    | zero =>
      intro j x hj e t
      obtain rfl : j = ns := by omega
      exact wX4_gather_23 ⟨fun _ => k x e t, fun z => absurd (by rw [(L e).1]; exact nI_le (Nat.le_refl _) (by omega)) z⟩
    | succ q ih =>
      intro j x hj e t
      have nx : ∀ y a, tkT h c m j (acc (tkT h c m) j (0, 0, 0)) = a → Eqo F20 h y → tk20 m a y → V true mX4_gather (d + 8) bc bs 23 [(0, aR 20 0), (1, aR 2 0), (2, aI c), (4, aI (nI j + 1))] [] y P := fun y a ea ey ty => by
        rw [nI_1]
        exact ih (j + 1) y (by omega) ey (show tk20 m (tkT h c m j (acc (tkT h c m) j (0, 0, 0))) y by rw [ea]; exact ty)
      obtain ⟨c1, c2, c3, c4, c5, c6, c7, c8, c9, c10, c11, c12, c13, c14, c15⟩ := sl j (by omega)
      have g : ∀ k, gI x 62 j k = gI h 62 j k := fun k => (e.1 62 j k rfl).1
      generalize acc (tkT h c m) j (0, 0, 0) = a at t nx
      obtain ⟨t1, t2, t3, t4⟩ := t
      refine wX4_gather_23 ⟨fun z => absurd z (by rw [(L e).1]; exact nI_ge (by omega) (by omega)), fun _ => cGet_2 (L e) (by omega) ⟨_, rfl, ⟨fun z => ?_, fun z => ?_⟩⟩⟩
      · rw [g, c2] at z
        exact nx x a (by rw [tkT_eq, if_neg (fun y => z y.1)]) e ⟨t1, t2, t3, t4⟩
      · rw [g, c2] at z
        refine wX4_addSlip ?_
        rw [t4]
        refine ⟨fun y1 => ⟨fun y2 => ⟨rfl, ?_⟩, fun y2 => ⟨rfl, ?_⟩⟩, fun y1 => ⟨fun y2 => ⟨rfl, ?_⟩, fun y2 => ⟨rfl, ?_⟩⟩⟩
        · rw [g, g, c10, c11] at y2
          rw [g, c10] at y1
          refine nx x a ?_ e ⟨t1, t2, t3, t4⟩
          rw [tkT_eq]
          by_cases q : gI h 40 0 j = -1
          · rw [if_neg (fun w => w.2 q)]
          · rw [if_pos ⟨z, q⟩, if_neg (fun w => y2 ⟨q, w⟩), if_neg y1]
        · rw [g, g, c10, c11] at y2
          rw [g, c10] at y1
          rw [t1, t3, g, c8]
          refine nx _ (a.1 - gI h 43 0 j, a.2.1, a.2.2 + gI h 43 0 j) ?_ ((e.sI rfl).sI rfl) ⟨rfl, t2, rfl, t4⟩
          rw [tkT_eq, if_pos ⟨z, y2.1⟩, if_pos y2.2, if_neg y1]
        · have y2 : ¬ (¬ gI x 62 j 9 = -1 ∧ isOfP (gI x 62 j 10) m) := y2
          rw [g, g, c10, c11] at y2
          rw [g, c10] at y1
          rw [t1, t2, g, c8]
          refine nx _ (a.1 + gI h 43 0 j, a.2.1 + 1, a.2.2) ?_ ((e.sI rfl).sI rfl) ⟨rfl, rfl, t3, t4⟩
          rw [tkT_eq, if_pos ⟨z, y1.1⟩, if_neg (fun w => y2 ⟨y1.1, w⟩), if_pos y1]
        · have y2 : ¬ gI x 62 j 9 = -1 ∧ isOfP (gI x 62 j 10) m := y2
          rw [g, g, c10, c11] at y2
          rw [g, c10] at y1
          rw [t1, t2, t3, g, c8]
          refine nx _ (a.1 + gI h 43 0 j - gI h 43 0 j, a.2.1 + 1, a.2.2 + gI h 43 0 j) ?_ ((((e.sI rfl).sI rfl).sI rfl).sI rfl) ⟨rfl, rfl, rfl, t4⟩
          rw [tkT_eq, if_pos ⟨z, y1.1⟩, if_pos y2.2, if_pos y1]
  refine wX4_gather (lp ns 0 _ (by omega) ((((Eqo.rf.sI rfl).sI rfl).sI rfl).sI rfl) ⟨rfl, rfl, rfl, rfl⟩)
theorem mTak {ns : Nat} {c m : Int32} (hL : gI h 26 0 2 = nI ns) (hn : ns ≤ 120) (k : ∀ y, Eqo F45 h y → tk45 m (acc (tkT h c m) ns (0, 0, 0)) y → P none y) : Cl true mX10_takes (d + 3) bc bs [aR 26 0, aI c, aI m] h P := by
  have lp : ∀ q j x, j + q = ns → Eqo F45 h x → tk45 m (acc (tkT h c m) j (0, 0, 0)) x → V true mX10_takes (d + 3) bc bs 22 [(0, aR 26 0), (1, aI c), (2, aI m), (3, aI (nI j))] [] x P := by
    intro q
    induction q with
    | zero =>
      intro j x hj e t
      obtain rfl : j = ns := by omega
      exact wX10_takes_22 ⟨fun _ => k x e t, fun z => absurd (by rw [(e.1 26 0 2 rfl).1, hL]; exact nI_le (Nat.le_refl _) (by omega)) z⟩
    | succ q ih =>
      intro j x hj e t
      have nx : ∀ y a, tkT h c m j (acc (tkT h c m) j (0, 0, 0)) = a → Eqo F45 h y → tk45 m a y → V true mX10_takes (d + 3) bc bs 22 [(0, aR 26 0), (1, aI c), (2, aI m), (3, aI (nI (j + 1)))] [] y P := fun y a ea ey ty =>
        ih (j + 1) y (by omega) ey (show tk45 m (tkT h c m j (acc (tkT h c m) j (0, 0, 0))) y by rw [ea]; exact ty)
      have v : vp_in (nI j) 120 := vp_in_nI (by omega) (by decide)
      generalize acc (tkT h c m) j (0, 0, 0) = a at t nx
      obtain ⟨t1, t2, t3, t4⟩ := t
      refine wX10_takes_22 ⟨fun z => absurd z (by rw [(e.1 26 0 2 rfl).1, hL]; exact nI_ge (by omega) (by omega)), fun _ => ⟨v, ?_⟩⟩
      rw [nI_clamp (by omega), nI_1, (e.1 33 0 j rfl).1, (e.1 40 0 j rfl).1, (e.1 41 0 j rfl).1, (e.1 43 0 j rfl).1, t1, t2, t3]
      refine ⟨fun z => nx x a (by rw [tkT_eq, if_neg (fun y => z y.1)]) e ⟨t1, t2, t3, t4⟩, fun z => ⟨v, fun z2 => ⟨v, fun y1 => ⟨v, fun y2 => ?_, fun y2 => ⟨v, v, ?_⟩⟩, fun y1 => ⟨v, v, fun y2 => ?_, fun y2 => ⟨v, v, ?_⟩⟩⟩, fun z2 => nx x a (by rw [tkT_eq, if_neg (fun y => y.2 z2)]) e ⟨t1, t2, t3, t4⟩⟩⟩
      · exact nx x a (by rw [tkT_eq, if_pos ⟨z, z2⟩, if_neg y2, if_neg y1]) e ⟨t1, t2, t3, t4⟩
      · exact nx _ (a.1 - gI h 43 0 j, a.2.1, a.2.2 + gI h 43 0 j) (by rw [tkT_eq, if_pos ⟨z, z2⟩, if_pos y2, if_neg y1]) ((e.sI rfl).sI rfl) ⟨rfl, t2, rfl, t4⟩
      · exact nx _ (a.1 + gI h 43 0 j, a.2.1 + 1, a.2.2) (by rw [tkT_eq, if_pos ⟨z, z2⟩, if_neg y2, if_pos y1]) ((e.sI rfl).sI rfl) ⟨rfl, rfl, t3, t4⟩
      · exact nx _ (a.1 + gI h 43 0 j - gI h 43 0 j, a.2.1 + 1, a.2.2 + gI h 43 0 j) (by rw [tkT_eq, if_pos ⟨z, z2⟩, if_pos y2, if_pos y1]) ((((e.sI rfl).sI rfl).sI rfl).sI rfl) ⟨rfl, rfl, rfl, t4⟩
  refine wX10_takes (lp ns 0 _ (by omega) ((((Eqo.rf.sI rfl).sI rfl).sI rfl).sI rfl) ⟨rfl, rfl, rfl, rfl⟩)
end PY
-- ===== the steps of a rule, worked on a list =====
abbrev T4 : Type := Int32 × Int32 × Int32 × Int32
def wdF (T : T4) (w : Nat) : Int32 := if w = 262 then T.1 else if w = 263 then T.2.1 else if w = 264 then T.2.2.1 else T.2.2.2
def ev1 (T : T4) (s : Nat × Nat) (st : List Int32) : List Int32 := if s.1 = 258 ∨ 262 ≤ s.1 then (if s.1 = 258 then nI s.2 else wdF T s.1) :: st else if s.1 = 47 then (match st with
  | a :: t => (a / nI s.2) :: t
  | [] => []) else (match st with
  | b :: a :: t => joinF (nI s.1) a b :: t
  | _ => [])
def ev (T : T4) : List (Nat × Nat) → List Int32 → List Int32
  | [], st => st
  | s :: l, st => ev T l (ev1 T s st)
theorem ev_app {T : T4} : ∀ (a b : List (Nat × Nat)) (st : List Int32), ev T (a ++ b) st = ev T b (ev T a st)
  | [], _, _ => rfl
  | s :: a, b, st => ev_app a b (ev1 T s st)
def stk (c i : Nat) : List Int32 → HS → Prop
  | [], _ => True
  | a :: t, x => gI x c i t.length = a ∧ stk c i t x
theorem stk_sI {c i k : Nat} {v : Int32} {x : HS} : ∀ {st : List Int32}, st.length ≤ k → stk c i st x → stk c i st (sI x c i k v)
  | [], _, _ => trivial
  | a :: t, hk, q => by
    have hk' : t.length + 1 ≤ k := hk
    refine ⟨?_, stk_sI (by omega) q.2⟩
    rw [gI_sI, if_neg (by omega)]
    exact q.1
theorem stk_cg {c i : Nat} {x y : HS} (e : ∀ k, gI y c i k = gI x c i k) : ∀ {st : List Int32}, stk c i st x → stk c i st y
  | [], _ => trivial
  | a :: t, q => ⟨by rw [e]; exact q.1, stk_cg e q.2⟩
theorem hts_len {T : T4} {m : Nat} : ∀ (l : List (Nat × Nat)) (st : List Int32) (k : Nat), hts m l st.length = some k → (ev T l st).length = k
  | [], st, k, h => by
    have : some st.length = some k := h
    cases this; rfl
  | s :: l, st, k, h => by
    show (ev T l (ev1 T s st)).length = k
    unfold hts at h
    unfold ev1
    by_cases e : s.1 = 258 ∨ 262 ≤ s.1
    · rw [if_pos e] at h ⊢
      by_cases e2 : st.length < m
      · rw [if_pos e2] at h
        exact hts_len l _ k h
      · rw [if_neg e2] at h; cases h
    · rw [if_neg e] at h ⊢
      by_cases e2 : s.1 = 47
      · rw [if_pos e2] at h ⊢
        by_cases e3 : 1 ≤ st.length
        · rw [if_pos e3] at h
          match st, e3, h with
          | a :: t, _, h => exact hts_len l ((a / nI s.2) :: t) k h
        · rw [if_neg e3] at h; cases h
      · rw [if_neg e2] at h ⊢
        by_cases e3 : 2 ≤ st.length
        · rw [if_pos e3] at h
          match st, e3, h with
          | b :: a :: t, _, h => exact hts_len l (joinF (nI s.1) a b :: t) k h
        · rw [if_neg e3] at h; cases h

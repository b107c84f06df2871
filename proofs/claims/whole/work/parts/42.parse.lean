-- ===== reading the rule: what class and reference share =====
abbrev tK (b : Nat → Nat) (n i : Nat) : Nat := (tokT b n i).1
abbrev tL (b : Nat → Nat) (n i : Nat) : Nat := (tokT b n i).2.1
abbrev tN (b : Nat → Nat) (n i : Nat) : Nat := (tokT b n i).2.2.1
/-- n bytes b make c tokens, and the end -/
def Tks (b : Nat → Nat) (n c : Nat) : Prop := n ≤ 400 ∧ (∀ j, j < n → b j < 256) ∧ c ≤ n ∧ tK b n c = 256 ∧ ∀ j, j < c → tK b n j ≠ 256
theorem Tks.k {b : Nat → Nat} {n c : Nat} (T : Tks b n c) (i : Nat) : tK b n i ≤ 265 := (nxT_ok T.2.1 (posT_le T.2.1 i)).1
theorem Tks.m {b : Nat → Nat} {n c : Nat} (T : Tks b n c) (i : Nat) : tN b n i < 1000000 := (nxT_ok T.2.1 (posT_le T.2.1 i)).2.2.1
theorem Tks.l {b : Nat → Nat} {n c : Nat} (T : Tks b n c) (i : Nat) : tL b n i ≤ n := (nxT_ok T.2.1 (posT_le T.2.1 i)).2.1
theorem Tks.lt {b : Nat → Nat} {n c i : Nat} (T : Tks b n c) (hi : i ≤ c) (hk : tK b n i ≠ 256) : i < c := by
  rcases Nat.lt_or_ge i c with q | q
  · exact q
  · rw [show i = c by omega] at hk
    exact absurd T.2.2.2.1 hk
theorem cKe {k v : Nat} (hk : k ≤ 265) (hv : v < 1000) : nI k = nI v ↔ k = v := nI_eq (by omega) (by omega)
theorem mK_lt : ∀ k, k < 266 → mK k < 2000000 := by decide +kernel
theorem mKv {k v w : Nat} (hk : k ≤ 265) (hv : v < 2000000) (h : ∀ k, k < 266 → (mK k = v ↔ k = w)) : nI (mK k) = nI v ↔ k = w := by
  rw [nI_eq (by have := mK_lt k (by omega); omega) (by omega)]
  exact h k (by omega)
theorem mK_w : ∀ k, k < 266 → 262 ≤ k → mK k = 1000001 + (k - 262) := by decide +kernel
theorem mK_nw : ∀ k, k < 266 → k < 262 → mK k < 1000 := by decide +kernel
-- the class's side
def FE (c k : Nat) : Bool := match c with
  | 12 => k != 6
  | 13 => false
  | 14 => false
  | 19 => decide (k < 2 ∨ 4 < k)
  | _ => true
/-- what reading an expression leaves -/
def CF (s : Nat) (h x : HS) : Prop := Eqo FE h x ∧ ∀ r a k, 12 ≤ r → r ≤ 17 → a ≠ s → gI x r a k = gI h r a k
def CSx (s i : Nat) (sl : List (Nat × Nat)) (x : HS) : Prop := gI x 19 0 2 = nI i ∧ gI x 12 s 6 = nI sl.length ∧ SgC x s 0 sl ∧ gI x 19 0 3 = 0 ∧ gI x 19 0 4 = -1
def CB (b : Nat → Nat) (n c s : Nat) (h : HS) : Prop := gI h 8 0 3 = nI (c + 1) ∧ TA b n (c + 1) h ∧ gR h 19 0 1 = some (12, s)
abbrev RR : Type := (Nat × Nat) ⊕ (Nat × List (Nat × Nat))
def CPost (b : Nat → Nat) (n s : Nat) (h : HS) (P : Option AV → HS → Prop) (sl : List (Nat × Nat)) (r : RR) : Prop := (∀ f j, r = .inl (f, j) → ∀ y, CF s h y → gI y 19 0 3 = nI f → gI y 19 0 4 = nI (tL b n j) → P (some (aI 0)) y) ∧ (∀ j l, r = .inr (j, l) → ∀ y, CF s h y → CSx s j (sl ++ l) y → P (some (aI 1)) y)
-- the reference's side
def FMp (c k : Nat) : Bool := match c with
  | 26 => decide (k ≠ 26 ∧ k ≠ 43 ∧ (k < 36 ∨ 41 < k))
  | 51 => false
  | _ => true
def RSx (b : Nat → Nat) (n i : Nat) (sm : List Nat) (x : HS) : Prop := NT (tokT b n i) x ∧ gI x 26 0 26 = nI sm.length ∧ SgM x 51 0 sm
def RPost (b : Nat → Nat) (n : Nat) (g : HS) (P : Option AV → HS → Prop) (o : Nat) (sm : List Nat) (r : RR) : Prop := (∀ f j, r = .inl (f, j) → ∀ y, Eqo FMp g y → gI y 26 0 40 = nI f → gI y 26 0 41 = nI (tL b n j) → P (some (aI 0)) y) ∧ (∀ j l, r = .inr (j, l) → ∀ y, Eqo FMp g y → RSx b n j (sm ++ exs l) y → gI y 26 0 43 = nI o → gI y 26 0 40 = gI g 26 0 40 → P (some (aI 1)) y)
def seqR (l : List (Nat × Nat)) (r : RR) : RR := match r with
  | .inl e => .inl e
  | .inr (j, l2) => .inr (j, l ++ l2)
theorem exs_app (a b : List (Nat × Nat)) : exs (a ++ b) = exs a ++ exs b := List.flatMap_append
theorem CPost.seq {b : Nat → Nat} {n s : Nat} {h : HS} {P : Option AV → HS → Prop} {sl l : List (Nat × Nat)} {r : RR} (q : CPost b n s h P sl (seqR l r)) : CPost b n s h P (sl ++ l) r :=
  ⟨fun f j e => q.1 f j (by rw [e]; rfl), fun j l2 e y c1 c2 => q.2 j (l ++ l2) (by rw [e]; rfl) y c1 (by rw [← List.append_assoc]; exact c2)⟩
theorem RPost.seq {b : Nat → Nat} {n o : Nat} {g : HS} {P : Option AV → HS → Prop} {sm : List Nat} {l : List (Nat × Nat)} {r : RR} (q : RPost b n g P o sm (seqR l r)) : RPost b n g P o (sm ++ exs l) r :=
  ⟨fun f j e => q.1 f j (by rw [e]; rfl), fun j l2 e y c1 c2 => q.2 j (l ++ l2) (by rw [e]; rfl) y c1 (by rw [exs_app, ← List.append_assoc]; exact c2)⟩
theorem SgC.snoc {x : HS} {s : Nat} {sl : List (Nat × Nat)} {k v : Int32} {q : Nat × Nat} {w : Int32} (h : SgC x s 0 sl) (hk : k = nI q.1) (hv : v = nI q.2) : SgC (sI (sI (sI x 13 s sl.length k) 14 s sl.length v) 12 s 6 w) s 0 (sl ++ [q]) := by
  intro j t ht
  simp only [gI_sI]
  rcases Nat.lt_or_ge j sl.length with e | e
  · rw [List.getElem?_append_left e] at ht
    have := h j t ht
    rw [Nat.zero_add] at this ⊢
    simp [show ¬ j = sl.length by omega]
    exact this
  · rw [List.getElem?_append_right e] at ht
    have hj : j - sl.length = 0 := by
      rcases Nat.lt_or_ge 0 (j - sl.length) with z | z
      · rw [List.getElem?_eq_none (by simp; omega)] at ht
        cases ht
      · omega
    rw [hj] at ht
    have : q = t := by simpa using ht
    subst this
    have e2 : j = sl.length := by omega
    subst e2
    simp [hk, hv]
theorem SgM.snoc {x : HS} {sm : List Nat} {k w : Int32} {q : Nat} (h : SgM x 51 0 sm) (hk : k = nI q) : SgM (sI (sI x 51 0 sm.length k) 26 0 26 w) 51 0 (sm ++ [q]) := by
  intro j t ht
  simp only [gI_sI]
  rcases Nat.lt_or_ge j sm.length with e | e
  · rw [List.getElem?_append_left e] at ht
    have := h j t ht
    rw [Nat.zero_add] at this ⊢
    simp [show ¬ j = sm.length by omega]
    exact this
  · rw [List.getElem?_append_right e] at ht
    have hj : j - sm.length = 0 := by
      rcases Nat.lt_or_ge 0 (j - sm.length) with z | z
      · rw [List.getElem?_eq_none (by simp; omega)] at ht
        cases ht
      · omega
    rw [hj] at ht
    have : q = t := by simpa using ht
    subst this
    have e2 : j = sm.length := by omega
    subst e2
    simp [hk]
section PR
variable {b : Nat → Nat} {n c s : Nat} {h g : HS} {P : Option AV → HS → Prop} {d bc bs : Nat}
theorem CF.sI {x : HS} {k : Nat} {v : Int32} (e : CF s h x) (hk : FE 19 k = false) : CF s h (sI x 19 0 k v) := ⟨e.1.sI hk, fun r a k' h1 h2 h3 => by rw [gI_sI, if_neg (fun z => absurd z.1 (by omega))]; exact e.2 r a k' h1 h2 h3⟩
theorem CSx.at {x : HS} {i : Nat} {sl : List (Nat × Nat)} (q : CSx s i sl x) : CSx s (i + 1) sl (sI x 19 0 2 (gI x 19 0 2 + 1)) := ⟨by rw [gI_same, q.1, nI_1], q.2.1, fun j t ht => q.2.2.1 j t ht, q.2.2.2⟩
theorem knT {x : HS} {i : Nat} (T : Tks b n c) (B : CB b n c s h) (e : CF s h x) (hi : i ≤ c) (e19 : gI x 19 0 2 = nI i) : knF x = nI (tK b n i) ∧ nbF x = nI (tN b n i) := by
  have h400 := T.1
  have hcn := T.2.2.1
  have e8 : gI x 8 0 3 = nI (c + 1) := ((e.1.1 8 0 3 rfl).1).trans B.1
  obtain ⟨t1, t2, t3⟩ := B.2.1 i (by omega)
  have n1 : ¬ nI i < 0 := nI_pos (by omega)
  have n2 : ¬ nI (c + 1) ≤ nI i := nI_ge (by omega) (by omega)
  have n4 : ¬ (400 : Int32) < nI i := show ¬ nI 400 < nI i from nI_nlt (by omega) (by decide)
  unfold knF nbF
  rw [e19, e8, if_neg n1, if_neg n2, if_neg n4, if_neg n1, if_neg n2, if_neg n4, nI_clamp (by omega), (e.1.1 9 0 i rfl).1, (e.1.1 11 0 i rfl).1]
  exact ⟨t1, t3⟩
theorem cAdS {x : HS} {i kk v : Nat} {sl : List (Nat × Nat)} {k1 v1 : Int32} (e : CF s h x) (q : CSx s i sl x) (hl : sl.length < 400) (hk : k1 = nI kk) (hv : v1 = nI v) (k : ∀ y, CF s h y → CSx s i (sl ++ [(kk, v)]) y → P none y) : Cl true mX1_addStep (d + 3) bc bs [aR 12 s, aI k1, aI v1] x P := by
  have vin : vp_in (nI sl.length) 400 := vp_in_nI hl (by decide)
  refine wX1_addStep ?_
  rw [q.2.1, nI_clamp (by omega), nI_1]
  refine ⟨fun z => absurd z (nI_pos (by omega)), fun _ => ⟨fun z => absurd (show nI 400 ≤ nI sl.length from z) (nI_ge hl (by decide)), fun _ => ⟨vin, vin, k _ ⟨((e.1.sI rfl).sI rfl).sI rfl, fun r a k' h1 h2 h3 => ?_⟩ ⟨q.1, by rw [gI_same, List.length_append]; rfl, q.2.2.1.snoc hk hv, q.2.2.2⟩⟩⟩⟩
  rw [gI_sI, if_neg (fun z => h3 z.2.2), gI_sI, if_neg (fun z => h3 z.2.2), gI_sI, if_neg (fun z => h3 z.2.2)]
  exact e.2 r a k' h1 h2 h3
theorem cFail {x : HS} {i f : Nat} {f1 : Int32} (T : Tks b n c) (B : CB b n c s h) (e : CF s h x) (hi : i ≤ c) (e19 : gI x 19 0 2 = nI i) (hf : f1 = nI f) (k : ∀ y, CF s h y → gI y 19 0 3 = nI f → gI y 19 0 4 = nI (tL b n i) → P (some (aI 0)) y) : Cl true mX2_fail (d + 3) bc bs [aR 19 0, aI f1] x P := by
  have h400 := T.1
  have hcn := T.2.2.1
  have e8 : gI x 8 0 3 = nI (c + 1) := ((e.1.1 8 0 3 rfl).1).trans B.1
  obtain ⟨t1, t2, t3⟩ := B.2.1 i (by omega)
  refine wX2_fail ?_
  rw [e19, e8, nI_clamp (by omega), (e.1.1 10 0 i rfl).1, t2, hf]
  exact ⟨fun z => absurd z (nI_pos (by omega)), fun _ => ⟨fun z => absurd z (nI_ge (by omega) (by omega)), fun _ => ⟨fun z => absurd (show nI 400 < nI i from z) (nI_nlt (by omega) (by decide)), fun _ => ⟨vp_in_nI (by omega) (by decide), k _ ((e.sI rfl).sI rfl) rfl rfl⟩⟩⟩⟩
/-- a failing call, as a caller's formula has it -/
theorem cFailB {x : HS} {i f : Nat} {f1 : Int32} {r : RR} {sl : List (Nat × Nat)} (T : Tks b n c) (B : CB b n c s h) (e : CF s h x) (hi : i ≤ c) (e19 : gI x 19 0 2 = nI i) (hf : f1 = nI f) (po : CPost b n s h P sl r) (hr : r = .inl (f, i)) : Cl true mX2_fail (d + 3) bc bs [aR 19 0, aI f1] x (fun r3 h4 => ∃ x5 : Int32, r3 = some (aI x5) ∧ ((x5 = 0 ∨ x5 = 1) ∧ P (some (aI x5)) h4)) :=
  cFail T B e hi e19 hf (fun y c1 c2 c3 => ⟨0, rfl, Or.inl rfl, po.1 f i hr y c1 c2 c3⟩)
-- the reference's primitives
theorem mLay {x : HS} {i v : Nat} {sm : List Nat} {v1 : Int32} (e : Eqo FMp g x) (q : RSx b n i sm x) (hl : sm.length < 500) (hv : v1 = nI v) (k : ∀ y, Eqo FMp g y → RSx b n i (sm ++ [v]) y → gI y 26 0 43 = gI x 26 0 43 → gI y 26 0 40 = gI x 26 0 40 → P none y) : Cl true mX10_lay (d + 3) bc bs [aR 26 0, aI v1] x P := by
  refine wX10_lay ?_
  rw [q.2.1, nI_clamp (by omega), nI_1]
  exact ⟨vp_in_nI hl (by decide), k _ ((e.sI rfl).sI rfl) ⟨q.1, by rw [gI_same, List.length_append]; rfl, q.2.2.snoc hv⟩ rfl rfl⟩
theorem FMp_t (c k : Nat) (z : FMp c k = true) : FNt c k = true := by
  unfold FMp at z
  unfold FNt
  split at z <;> first | rfl | (simp at z; simp; omega) | (split <;> first | rfl | (exfalso; contradiction))
theorem mNx {x : HS} {i : Nat} {sm : List Nat} (T : Tks b n c) (tp : TP b n g) (e : Eqo FMp g x) (q : RSx b n i sm x) (k : ∀ y, Eqo FMp g y → RSx b n (i + 1) sm y → gI y 26 0 43 = gI x 26 0 43 → gI y 26 0 40 = gI x 26 0 40 → P none y) : Cl true mX10_next0 (d + 3) bc bs [aR 26 0] x P := by
  have tx : TP b n x := ⟨((e.1 26 0 35 rfl).1).trans tp.1, fun j hj => ((e.1 53 0 j rfl).1).trans (tp.2 j hj)⟩
  refine mNext T.1 T.2.1 tx (posT_le T.2.1 (i + 1)) q.1.1 (fun y e1 e2 => k y (e.tr (e1.mono FMp_t)) ⟨e2, ((e1.1 26 0 26 rfl).1).trans q.2.1, fun j t ht => ((e1.1 51 0 _ rfl).1).trans (q.2.2 j t ht)⟩ (e1.1 26 0 43 rfl).1 (e1.1 26 0 40 rfl).1)
theorem mBad {x : HS} {i f : Nat} {sm : List Nat} {f1 : Int32} (e : Eqo FMp g x) (q : RSx b n i sm x) (hf : f1 = nI f) (k : ∀ y, Eqo FMp g y → gI y 26 0 40 = nI f → gI y 26 0 41 = nI (tL b n i) → P (some (aI 0)) y) : Cl true mX10_bad (d + 3) bc bs [aR 26 0, aI f1] x P := by
  refine wX10_bad (k _ ((e.sI rfl).sI rfl) hf ?_)
  rw [gI_same]
  exact q.1.2.2.1
theorem mBadB {x : HS} {i f o : Nat} {sm sm2 : List Nat} {f1 : Int32} {r : RR} (e : Eqo FMp g x) (q : RSx b n i sm x) (hf : f1 = nI f) (po : RPost b n g P o sm2 r) (hr : r = .inl (f, i)) : Cl true mX10_bad (d + 3) bc bs [aR 26 0, aI f1] x (fun r3 h4 => ∃ x5 : Int32, r3 = some (aI x5) ∧ ((x5 = 0 ∨ x5 = 1) ∧ P (some (aI x5)) h4)) :=
  mBad e q hf (fun y c1 c2 c3 => ⟨0, rfl, Or.inl rfl, po.1 f i hr y c1 c2 c3⟩)
end PR

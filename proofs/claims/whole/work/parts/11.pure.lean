-- ===== methods that read alone: what they answer =====
def bI (p : Prop) [Decidable p] : Int32 := if p then 1 else 0
theorem bI_t {p : Prop} [Decidable p] (h : p) : bI p = 1 := if_pos h
theorem bI_f {p : Prop} [Decidable p] (h : ¬ p) : bI p = 0 := if_neg h
theorem bI_0 {p : Prop} [Decidable p] (h : bI p = 0) : ¬ p := fun z => by rw [bI_t z] at h; exact absurd h (by decide)
theorem bI_1 {p : Prop} [Decidable p] (h : ¬ bI p = 0) : p := Decidable.byContradiction fun z => h (bI_f z)
theorem bI_01 {p : Prop} [Decidable p] : bI p = 0 ∨ bI p = 1 := by
  by_cases h : p
  · exact Or.inr (bI_t h)
  · exact Or.inl (bI_f h)
theorem bI_cg {p q : Prop} [Decidable p] [Decidable q] (h : p ↔ q) : bI p = bI q := by
  by_cases z : p
  · rw [bI_t z, bI_t (h.mp z)]
  · rw [bI_f z, bI_f (fun y => z (h.mpr y))]
abbrev inR (x a b : Int32) : Prop := ¬ x < a ∧ ¬ b < x
abbrev ltr (c : Int32) : Prop := inR c 97 122 ∨ inR c 65 90
abbrev isOfP (d m : Int32) : Prop := ¬ d = -1 ∧ d / 28 = m
abbrev mPar (h : HS) (n : Nat) : Prop := ¬ gI h 37 0 n = -1 ∧ gI h 42 0 n = -1 ∧ gI h 41 0 n = -1
abbrev cPar (h : HS) (i : Nat) : Prop := ¬ gI h 62 i 5 = -1 ∧ gI h 62 i 11 = -1 ∧ gI h 62 i 10 = -1
abbrev buyP (k a : Int32) : Prop := if k = 0 then a = -1 else inR k 0 2 ∧ inR a 0 9
abbrev ccbP (h : HS) (i : Nat) (t : Int32) : Prop := gI h 62 i 10 = -1 ∧ (gI h 62 i 9 = -1 ∨ ¬ gI h 62 i 9 + 28 < t)
def seeF (h : HS) (k : Int32) : Int32 := if gI h 26 0 35 ≤ k then -1 else gI h 53 0 k.toNatClampNeg
def wordF (w : Int64) : Int32 := if w = 7364985 then 3 else if w = 2003330414 then 4 else if w = 6385252 then 5 else if w = 7566701 then 1000001 else if w = 495740088435 then 1000002 else if w = 1650549611 then 1000003 else if w = 470020945000 then 1000004 else 1
def bothF (s a b : Int32) : Int32 := if s = 1000010 then a + b else if s = 1000011 then a - b else if s = 1000012 then a * b else if s = 1000013 then a / b else if s = 1000014 then bI (a < b) else if s = 1000015 then bI (a = b) else if s = 1000016 then bI (b < a) else a &&& b
def joinF (s a b : Int32) : Int32 := if s = 43 then a + b else if s = 45 then a - b else if s = 42 then a * b else if s = 60 then bI (a < b) else if s = 61 then bI (a = b) else if s = 62 then bI (b < a) else a &&& b
def partF (a b : Int32) : Int32 := if b = 0 then 0 else a / b
def minF (a b : Int32) : Int32 := if b < a then b else a
def maxF (a b : Int32) : Int32 := if a < b then b else a
def stF (h : HS) (i : Nat) : Int32 := if gI h 62 i 10 = -1 then (if gI h 62 i 9 = -1 then 1 else 0) else 2
def swF (h : HS) (i : Nat) (m k : Int32) : Int32 := if gI h 62 i 8 ≤ k then (if (¬ gI h 62 i 9 = -1 ∧ isOfP (gI h 62 i 10) m) ∧ ¬ k < gI h 62 i 10 then (if isOfP (gI h 62 i 9) m ∧ ¬ k < gI h 62 i 9 then 0 + gI h 62 i 7 else 0) - gI h 62 i 7 else (if isOfP (gI h 62 i 9) m ∧ ¬ k < gI h 62 i 9 then 0 + gI h 62 i 7 else 0)) else 0
def tgF (h : HS) (t : Nat) (d : Int32) : Int32 := if d < 0 then 0 else if 364 ≤ d then 0 else gI h 61 t d.toNatClampNeg
def knF (h : HS) : Int32 := if gI h 19 0 2 < 0 then 256 else if gI h 8 0 3 ≤ gI h 19 0 2 then 256 else if 400 < gI h 19 0 2 then 256 else gI h 9 0 (gI h 19 0 2).toNatClampNeg
def nbF (h : HS) : Int32 := if gI h 19 0 2 < 0 then 0 else if gI h 8 0 3 ≤ gI h 19 0 2 then 0 else if 400 < gI h 19 0 2 then 0 else gI h 11 0 (gI h 19 0 2).toNatClampNeg
def vwF (h : HS) (w : Int32) : Int32 := if w = 262 then gI h 20 0 0 else if w = 263 then gI h 20 0 1 else if w = 264 then gI h 20 0 2 else gI h 20 0 3
theorem iLt {a b : Int32} : a < b ↔ a.toInt < b.toInt := Int32.lt_iff_toInt_lt
theorem iLe {a b : Int32} : a ≤ b ↔ a.toInt ≤ b.toInt := Int32.le_iff_toInt_le
theorem iEq {a b : Int32} : a = b ↔ a.toInt = b.toInt := ⟨fun h => by rw [h], fun h => Int32.toInt_inj.mp h⟩
theorem vin {x : Int32} {n : Nat} (h1 : ¬ x < 0) (h2 : x.toInt < n) : vp_in x n := by
  have e0 : (0 : Int32).toInt = 0 := by decide
  rw [iLt, e0] at h1
  exact vp_in_iff.mpr ⟨by omega, h2⟩
theorem gI_same {h : HS} {c i k : Nat} {v : Int32} : gI (sI h c i k v) c i k = v := if_pos ⟨rfl, rfl, rfl⟩
theorem V_re {σ : Bool} {M : MT} {d bc bs pc : Nat} {lv : List (Nat × AV)} {st : List AV} {h : HS} {P : Option AV → HS → Prop} {x y : Int32} (e : x = y) (k : V σ M d bc bs pc lv (aI y :: st) h P) : V σ M d bc bs pc lv (aI x :: st) h P := by
  rw [e]
  exact k
section PU
variable {d bc bs : Nat} {h : HS} {P : Option AV → HS → Prop}
theorem cX10_isIn_ {x a b : Int32} (k : P (some (aI (bI (inR x a b)))) h) : Cl true mX10_isIn (d + 1) bc bs [aI x, aI a, aI b] h P := by
  refine wX10_isIn ⟨fun z => ?_, fun z => ⟨fun z2 => ?_, fun z2 => ?_⟩⟩
  · rw [bI_f (fun q => q.1 z)] at k; exact k
  · rw [bI_f (fun q => q.2 z2)] at k; exact k
  · rw [bI_t ⟨z, z2⟩] at k; exact k
theorem cX9_isWithin_ {x a b : Int32} (k : P (some (aI (bI (inR x a b)))) h) : Cl true mX9_isWithin (d + 1) bc bs [aI x, aI a, aI b] h P := by
  refine wX9_isWithin ⟨fun z => ?_, fun z => ⟨fun z2 => ?_, fun z2 => ?_⟩⟩
  · rw [bI_f (fun q => q.1 z)] at k; exact k
  · rw [bI_f (fun q => q.2 z2)] at k; exact k
  · rw [bI_t ⟨z, z2⟩] at k; exact k
theorem cX10_isThing_ {t : Int32} (k : P (some (aI (bI (inR t 0 (gI h 26 0 1 - 1))))) h) : Cl true mX10_isThing (d + 2) bc bs [aR 26 0, aI t] h P := wX10_isThing (cX10_isIn_ ⟨_, rfl, bI_01, k⟩)
theorem cX10_isSlip_ {t : Int32} (k : P (some (aI (bI (inR t 0 (gI h 26 0 2 - 1))))) h) : Cl true mX10_isSlip (d + 2) bc bs [aR 26 0, aI t] h P := wX10_isSlip (cX10_isIn_ ⟨_, rfl, bI_01, k⟩)
theorem cX10_isTag_ {v : Int32} (k : P (some (aI (bI (inR v 1 9999)))) h) : Cl true mX10_isTag (d + 2) bc bs [aI v] h P := wX10_isTag (cX10_isIn_ ⟨_, rfl, bI_01, k⟩)
theorem cX10_isDigit_ {v : Int32} (k : P (some (aI (bI (inR v 48 57)))) h) : Cl true mX10_isDigit (d + 2) bc bs [aI v] h P := wX10_isDigit (cX10_isIn_ ⟨_, rfl, bI_01, k⟩)
theorem cX10_isMonth_ {v : Int32} (k : P (some (aI (bI (inR v 0 12)))) h) : Cl true mX10_isMonth (d + 2) bc bs [aI v] h P := wX10_isMonth (cX10_isIn_ ⟨_, rfl, bI_01, k⟩)
theorem cX9_isTag_ {v : Int32} (k : P (some (aI (bI (inR v 1 9999)))) h) : Cl true mX9_isTag (d + 2) bc bs [aI v] h P := wX9_isTag (cX9_isWithin_ ⟨_, rfl, bI_01, k⟩)
theorem cX9_isLevel_ {v : Int32} (k : P (some (aI (bI (inR v 0 3)))) h) : Cl true mX9_isLevel (d + 2) bc bs [aI v] h P := wX9_isLevel (cX9_isWithin_ ⟨_, rfl, bI_01, k⟩)
theorem cX9_isHouseOrNone_ {v : Int32} (k : P (some (aI (bI (inR v (-1) 19)))) h) : Cl true mX9_isHouseOrNone (d + 2) bc bs [aI v] h P := wX9_isHouseOrNone (cX9_isWithin_ ⟨_, rfl, bI_01, k⟩)
theorem cX10_isLetter_ {v : Int32} (k : P (some (aI (bI (ltr v)))) h) : Cl true mX10_isLetter (d + 2) bc bs [aI v] h P := by
  refine wX10_isLetter (cX10_isIn_ ⟨_, rfl, ⟨fun z => ?_, fun z => ?_⟩⟩)
  · rw [bI_t (Or.inl (bI_1 z))] at k; exact k
  · have z := bI_0 z
    refine cX10_isIn_ ⟨_, rfl, ⟨fun z2 => ?_, fun z2 => ?_⟩⟩
    · rw [bI_f (fun q => q.elim z (bI_0 z2))] at k; exact k
    · rw [bI_t (Or.inr (bI_1 z2))] at k; exact k
theorem cX10_isParcel_ {i : Int32} (hi : vp_in i 120) (k : P (some (aI (bI (mPar h i.toNatClampNeg)))) h) : Cl true mX10_isParcel (d + 1) bc bs [aR 26 0, aI i] h P := by
  refine wX10_isParcel ⟨hi, ⟨fun z => ?_, fun z => ⟨hi, ⟨fun z2 => ?_, fun z2 => ⟨hi, ⟨fun z3 => ?_, fun z3 => ?_⟩⟩⟩⟩⟩⟩
  · rw [bI_f (fun q => q.1 z)] at k; exact k
  · rw [bI_f (fun q => z2 q.2.1)] at k; exact k
  · rw [bI_f (fun q => z3 q.2.2)] at k; exact k
  · rw [bI_t ⟨z, z2, z3⟩] at k; exact k
theorem cX10_see_ {i : Int32} (hi : ¬ gI h 26 0 35 ≤ i → vp_in i 400) (k : P (some (aI (seeF h i))) h) : Cl true mX10_see (d + 1) bc bs [aR 26 0, aI i] h P := by
  unfold seeF at k
  refine wX10_see ⟨fun z => ?_, fun z => ⟨hi z, ?_⟩⟩
  · rw [if_pos z] at k; exact k
  · rw [if_neg z] at k; exact k
theorem cX10_isOf_ {v m : Int32} (k : P (some (aI (bI (isOfP v m)))) h) : Cl true mX10_isOf (d + 1) bc bs [aI v, aI m] h P := by
  refine wX10_isOf ⟨fun z => ?_, fun z => ⟨fun z2 => ?_, fun z2 => ?_⟩⟩
  · rw [bI_f (fun q => q.1 z)] at k; exact k
  · rw [bI_f (fun q => z2 q.2)] at k; exact k
  · rw [bI_t ⟨z, z2⟩] at k; exact k
theorem cX3_wasSoldIn_ {i : Nat} {m : Int32} (k : P (some (aI (bI (isOfP (gI h 62 i 9) m)))) h) : Cl true mX3_wasSoldIn (d + 1) bc bs [aR 62 i, aI m] h P := by
  refine wX3_wasSoldIn ⟨fun z => ?_, fun z => ⟨fun z2 => ?_, fun z2 => ?_⟩⟩
  · rw [bI_f (fun q => q.1 z)] at k; exact k
  · rw [bI_f (fun q => z2 q.2)] at k; exact k
  · rw [bI_t ⟨z, z2⟩] at k; exact k
theorem cX3_cameBackSoldIn_ {i : Nat} {m : Int32} (k : P (some (aI (bI (¬ gI h 62 i 9 = -1 ∧ isOfP (gI h 62 i 10) m)))) h) : Cl true mX3_cameBackSoldIn (d + 1) bc bs [aR 62 i, aI m] h P := by
  refine wX3_cameBackSoldIn ⟨fun z => ?_, fun z => ⟨fun z2 => ?_, fun z2 => ⟨fun z3 => ?_, fun z3 => ?_⟩⟩⟩
  · rw [bI_f (fun q => q.1 z)] at k; exact k
  · rw [bI_f (fun q => q.2.1 z2)] at k; exact k
  · rw [bI_f (fun q => z3 q.2.2)] at k; exact k
  · rw [bI_t ⟨z, z2, z3⟩] at k; exact k
theorem cX3_isParcel_ {i : Nat} (k : P (some (aI (bI (cPar h i)))) h) : Cl true mX3_isParcel (d + 1) bc bs [aR 62 i] h P := by
  refine wX3_isParcel ⟨fun z => ?_, fun z => ⟨fun z2 => ?_, fun z2 => ⟨fun z3 => ?_, fun z3 => ?_⟩⟩⟩
  · rw [bI_f (fun q => q.1 z)] at k; exact k
  · rw [bI_f (fun q => z2 q.2.1)] at k; exact k
  · rw [bI_f (fun q => z3 q.2.2)] at k; exact k
  · rw [bI_t ⟨z, z2, z3⟩] at k; exact k
theorem cX3_state_ {i : Nat} (k : P (some (aI (stF h i))) h) : Cl true mX3_state (d + 1) bc bs [aR 62 i] h P := by
  unfold stF at k
  refine wX3_state ⟨fun z => ⟨fun z2 => ?_, fun z2 => ?_⟩, fun z => ?_⟩
  · rw [if_pos z, if_neg z2] at k; exact k
  · rw [if_pos z, if_pos z2] at k; exact k
  · rw [if_neg z] at k; exact k
theorem cX3_canComeBack_ {i : Nat} {t : Int32} (k : P (some (aI (bI (ccbP h i t)))) h) : Cl true mX3_canComeBack (d + 1) bc bs [aR 62 i, aI t] h P := by
  refine wX3_canComeBack ⟨fun z => ⟨fun z2 => ?_, fun z2 => ⟨fun z3 => ?_, fun z3 => ?_⟩⟩, fun z => ?_⟩
  · rw [bI_t ⟨z, Or.inl z2⟩] at k; exact k
  · rw [bI_f (fun q => q.2.elim z2 (fun y => y z3))] at k; exact k
  · rw [bI_t ⟨z, Or.inr z3⟩] at k; exact k
  · rw [bI_f (fun q => z q.1)] at k; exact k
theorem cX3_statedWorth_ {i : Nat} {m t : Int32} (k : P (some (aI (swF h i m t))) h) : Cl true mX3_statedWorth (d + 2) bc bs [aR 62 i, aI m, aI t] h P := by
  unfold swF at k
  refine wX3_statedWorth ⟨fun z => ?_, fun z => ?_⟩
  · rw [if_pos z] at k
    refine cX3_wasSoldIn_ ⟨_, rfl, ⟨fun y => ?_, fun y => ⟨fun y2 => ?_, fun y2 => ?_⟩⟩⟩
    · have y := bI_0 y
      rw [if_neg (c := isOfP (gI h 62 i 9) m ∧ ¬ t < gI h 62 i 9) (fun q => y q.1)] at k
      refine cX3_cameBackSoldIn_ ⟨_, rfl, ⟨fun w => ?_, fun w => ⟨fun w2 => ?_, fun w2 => ?_⟩⟩⟩
      · rw [if_neg (fun q => bI_0 w q.1)] at k; exact k
      · rw [if_neg (fun q => q.2 w2)] at k; exact k
      · rw [if_pos ⟨bI_1 w, w2⟩] at k; exact k
    · rw [if_neg (c := isOfP (gI h 62 i 9) m ∧ ¬ t < gI h 62 i 9) (fun q => q.2 y2)] at k
      refine cX3_cameBackSoldIn_ ⟨_, rfl, ⟨fun w => ?_, fun w => ⟨fun w2 => ?_, fun w2 => ?_⟩⟩⟩
      · rw [if_neg (fun q => bI_0 w q.1)] at k; exact k
      · rw [if_neg (fun q => q.2 w2)] at k; exact k
      · rw [if_pos ⟨bI_1 w, w2⟩] at k; exact k
    · rw [if_pos (c := isOfP (gI h 62 i 9) m ∧ ¬ t < gI h 62 i 9) ⟨bI_1 y, y2⟩] at k
      refine cX3_cameBackSoldIn_ ⟨_, rfl, ⟨fun w => ?_, fun w => ⟨fun w2 => ?_, fun w2 => ?_⟩⟩⟩
      · rw [if_neg (fun q => bI_0 w q.1)] at k; exact k
      · rw [if_neg (fun q => q.2 w2)] at k; exact k
      · rw [if_pos ⟨bI_1 w, w2⟩] at k; exact k
  · rw [if_neg z] at k; exact k
theorem cX6_tagOn_ {t : Nat} {v : Int32} (hr : gR h 60 t 0 = some (61, t)) (k : P (some (aI (tgF h t v))) h) : Cl true mX6_tagOn (d + 1) bc bs [aR 60 t, aI v] h P := by
  unfold tgF at k
  refine wX6_tagOn ⟨fun z => ?_, fun z => ⟨fun z2 => ?_, fun z2 => ⟨hr, vin z ?_, ?_⟩⟩⟩
  · rw [if_pos z] at k; exact k
  · rw [if_neg z, if_pos z2] at k; exact k
  · have e0 : (364 : Int32).toInt = 364 := by decide
    rw [iLe, e0] at z2
    omega
  · rw [if_neg z, if_neg z2] at k; exact k
theorem vin401 {x : Int32} (h1 : ¬ x < 0) (h2 : ¬ 400 < x) : vp_in x 401 := by
  have e0 : (400 : Int32).toInt = 400 := by decide
  rw [iLt, e0] at h2
  exact vin h1 (by omega)
theorem cX2_kind_ (k : P (some (aI (knF h))) h) : Cl true mX2_kind (d + 1) bc bs [aR 19 0] h P := by
  unfold knF at k
  refine wX2_kind ⟨fun z => ?_, fun z => ⟨fun z2 => ?_, fun z2 => ⟨fun z3 => ?_, fun z3 => ⟨vin401 z z3, ?_⟩⟩⟩⟩
  · rw [if_pos z] at k; exact k
  · rw [if_neg z, if_pos z2] at k; exact k
  · rw [if_neg z, if_neg z2, if_pos z3] at k; exact k
  · rw [if_neg z, if_neg z2, if_neg z3] at k; exact k
theorem cX2_number_ (k : P (some (aI (nbF h))) h) : Cl true mX2_number (d + 1) bc bs [aR 19 0] h P := by
  unfold nbF at k
  refine wX2_number ⟨fun z => ?_, fun z => ⟨fun z2 => ?_, fun z2 => ⟨fun z3 => ?_, fun z3 => ⟨vin401 z z3, ?_⟩⟩⟩⟩
  · rw [if_pos z] at k; exact k
  · rw [if_neg z, if_pos z2] at k; exact k
  · rw [if_neg z, if_neg z2, if_pos z3] at k; exact k
  · rw [if_neg z, if_neg z2, if_neg z3] at k; exact k
theorem cX1_part_ {a b : Int32} (k : P (some (aI (partF a b))) h) : Cl true mX1_part (d + 1) bc bs [aI a, aI b] h P := by
  unfold partF at k
  refine wX1_part ⟨fun z => ⟨z, ?_⟩, fun z => ?_⟩
  · rw [if_neg z] at k; exact k
  · rw [if_pos z] at k; exact k
theorem cJ9_min_ {a b : Int32} (k : P (some (aI (minF a b))) h) : Cl true mJ9_min_7cf53 (d + 1) bc bs [aI a, aI b] h P := by
  unfold minF at k
  refine wJ9_min_7cf53 ⟨fun z => ?_, fun z => ?_⟩
  · rw [if_pos z] at k; exact k
  · rw [if_neg z] at k; exact k
theorem cJ9_max_ {a b : Int32} (k : P (some (aI (maxF a b))) h) : Cl true mJ9_max_7cf53 (d + 1) bc bs [aI a, aI b] h P := by
  unfold maxF at k
  refine wJ9_max_7cf53 ⟨fun z => ?_, fun z => ?_⟩
  · rw [if_pos z] at k; exact k
  · rw [if_neg z] at k; exact k
theorem cX9_isBuyer_ {a b : Int32} (k : P (some (aI (bI (buyP a b)))) h) : Cl true mX9_isBuyer (d + 2) bc bs [aI a, aI b] h P := by
  refine wX9_isBuyer ⟨fun z => cX9_isWithin_ ⟨_, rfl, ⟨fun y => ?_, fun y => cX9_isWithin_ ⟨_, rfl, ⟨fun w => ?_, fun w => ?_⟩⟩⟩⟩, fun z => ⟨fun y => ?_, fun y => ?_⟩⟩
  · rw [bI_f (by unfold buyP; rw [if_neg z]; exact fun q => bI_0 y q.1)] at k; exact k
  · rw [bI_f (by unfold buyP; rw [if_neg z]; exact fun q => bI_0 w q.2)] at k; exact k
  · rw [bI_t (by unfold buyP; rw [if_neg z]; exact ⟨bI_1 y, bI_1 w⟩)] at k; exact k
  · rw [bI_f (by unfold buyP; rw [if_pos z]; exact y)] at k; exact k
  · rw [bI_t (by unfold buyP; rw [if_pos z]; exact y)] at k; exact k
theorem cX7_isDigit_ {x : Int32} (k : P (some (aI (bI (inR x 48 57)))) h) : Cl true mX7_isDigit (d + 1) bc bs [aI x] h P := by
  refine wX7_isDigit ⟨fun z => ?_, fun z => ⟨fun z2 => ?_, fun z2 => ?_⟩⟩
  · rw [bI_f (fun q => q.1 z)] at k; exact k
  · rw [bI_f (fun q => q.2 z2)] at k; exact k
  · rw [bI_t ⟨z, z2⟩] at k; exact k
theorem cX7_isLetter_ {x : Int32} (k : P (some (aI (bI (ltr x)))) h) : Cl true mX7_isLetter (d + 1) bc bs [aI x] h P := by
  have hle : x ≤ 122 ↔ ¬ 122 < x := by rw [iLe, iLt]; omega
  refine wX7_isLetter ⟨fun z => ⟨fun z2 => ?_, fun z2 => ⟨fun z3 => ?_, fun z3 => ?_⟩⟩, fun z => ⟨fun y => ?_, fun y => ⟨fun z2 => ?_, fun z2 => ⟨fun z3 => ?_, fun z3 => ?_⟩⟩⟩⟩
  · rw [bI_f (fun q => q.elim (fun w => w.1 z) (fun w => w.1 z2))] at k; exact k
  · rw [bI_f (fun q => q.elim (fun w => w.1 z) (fun w => w.2 z3))] at k; exact k
  · rw [bI_t (Or.inr ⟨z2, z3⟩)] at k; exact k
  · rw [bI_t (Or.inl ⟨z, hle.mp y⟩)] at k; exact k
  · rw [bI_f (fun q => q.elim (fun w => y (hle.mpr w.2)) (fun w => w.1 z2))] at k; exact k
  · rw [bI_f (fun q => q.elim (fun w => y (hle.mpr w.2)) (fun w => w.2 z3))] at k; exact k
  · rw [bI_t (Or.inr ⟨z2, z3⟩)] at k; exact k
theorem cX4_valueOfWord_ {w : Int32} (k : P (some (aI (vwF h w))) h) : Cl true mX4_valueOfWord (d + 1) bc bs [aR 20 0, aI w] h P := by
  unfold vwF at k
  have e1 : (262 : Int32).toInt = 262 := by decide
  have e2 : (263 : Int32).toInt = 263 := by decide
  have e3 : (264 : Int32).toInt = 264 := by decide
  refine wX4_valueOfWord ⟨fun z => ?_, fun z => ?_, fun z => ?_, fun z => ?_⟩
  · rw [if_pos z] at k; exact k
  · rw [if_neg (by rw [z]; decide), if_pos z] at k; exact k
  · rw [if_neg (by rw [z]; decide), if_neg (by rw [z]; decide), if_pos z] at k; exact k
  · rw [if_neg (fun q => z (by rw [q, e1]; omega)), if_neg (fun q => z (by rw [q, e2]; omega)), if_neg (fun q => z (by rw [q, e3]; omega))] at k; exact k
theorem cX1_joined_ {s a b : Int32} (k : P (some (aI (joinF s a b))) h) : Cl true mX1_joined (d + 1) bc bs [aI s, aI a, aI b] h P := by
  unfold joinF at k
  have l1 : ∀ {x y : Int32}, y ≤ x ↔ ¬ x < y := fun {x y} => by rw [iLe, iLt]; omega
  refine wX1_joined ⟨fun z => ?_, fun z => ?_, fun z => ?_, fun z => ⟨fun y => ?_, fun y => ?_⟩, fun z => ⟨fun y => ?_, fun y => ?_⟩, fun z => ⟨fun y => ?_, fun y => ?_⟩, fun z => ?_⟩
  · subst z; exact k
  · subst z; exact k
  · subst z; exact k
  · subst z; rw [show (if (60 : Int32) = 43 then a + b else if (60 : Int32) = 45 then a - b else if (60 : Int32) = 42 then a * b else if (60 : Int32) = 60 then bI (a < b) else if (60 : Int32) = 61 then bI (a = b) else if (60 : Int32) = 62 then bI (b < a) else a &&& b) = bI (a < b) from rfl, bI_f (l1.mp y)] at k; exact k
  · subst z; rw [show (if (60 : Int32) = 43 then a + b else if (60 : Int32) = 45 then a - b else if (60 : Int32) = 42 then a * b else if (60 : Int32) = 60 then bI (a < b) else if (60 : Int32) = 61 then bI (a = b) else if (60 : Int32) = 62 then bI (b < a) else a &&& b) = bI (a < b) from rfl, bI_t (Decidable.byContradiction fun q => y (l1.mpr q))] at k; exact k
  · subst z; rw [show (if (61 : Int32) = 43 then a + b else if (61 : Int32) = 45 then a - b else if (61 : Int32) = 42 then a * b else if (61 : Int32) = 60 then bI (a < b) else if (61 : Int32) = 61 then bI (a = b) else if (61 : Int32) = 62 then bI (b < a) else a &&& b) = bI (a = b) from rfl, bI_f y] at k; exact k
  · subst z; rw [show (if (61 : Int32) = 43 then a + b else if (61 : Int32) = 45 then a - b else if (61 : Int32) = 42 then a * b else if (61 : Int32) = 60 then bI (a < b) else if (61 : Int32) = 61 then bI (a = b) else if (61 : Int32) = 62 then bI (b < a) else a &&& b) = bI (a = b) from rfl, bI_t y] at k; exact k
  · subst z; rw [show (if (62 : Int32) = 43 then a + b else if (62 : Int32) = 45 then a - b else if (62 : Int32) = 42 then a * b else if (62 : Int32) = 60 then bI (a < b) else if (62 : Int32) = 61 then bI (a = b) else if (62 : Int32) = 62 then bI (b < a) else a &&& b) = bI (b < a) from rfl, bI_f (l1.mp y)] at k; exact k
  · subst z; rw [show (if (62 : Int32) = 43 then a + b else if (62 : Int32) = 45 then a - b else if (62 : Int32) = 42 then a * b else if (62 : Int32) = 60 then bI (a < b) else if (62 : Int32) = 61 then bI (a = b) else if (62 : Int32) = 62 then bI (b < a) else a &&& b) = bI (b < a) from rfl, bI_t (Decidable.byContradiction fun q => y (l1.mpr q))] at k; exact k
  · obtain ⟨z1, z2, z3, z4, z5, z6⟩ := z
    rw [if_neg z2, if_neg z3, if_neg z1, if_neg z4, if_neg z5, if_neg z6] at k; exact k
theorem cX10_both_ {s a b : Int32} (hb : s = 1000013 → ¬ b = 0) (k : P (some (aI (bothF s a b))) h) : Cl true mX10_both (d + 1) bc bs [aI s, aI a, aI b] h P := by
  unfold bothF at k
  have l1 : ∀ {x y : Int32}, y ≤ x ↔ ¬ x < y := fun {x y} => by rw [iLe, iLt]; omega
  have ne : ∀ {u v : Int32}, s = u → ¬ u = v → ¬ s = v := fun e n q => n (e.symm.trans q)
  refine wX10_both ⟨fun z => ?_, fun z => ?_, fun z => ?_, fun z => ⟨hb z, ?_⟩, fun z => ⟨fun y => ?_, fun y => ?_⟩, fun z => ⟨fun y => ?_, fun y => ?_⟩, fun z => ⟨fun y => ?_, fun y => ?_⟩, fun z => ?_⟩
  · rw [if_pos z] at k; exact k
  · rw [if_neg (ne z (by decide)), if_pos z] at k; exact k
  · rw [if_neg (ne z (by decide)), if_neg (ne z (by decide)), if_pos z] at k; exact k
  · rw [if_neg (ne z (by decide)), if_neg (ne z (by decide)), if_neg (ne z (by decide)), if_pos z] at k; exact k
  · rw [if_neg (ne z (by decide)), if_neg (ne z (by decide)), if_neg (ne z (by decide)), if_neg (ne z (by decide)), if_pos z, bI_f (l1.mp y)] at k; exact k
  · rw [if_neg (ne z (by decide)), if_neg (ne z (by decide)), if_neg (ne z (by decide)), if_neg (ne z (by decide)), if_pos z, bI_t (Decidable.byContradiction fun q => y (l1.mpr q))] at k; exact k
  · rw [if_neg (ne z (by decide)), if_neg (ne z (by decide)), if_neg (ne z (by decide)), if_neg (ne z (by decide)), if_neg (ne z (by decide)), if_pos z, bI_f y] at k; exact k
  · rw [if_neg (ne z (by decide)), if_neg (ne z (by decide)), if_neg (ne z (by decide)), if_neg (ne z (by decide)), if_neg (ne z (by decide)), if_pos z, bI_t y] at k; exact k
  · rw [if_neg (ne z (by decide)), if_neg (ne z (by decide)), if_neg (ne z (by decide)), if_neg (ne z (by decide)), if_neg (ne z (by decide)), if_neg (ne z (by decide)), if_pos z, bI_f (l1.mp y)] at k; exact k
  · rw [if_neg (ne z (by decide)), if_neg (ne z (by decide)), if_neg (ne z (by decide)), if_neg (ne z (by decide)), if_neg (ne z (by decide)), if_neg (ne z (by decide)), if_pos z, bI_t (Decidable.byContradiction fun q => y (l1.mpr q))] at k; exact k
  · have nn : ∀ {v : Int32}, (1000010 ≤ v.toInt ∧ v.toInt ≤ 1000016) → ¬ s = v := fun hv q => z (q ▸ hv)
    rw [if_neg (nn (by decide)), if_neg (nn (by decide)), if_neg (nn (by decide)), if_neg (nn (by decide)), if_neg (nn (by decide)), if_neg (nn (by decide)), if_neg (nn (by decide))] at k; exact k
theorem lg_cmp0 {x y : Int64} : lg_cmp x y = 0 ↔ x = y := lg_cmp_eq x y
theorem cX10_word_ {w : Int64} (k : P (some (aI (wordF w))) h) : Cl true mX10_word (d + 1) bc bs [aL w] h P := by
  unfold wordF at k
  refine wX10_word ⟨fun z => ⟨fun z2 => ⟨fun z3 => ⟨fun z4 => ⟨fun z5 => ⟨fun z6 => ⟨fun z7 => ?_, fun z7 => ?_⟩, fun z6 => ?_⟩, fun z5 => ?_⟩, fun z4 => ?_⟩, fun z3 => ?_⟩, fun z2 => ?_⟩, fun z => ?_⟩ <;> simp only [lg_cmp0] at * <;> simp_all
theorem cList_size_1 (k : P (some (aI (gI h 1 0 2))) h) : Cl true mJx4a65c_size_8abf5 (d + 1) bc bs [aR 1 0] h P := wJx4a65c_size_8abf5_r1 k
theorem cList_size_2 (k : P (some (aI (gI h 2 0 2))) h) : Cl true mJx4a65c_size_8abf5 (d + 1) bc bs [aR 2 0] h P := wJx4a65c_size_8abf5_r2 k
end PU

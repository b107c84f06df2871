-- ===== the abstract store: pointers are (role, number); ints and references by (role, number, place) =====
abbrev PT : Type := Nat × Nat
abbrev AV : Type := Int32 ⊕ (Int64 ⊕ Option PT)
abbrev aI (x : Int32) : AV := Sum.inl x
abbrev aL (x : Int64) : AV := Sum.inr (Sum.inl x)
abbrev aP (q : Option PT) : AV := Sum.inr (Sum.inr q)
abbrev aR (c i : Nat) : AV := Sum.inr (Sum.inr (some (c, i)))
def vl (ad : PT → Nat) (v : AV) : Value := match v with
  | .inl x => .int x
  | .inr (.inl x) => .long x
  | .inr (.inr r) => va_rf (r.map ad)
def ct (v : AV) : Nat := match v with
  | .inr (.inl _) => 2
  | _ => 1
abbrev HS : Type := (Nat → Nat → Nat → Int32) × (Nat → Nat → Nat → Option PT) × List PT
def gI (h : HS) (c i k : Nat) : Int32 := h.1 c i k
def gR (h : HS) (c i k : Nat) : Option PT := h.2.1 c i k
def sI (h : HS) (c i k : Nat) (v : Int32) : HS := (fun c' i' k' => if c' = c ∧ k' = k ∧ i' = i then v else h.1 c' i' k', h.2)
def sR (h : HS) (c i k : Nat) (v : Option PT) : HS := (h.1, fun c' i' k' => if c' = c ∧ k' = k ∧ i' = i then v else h.2.1 c' i' k', h.2.2)
def nw (h : HS) (c i : Nat) : HS := (fun c' i' k' => if c' = c ∧ i' = i then 0 else h.1 c' i' k', fun c' i' k' => if c' = c ∧ i' = i then none else h.2.1 c' i' k', h.2.2 ++ [(c, i)])
abbrev MT : Type := MethodName × ByteArray × Nat × Option FieldType
abbrev OJ : FieldType := .object "java/lang/Object"
def rtl : List (Option (Nat ⊕ (FieldType × Nat))) := [some (.inl 10), some (.inl 0), some (.inl 0), some (.inl 9), some (.inr (.int, 20)), some (.inr (.boolean, 20)), some (.inl 6), some (.inr (.byte, 400)), some (.inl 8), some (.inr (.int, 401)), some (.inr (.int, 401)), some (.inr (.int, 401)), some (.inl 2), some (.inr (.int, 400)), some (.inr (.int, 400)), some (.inr (.int, 8)), some (.inr (.int, 8)), some (.inr (.int, 8)), some (.inr (.int, 64)), some (.inl 3), some (.inl 5), some (.inl 1), some (.inr (.int, 4)), some (.inr (.int, 4)), some (.inr (.int, 8)), some (.inr (.int, 8)), some (.inl 11), some (.inr (.int, 4368)), some (.inr (.int, 12)), some (.inr (.int, 12)), some (.inr (.int, 12)), some (.inr (.int, 12)), some (.inr (.int, 120)), some (.inr (.int, 120)), some (.inr (.int, 120)), some (.inr (.int, 120)), some (.inr (.int, 120)), some (.inr (.int, 120)), some (.inr (.int, 120)), some (.inr (.int, 120)), some (.inr (.int, 120)), some (.inr (.int, 120)), some (.inr (.int, 120)), some (.inr (.int, 120)), some (.inr (.int, 20)), some (.inr (.boolean, 20)), some (.inr (.int, 9)), some (.inr (.int, 8)), some (.inr (.int, 500)), some (.inr (.int, 9)), some (.inr (.int, 8)), some (.inr (.int, 500)), some (.inr (.int, 500)), some (.inr (.int, 400)), some (.inr (.int, 4)), some (.inr (.int, 4)), some (.inr (.int, 8)), some (.inr (.int, 8)), none, none, some (.inl 7), some (.inr (.int, 364)), some (.inl 4)]
def rty (c i : Nat) : Nat ⊕ (FieldType × Nat) := match rtl[c]? with
  | some (some t) => t
  | _ => .inr (OJ, i)
def srl : List ((Nat × Nat) × Nat) := [((0, 0), 1), ((0, 1), 2), ((0, 2), 3), ((0, 3), 6), ((0, 4), 8), ((0, 5), 19), ((0, 6), 20), ((0, 7), 21), ((3, 0), 4), ((3, 1), 5), ((6, 0), 7), ((8, 0), 9), ((8, 1), 10), ((8, 2), 11), ((12, 0), 13), ((12, 1), 14), ((12, 2), 15), ((12, 3), 16), ((12, 4), 17), ((12, 5), 18), ((19, 0), 8), ((21, 0), 22), ((21, 1), 23), ((21, 2), 24), ((21, 3), 25), ((26, 3), 27), ((26, 4), 28), ((26, 5), 29), ((26, 6), 30), ((26, 7), 31), ((26, 8), 32), ((26, 9), 33), ((26, 10), 34), ((26, 11), 35), ((26, 12), 36), ((26, 13), 37), ((26, 14), 38), ((26, 15), 39), ((26, 16), 40), ((26, 17), 41), ((26, 18), 42), ((26, 19), 43), ((26, 22), 44), ((26, 23), 45), ((26, 27), 46), ((26, 28), 47), ((26, 29), 48), ((26, 30), 49), ((26, 31), 50), ((26, 32), 51), ((26, 33), 52), ((26, 34), 53), ((26, 49), 54), ((26, 50), 55), ((26, 51), 56), ((26, 52), 57)]
def fR (c i k : Nat) : Option PT := (srl.lookup (c, k)).map (fun c' => (c', i))
def gS (σ : Bool) (h : HS) (c i k : Nat) : Option PT := if σ then (match fR c i k with
  | some q => some q
  | none => gR h c i k) else gR h c i k
def fts : List (Nat → FieldType) := [tyJx4a65c, tyX0, tyX1, tyX2, tyX3, tyX4, tyX5, tyX6, tyX7, tyX8, tyX9, tyX10]
def fty (ci k : Nat) : FieldType := match fts[ci]? with
  | some f => f k
  | none => .int
def isRT (t : FieldType) : Bool := match t with
  | .object _ => true
  | .array _ => true
  | _ => false
def nF (ci : Nat) : Nat := match vwCl[ci]? with
  | some q => q.2.2
  | none => 0
def fv (σ : Bool) (ad : PT → Nat) (h : HS) (c i ci k : Nat) : Value := if isRT (fty ci k) then va_rf ((gS σ h c i k).map ad) else .int (gI h c i k)
def toE (σ : Bool) (cA : FieldType → ClassId) (ad : PT → Nat) (h : HS) (q : PT) : va_E := match rty q.1 q.2 with
  | .inl ci => .inr (ci, (List.range (nF ci)).map (fv σ ad h q.1 q.2 ci))
  | .inr (t, n) => .inl (cA t, n, if isRT t then .inr (.inr (.inr (.inr (fun k => (gS σ h q.1 q.2 k).map ad)))) else .inl (gI h q.1 q.2))
def wsO (σ : Bool) (cA : FieldType → ClassId) (ad : PT → Nat) (h : HS) : va_W := h.2.2.map (fun q => (ad q, toE σ cA ad h q))
def okL (L : List PT) (q : PT) : Prop := q ∈ L ∨ 65 ≤ q.1
def okV (h : HS) (v : AV) : Prop := ∀ q, v = aP (some q) → okL h.2.2 q
def Rep (σ : Bool) (D : va_G) (cA : FieldType → ClassId) (ad : PT → Nat) (B : Nat) (h : HS) (H : Heap) : Prop :=
  va_P D vwCl (wsO σ cA ad h) H ∧ va_D (fun q => B ≤ q) (wsO σ cA ad h) ∧ ∀ q ∈ h.2.2, ∀ k r, gS σ h q.1 q.2 k = some r → okL h.2.2 r
-- ===== the tables' words that stay =====
def gw : List Cond := lw_tbl.filter goodWord
theorem gw_good (M : Cond) (hM : goodWord M = true) : GoodIn (M :: gw) (M :: gw) := fun w hw => ⟨hw, by
  rcases List.mem_cons.mp hw with h | h
  · rw [h]; exact good_of_word hM
  · exact good_of_word (List.mem_filter.mp h).2⟩
theorem inw_0 : ∀ w ∈ u_ws RJx4a65c TJx4a65c 3, w ∈ gw := by decide +kernel
theorem inw_1 : ∀ w ∈ u_ws RX0 TX0 6, w ∈ gw := by decide +kernel
theorem inw_2 : ∀ w ∈ u_ws RX1 TX1 9, w ∈ gw := by decide +kernel
theorem inw_3 : ∀ w ∈ u_ws RX2 TX2 5, w ∈ gw := by decide +kernel
theorem inw_4 : ∀ w ∈ u_ws RX3 TX3 12, w ∈ gw := by decide +kernel
theorem inw_5 : ∀ w ∈ u_ws RX4 TX4 4, w ∈ gw := by decide +kernel
theorem inw_6 : ∀ w ∈ u_ws RX5 TX5 2, w ∈ gw := by decide +kernel
theorem inw_7 : ∀ w ∈ u_ws RX6 TX6 5, w ∈ gw := by decide +kernel
theorem inw_8 : ∀ w ∈ u_ws RX7 TX7 4, w ∈ gw := by decide +kernel
theorem inw_9 : ∀ w ∈ u_ws RX8 TX8 4, w ∈ gw := by decide +kernel
theorem inw_10 : ∀ w ∈ u_ws RX9 TX9 11, w ∈ gw := by decide +kernel
theorem inw_11 : ∀ w ∈ u_ws RX10 TX10 55, w ∈ gw := by decide +kernel
theorem cls_ok {ci : Nat} {C : String} {T : u_T} {N : Nat} (h : vwCl[ci]? = some (C, T, N)) : N = nF ci ∧ (∀ w ∈ u_ws C T N, w ∈ gw) ∧ (∀ k, k < N → parseFieldDescriptor (T k).2.2.1 = some (fty ci k)) ∧ (∀ a, a < N → ∀ b, b < N → a ≠ b → (T a).2.1 ≠ (T b).2.1) := by
  match ci, h with
  | 0, h => cases h; exact ⟨rfl, inw_0, tyJx4a65c_ok, nmJx4a65c⟩
  | 1, h => cases h; exact ⟨rfl, inw_1, tyX0_ok, nmX0⟩
  | 2, h => cases h; exact ⟨rfl, inw_2, tyX1_ok, nmX1⟩
  | 3, h => cases h; exact ⟨rfl, inw_3, tyX2_ok, nmX2⟩
  | 4, h => cases h; exact ⟨rfl, inw_4, tyX3_ok, nmX3⟩
  | 5, h => cases h; exact ⟨rfl, inw_5, tyX4_ok, nmX4⟩
  | 6, h => cases h; exact ⟨rfl, inw_6, tyX5_ok, nmX5⟩
  | 7, h => cases h; exact ⟨rfl, inw_7, tyX6_ok, nmX6⟩
  | 8, h => cases h; exact ⟨rfl, inw_8, tyX7_ok, nmX7⟩
  | 9, h => cases h; exact ⟨rfl, inw_9, tyX8_ok, nmX8⟩
  | 10, h => cases h; exact ⟨rfl, inw_10, tyX9_ok, nmX9⟩
  | 11, h => cases h; exact ⟨rfl, inw_11, tyX10_ok, nmX10⟩
  | k + 12, h => simp at h

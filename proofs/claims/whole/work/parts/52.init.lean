-- ===== the two objects at the start =====
def h00 : HS := (fun _ _ _ => 0, fun _ _ _ => none, [])
def cel9 : List PT := [(0, 0), (1, 0), (2, 0), (3, 0), (4, 0), (5, 0), (6, 0), (7, 0), (8, 0), (9, 0), (10, 0), (11, 0), (12, 0), (13, 0), (14, 0), (15, 0), (16, 0), (17, 0), (18, 0), (12, 1), (13, 1), (14, 1), (15, 1), (16, 1), (17, 1), (18, 1), (19, 0), (20, 0), (21, 0), (22, 0), (23, 0), (24, 0), (25, 0)]
def stat (h : HS) : Prop := ∀ e ∈ srl, ∀ q ∈ h.2.2, q.1 = e.1.1 → gR h q.1 q.2 e.1.2 = some (e.2, q.2)
theorem lk_mem {α β : Type} [BEq α] [LawfulBEq α] {a : α} {b : β} : ∀ {l : List (α × β)}, l.lookup a = some b → (a, b) ∈ l
  | [], h => by cases h
  | (c, d) :: t, h => by
    rw [List.lookup_cons] at h
    by_cases e : a == c
    · rw [e] at h
      have e2 : a = c := eq_of_beq e
      have e3 : d = b := by simpa using h
      rw [e2, e3]
      exact List.mem_cons_self
    · rw [Bool.not_eq_true] at e
      rw [e] at h
      exact List.mem_cons_of_mem _ (lk_mem h)
theorem stat_ok {h : HS} (s : stat h) : ∀ q ∈ h.2.2, ∀ k r, fR q.1 q.2 k = some r → gR h q.1 q.2 k = some r := by
  intro q hq k r hr
  unfold fR at hr
  cases z : srl.lookup (q.1, k) with
  | none => rw [z] at hr; cases hr
  | some c =>
    rw [z] at hr
    have e : (c, q.2) = r := by simpa using hr
    rw [← e]
    exact s ((q.1, k), c) (lk_mem z) q hq rfl
def S9 (h : HS) : Prop := h.2.2 = cel9 ∧ gI h 0 0 10 = 0 ∧ gI h 1 0 2 = 0 ∧ gI h 2 0 2 = 0 ∧ gI h 3 0 2 = 0 ∧ gI h 3 0 3 = 0 ∧ gI h 6 0 1 = 0 ∧ gI h 19 0 3 = 0 ∧ gI h 19 0 4 = -1 ∧ gI h 12 0 7 = 0 ∧ (∀ l, l < 4 → gI h 22 0 l = 0 ∧ gI h 23 0 l = 0) ∧ gR h 1 0 1 = some (66, 0) ∧ gR h 2 0 1 = some (66, 0) ∧ gR h 0 0 8 = some (12, 0) ∧ gR h 0 0 9 = some (12, 1) ∧ gR h 19 0 1 = some (12, 1) ∧ (∀ e ∈ srl, ∀ q ∈ h.2.2, q.1 = e.1.1 → gR h q.1 q.2 e.1.2 = some (e.2, q.2))
section IN
variable {P : Option AV → HS → Prop} {d bc bs : Nat} {h : HS}
theorem c_list1 (k : P none (sR (sI h 1 0 0 0) 1 0 1 (some (66, 0)))) : Cl false mJx4a65c_init_da8c8 (d + 3) bc bs [aR 1 0] h P := wJx4a65c_init_da8c8_1 (wJxc12de_init_da8c8_1 (wJxa1e45_init_da8c8_1 ⟨rfl, rfl, k⟩))
theorem c_list2 (k : P none (sR (sI h 2 0 0 0) 2 0 1 (some (66, 0)))) : Cl false mJx4a65c_init_da8c8 (d + 3) bc bs [aR 2 0] h P := wJx4a65c_init_da8c8_2 (wJxc12de_init_da8c8_2 (wJxa1e45_init_da8c8_2 ⟨rfl, rfl, k⟩))

set_option maxRecDepth 100000 in
set_option maxHeartbeats 4000000 in
theorem c_init9 (k : ∀ h, S9 h → P none h) : Cl false mX9_init 100 50 4000 [aR 0 0] (nw h00 0 0) P := by
  refine wX9_init (d := 99) ⟨(show (1, 0) ∉ [(0, 0)] from by decide), by decide, by decide, c_list1 (d := 96) ⟨rfl, (show (2, 0) ∉ [(0, 0), (1, 0)] from by decide), by decide, by decide, c_list2 (d := 96) ⟨rfl, (show (3, 0) ∉ [(0, 0), (1, 0), (2, 0)] from by decide), by decide, by decide, by decide, by decide, ?_⟩⟩⟩
  refine wX8_init (d := 98) ⟨(show (4, 0) ∉ [(0, 0), (1, 0), (2, 0), (3, 0)] from by decide), by decide, by decide, (show (5, 0) ∉ [(0, 0), (1, 0), (2, 0), (3, 0), (4, 0)] from by decide), by decide, by decide, ⟨rfl, (show (6, 0) ∉ [(0, 0), (1, 0), (2, 0), (3, 0), (4, 0), (5, 0)] from by decide), by decide, by decide, by decide, by decide, ?_⟩⟩
  refine wX5_init (d := 98) ⟨(show (7, 0) ∉ [(0, 0), (1, 0), (2, 0), (3, 0), (4, 0), (5, 0), (6, 0)] from by decide), by decide, by decide, ⟨rfl, (show (8, 0) ∉ [(0, 0), (1, 0), (2, 0), (3, 0), (4, 0), (5, 0), (6, 0), (7, 0)] from by decide), by decide, by decide, by decide, by decide, ?_⟩⟩
  refine wX7_init (d := 98) ⟨(show (9, 0) ∉ [(0, 0), (1, 0), (2, 0), (3, 0), (4, 0), (5, 0), (6, 0), (7, 0), (8, 0)] from by decide), by decide, by decide, (show (10, 0) ∉ [(0, 0), (1, 0), (2, 0), (3, 0), (4, 0), (5, 0), (6, 0), (7, 0), (8, 0), (9, 0)] from by decide), by decide, by decide, (show (11, 0) ∉ [(0, 0), (1, 0), (2, 0), (3, 0), (4, 0), (5, 0), (6, 0), (7, 0), (8, 0), (9, 0), (10, 0)] from by decide), by decide, by decide, ⟨rfl, (show (12, 0) ∉ [(0, 0), (1, 0), (2, 0), (3, 0), (4, 0), (5, 0), (6, 0), (7, 0), (8, 0), (9, 0), (10, 0), (11, 0)] from by decide), by decide, by decide, by decide, by decide, ?_⟩⟩
  refine wX1_init (d := 98) ⟨(show (13, 0) ∉ [(0, 0), (1, 0), (2, 0), (3, 0), (4, 0), (5, 0), (6, 0), (7, 0), (8, 0), (9, 0), (10, 0), (11, 0), (12, 0)] from by decide), by decide, by decide, (show (14, 0) ∉ [(0, 0), (1, 0), (2, 0), (3, 0), (4, 0), (5, 0), (6, 0), (7, 0), (8, 0), (9, 0), (10, 0), (11, 0), (12, 0), (13, 0)] from by decide), by decide, by decide, (show (15, 0) ∉ [(0, 0), (1, 0), (2, 0), (3, 0), (4, 0), (5, 0), (6, 0), (7, 0), (8, 0), (9, 0), (10, 0), (11, 0), (12, 0), (13, 0), (14, 0)] from by decide), by decide, by decide, (show (16, 0) ∉ [(0, 0), (1, 0), (2, 0), (3, 0), (4, 0), (5, 0), (6, 0), (7, 0), (8, 0), (9, 0), (10, 0), (11, 0), (12, 0), (13, 0), (14, 0), (15, 0)] from by decide), by decide, by decide, (show (17, 0) ∉ [(0, 0), (1, 0), (2, 0), (3, 0), (4, 0), (5, 0), (6, 0), (7, 0), (8, 0), (9, 0), (10, 0), (11, 0), (12, 0), (13, 0), (14, 0), (15, 0), (16, 0)] from by decide), by decide, by decide, (show (18, 0) ∉ [(0, 0), (1, 0), (2, 0), (3, 0), (4, 0), (5, 0), (6, 0), (7, 0), (8, 0), (9, 0), (10, 0), (11, 0), (12, 0), (13, 0), (14, 0), (15, 0), (16, 0), (17, 0)] from by decide), by decide, by decide, ⟨rfl, (show (12, 1) ∉ [(0, 0), (1, 0), (2, 0), (3, 0), (4, 0), (5, 0), (6, 0), (7, 0), (8, 0), (9, 0), (10, 0), (11, 0), (12, 0), (13, 0), (14, 0), (15, 0), (16, 0), (17, 0), (18, 0)] from by decide), by decide, by decide, by decide, by decide, ?_⟩⟩
  refine wX1_init (d := 98) ⟨(show (13, 1) ∉ [(0, 0), (1, 0), (2, 0), (3, 0), (4, 0), (5, 0), (6, 0), (7, 0), (8, 0), (9, 0), (10, 0), (11, 0), (12, 0), (13, 0), (14, 0), (15, 0), (16, 0), (17, 0), (18, 0), (12, 1)] from by decide), by decide, by decide, (show (14, 1) ∉ [(0, 0), (1, 0), (2, 0), (3, 0), (4, 0), (5, 0), (6, 0), (7, 0), (8, 0), (9, 0), (10, 0), (11, 0), (12, 0), (13, 0), (14, 0), (15, 0), (16, 0), (17, 0), (18, 0), (12, 1), (13, 1)] from by decide), by decide, by decide, (show (15, 1) ∉ [(0, 0), (1, 0), (2, 0), (3, 0), (4, 0), (5, 0), (6, 0), (7, 0), (8, 0), (9, 0), (10, 0), (11, 0), (12, 0), (13, 0), (14, 0), (15, 0), (16, 0), (17, 0), (18, 0), (12, 1), (13, 1), (14, 1)] from by decide), by decide, by decide, (show (16, 1) ∉ [(0, 0), (1, 0), (2, 0), (3, 0), (4, 0), (5, 0), (6, 0), (7, 0), (8, 0), (9, 0), (10, 0), (11, 0), (12, 0), (13, 0), (14, 0), (15, 0), (16, 0), (17, 0), (18, 0), (12, 1), (13, 1), (14, 1), (15, 1)] from by decide), by decide, by decide, (show (17, 1) ∉ [(0, 0), (1, 0), (2, 0), (3, 0), (4, 0), (5, 0), (6, 0), (7, 0), (8, 0), (9, 0), (10, 0), (11, 0), (12, 0), (13, 0), (14, 0), (15, 0), (16, 0), (17, 0), (18, 0), (12, 1), (13, 1), (14, 1), (15, 1), (16, 1)] from by decide), by decide, by decide, (show (18, 1) ∉ [(0, 0), (1, 0), (2, 0), (3, 0), (4, 0), (5, 0), (6, 0), (7, 0), (8, 0), (9, 0), (10, 0), (11, 0), (12, 0), (13, 0), (14, 0), (15, 0), (16, 0), (17, 0), (18, 0), (12, 1), (13, 1), (14, 1), (15, 1), (16, 1), (17, 1)] from by decide), by decide, by decide, ⟨rfl, (show (19, 0) ∉ [(0, 0), (1, 0), (2, 0), (3, 0), (4, 0), (5, 0), (6, 0), (7, 0), (8, 0), (9, 0), (10, 0), (11, 0), (12, 0), (13, 0), (14, 0), (15, 0), (16, 0), (17, 0), (18, 0), (12, 1), (13, 1), (14, 1), (15, 1), (16, 1), (17, 1), (18, 1)] from by decide), by decide, by decide, rfl, 1, rfl, ?_⟩⟩
  refine wX2_init (d := 98) ⟨rfl, (show (20, 0) ∉ [(0, 0), (1, 0), (2, 0), (3, 0), (4, 0), (5, 0), (6, 0), (7, 0), (8, 0), (9, 0), (10, 0), (11, 0), (12, 0), (13, 0), (14, 0), (15, 0), (16, 0), (17, 0), (18, 0), (12, 1), (13, 1), (14, 1), (15, 1), (16, 1), (17, 1), (18, 1), (19, 0)] from by decide), by decide, by decide, ?_⟩
  refine wX4_init (d := 98) ⟨rfl, (show (21, 0) ∉ [(0, 0), (1, 0), (2, 0), (3, 0), (4, 0), (5, 0), (6, 0), (7, 0), (8, 0), (9, 0), (10, 0), (11, 0), (12, 0), (13, 0), (14, 0), (15, 0), (16, 0), (17, 0), (18, 0), (12, 1), (13, 1), (14, 1), (15, 1), (16, 1), (17, 1), (18, 1), (19, 0), (20, 0)] from by decide), by decide, by decide, by decide, by decide, ?_⟩
  refine wX0_init (d := 98) ⟨(show (22, 0) ∉ [(0, 0), (1, 0), (2, 0), (3, 0), (4, 0), (5, 0), (6, 0), (7, 0), (8, 0), (9, 0), (10, 0), (11, 0), (12, 0), (13, 0), (14, 0), (15, 0), (16, 0), (17, 0), (18, 0), (12, 1), (13, 1), (14, 1), (15, 1), (16, 1), (17, 1), (18, 1), (19, 0), (20, 0), (21, 0)] from by decide), by decide, by decide, (show (23, 0) ∉ [(0, 0), (1, 0), (2, 0), (3, 0), (4, 0), (5, 0), (6, 0), (7, 0), (8, 0), (9, 0), (10, 0), (11, 0), (12, 0), (13, 0), (14, 0), (15, 0), (16, 0), (17, 0), (18, 0), (12, 1), (13, 1), (14, 1), (15, 1), (16, 1), (17, 1), (18, 1), (19, 0), (20, 0), (21, 0), (22, 0)] from by decide), by decide, by decide, (show (24, 0) ∉ [(0, 0), (1, 0), (2, 0), (3, 0), (4, 0), (5, 0), (6, 0), (7, 0), (8, 0), (9, 0), (10, 0), (11, 0), (12, 0), (13, 0), (14, 0), (15, 0), (16, 0), (17, 0), (18, 0), (12, 1), (13, 1), (14, 1), (15, 1), (16, 1), (17, 1), (18, 1), (19, 0), (20, 0), (21, 0), (22, 0), (23, 0)] from by decide), by decide, by decide, (show (25, 0) ∉ [(0, 0), (1, 0), (2, 0), (3, 0), (4, 0), (5, 0), (6, 0), (7, 0), (8, 0), (9, 0), (10, 0), (11, 0), (12, 0), (13, 0), (14, 0), (15, 0), (16, 0), (17, 0), (18, 0), (12, 1), (13, 1), (14, 1), (15, 1), (16, 1), (17, 1), (18, 1), (19, 0), (20, 0), (21, 0), (22, 0), (23, 0), (24, 0)] from by decide), by decide, by decide, ⟨rfl, k _ ?_⟩⟩
  unfold S9
  decide +kernel
/-- the reference, n of its arrays made -/
def IP (h0 : HS) (n : Nat) (w : Bool) (x : HS) : Prop := x.2.2 = cel9 ++ [(26, 0)] ++ (List.range n).map (fun j => (27 + j, 0)) ∧ (∀ c i k, c < 26 → gI x c i k = gI h0 c i k ∧ gR x c i k = gR h0 c i k) ∧ (∀ k, gI x 26 0 k = if w = true ∧ k = 44 then -1 else 0) ∧ (∀ c k, 27 ≤ c → c < 27 + n → gI x c 0 k = 0) ∧ ∀ e ∈ srl, e.1.1 = 26 → e.2 < 27 + n → gR x 26 0 e.1.2 = some (e.2, 0)
theorem ip_ni {h0 x : HS} {n c : Nat} {w : Bool} (hc : c = 27 + n) (I : IP h0 n w x) : (c, 0) ∉ x.2.2 := by
  rw [I.1]
  intro hm
  rcases List.mem_append.mp hm with z | z
  · have y : ∀ q ∈ cel9 ++ [(26, 0)], q.1 < 27 := by decide
    have := y _ z
    have : c < 27 := this
    omega
  · obtain ⟨j, hj, e⟩ := List.mem_map.mp z
    have e2 : 27 + j = c := congrArg Prod.fst e
    have := List.mem_range.mp hj
    omega
theorem ip_step {h0 x : HS} {n c k : Nat} {w : Bool} (hc : c = 27 + n) (hk : ∀ e ∈ srl, e.1.1 = 26 → (e.2 = c → e.1.2 = k) ∧ (e.2 < c → e.1.2 ≠ k)) (I : IP h0 n w x) : IP h0 (n + 1) w (sR (nw x c 0) 26 0 k (some (c, 0))) := by
  obtain ⟨i1, i2, i3, i4, i5⟩ := I
  refine ⟨?_, fun c' i k' h' => ?_, fun k' => ?_, fun c' k' h1 h2 => ?_, fun e he h1 h2 => ?_⟩
  · show x.2.2 ++ [(c, 0)] = _
    rw [i1, List.range_succ, List.map_append, ← List.append_assoc, hc]
    rfl
  · rw [gI_sR, gI_nw, if_neg (by omega), gR_sR, if_neg (by omega), gR_nw, if_neg (by omega)]
    exact i2 c' i k' h'
  · rw [gI_sR, gI_nw, if_neg (by omega)]
    exact i3 k'
  · rw [gI_sR, gI_nw]
    by_cases z : c' = c
    · rw [if_pos ⟨z, rfl⟩]
    · rw [if_neg (fun y => z y.1)]
      exact i4 c' k' h1 (by omega)
  · obtain ⟨g1, g2⟩ := hk e he h1
    rw [gR_sR]
    by_cases z : e.2 = c
    · rw [if_pos ⟨rfl, g1 z, rfl⟩, z]
    · rw [if_neg (fun y => g2 (by omega) y.2.1), gR_nw, if_neg (by omega)]
      exact i5 e he h1 (by omega)
theorem ip_44 {h0 x : HS} {n : Nat} (I : IP h0 n false x) : IP h0 n true (sI x 26 0 44 (-1)) := by
  obtain ⟨i1, i2, i3, i4, i5⟩ := I
  refine ⟨i1, fun c' i k' h' => ?_, fun k' => ?_, fun c' k' h1 h2 => ?_, fun e he h1 h2 => i5 e he h1 h2⟩
  · rw [gI_sI, if_neg (by omega)]
    exact i2 c' i k' h'
  · rw [gI_sI]
    by_cases z : k' = 44
    · rw [if_pos ⟨rfl, z, rfl⟩, if_pos ⟨rfl, z⟩]
    · rw [if_neg (fun y => z y.2.1), if_neg (fun y => z y.2), i3 k', if_neg (fun y => z y.2)]
  · rw [gI_sI, if_neg (by omega)]
    exact i4 c' k' h1 h2
theorem ip_0 {h0 : HS} (hl : h0.2.2 = cel9) : IP h0 0 false (nw h0 26 0) := by
  refine ⟨?_, fun c' i k' h' => ?_, fun k' => ?_, fun c' k' h1 h2 => by omega, fun e he h1 h2 => ?_⟩
  · show h0.2.2 ++ [(26, 0)] = _
    rw [hl]
    rfl
  · rw [gI_nw, if_neg (by omega), gR_nw, if_neg (by omega)]
    exact ⟨rfl, rfl⟩
  · rw [gI_nw, if_pos ⟨rfl, rfl⟩, if_neg (by simp)]
  · have y : ∀ e ∈ srl, e.1.1 = 26 → 27 ≤ e.2 := by decide
    have := y e he h1
    omega
theorem ip_end {h0 x : HS} (S : S9 h0) (I : IP h0 31 true x) : Inv x ∧ stat x := by
  obtain ⟨s1, s2, s3, s4, s5, s6, s7, s8, s9, s10, s11, s12, s13, s14, s15, s16, s17⟩ := S
  obtain ⟨i1, i2, i3, i4, i5⟩ := I
  have g : ∀ c i k, c < 26 → gI x c i k = gI h0 c i k := fun c i k hc => (i2 c i k hc).1
  have r : ∀ c i k, c < 26 → gR x c i k = gR h0 c i k := fun c i k hc => (i2 c i k hc).2
  have m0 : ∀ k, k ≠ 44 → gI x 26 0 k = nI 0 := fun k hk => by rw [i3 k, if_neg (fun y => hk y.2)]; rfl
  have lt : ∀ q ∈ x.2.2, q.1 < 58 := by
    rw [i1]
    decide
  refine ⟨⟨⟨0, 0, 0, ⟨by decide, by decide, by decide⟩, (g 0 0 10 (by decide)).trans s2, m0 0 (by decide), m0 1 (by decide), m0 2 (by decide), ⟨(g 1 0 2 (by decide)).trans s3, Or.inl ⟨rfl, (r 1 0 1 (by decide)).trans s12, fun m hm => ?_⟩⟩, ⟨(g 2 0 2 (by decide)).trans s4, Or.inl ⟨rfl, (r 2 0 1 (by decide)).trans s13, fun m hm => ?_⟩⟩, fun t ht => absurd ht (Nat.not_lt_zero _), fun t ht => absurd ht (Nat.not_lt_zero _), fun t _ d => ⟨i4 27 _ (by decide) (by decide), i4 29 _ (by decide) (by decide), i4 30 _ (by decide) (by decide)⟩, fun q hq => ?_⟩, ⟨?_, ⟨0, by decide, m0 20 (by decide)⟩, 0, by decide, (g 3 0 2 (by decide)).trans s5, m0 21 (by decide), fun j hj => absurd hj (Nat.not_lt_zero _)⟩, ⟨0, by decide, (g 6 0 1 (by decide)).trans s7, m0 35 (by decide), fun j hj => absurd hj (Nat.not_lt_zero _)⟩, ⟨0, by decide, (r 0 0 8 (by decide)).trans s14, (r 0 0 9 (by decide)).trans s15, ⟨1, by decide, (r 19 0 1 (by decide)).trans s16⟩, 0, by decide, (g 12 0 7 (by decide)).trans s10, m0 24 (by decide), fun k hk => absurd hk (Nat.not_lt_zero _)⟩, ⟨?_, ?_⟩, fun q hq => ?_⟩, ?_⟩
  · have : 63 < 58 := lt _ hm
    omega
  · have : 64 < 58 := lt _ hm
    omega
  · have := lt q hq
    exact ⟨fun w => by omega, fun w => by omega⟩
  · rw [g 3 0 3 (by decide), s6, m0 20 (by decide)]
    rfl
  · rw [g 19 0 3 (by decide), s8, m0 42 (by decide)]
    rfl
  · rw [g 19 0 4 (by decide), s9, i3 44, if_pos ⟨rfl, rfl⟩]
  · rw [g 22 0 q (by decide), g 23 0 q (by decide), (s11 q hq).1, (s11 q hq).2, i4 54 q (by decide) (by decide), i4 55 q (by decide) (by decide)]
    exact ⟨rfl, rfl, ⟨0, by decide, rfl⟩, 0, by decide, rfl⟩
  · intro e he q hq hqe
    rw [i1] at hq
    have z : ∀ e ∈ srl, ∀ q ∈ cel9 ++ [(26, 0)] ++ (List.range 31).map (fun j => (27 + j, 0)), q.1 = e.1.1 → (q ∈ cel9 ∧ e.1.1 < 26) ∨ (q = (26, 0) ∧ e.1.1 = 26 ∧ e.2 < 58) := by decide +kernel
    rcases z e he q hq hqe with ⟨z1, z2⟩ | ⟨z1, z2, z3⟩
    · rw [r q.1 q.2 e.1.2 (by omega)]
      exact s17 e he q (by rw [s1]; exact z1) hqe
    · rw [z1]
      exact i5 e he z2 z3
set_option maxRecDepth 100000 in
set_option maxHeartbeats 4000000 in
theorem c_init10 (S : S9 h) (k : ∀ h2, Inv h2 → stat h2 → P none h2) : Cl false mX10_init 100 50 10000 [aR 26 0] (nw h 26 0) P := by
  have I0 := ip_0 S.1
  have I1 := ip_step (c := 27) (k := 3) (n := 0) rfl (by decide) I0
  have I2 := ip_step (c := 28) (k := 4) (n := 1) rfl (by decide) I1
  have I3 := ip_step (c := 29) (k := 5) (n := 2) rfl (by decide) I2
  have I4 := ip_step (c := 30) (k := 6) (n := 3) rfl (by decide) I3
  have I5 := ip_step (c := 31) (k := 7) (n := 4) rfl (by decide) I4
  have I6 := ip_step (c := 32) (k := 8) (n := 5) rfl (by decide) I5
  have I7 := ip_step (c := 33) (k := 9) (n := 6) rfl (by decide) I6
  have I8 := ip_step (c := 34) (k := 10) (n := 7) rfl (by decide) I7
  have I9 := ip_step (c := 35) (k := 11) (n := 8) rfl (by decide) I8
  have I10 := ip_step (c := 36) (k := 12) (n := 9) rfl (by decide) I9
  have I11 := ip_step (c := 37) (k := 13) (n := 10) rfl (by decide) I10
  have I12 := ip_step (c := 38) (k := 14) (n := 11) rfl (by decide) I11
  have I13 := ip_step (c := 39) (k := 15) (n := 12) rfl (by decide) I12
  have I14 := ip_step (c := 40) (k := 16) (n := 13) rfl (by decide) I13
  have I15 := ip_step (c := 41) (k := 17) (n := 14) rfl (by decide) I14
  have I16 := ip_step (c := 42) (k := 18) (n := 15) rfl (by decide) I15
  have I17 := ip_step (c := 43) (k := 19) (n := 16) rfl (by decide) I16
  have I18 := ip_step (c := 44) (k := 22) (n := 17) rfl (by decide) I17
  have I19 := ip_step (c := 45) (k := 23) (n := 18) rfl (by decide) I18
  have I20 := ip_step (c := 46) (k := 27) (n := 19) rfl (by decide) I19
  have I21 := ip_step (c := 47) (k := 28) (n := 20) rfl (by decide) I20
  have I22 := ip_step (c := 48) (k := 29) (n := 21) rfl (by decide) I21
  have I23 := ip_step (c := 49) (k := 30) (n := 22) rfl (by decide) I22
  have I24 := ip_step (c := 50) (k := 31) (n := 23) rfl (by decide) I23
  have I25 := ip_step (c := 51) (k := 32) (n := 24) rfl (by decide) I24
  have I26 := ip_step (c := 52) (k := 33) (n := 25) rfl (by decide) I25
  have I27 := ip_step (c := 53) (k := 34) (n := 26) rfl (by decide) I26
  have J27 := ip_44 I27
  have I28 := ip_step (c := 54) (k := 49) (n := 27) rfl (by decide) J27
  have I29 := ip_step (c := 55) (k := 50) (n := 28) rfl (by decide) I28
  have I30 := ip_step (c := 56) (k := 51) (n := 29) rfl (by decide) I29
  have I31 := ip_step (c := 57) (k := 52) (n := 30) rfl (by decide) I30
  have F := ip_end S I31
  exact wX10_init (d := 99) ⟨ip_ni (c := 27) (n := 0) rfl I0, by decide, by decide, ip_ni (c := 28) (n := 1) rfl I1, by decide, by decide, ip_ni (c := 29) (n := 2) rfl I2, by decide, by decide, ip_ni (c := 30) (n := 3) rfl I3, by decide, by decide, ip_ni (c := 31) (n := 4) rfl I4, by decide, by decide, ip_ni (c := 32) (n := 5) rfl I5, by decide, by decide, ip_ni (c := 33) (n := 6) rfl I6, by decide, by decide, ip_ni (c := 34) (n := 7) rfl I7, by decide, by decide, ip_ni (c := 35) (n := 8) rfl I8, by decide, by decide, ip_ni (c := 36) (n := 9) rfl I9, by decide, by decide, ip_ni (c := 37) (n := 10) rfl I10, by decide, by decide, ip_ni (c := 38) (n := 11) rfl I11, by decide, by decide, ip_ni (c := 39) (n := 12) rfl I12, by decide, by decide, ip_ni (c := 40) (n := 13) rfl I13, by decide, by decide, ip_ni (c := 41) (n := 14) rfl I14, by decide, by decide, ip_ni (c := 42) (n := 15) rfl I15, by decide, by decide, ip_ni (c := 43) (n := 16) rfl I16, by decide, by decide, ip_ni (c := 44) (n := 17) rfl I17, by decide, by decide, ip_ni (c := 45) (n := 18) rfl I18, by decide, by decide, ip_ni (c := 46) (n := 19) rfl I19, by decide, by decide, ip_ni (c := 47) (n := 20) rfl I20, by decide, by decide, ip_ni (c := 48) (n := 21) rfl I21, by decide, by decide, ip_ni (c := 49) (n := 22) rfl I22, by decide, by decide, ip_ni (c := 50) (n := 23) rfl I23, by decide, by decide, ip_ni (c := 51) (n := 24) rfl I24, by decide, by decide, ip_ni (c := 52) (n := 25) rfl I25, by decide, by decide, ip_ni (c := 53) (n := 26) rfl I26, by decide, by decide, ip_ni (c := 54) (n := 27) rfl J27, by decide, by decide, ip_ni (c := 55) (n := 28) rfl I28, by decide, by decide, ip_ni (c := 56) (n := 29) rfl I29, by decide, by decide, ip_ni (c := 57) (n := 30) rfl I30, by decide, by decide, k _ F.1 F.2⟩
end IN

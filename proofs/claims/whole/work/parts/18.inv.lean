-- ===== class and reference in one store: what is kept between the calls =====
def Eqo (F : Nat → Nat → Bool) (h h2 : HS) : Prop := (∀ c i k, F c k = true → gI h2 c i k = gI h c i k ∧ gR h2 c i k = gR h c i k) ∧ h2.2.2 = h.2.2
theorem Eqo.rf {F : Nat → Nat → Bool} {h : HS} : Eqo F h h := ⟨fun _ _ _ _ => ⟨rfl, rfl⟩, rfl⟩
theorem Eqo.tr {F : Nat → Nat → Bool} {h1 h2 h3 : HS} (a : Eqo F h1 h2) (b : Eqo F h2 h3) : Eqo F h1 h3 := ⟨fun c i k z => ⟨((b.1 c i k z).1).trans (a.1 c i k z).1, ((b.1 c i k z).2).trans (a.1 c i k z).2⟩, b.2.trans a.2⟩
theorem Eqo.sI {F : Nat → Nat → Bool} {h h2 : HS} {c i k : Nat} {v : Int32} (a : Eqo F h h2) (hf : F c k = false) : Eqo F h (sI h2 c i k v) := by
  refine ⟨fun c' i' k' z => ⟨?_, (a.1 c' i' k' z).2⟩, a.2⟩
  rw [gI_sI, if_neg (fun q => by rw [q.1, q.2.1, hf] at z; cases z)]
  exact (a.1 c' i' k' z).1
theorem Eqo.sR {F : Nat → Nat → Bool} {h h2 : HS} {c i k : Nat} {v : Option PT} (a : Eqo F h h2) (hf : F c k = false) : Eqo F h (sR h2 c i k v) := by
  refine ⟨fun c' i' k' z => ⟨(a.1 c' i' k' z).1, ?_⟩, a.2⟩
  rw [gR_sR, if_neg (fun q => by rw [q.1, q.2.1, hf] at z; cases z)]
  exact (a.1 c' i' k' z).2
-- things and slips
def TH (h : HS) (D t : Nat) : Prop := gR h 60 t 0 = some (61, t) ∧ gI h 60 t 1 = gI h 31 0 t ∧ gI h 60 t 2 = gI h 28 0 t ∧ gI h 60 t 3 = gI h 29 0 t ∧ gI h 60 t 4 = gI h 30 0 t ∧ (∀ d, d < 364 → gI h 61 t d = gI h 27 0 (364 * t + d)) ∧ ∃ c, c ≤ D ∧ gI h 31 0 t = nI c
def SL (h : HS) (D nt i : Nat) : Prop := gI h 62 i 0 = gI h 32 0 i ∧ gI h 62 i 1 = gI h 33 0 i ∧ gI h 62 i 2 = gI h 34 0 i ∧ (∃ t, t < nt ∧ gR h 62 i 3 = some (60, t) ∧ gI h 35 0 i = nI t) ∧ gI h 62 i 4 = gI h 36 0 i ∧ gI h 62 i 5 = gI h 37 0 i ∧ gI h 62 i 6 = gI h 38 0 i ∧ gI h 62 i 7 = gI h 43 0 i ∧ gI h 62 i 8 = gI h 39 0 i ∧ gI h 62 i 9 = gI h 40 0 i ∧ gI h 62 i 10 = gI h 41 0 i ∧ gI h 62 i 11 = gI h 42 0 i ∧
  (∃ y, y ≤ D ∧ gI h 38 0 i = nI y ∧ (gI h 40 0 i = -1 ∧ gI h 41 0 i = -1 → gI h 32 0 i = 2 ∧ D < y + 7)) ∧ (gI h 40 0 i = -1 ∨ ∃ n, n ≤ 400 ∧ gI h 40 0 i = nI n) ∧ (gI h 37 0 i = -1 ∨ ∃ n, n < 20 ∧ gI h 37 0 i = nI n)
def IA (h : HS) (D nt ns : Nat) : Prop := (D < 364 ∧ nt ≤ 12 ∧ ns ≤ 120) ∧ gI h 0 0 10 = nI D ∧ gI h 26 0 0 = nI D ∧ gI h 26 0 1 = nI nt ∧ gI h 26 0 2 = nI ns ∧ LsL h 1 63 60 nt ∧ LsL h 2 64 62 ns ∧ (∀ t, t < nt → TH h D t) ∧ (∀ i, i < ns → SL h D nt i) ∧ (∀ t, nt ≤ t → ∀ d, gI h 27 0 (364 * t + d) = 0 ∧ gI h 29 0 t = 0 ∧ gI h 30 0 t = 0) ∧ (∀ q ∈ h.2.2, (q.1 = 60 ∨ q.1 = 61 → q.2 < nt) ∧ (q.1 = 62 → q.2 < ns))
def FA (c k : Nat) : Bool := match c with
  | 0 => k == 10
  | 1 => true
  | 2 => true
  | 26 => decide (k < 3)
  | 60 => true
  | 61 => true
  | 62 => true
  | 63 => true
  | 64 => true
  | c => decide (27 ≤ c ∧ c ≤ 43)
-- the van
def IV (h : HS) : Prop := gI h 3 0 3 = gI h 26 0 20 ∧ (∃ r, r ≤ 2 ∧ gI h 26 0 20 = nI r) ∧ ∃ n, n ≤ 20 ∧ gI h 3 0 2 = nI n ∧ gI h 26 0 21 = nI n ∧ ∀ j, j < n → gI h 4 0 j = gI h 44 0 j
def FV (c k : Nat) : Bool := match c with
  | 3 => true
  | 4 => true
  | 26 => k == 20 || k == 21
  | 44 => true
  | _ => false
-- the tape
def IT (h : HS) : Prop := ∃ n, n ≤ 400 ∧ gI h 6 0 1 = nI n ∧ gI h 26 0 35 = nI n ∧ ∀ j, j < n → ∃ b, b < 256 ∧ gI h 53 0 j = nI b ∧ gI h 7 0 j = (nI b).toInt8.toInt32
def FT (c k : Nat) : Bool := match c with
  | 6 => true
  | 7 => true
  | 26 => k == 35
  | 53 => true
  | _ => false
-- the faults of the latest rule
def IF (h : HS) : Prop := gI h 19 0 3 = gI h 26 0 42 ∧ gI h 19 0 4 = gI h 26 0 44
def FF (c k : Nat) : Bool := match c with
  | 19 => k == 3 || k == 4
  | 26 => k == 42 || k == 44
  | _ => false
-- prices and wants
def IC (h : HS) : Prop := ∀ l, l < 4 → gI h 22 0 l = gI h 54 0 l ∧ gI h 23 0 l = gI h 55 0 l ∧ (∃ n, n ≤ 999 ∧ gI h 54 0 l = nI n) ∧ ∃ n, n ≤ 99 ∧ gI h 55 0 l = nI n
def FC (c _k : Nat) : Bool := match c with
  | 22 => true
  | 23 => true
  | 54 => true
  | 55 => true
  | _ => false
theorem LsL.keep {h h2 : HS} {c b e n : Nat} (hc : ∀ i k, gI h2 c i k = gI h c i k ∧ gR h2 c i k = gR h c i k) (hb : ∀ i k, gR h2 b i k = gR h b i k) (hL : ∀ m, (b, m) ∈ h2.2.2 ↔ (b, m) ∈ h.2.2) (a : LsL h c b e n) : LsL h2 c b e n := by
  obtain ⟨e1, a⟩ := a
  refine ⟨by rw [(hc 0 2).1]; exact e1, ?_⟩
  rcases a with ⟨a1, a2, a3⟩ | ⟨cap, a1, a2, a3, a4, a5, a6⟩
  · exact Or.inl ⟨a1, by rw [(hc 0 1).2]; exact a2, fun m z => a3 m ((hL m).mp z)⟩
  · exact Or.inr ⟨cap, by rw [(hc 0 1).2]; exact a1, a2, a3, a4, fun m z => a5 m ((hL m).mp z), fun j hj => by rw [hb]; exact a6 j hj⟩
theorem IA.keep {h h2 : HS} {D nt ns : Nat} (e : Eqo FA h h2) (a : IA h D nt ns) : IA h2 D nt ns := by
  obtain ⟨a0, a1, a2, a3, a4, a5, a6, a7, a8, a9, a10⟩ := a
  have g : ∀ c i k, FA c k = true → gI h2 c i k = gI h c i k := fun c i k z => (e.1 c i k z).1
  have r : ∀ c i k, FA c k = true → gR h2 c i k = gR h c i k := fun c i k z => (e.1 c i k z).2
  refine ⟨a0, by rw [g 0 0 10 rfl]; exact a1, by rw [g 26 0 0 rfl]; exact a2, by rw [g 26 0 1 rfl]; exact a3, by rw [g 26 0 2 rfl]; exact a4, a5.keep (fun i k => ⟨g 1 i k rfl, r 1 i k rfl⟩) (fun i k => r 63 i k rfl) (fun m => by rw [e.2]), a6.keep (fun i k => ⟨g 2 i k rfl, r 2 i k rfl⟩) (fun i k => r 64 i k rfl) (fun m => by rw [e.2]), fun t ht => ?_, fun i hi => ?_, fun t ht d => ?_, by rw [e.2]; exact a10⟩
  · obtain ⟨b1, b2, b3, b4, b5, b6, b7⟩ := a7 t ht
    exact ⟨by rw [r 60 t 0 rfl]; exact b1, by rw [g 60 t 1 rfl, g 31 0 t rfl]; exact b2, by rw [g 60 t 2 rfl, g 28 0 t rfl]; exact b3, by rw [g 60 t 3 rfl, g 29 0 t rfl]; exact b4, by rw [g 60 t 4 rfl, g 30 0 t rfl]; exact b5, fun d hd => by rw [g 61 t d rfl, g 27 0 _ rfl]; exact b6 d hd, by rw [g 31 0 t rfl]; exact b7⟩
  · obtain ⟨b1, b2, b3, b4, b5, b6, b7, b8, b9, b10, b11, b12, b13, b14, b15⟩ := a8 i hi
    refine ⟨by rw [g 62 i 0 rfl, g 32 0 i rfl]; exact b1, by rw [g 62 i 1 rfl, g 33 0 i rfl]; exact b2, by rw [g 62 i 2 rfl, g 34 0 i rfl]; exact b3, by rw [r 62 i 3 rfl, g 35 0 i rfl]; exact b4, by rw [g 62 i 4 rfl, g 36 0 i rfl]; exact b5, by rw [g 62 i 5 rfl, g 37 0 i rfl]; exact b6, by rw [g 62 i 6 rfl, g 38 0 i rfl]; exact b7, by rw [g 62 i 7 rfl, g 43 0 i rfl]; exact b8, by rw [g 62 i 8 rfl, g 39 0 i rfl]; exact b9, by rw [g 62 i 9 rfl, g 40 0 i rfl]; exact b10, by rw [g 62 i 10 rfl, g 41 0 i rfl]; exact b11, by rw [g 62 i 11 rfl, g 42 0 i rfl]; exact b12, by rw [g 38 0 i rfl, g 40 0 i rfl, g 41 0 i rfl, g 32 0 i rfl]; exact b13, by rw [g 40 0 i rfl]; exact b14, by rw [g 37 0 i rfl]; exact b15⟩
  · rw [g 27 0 _ rfl, g 29 0 t rfl, g 30 0 t rfl]
    exact a9 t ht d
theorem IV.keep {h h2 : HS} (e : Eqo FV h h2) (a : IV h) : IV h2 := by
  have g : ∀ c i k, FV c k = true → gI h2 c i k = gI h c i k := fun c i k z => (e.1 c i k z).1
  obtain ⟨a1, a2, n, b1, b2, b3, b4⟩ := a
  exact ⟨by rw [g 3 0 3 rfl, g 26 0 20 rfl]; exact a1, by rw [g 26 0 20 rfl]; exact a2, n, b1, by rw [g 3 0 2 rfl]; exact b2, by rw [g 26 0 21 rfl]; exact b3, fun j hj => by rw [g 4 0 j rfl, g 44 0 j rfl]; exact b4 j hj⟩
theorem IT.keep {h h2 : HS} (e : Eqo FT h h2) (a : IT h) : IT h2 := by
  have g : ∀ c i k, FT c k = true → gI h2 c i k = gI h c i k := fun c i k z => (e.1 c i k z).1
  obtain ⟨n, b1, b2, b3, b4⟩ := a
  exact ⟨n, b1, by rw [g 6 0 1 rfl]; exact b2, by rw [g 26 0 35 rfl]; exact b3, fun j hj => by rw [g 53 0 j rfl, g 7 0 j rfl]; exact b4 j hj⟩
theorem IF.keep {h h2 : HS} (e : Eqo FF h h2) (a : IF h) : IF h2 := by
  have g : ∀ c i k, FF c k = true → gI h2 c i k = gI h c i k := fun c i k z => (e.1 c i k z).1
  exact ⟨by rw [g 19 0 3 rfl, g 26 0 42 rfl]; exact a.1, by rw [g 19 0 4 rfl, g 26 0 44 rfl]; exact a.2⟩
theorem IC.keep {h h2 : HS} (e : Eqo FC h h2) (a : IC h) : IC h2 := by
  have g : ∀ c i k, FC c k = true → gI h2 c i k = gI h c i k := fun c i k z => (e.1 c i k z).1
  intro l hl
  rw [g 22 0 l rfl, g 54 0 l rfl, g 23 0 l rfl, g 55 0 l rfl]
  exact a l hl
-- ===== a thing, a slip by its number =====
section AT
variable {d bc bs : Nat} {h : HS} {P : Option AV → HS → Prop}
theorem ix_of {x : Int32} {n : Nat} (hn : n < 2 ^ 30) (h0 : ¬ x < 0) (h1 : ¬ nI n ≤ x) : ∃ j : Nat, j < n ∧ x = nI j := by
  obtain ⟨j, hj, rfl⟩ := nI_of h0
  exact ⟨j, by rcases Nat.lt_or_ge j n with q | q
               · exact q
               · exact absurd (nI_le q hj) h1, rfl⟩
theorem nix_of {x : Int32} {n : Nat} (hn : n < 2 ^ 30) (h1 : x < 0 ∨ nI n ≤ x) : ¬ inR x 0 (nI n - 1) := by
  intro z
  obtain ⟨j, hj, rfl⟩ := inR_ix hn z
  rcases h1 with q | q
  · exact z.1 q
  · exact absurd q (nI_ge hj (by omega))
theorem cThingAt {n : Nat} {t : Int32} (hL : LsL h 1 63 60 n) (hn : n ≤ 120) (k0 : ¬ inR t 0 (nI n - 1) → P (some (aP none)) h) (k1 : ∀ j, j < n → t = nI j → P (some (aR 60 j)) h) : Cl true mX9_thingAt (d + 6) bc bs [aR 0 0, aI t] h P := by
  refine wX9_thingAt ⟨fun z => k0 (nix_of (by omega) (Or.inl z)), fun z => ⟨fun z2 => k0 (nix_of (by omega) (Or.inr (by rw [← hL.1]; exact z2))), fun z2 => ?_⟩⟩
  obtain ⟨j, hj, rfl⟩ := ix_of (n := n) (by omega) z (by rw [← hL.1]; exact z2)
  exact cGet_1 hL hj ⟨_, rfl, k1 j hj rfl⟩
theorem cSlipAt {n : Nat} {t : Int32} (hL : LsL h 2 64 62 n) (hn : n ≤ 120) (k0 : ¬ inR t 0 (nI n - 1) → P (some (aP none)) h) (k1 : ∀ j, j < n → t = nI j → P (some (aR 62 j)) h) : Cl true mX9_slipAt (d + 6) bc bs [aR 0 0, aI t] h P := by
  refine wX9_slipAt ⟨fun z => k0 (nix_of (by omega) (Or.inl z)), fun z => ⟨fun z2 => k0 (nix_of (by omega) (Or.inr (by rw [← hL.1]; exact z2))), fun z2 => ?_⟩⟩
  obtain ⟨j, hj, rfl⟩ := ix_of (n := n) (by omega) z (by rw [← hL.1]; exact z2)
  exact cGet_2 hL hj ⟨_, rfl, k1 j hj rfl⟩
end AT

-- ===== the tape's tokens, as numbers =====
theorem wb_tb (n : Nat) : (lN n).toBitVec = BitVec.ofNat 64 n := rfl
theorem wb_inj {a b : Int64} (h : a.toBitVec = b.toBitVec) : a = b := Int64.toBitVec_inj.mp h
theorem wb_c : ∀ k, k < 64 → ((nI k).toInt64 &&& 63) = lN k := by decide +kernel
theorem wb_sm : ∀ k, k < 64 → (BitVec.ofNat 64 k).smod 64 = BitVec.ofNat 64 k := by decide +kernel
theorem wb_shl (n : Nat) {k : Nat} (hk : k < 64) : lN n <<< ((nI k).toInt64 &&& 63) = lN (n * 2 ^ k) := by
  rw [wb_c k hk]
  apply wb_inj
  rw [Int64.toBitVec_shiftLeft, wb_tb, wb_tb, wb_tb, wb_sm k hk]
  apply BitVec.eq_of_toNat_eq
  rw [BitVec.shiftLeft_eq', BitVec.toNat_shiftLeft, BitVec.toNat_ofNat, BitVec.toNat_ofNat, BitVec.toNat_ofNat, Nat.mod_eq_of_lt (show k < 2 ^ 64 by omega), Nat.shiftLeft_eq, Nat.mul_mod, Nat.mod_mod, ← Nat.mul_mod]
theorem wb_or {a b : Nat} (ha : a < 2 ^ 64) (hb : b < 2 ^ 64) : lN a ||| lN b = lN (a ||| b) := by
  apply wb_inj
  rw [Int64.toBitVec_or, wb_tb, wb_tb, wb_tb]
  apply BitVec.eq_of_toNat_eq
  rw [BitVec.toNat_or, BitVec.toNat_ofNat, BitVec.toNat_ofNat, BitVec.toNat_ofNat, Nat.mod_eq_of_lt ha, Nat.mod_eq_of_lt hb, Nat.mod_eq_of_lt (Nat.or_lt_two_pow ha hb)]
theorem wb_in {a c : Nat} (ha : a < 2 ^ 48) (hc : c < 256) : (lN a <<< ((8 : Int32).toInt64 &&& 63)) ||| (nI c).toInt64 = lN (256 * a + c) := by
  rw [show (8 : Int32) = nI 8 from rfl, wb_shl a (by decide), nI_l (by omega), wb_or (by omega) (by omega)]
  congr 1
  have := Nat.two_pow_add_eq_or_of_lt (i := 8) (b := c) (by omega) a
  rw [Nat.mul_comm a]
  exact this.symm
/-- the first place from p on, below n, where f does not hold (n without one) -/
def spF (f : Nat → Bool) (n : Nat) : Nat → Nat → Nat
  | 0, p => p
  | m + 1, p => if p < n ∧ f p = true then spF f n m (p + 1) else p
def sp (f : Nat → Bool) (n p : Nat) : Nat := spF f n (n - p) p
theorem sp_0 {f : Nat → Bool} {n p : Nat} (h : n ≤ p ∨ f p = false) : sp f n p = p := by
  unfold sp
  cases e : n - p with
  | zero => rfl
  | succ m =>
    show (if p < n ∧ f p = true then spF f n m (p + 1) else p) = p
    refine if_neg (fun z => ?_)
    rcases h with h | h
    · omega
    · rw [h] at z; exact absurd z.2 (by decide)
theorem sp_1 {f : Nat → Bool} {n p : Nat} (h1 : p < n) (h2 : f p = true) : sp f n p = sp f n (p + 1) := by
  unfold sp
  obtain ⟨m, hm⟩ : ∃ m, n - p = m + 1 := ⟨n - p - 1, by omega⟩
  rw [hm, show n - (p + 1) = m by omega]
  exact if_pos ⟨h1, h2⟩
theorem sp_b {f : Nat → Bool} {n : Nat} : ∀ m p, n - p = m → p ≤ n → p ≤ sp f n p ∧ sp f n p ≤ n ∧ (sp f n p < n → f (sp f n p) = false) := by
  intro m
  induction m with
  | zero =>
    intro p hm hp
    rw [sp_0 (Or.inl (by omega))]
    exact ⟨Nat.le_refl _, hp, fun z => by omega⟩
  | succ m ih =>
    intro p hm hp
    cases e : f p with
    | true =>
      rw [sp_1 (by omega) e]
      have := ih (p + 1) (by omega) (by omega)
      exact ⟨by omega, this.2.1, this.2.2⟩
    | false =>
      rw [sp_0 (Or.inr e)]
      exact ⟨Nat.le_refl _, hp, fun _ => e⟩
def lt8 (c : Nat) : Bool := decide ((97 ≤ c ∧ c ≤ 122) ∨ (65 ≤ c ∧ c ≤ 90))
def dg8 (c : Nat) : Bool := decide (48 ≤ c ∧ c ≤ 57)
def bl8 (c : Nat) : Bool := decide (c = 32 ∨ c = 10)
abbrev sg8 (c : Nat) : Int32 := (nI c).toInt8.toInt32
theorem by_lt : ∀ c, c < 256 → (ltr (sg8 c) ↔ lt8 c = true) := by decide +kernel
theorem by_ltn : ∀ c, c < 256 → (ltr (nI c) ↔ lt8 c = true) := by decide +kernel
theorem by_dg : ∀ c, c < 256 → (inR (sg8 c) 48 57 ↔ dg8 c = true) := by decide +kernel
theorem by_dgn : ∀ c, c < 256 → (inR (nI c) 48 57 ↔ dg8 c = true) := by decide +kernel
theorem by_32 : ∀ c, c < 256 → (sg8 c = 32 ↔ c = 32) := by decide +kernel
theorem by_10 : ∀ c, c < 256 → (sg8 c = 10 ↔ c = 10) := by decide +kernel
theorem by_and : ∀ c, c < 256 → sg8 c &&& 255 = nI c := by decide +kernel
theorem by_lo : ∀ c, c < 256 → (lt8 c = true ∨ dg8 c = true) → sg8 c = nI c ∧ 0 < c := by decide +kernel
theorem lt_dg {c : Nat} (h : lt8 c = true) : dg8 c = false := by
  have q := of_decide_eq_true h
  exact decide_eq_false (by omega)
/-- the m bytes from p on, the last first -/
def rb (b : Nat → Nat) (p : Nat) : Nat → List Nat
  | 0 => []
  | m + 1 => b (p + m) :: rb b p m
theorem rb_len {b : Nat → Nat} {p : Nat} : ∀ m, (rb b p m).length = m
  | 0 => rfl
  | m + 1 => by
    show (rb b p m).length + 1 = m + 1
    rw [rb_len m]
def wk (r : List Nat) : Nat := if r = [121, 97, 112] then 259 else if r = [110, 101, 104, 119] then 260 else if r = [100, 110, 97] then 261 else if r = [109, 117, 115] then 262 else if r = [115, 112, 105, 108, 115] then 263 else if r = [107, 99, 97, 98] then 264 else if r = [104, 116, 110, 111, 109] then 265 else 257
def pkN : List Nat → Nat
  | [] => 0
  | c :: t => 256 * pkN t + c
theorem pkN_inj : ∀ (r t : List Nat), (∀ c ∈ r, 0 < c ∧ c < 256) → (∀ c ∈ t, 0 < c ∧ c < 256) → pkN r = pkN t → r = t
  | [], [], _, _, _ => rfl
  | [], c :: t, _, h, e => by
    have e' : 0 = 256 * pkN t + c := e
    have := h c List.mem_cons_self
    omega
  | c :: r, [], h, _, e => by
    have e' : 256 * pkN r + c = 0 := e
    have := h c List.mem_cons_self
    omega
  | c :: r, c2 :: t, h, h2, e => by
    have e' : 256 * pkN r + c = 256 * pkN t + c2 := e
    have q1 := h c List.mem_cons_self
    have q2 := h2 c2 List.mem_cons_self
    have := pkN_inj r t (fun x hx => h x (List.mem_cons_of_mem _ hx)) (fun x hx => h2 x (List.mem_cons_of_mem _ hx)) (by omega)
    rw [this, show c = c2 by omega]
theorem pkN_lt : ∀ (r : List Nat), (∀ c ∈ r, 0 < c ∧ c < 256) → pkN r < 2 ^ (8 * r.length)
  | [], _ => by decide
  | c :: r, h => by
    have q := h c List.mem_cons_self
    have := pkN_lt r (fun x hx => h x (List.mem_cons_of_mem _ hx))
    show 256 * pkN r + c < 2 ^ (8 * (r.length + 1))
    rw [show 8 * (r.length + 1) = 8 * r.length + 8 by omega, Nat.pow_add]
    omega
theorem pkN_63 {r : List Nat} (h : ∀ c ∈ r, 0 < c ∧ c < 256) (hl : r.length ≤ 6) : pkN r < 2 ^ 48 := Nat.lt_of_lt_of_le (pkN_lt r h) (Nat.pow_le_pow_right (by decide) (by omega))
def mK (k : Nat) : Nat := if k = 256 then 0 else if k = 258 then 2 else if k = 259 then 3 else if k = 260 then 4 else if k = 261 then 5 else if 262 ≤ k then 1000001 + (k - 262) else if k = 59 ∨ k = 43 ∨ k = 45 ∨ k = 42 ∨ k = 47 ∨ k = 40 ∨ k = 41 ∨ k = 60 ∨ k = 61 ∨ k = 62 then k else 1
theorem word_mK {r : List Nat} (h : ∀ c ∈ r, 0 < c ∧ c < 256) (hl : r.length ≤ 6) : wordF (lN (pkN r)) = nI (mK (wk r)) := by
  have q : ∀ (t : List Nat) (v : Int64), v = lN (pkN t) → (∀ c ∈ t, 0 < c ∧ c < 256) → t.length ≤ 6 → lN (pkN r) = v → r = t := fun t v hv ht hl2 e => pkN_inj r t h ht ((pk_lEQ (by have := pkN_63 h hl; omega) (by have := pkN_63 ht hl2; omega)).mp (e.trans hv))
  unfold wordF wk
  by_cases e1 : r = [121, 97, 112]
  · rw [e1]; rfl
  rw [if_neg (fun z => e1 (q [121, 97, 112] 7364985 (by decide) (by decide) (by decide) z)), if_neg e1]
  by_cases e2 : r = [110, 101, 104, 119]
  · rw [e2]; rfl
  rw [if_neg (fun z => e2 (q [110, 101, 104, 119] 2003330414 (by decide) (by decide) (by decide) z)), if_neg e2]
  by_cases e3 : r = [100, 110, 97]
  · rw [e3]; rfl
  rw [if_neg (fun z => e3 (q [100, 110, 97] 6385252 (by decide) (by decide) (by decide) z)), if_neg e3]
  by_cases e4 : r = [109, 117, 115]
  · rw [e4]; rfl
  rw [if_neg (fun z => e4 (q [109, 117, 115] 7566701 (by decide) (by decide) (by decide) z)), if_neg e4]
  by_cases e5 : r = [115, 112, 105, 108, 115]
  · rw [e5]; rfl
  rw [if_neg (fun z => e5 (q [115, 112, 105, 108, 115] 495740088435 (by decide) (by decide) (by decide) z)), if_neg e5]
  by_cases e6 : r = [107, 99, 97, 98]
  · rw [e6]; rfl
  rw [if_neg (fun z => e6 (q [107, 99, 97, 98] 1650549611 (by decide) (by decide) (by decide) z)), if_neg e6]
  by_cases e7 : r = [104, 116, 110, 111, 109]
  · rw [e7]; rfl
  rw [if_neg (fun z => e7 (q [104, 116, 110, 111, 109] 470020945000 (by decide) (by decide) (by decide) z)), if_neg e7]
  rfl
theorem wk_long {r : List Nat} (h : 7 ≤ r.length) : wk r = 257 := by
  have q : ∀ t : List Nat, t.length ≤ 6 → ¬ r = t := fun t ht e => by rw [e] at h; omega
  unfold wk
  rw [if_neg (q _ (by decide)), if_neg (q _ (by decide)), if_neg (q _ (by decide)), if_neg (q _ (by decide)), if_neg (q _ (by decide)), if_neg (q _ (by decide)), if_neg (q _ (by decide))]
theorem wk_rng (r : List Nat) : wk r = 257 ∨ (259 ≤ wk r ∧ wk r ≤ 265) := by
  unfold wk
  split
  · omega
  split
  · omega
  split
  · omega
  split
  · omega
  split
  · omega
  split
  · omega
  split
  · omega
  · omega
def vlN (b : Nat → Nat) (p : Nat) : Nat → Nat
  | 0 => 0
  | m + 1 => 10 * vlN b p m + (b (p + m) - 48)
/-- kind, place, number, the place behind -/
abbrev Tk : Type := Nat × Nat × Nat × Nat
def tkL (b : Nat → Nat) (n q : Nat) : Nat := sp (fun j => lt8 (b j)) n q
def tkD (b : Nat → Nat) (n q : Nat) : Nat := sp (fun j => dg8 (b j)) n q
def tk1 (b : Nat → Nat) (n q : Nat) : Tk := if lt8 (b q) = true then (wk (rb b q (tkL b n q - q)), q, 0, tkL b n q) else if dg8 (b q) = true then (if tkD b n q - q ≤ 6 then (258, q, vlN b q (tkD b n q - q), tkD b n q) else (257, q, 0, tkD b n q)) else (b q, q, 0, q + 1)
def nxT (b : Nat → Nat) (n p : Nat) : Tk := if sp (fun j => bl8 (b j)) n p < n then tk1 b n (sp (fun j => bl8 (b j)) n p) else (256, n, 0, n)
theorem nxT_bl {b : Nat → Nat} {n p : Nat} (h1 : p < n) (h2 : bl8 (b p) = true) : nxT b n p = nxT b n (p + 1) := by
  unfold nxT
  rw [sp_1 (f := fun j => bl8 (b j)) h1 h2]
theorem nxT_nb {b : Nat → Nat} {n p : Nat} (h1 : p < n) (h2 : bl8 (b p) = false) : nxT b n p = tk1 b n p := by
  unfold nxT
  rw [sp_0 (f := fun j => bl8 (b j)) (Or.inr h2), if_pos h1]
theorem nxT_end {b : Nat → Nat} {n : Nat} : nxT b n n = (256, n, 0, n) := by
  unfold nxT
  rw [sp_0 (Or.inl (Nat.le_refl _)), if_neg (Nat.lt_irrefl _)]
def TP (b : Nat → Nat) (n : Nat) (y : HS) : Prop := gI y 26 0 35 = nI n ∧ ∀ j, j < n → gI y 53 0 j = nI (b j)
theorem see_lt {b : Nat → Nat} {n k : Nat} {y : HS} (T : TP b n y) (hn : n ≤ 400) (hk : k < n) : seeF y (nI k) = nI (b k) := by
  unfold seeF
  rw [T.1, if_neg (nI_ge hk (by omega)), nI_clamp (by omega)]
  exact T.2 k hk
theorem see_ge {b : Nat → Nat} {n : Nat} {y : HS} (T : TP b n y) (hn : n ≤ 400) : seeF y (nI n) = -1 := by
  unfold seeF
  rw [T.1, if_pos (nI_le (Nat.le_refl _) (by omega))]
theorem see_in {b : Nat → Nat} {n k : Nat} {y : HS} (T : TP b n y) (hn : n ≤ 400) (hk : k ≤ n) : ¬ gI y 26 0 35 ≤ nI k → vp_in (nI k) 400 := fun z => by
  rw [T.1] at z
  rcases Nat.lt_or_ge k n with q | q
  · exact vp_in_nI (by omega) (by decide)
  · exact absurd (nI_le q (by omega)) z
def FNt (c k : Nat) : Bool := match c with
  | 26 => decide (k < 36 ∨ 39 < k)
  | _ => true
theorem TP.keep {b : Nat → Nat} {n : Nat} {h y : HS} (e : Eqo FNt h y) (T : TP b n h) : TP b n y := ⟨((e.1 26 0 35 rfl).1).trans T.1, fun j hj => ((e.1 53 0 j rfl).1).trans (T.2 j hj)⟩
/-- the reference has read the token t -/
def NT (t : Tk) (y : HS) : Prop := gI y 26 0 36 = nI t.2.2.2 ∧ gI y 26 0 37 = nI (mK t.1) ∧ gI y 26 0 38 = nI t.2.1 ∧ (t.1 = 258 → gI y 26 0 39 = nI t.2.2.1)
-- the reference's next0
def PhN (d bc bs : Nat) (h : HS) (P : Option AV → HS → Prop) : Prop := (¬ gI h 26 0 35 ≤ (gI h 26 0 36) → vp_in (gI h 26 0 36) 400) ∧ ((((seeF h (gI h 26 0 36)) = 32) → (V true mX10_next0 (d + 3) bc bs 0 [(0, aR 26 0)] [] (sI h 26 0 36 ((gI h 26 0 36) + 1)) P)) ∧ ((¬ (seeF h (gI h 26 0 36)) = 32) → ((¬ gI h 26 0 35 ≤ (gI h 26 0 36) → vp_in (gI h 26 0 36) 400) ∧ (((¬ (seeF h (gI h 26 0 36)) = 10) → ((¬ gI (sI h 26 0 38 (gI h 26 0 36)) 26 0 35 ≤ (gI h 26 0 36) → vp_in (gI h 26 0 36) 400) ∧ (((¬ (seeF (sI h 26 0 38 (gI h 26 0 36)) (gI h 26 0 36)) = (-1)) → (((¬ (ltr (seeF (sI h 26 0 38 (gI h 26 0 36)) (gI h 26 0 36)))) → (((¬ (inR (seeF (sI h 26 0 38 (gI h 26 0 36)) (gI h 26 0 36)) 48 57)) → ((((seeF (sI h 26 0 38 (gI h 26 0 36)) (gI h 26 0 36)) = 59) → (P none (sI (sI (sI h 26 0 38 (gI h 26 0 36)) 26 0 36 ((gI h 26 0 36) + 1)) 26 0 37 (seeF (sI h 26 0 38 (gI h 26 0 36)) (gI h 26 0 36))))) ∧ ((¬ (seeF (sI h 26 0 38 (gI h 26 0 36)) (gI h 26 0 36)) = 59) → ((((seeF (sI h 26 0 38 (gI h 26 0 36)) (gI h 26 0 36)) = 43) → (P none (sI (sI (sI h 26 0 38 (gI h 26 0 36)) 26 0 36 ((gI h 26 0 36) + 1)) 26 0 37 (seeF (sI h 26 0 38 (gI h 26 0 36)) (gI h 26 0 36))))) ∧ ((¬ (seeF (sI h 26 0 38 (gI h 26 0 36)) (gI h 26 0 36)) = 43) → ((((seeF (sI h 26 0 38 (gI h 26 0 36)) (gI h 26 0 36)) = 45) → (P none (sI (sI (sI h 26 0 38 (gI h 26 0 36)) 26 0 36 ((gI h 26 0 36) + 1)) 26 0 37 (seeF (sI h 26 0 38 (gI h 26 0 36)) (gI h 26 0 36))))) ∧ ((¬ (seeF (sI h 26 0 38 (gI h 26 0 36)) (gI h 26 0 36)) = 45) → ((((seeF (sI h 26 0 38 (gI h 26 0 36)) (gI h 26 0 36)) = 42) → (P none (sI (sI (sI h 26 0 38 (gI h 26 0 36)) 26 0 36 ((gI h 26 0 36) + 1)) 26 0 37 (seeF (sI h 26 0 38 (gI h 26 0 36)) (gI h 26 0 36))))) ∧ ((¬ (seeF (sI h 26 0 38 (gI h 26 0 36)) (gI h 26 0 36)) = 42) → ((((seeF (sI h 26 0 38 (gI h 26 0 36)) (gI h 26 0 36)) = 47) → (P none (sI (sI (sI h 26 0 38 (gI h 26 0 36)) 26 0 36 ((gI h 26 0 36) + 1)) 26 0 37 (seeF (sI h 26 0 38 (gI h 26 0 36)) (gI h 26 0 36))))) ∧ ((¬ (seeF (sI h 26 0 38 (gI h 26 0 36)) (gI h 26 0 36)) = 47) → ((((seeF (sI h 26 0 38 (gI h 26 0 36)) (gI h 26 0 36)) = 40) → (P none (sI (sI (sI h 26 0 38 (gI h 26 0 36)) 26 0 36 ((gI h 26 0 36) + 1)) 26 0 37 (seeF (sI h 26 0 38 (gI h 26 0 36)) (gI h 26 0 36))))) ∧ ((¬ (seeF (sI h 26 0 38 (gI h 26 0 36)) (gI h 26 0 36)) = 40) → ((((seeF (sI h 26 0 38 (gI h 26 0 36)) (gI h 26 0 36)) = 41) → (P none (sI (sI (sI h 26 0 38 (gI h 26 0 36)) 26 0 36 ((gI h 26 0 36) + 1)) 26 0 37 (seeF (sI h 26 0 38 (gI h 26 0 36)) (gI h 26 0 36))))) ∧ ((¬ (seeF (sI h 26 0 38 (gI h 26 0 36)) (gI h 26 0 36)) = 41) → ((((seeF (sI h 26 0 38 (gI h 26 0 36)) (gI h 26 0 36)) = 60) → (P none (sI (sI (sI h 26 0 38 (gI h 26 0 36)) 26 0 36 ((gI h 26 0 36) + 1)) 26 0 37 (seeF (sI h 26 0 38 (gI h 26 0 36)) (gI h 26 0 36))))) ∧ ((¬ (seeF (sI h 26 0 38 (gI h 26 0 36)) (gI h 26 0 36)) = 60) → ((((seeF (sI h 26 0 38 (gI h 26 0 36)) (gI h 26 0 36)) = 61) → (P none (sI (sI (sI h 26 0 38 (gI h 26 0 36)) 26 0 36 ((gI h 26 0 36) + 1)) 26 0 37 (seeF (sI h 26 0 38 (gI h 26 0 36)) (gI h 26 0 36))))) ∧ ((¬ (seeF (sI h 26 0 38 (gI h 26 0 36)) (gI h 26 0 36)) = 61) → (((¬ (seeF (sI h 26 0 38 (gI h 26 0 36)) (gI h 26 0 36)) = 62) → (P none (sI (sI (sI h 26 0 38 (gI h 26 0 36)) 26 0 36 ((gI h 26 0 36) + 1)) 26 0 37 1))) ∧ (((seeF (sI h 26 0 38 (gI h 26 0 36)) (gI h 26 0 36)) = 62) → (P none (sI (sI (sI h 26 0 38 (gI h 26 0 36)) 26 0 36 ((gI h 26 0 36) + 1)) 26 0 37 (seeF (sI h 26 0 38 (gI h 26 0 36)) (gI h 26 0 36))))))))))))))))))))))))) ∧ (((inR (seeF (sI h 26 0 38 (gI h 26 0 36)) (gI h 26 0 36)) 48 57)) → (V true mX10_next0 (d + 3) bc bs 164 [(0, aR 26 0), (2, aI 0)] [] (sI (sI h 26 0 38 (gI h 26 0 36)) 26 0 39 0) P)))) ∧ (((ltr (seeF (sI h 26 0 38 (gI h 26 0 36)) (gI h 26 0 36)))) → (V true mX10_next0 (d + 3) bc bs 80 [(0, aR 26 0), (2, aI 0), (3, aL 0)] [] (sI h 26 0 38 (gI h 26 0 36)) P)))) ∧ (((seeF (sI h 26 0 38 (gI h 26 0 36)) (gI h 26 0 36)) = (-1)) → (P none (sI (sI h 26 0 38 (gI h 26 0 36)) 26 0 37 0)))))) ∧ (((seeF h (gI h 26 0 36)) = 10) → (V true mX10_next0 (d + 3) bc bs 0 [(0, aR 26 0)] [] (sI h 26 0 36 ((gI h 26 0 36) + 1)) P))))))
section NX
variable {h : HS} {P : Option AV → HS → Prop} {d bc bs : Nat} {b : Nat → Nat} {n : Nat}
theorem mN80 (hn : n ≤ 400) (hb : ∀ j, j < n → b j < 256) (T0 : TP b n h) {q : Nat} (hl : lt8 (b q) = true) (k : ∀ y, Eqo FNt h y → NT (tk1 b n q) y → P none y) : ∀ (r m : Nat) (w : Int64) (x : HS), n - (q + m) = r → q + m ≤ n → (∀ j, j < m → lt8 (b (q + j)) = true) → (m ≤ 6 → w = lN (pkN (rb b q m))) → tkL b n q = tkL b n (q + m) → Eqo FNt h x → gI x 26 0 36 = nI (q + m) → gI x 26 0 38 = nI q → V true mX10_next0 (d + 3) bc bs 80 [(0, aR 26 0), (2, aI (nI m)), (3, aL w)] [] x P := by
  have good : ∀ m, q + m ≤ n → (∀ j, j < m → lt8 (b (q + j)) = true) → ∀ c ∈ rb b q m, 0 < c ∧ c < 256 := by
    intro m
    induction m with
    | zero => intro _ _ c hc; cases hc
    | succ m ih =>
      intro h1 h2 c hc
      rcases List.mem_cons.mp hc with e | e
      · rw [e]
        have := hb (q + m) (by omega)
        exact ⟨(by_lo _ this (Or.inl (h2 m (by omega)))).2, this⟩
      · exact ih (by omega) (fun j hj => h2 j (by omega)) c e
  have stop : ∀ (m : Nat) (w : Int64) (x : HS), q + m ≤ n → (∀ j, j < m → lt8 (b (q + j)) = true) → (m ≤ 6 → w = lN (pkN (rb b q m))) → tkL b n q = q + m → Eqo FNt h x → gI x 26 0 36 = nI (q + m) → gI x 26 0 38 = nI q → ((7 ≤ nI m → P none (sI x 26 0 37 1)) ∧ (¬ 7 ≤ nI m → P none (sI x 26 0 37 (wordF w)))) := by
    intro m w x h1 h2 h3 h4 e e36 e38
    have ek : tk1 b n q = (wk (rb b q m), q, 0, q + m) := by
      unfold tk1
      rw [if_pos hl, h4, Nat.add_sub_cancel_left]
    have wr : wk (rb b q m) ≠ 258 := by have := wk_rng (rb b q m); omega
    refine ⟨fun z => k _ (e.sI rfl) ?_, fun z => k _ (e.sI rfl) ?_⟩
    · rw [ek]
      have hm : 7 ≤ m := (nI_leI (a := 7) (by decide) (by omega)).mp z
      refine ⟨e36, ?_, e38, fun z => absurd z wr⟩
      rw [gI_same, wk_long (by rw [rb_len]; exact hm)]
      rfl
    · rw [ek]
      have hm : ¬ 7 ≤ m := fun w => z ((nI_leI (a := 7) (by decide) (by omega)).mpr w)
      refine ⟨e36, ?_, e38, fun z => absurd z wr⟩
      rw [gI_same, h3 (by omega)]
      exact word_mK (good m h1 h2) (by rw [rb_len]; omega)
  intro r
  induction r with
  | zero =>
    intro m w x hr h1 h2 h3 h4 e e36 e38
    have T := T0.keep e
    have hq : q + m = n := by omega
    refine wX10_next0_80 ?_
    rw [e36, show seeF x (nI (q + m)) = -1 by rw [hq]; exact see_ge T hn]
    exact ⟨see_in T hn h1, fun _ => stop m w x h1 h2 h3 (by rw [h4]; exact sp_0 (Or.inl (by omega))) e e36 e38, fun z => absurd z (by decide)⟩
  | succ r ih =>
    intro m w x hr h1 h2 h3 h4 e e36 e38
    have T := T0.keep e
    have hbq := hb (q + m) (by omega)
    refine wX10_next0_80 ?_
    rw [e36, see_lt T hn (show q + m < n by omega)]
    refine ⟨see_in T hn h1, fun z => stop m w x h1 h2 h3 ?_ e e36 e38, fun z => ?_⟩
    · rw [h4]
      refine sp_0 (Or.inr ?_)
      cases e2 : lt8 (b (q + m)) with
      | true => exact absurd ((by_ltn _ hbq).mpr e2) z
      | false => rfl
    · have l := (by_ltn _ hbq).mp z
      have h2' : ∀ j, j < m + 1 → lt8 (b (q + j)) = true := fun j hj => by
        rcases Nat.lt_or_ge j m with q1 | q1
        · exact h2 j q1
        · rw [show j = m by omega]; exact l
      have h4' : tkL b n q = tkL b n (q + (m + 1)) := by
        rw [h4]
        exact sp_1 (f := fun j => lt8 (b j)) (show q + m < n by omega) l
      rw [nI_1, nI_1]
      refine ⟨fun z2 => ?_, fun z2 => ⟨see_in T hn h1, ?_⟩⟩
      · have hm : 7 ≤ m := (nI_leI (a := 7) (by decide) (by omega)).mp z2
        exact ih (m + 1) w _ (by omega) (by omega) h2' (fun z => by omega) h4' (e.sI rfl) gI_same e38
      · refine ih (m + 1) _ _ (by omega) (by omega) h2' (fun z => ?_) h4' (e.sI rfl) gI_same e38
        rw [h3 (by omega), wb_in (pkN_63 (good m h1 h2) (by rw [rb_len]; omega)) hbq]
        rfl
theorem mN164 (hn : n ≤ 400) (hb : ∀ j, j < n → b j < 256) (T0 : TP b n h) {q : Nat} (hl : dg8 (b q) = true) (hl2 : lt8 (b q) = false) (k : ∀ y, Eqo FNt h y → NT (tk1 b n q) y → P none y) : ∀ (r m : Nat) (x : HS), n - (q + m) = r → q + m ≤ n → (m ≤ 6 → gI x 26 0 39 = nI (vlN b q m)) → tkD b n q = tkD b n (q + m) → Eqo FNt h x → gI x 26 0 36 = nI (q + m) → gI x 26 0 38 = nI q → V true mX10_next0 (d + 3) bc bs 164 [(0, aR 26 0), (2, aI (nI m))] [] x P := by
  have stop : ∀ (m : Nat) (x : HS), q + m ≤ n → (m ≤ 6 → gI x 26 0 39 = nI (vlN b q m)) → tkD b n q = q + m → Eqo FNt h x → gI x 26 0 36 = nI (q + m) → gI x 26 0 38 = nI q → ((7 ≤ nI m → P none (sI x 26 0 37 1)) ∧ (¬ 7 ≤ nI m → P none (sI x 26 0 37 2))) := by
    intro m x h1 h3 h4 e e36 e38
    have ek : tk1 b n q = if m ≤ 6 then (258, q, vlN b q m, q + m) else (257, q, 0, q + m) := by
      unfold tk1
      rw [if_neg (by rw [hl2]; decide), if_pos hl, h4, Nat.add_sub_cancel_left]
    refine ⟨fun z => k _ (e.sI rfl) ?_, fun z => k _ (e.sI rfl) ?_⟩
    · have hm : 7 ≤ m := (nI_leI (a := 7) (by decide) (by omega)).mp z
      rw [ek, if_neg (by omega)]
      exact ⟨e36, gI_same, e38, fun z => absurd (show (257 : Nat) = 258 from z) (by decide)⟩
    · have hm : ¬ 7 ≤ m := fun w => z ((nI_leI (a := 7) (by decide) (by omega)).mpr w)
      rw [ek, if_pos (by omega)]
      exact ⟨e36, gI_same, e38, fun _ => h3 (by omega)⟩
  intro r
  induction r with
  | zero =>
    intro m x hr h1 h3 h4 e e36 e38
    have T := T0.keep e
    have hq : q + m = n := by omega
    refine wX10_next0_164 ?_
    rw [e36, show seeF x (nI (q + m)) = -1 by rw [hq]; exact see_ge T hn]
    exact ⟨see_in T hn h1, fun _ => stop m x h1 h3 (by rw [h4]; exact sp_0 (Or.inl (by omega))) e e36 e38, fun z => absurd z (by decide)⟩
  | succ r ih =>
    intro m x hr h1 h3 h4 e e36 e38
    have T := T0.keep e
    have hbq := hb (q + m) (by omega)
    refine wX10_next0_164 ?_
    rw [e36, see_lt T hn (show q + m < n by omega)]
    refine ⟨see_in T hn h1, fun z => stop m x h1 h3 ?_ e e36 e38, fun z => ?_⟩
    · rw [h4]
      refine sp_0 (Or.inr ?_)
      cases e2 : dg8 (b (q + m)) with
      | true => exact absurd ((by_dgn _ hbq).mpr e2) z
      | false => rfl
    · have l := (by_dgn _ hbq).mp z
      have l48 := of_decide_eq_true l
      have h4' : tkD b n q = tkD b n (q + (m + 1)) := by
        rw [h4]
        exact sp_1 (f := fun j => dg8 (b j)) (show q + m < n by omega) l
      rw [nI_1, nI_1]
      refine ⟨fun z2 => ?_, fun z2 => ⟨see_in T hn h1, ?_⟩⟩
      · have hm : 6 ≤ m := (nI_leI (a := 6) (by decide) (by omega)).mp z2
        exact ih (m + 1) _ (by omega) (by omega) (fun z => by omega) h4' (e.sI rfl) gI_same e38
      · have hm : ¬ 6 ≤ m := fun w => z2 ((nI_leI (a := 6) (by decide) (by omega)).mpr w)
        refine ih (m + 1) _ (by omega) (by omega) (fun z => ?_) h4' ((e.sI rfl).sI rfl) gI_same e38
        show 10 * gI x 26 0 39 + nI (b (q + m)) - 48 = nI (10 * vlN b q m + (b (q + m) - 48))
        rw [h3 (by omega), show (10 : Int32) = nI 10 from rfl, show (48 : Int32) = nI 48 from rfl, pk_mul, nI_add, pk_sub (by omega)]
        congr 1
        omega
theorem mNph (hn : n ≤ 400) (hb : ∀ j, j < n → b j < 256) (T0 : TP b n h) {p0 : Nat} (k : ∀ y, Eqo FNt h y → NT (nxT b n p0) y → P none y) : ∀ (r p : Nat) (x : HS), n - p = r → p ≤ n → nxT b n p0 = nxT b n p → Eqo FNt h x → gI x 26 0 36 = nI p → PhN d bc bs x P := by
  have e1 : ∀ {x : HS} {v : Int32}, seeF (sI x 26 0 38 v) v = seeF x v := rfl
  have e2 : ∀ {x : HS} {v : Int32}, gI (sI x 26 0 38 v) 26 0 35 = gI x 26 0 35 := rfl
  intro r
  induction r with
  | zero =>
    intro p x hr hp h4 e e36
    have T := T0.keep e
    obtain rfl : p = n := by omega
    unfold PhN
    simp only [e1, e2, e36]
    rw [see_ge T hn]
    refine ⟨see_in T hn hp, fun z => absurd z (by decide), fun _ => ⟨see_in T hn hp, fun _ => ⟨see_in T hn hp, fun z => absurd rfl z, fun _ => k _ ((e.sI rfl).sI rfl) ?_⟩, fun z => absurd z (by decide)⟩⟩
    rw [h4, nxT_end]
    exact ⟨e36, gI_same, rfl, fun z => absurd (show (256 : Nat) = 258 from z) (by decide)⟩
  | succ r ih =>
    intro p x hr hp h4 e e36
    have T := T0.keep e
    have hbp := hb p (by omega)
    have hp1 : p < n := by omega
    have vin := see_in T hn hp
    have goV : bl8 (b p) = true → V true mX10_next0 (d + 3) bc bs 0 [(0, aR 26 0)] [] (sI x 26 0 36 (nI p + 1)) P := fun q => by
      rw [nI_1]
      exact wX10_next0_0 (ih (p + 1) _ (by omega) (by omega) (h4.trans (nxT_bl hp1 q)) (e.sI rfl) gI_same)
    unfold PhN
    simp only [e1, e2, e36]
    rw [see_lt T hn hp1]
    have nk : ∀ {v : Nat}, v < 256 → nI (b p) = nI v → b p = v := fun hv z => (nI_eq (by omega) (by omega)).mp z
    refine ⟨vin, fun z => goV (decide_eq_true (Or.inl (nk (v := 32) (by decide) z))), fun z1 => ⟨vin, fun z2 => ⟨vin, fun _ => ?_, fun z => absurd z (nI_ne1 (by omega))⟩, fun z => goV (decide_eq_true (Or.inr (nk (v := 10) (by decide) z)))⟩⟩
    have nb : bl8 (b p) = false := decide_eq_false (fun z => by
      rcases z with z | z
      · exact z1 (by rw [z]; rfl)
      · exact z2 (by rw [z]; rfl))
    have h5 : nxT b n p0 = tk1 b n p := h4.trans (nxT_nb hp1 nb)
    rw [h5] at k
    refine ⟨fun z3 => ⟨fun z4 => ?_, fun z4 => ?_⟩, fun z3 => ?_⟩
    · have l0 : lt8 (b p) = false := by
        cases q : lt8 (b p) with
        | true => exact absurd ((by_ltn _ hbp).mpr q) z3
        | false => rfl
      have d0 : dg8 (b p) = false := by
        cases q : dg8 (b p) with
        | true => exact absurd ((by_dgn _ hbp).mpr q) z4
        | false => rfl
      have ek : tk1 b n p = (b p, p, 0, p + 1) := by
        unfold tk1
        rw [if_neg (by rw [l0]; decide), if_neg (by rw [d0]; decide)]
      have fin : ∀ v : Int32, v = nI (mK (b p)) → P none (sI (sI (sI x 26 0 38 (nI p)) 26 0 36 (nI p + 1)) 26 0 37 v) := fun v hv => k _ (((e.sI rfl).sI rfl).sI rfl) (by
        rw [ek]
        exact ⟨nI_1 p, hv, rfl, fun z => absurd (show b p = 258 from z) (by omega)⟩)
      have sgn : ∀ {v : Nat}, v < 256 → mK v = v → nI (b p) = nI v → nI (b p) = nI (mK (b p)) := fun hv hm z => by
        rw [nk hv z, hm]
      have ng : ∀ {v : Nat} {w : Int32}, w = nI v → ¬ nI (b p) = w → ¬ b p = v := fun hw z q => z (by rw [q, hw])
      refine ⟨fun z => fin _ (sgn (v := 59) (by decide) rfl z), fun y1 => ⟨fun z => fin _ (sgn (v := 43) (by decide) rfl z), fun y2 => ⟨fun z => fin _ (sgn (v := 45) (by decide) rfl z), fun y3 => ⟨fun z => fin _ (sgn (v := 42) (by decide) rfl z), fun y4 => ⟨fun z => fin _ (sgn (v := 47) (by decide) rfl z), fun y5 => ⟨fun z => fin _ (sgn (v := 40) (by decide) rfl z), fun y6 => ⟨fun z => fin _ (sgn (v := 41) (by decide) rfl z), fun y7 => ⟨fun z => fin _ (sgn (v := 60) (by decide) rfl z), fun y8 => ⟨fun z => fin _ (sgn (v := 61) (by decide) rfl z), fun y9 => ⟨fun y10 => fin _ ?_, fun z => fin _ (sgn (v := 62) (by decide) rfl z)⟩⟩⟩⟩⟩⟩⟩⟩⟩⟩
      have w1 := ng (v := 59) rfl y1
      have w2 := ng (v := 43) rfl y2
      have w3 := ng (v := 45) rfl y3
      have w4 := ng (v := 42) rfl y4
      have w5 := ng (v := 47) rfl y5
      have w6 := ng (v := 40) rfl y6
      have w7 := ng (v := 41) rfl y7
      have w8 := ng (v := 60) rfl y8
      have w9 := ng (v := 61) rfl y9
      have w10 := ng (v := 62) rfl y10
      have : mK (b p) = 1 := by
        unfold mK
        rw [if_neg (by omega), if_neg (by omega), if_neg (by omega), if_neg (by omega), if_neg (by omega), if_neg (by omega), if_neg (by omega)]
      rw [this]
      rfl
    · have l0 : lt8 (b p) = false := by
        cases q : lt8 (b p) with
        | true => exact absurd ((by_ltn _ hbp).mpr q) z3
        | false => rfl
      exact mN164 hn hb T0 ((by_dgn _ hbp).mp z4) l0 k (n - p) 0 _ rfl hp (fun _ => gI_same.trans nI_0.symm) rfl ((e.sI rfl).sI rfl) e36 rfl
    · exact mN80 hn hb T0 ((by_ltn _ hbp).mp z3) k (n - p) 0 0 _ rfl hp (fun j hj => absurd hj (Nat.not_lt_zero _)) (fun _ => rfl) rfl (e.sI rfl) e36 rfl
theorem mNext {p : Nat} (hn : n ≤ 400) (hb : ∀ j, j < n → b j < 256) (T : TP b n h) (hp : p ≤ n) (e36 : gI h 26 0 36 = nI p) (k : ∀ y, Eqo FNt h y → NT (nxT b n p) y → P none y) : Cl true mX10_next0 (d + 3) bc bs [aR 26 0] h P :=
  wX10_next0 (mNph hn hb T k (n - p) p h rfl hp rfl Eqo.rf e36)
end NX

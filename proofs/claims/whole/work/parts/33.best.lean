-- ===== best: what is sought, in numbers =====
abbrev BB : Type := Option (Nat × Nat × (Nat → Nat))
def tw (pr wt row : Nat → Nat) (w : Nat) (q : Nat × Nat) : Nat × Nat := (q.1 - min (wt (row w)) q.1, q.2 + min (wt (row w)) q.1 * pr (row w))
def tQ (pr wt : Nat → Nat) (W n : Nat) (row : Nat → Nat) : Nat × Nat := acc (tw pr wt row) W (n, 0)
def tB (pr wt : Nat → Nat) (W n : Nat) (row : Nat → Nat) (b : BB) : BB := match b with
  | none => some ((tQ pr wt W n row).2, (tQ pr wt W n row).1, row)
  | some c => if c.1 < (tQ pr wt W n row).2 then some ((tQ pr wt W n row).2, (tQ pr wt W n row).1, row) else some c
def nxW (row : Nat → Nat) : Nat → Option Nat
  | 0 => none
  | n + 1 => if row n < 3 then some n else nxW row n
def stR (row : Nat → Nat) (w : Nat) : Nat → Nat := fun v => if w ≤ v then row w + 1 else row v
def bRun (pr wt : Nat → Nat) (W n : Nat) : Nat → (Nat → Nat) → BB → BB
  | 0, row, b => tB pr wt W n row b
  | f + 1, row, b => match nxW row W with
    | none => tB pr wt W n row b
    | some w => bRun pr wt W n f (stR row w) (tB pr wt W n row b)
theorem tB_some {pr wt : Nat → Nat} {W n : Nat} {row : Nat → Nat} {b : BB} : ∃ c, tB pr wt W n row b = some c := by
  unfold tB
  split
  · exact ⟨_, rfl⟩
  · split <;> exact ⟨_, rfl⟩
theorem bRun_some {pr wt : Nat → Nat} {W n : Nat} : ∀ (f : Nat) (row : Nat → Nat) (b : BB), ∃ c, bRun pr wt W n f row b = some c
  | 0, _, _ => tB_some
  | f + 1, row, b => by
    unfold bRun
    split
    · exact tB_some
    · exact bRun_some f _ _
def mu (row : Nat → Nat) : Nat → Nat
  | 0 => 0
  | n + 1 => 4 * mu row n + row n
theorem mu_lt {row : Nat → Nat} : ∀ n, (∀ v, v < n → row v ≤ 3) → mu row n < 4 ^ n
  | 0, _ => Nat.one_pos
  | n + 1, h => by
    have e := mu_lt n (fun v hv => h v (by omega))
    have e2 := h n (by omega)
    show 4 * mu row n + row n < 4 ^ (n + 1)
    rw [Nat.pow_succ]
    omega
theorem mu_cg {r1 r2 : Nat → Nat} : ∀ n, (∀ v, v < n → r1 v = r2 v) → mu r1 n = mu r2 n
  | 0, _ => rfl
  | n + 1, h => by
    show 4 * mu r1 n + r1 n = 4 * mu r2 n + r2 n
    rw [mu_cg n (fun v hv => h v (by omega)), h n (by omega)]
theorem nxW_some {row : Nat → Nat} {w : Nat} : ∀ n, nxW row n = some w → w < n ∧ row w < 3
  | 0, h => by cases h
  | n + 1, h => by
    unfold nxW at h
    by_cases e : row n < 3
    · rw [if_pos e] at h
      cases h
      exact ⟨by omega, e⟩
    · rw [if_neg e] at h
      have := nxW_some n h
      exact ⟨by omega, this.2⟩
theorem mu_st {row : Nat → Nat} {w : Nat} : ∀ n, w < n → (∀ v, v < n → row v ≤ 3) → mu row n < mu (stR row w) n
  | 0, h, _ => by omega
  | n + 1, h, hr => by
    have e2 := hr n (by omega)
    show 4 * mu row n + row n < 4 * mu (stR row w) n + stR row w n
    by_cases e : w = n
    · subst e
      rw [mu_cg w (r1 := stR row w) (r2 := row) (fun v hv => if_neg (by omega))]
      rw [show stR row w w = row w + 1 from if_pos (Nat.le_refl _)]
      omega
    · have := mu_st (row := row) (w := w) n (by omega) (fun v hv => hr v (by omega))
      omega
theorem stR_le {row : Nat → Nat} {w n : Nat} (hw : row w < 3) (hr : ∀ v, v < n → row v ≤ 3) : ∀ v, v < n → stR row w v ≤ 3 := by
  intro v hv
  unfold stR
  split
  · omega
  · exact hr v hv
theorem tw_b {pr wt row : Nat → Nat} {n : Nat} (hp : ∀ l, l ≤ 3 → pr l ≤ 999) : ∀ m, (∀ v, v < m → row v ≤ 3) → (acc (tw pr wt row) m (n, 0)).1 ≤ n ∧ (acc (tw pr wt row) m (n, 0)).2 + (acc (tw pr wt row) m (n, 0)).1 * 999 ≤ n * 999
  | 0, _ => ⟨Nat.le_refl _, by show 0 + n * 999 ≤ n * 999; omega⟩
  | m + 1, hr => by
    have ih := tw_b (wt := wt) (n := n) hp m (fun v hv => hr v (by omega))
    have e := hp (row m) (hr m (by omega))
    show (acc (tw pr wt row) m (n, 0)).1 - min (wt (row m)) (acc (tw pr wt row) m (n, 0)).1 ≤ n ∧ (acc (tw pr wt row) m (n, 0)).2 + min (wt (row m)) (acc (tw pr wt row) m (n, 0)).1 * pr (row m) + ((acc (tw pr wt row) m (n, 0)).1 - min (wt (row m)) (acc (tw pr wt row) m (n, 0)).1) * 999 ≤ n * 999
    have e2 := Nat.mul_le_mul_left (min (wt (row m)) (acc (tw pr wt row) m (n, 0)).1) e
    have e3 : min (wt (row m)) (acc (tw pr wt row) m (n, 0)).1 ≤ (acc (tw pr wt row) m (n, 0)).1 := Nat.min_le_right _ _
    generalize min (wt (row m)) (acc (tw pr wt row) m (n, 0)).1 * pr (row m) = z at *
    omega
theorem minF_n {a b : Nat} (ha : a < 2 ^ 31) (hb : b < 2 ^ 31) : minF (nI a) (nI b) = nI (min a b) := by
  unfold minF
  by_cases e : nI b < nI a
  · rw [if_pos e]
    rw [nI_ltI hb ha] at e
    rw [Nat.min_eq_right (by omega)]
  · rw [if_neg e]
    rw [nI_ltI hb ha] at e
    rw [Nat.min_eq_left (by omega)]
-- stores: a row filled from w on; a row kept
def fl (c w : Nat) (l : Int32) (k : Nat) (x : HS) : HS := sI x c 0 (w + k) l
theorem fl_at {c w : Nat} {l : Int32} {h : HS} : ∀ m v, gI (acc (fl c w l) m h) c 0 v = if w ≤ v ∧ v < w + m then l else gI h c 0 v
  | 0, v => by rw [if_neg (by omega)]; rfl
  | m + 1, v => by
    show gI (sI (acc (fl c w l) m h) c 0 (w + m) l) c 0 v = _
    rw [gI_sI]
    by_cases e : v = w + m
    · rw [if_pos ⟨rfl, e, rfl⟩, if_pos (by omega)]
    · rw [if_neg (fun z => e z.2.1), fl_at m v]
      by_cases e2 : w ≤ v ∧ v < w + m
      · rw [if_pos e2, if_pos (by omega)]
      · rw [if_neg e2, if_neg (by omega)]
theorem fl_E {F : Nat → Nat → Bool} {c w : Nat} {l : Int32} (hF : ∀ k, F c k = false) {x : HS} : ∀ i y, Eqo F x y → Eqo F x (fl c w l i y) := fun _ _ e => e.sI (hF _)
def kp (c e : Nat) (k : Nat) (x : HS) : HS := sI x c 0 k (gI x e 0 k)
theorem kp_E {F : Nat → Nat → Bool} {c e : Nat} (hF : ∀ k, F c k = false) {x : HS} : ∀ i y, Eqo F x y → Eqo F x (kp c e i y) := fun _ _ e => e.sI (hF _)
theorem kp_at {c e : Nat} (hne : e ≠ c) {h : HS} : ∀ m v, gI (acc (kp c e) m h) c 0 v = if v < m then gI h e 0 v else gI h c 0 v
  | 0, v => by rw [if_neg (by omega)]; rfl
  | m + 1, v => by
    have x : Eqo (F1 e) h (acc (kp c e) m h) := Eqo.acc (kp_E (fun k => by simp [F1]; exact fun q => hne q.symm))
    show gI (sI (acc (kp c e) m h) c 0 m (gI (acc (kp c e) m h) e 0 m)) c 0 v = _
    rw [gI_sI, (x.1 e 0 m (by simp [F1])).1]
    by_cases ev : v = m
    · rw [if_pos ⟨rfl, ev, rfl⟩, if_pos (by omega), ev]
    · rw [if_neg (fun z => ev z.2.1), kp_at hne m v]
      by_cases e2 : v < m
      · rw [if_pos e2, if_pos (by omega)]
      · rw [if_neg e2, if_neg (by omega)]
-- the class
def FBc (c k : Nat) : Bool := match c with
  | 21 => k != 4 && k != 5
  | 24 => false
  | 25 => false
  | _ => true
def FBm (c k : Nat) : Bool := match c with
  | 26 => k != 53 && k != 54
  | 56 => false
  | 57 => false
  | _ => true
def rowC (c W : Nat) (row : Nat → Nat) (x : HS) : Prop := ∀ w, w < W → gI x c 0 w = nI (row w)
def bstC (W : Nat) (b : BB) (x : HS) : Prop := match b with
  | none => gI x 21 0 4 = -1
  | some c => gI x 21 0 4 = nI c.1 ∧ gI x 21 0 5 = nI c.2.1 ∧ ∀ w, w < W → gI x 25 0 w = nI (c.2.2 w)
def bstM (W : Nat) (b : BB) (x : HS) : Prop := match b with
  | none => gI x 26 0 53 = -1
  | some c => gI x 26 0 53 = nI c.1 ∧ gI x 26 0 54 = nI c.2.1 ∧ ∀ w, w < W → gI x 57 0 w = nI (c.2.2 w)
theorem bstC.keep {W : Nat} {b : BB} {x y : HS} (e : Eqo (fun c k => c == 21 || c == 25) x y) (q : bstC W b x) : bstC W b y := by
  cases b with
  | none => show gI y 21 0 4 = -1; rw [(e.1 21 0 4 rfl).1]; exact q
  | some c => exact ⟨by rw [(e.1 21 0 4 rfl).1]; exact q.1, by rw [(e.1 21 0 5 rfl).1]; exact q.2.1, fun w hw => by rw [(e.1 25 0 w rfl).1]; exact q.2.2 w hw⟩
theorem bstM.keep {W : Nat} {b : BB} {x y : HS} (e : Eqo (fun c k => c == 26 || c == 57) x y) (q : bstM W b x) : bstM W b y := by
  cases b with
  | none => show gI y 26 0 53 = -1; rw [(e.1 26 0 53 rfl).1]; exact q
  | some c => exact ⟨by rw [(e.1 26 0 53 rfl).1]; exact q.1, by rw [(e.1 26 0 54 rfl).1]; exact q.2.1, fun w hw => by rw [(e.1 57 0 w rfl).1]; exact q.2.2 w hw⟩
def bOK (b : BB) : Prop := ∀ c, b = some c → c.1 < 2 ^ 30
section BE
variable {h : HS} {P : Option AV → HS → Prop} {d bc bs : Nat} {pr wt row : Nat → Nat} {W n : Nat}
theorem tQ_b (hp : ∀ l, l ≤ 3 → pr l ≤ 999) (hn : n ≤ 200) (hr : ∀ v, v < W → row v ≤ 3) : (tQ pr wt W n row).1 ≤ 200 ∧ (tQ pr wt W n row).2 ≤ 199800 := by
  have := tw_b (pr := pr) (wt := wt) (row := row) (n := n) hp W hr
  unfold tQ
  omega
theorem tB_ok {b : BB} (hp : ∀ l, l ≤ 3 → pr l ≤ 999) (hn : n ≤ 200) (hr : ∀ v, v < W → row v ≤ 3) (ok : bOK b) : bOK (tB pr wt W n row b) := by
  have q := tQ_b (wt := wt) hp hn hr
  intro c e
  cases b with
  | none =>
    cases e
    show (tQ pr wt W n row).2 < 2 ^ 30
    omega
  | some c0 =>
    have e : (if c0.1 < (tQ pr wt W n row).2 then some ((tQ pr wt W n row).2, (tQ pr wt W n row).1, row) else some c0) = some c := e
    split at e
    · cases e
      show (tQ pr wt W n row).2 < 2 ^ 30
      omega
    · cases e
      exact ok _ rfl
theorem lp_cK (hW : W ≤ 8) (k : P none (acc (kp 25 24) W h)) : ∀ m j, j + m = W → V true mX0_keepRow (d + 3) bc bs 2 [(0, aR 21 0), (1, aI (nI W)), (2, aI (nI j))] [] (acc (kp 25 24) j h) P := by
  intro m
  induction m with
  | zero =>
    intro j hj
    obtain rfl : j = W := by omega
    exact wX0_keepRow_2 ⟨fun _ => k, fun z => absurd (nI_le (Nat.le_refl _) (by omega)) z⟩
  | succ m ih =>
    intro j hj
    refine wX0_keepRow_2 ⟨fun z => absurd z (nI_ge (by omega) (by omega)), fun _ => ⟨fun z => absurd (show nI 8 ≤ nI j from z) (nI_ge (by omega) (by decide)), fun _ => ⟨vp_in_nI (by omega) (by decide), vp_in_nI (by omega) (by decide), ?_⟩⟩⟩
    rw [nI_clamp (by omega), nI_1]
    exact ih (j + 1) (by omega)
theorem lp_mK (hW : W ≤ 8) (k : P none (acc (kp 57 56) W h)) : ∀ m j, j + m = W → V true mX10_tries (d + 3) bc bs 103 [(0, aR 26 0), (1, aI (nI W)), (5, aI (nI j))] [] (acc (kp 57 56) j h) P := by
  intro m
  induction m with
  | zero =>
    intro j hj
    obtain rfl : j = W := by omega
    exact wX10_tries_103 ⟨fun _ => k, fun z => absurd (nI_le (Nat.le_refl _) (by omega)) z⟩
  | succ m ih =>
    intro j hj
    refine wX10_tries_103 ⟨fun z => absurd z (nI_ge (by omega) (by omega)), fun _ => ⟨vp_in_nI (by omega) (by decide), vp_in_nI (by omega) (by decide), ?_⟩⟩
    rw [nI_clamp (by omega), nI_1]
    exact ih (j + 1) (by omega)
theorem cTry {h0 : HS} {b : BB} (hW : W ≤ 8) (hn : n ≤ 200) (hp : ∀ l, l ≤ 3 → pr l ≤ 999) (hwt : ∀ l, l ≤ 3 → wt l ≤ 99) (hr : ∀ v, v < W → row v ≤ 3) (e : Eqo FBc h0 h) (p22 : ∀ l, l ≤ 3 → gI h0 22 0 l = nI (pr l)) (p23 : ∀ l, l ≤ 3 → gI h0 23 0 l = nI (wt l)) (r24 : rowC 24 W row h) (bb : bstC W b h) (ok : bOK b) (k : ∀ y, Eqo FBc h0 y → rowC 24 W row y → bstC W (tB pr wt W n row b) y → P none y) : Cl true mX0_tryRow (d + 4) bc bs [aR 21 0, aI (nI n), aI (nI W)] h P := by
  have qb := tQ_b (wt := wt) (row := row) hp hn hr
  have fin : ((nI (tQ pr wt W n row).2 ≤ gI h 21 0 4) → P none h) ∧ ((¬ nI (tQ pr wt W n row).2 ≤ gI h 21 0 4) → Cl true mX0_keepRow (d + 3) 0 0 [aR 21 0, aI (nI W)] (sI (sI h 21 0 4 (nI (tQ pr wt W n row).2)) 21 0 5 (nI (tQ pr wt W n row).1)) (fun r1 h2 => r1 = none ∧ P none h2)) := by
    have new : Cl true mX0_keepRow (d + 3) 0 0 [aR 21 0, aI (nI W)] (sI (sI h 21 0 4 (nI (tQ pr wt W n row).2)) 21 0 5 (nI (tQ pr wt W n row).1)) (fun r1 h2 => r1 = none ∧ (bstC W (some ((tQ pr wt W n row).2, (tQ pr wt W n row).1, row)) h2 ∧ Eqo FBc h0 h2 ∧ rowC 24 W row h2)) := by
      obtain ⟨x, ex⟩ : ∃ x, x = sI (sI h 21 0 4 (nI (tQ pr wt W n row).2)) 21 0 5 (nI (tQ pr wt W n row).1) := ⟨_, rfl⟩
      rw [← ex]
      have q : Eqo (fun c k => c == 21 || c == 24) x (acc (kp 25 24) W x) := Eqo.acc (kp_E (fun _ => rfl))
      refine wX0_keepRow (lp_cK (h := x) hW ⟨rfl, ⟨?_, ?_, fun w hw => ?_⟩, ?_, fun w hw => ?_⟩ W 0 (by omega))
      · rw [(q.1 21 0 4 rfl).1, ex]; rfl
      · rw [(q.1 21 0 5 rfl).1, ex]; rfl
      · rw [kp_at (by decide), if_pos hw, ex]
        exact r24 w hw
      · rw [ex]
        exact ((e.sI rfl).sI rfl).tr (Eqo.acc (kp_E (fun _ => rfl)))
      · rw [(q.1 24 0 w rfl).1, ex]
        exact r24 w hw
    cases b with
    | none =>
      have bb : gI h 21 0 4 = -1 := bb
      refine ⟨fun z => absurd z (by
        rw [bb, iLe, nI_toInt (by omega)]
        have : (-1 : Int32).toInt = -1 := by decide
        omega), fun _ => new.mono ?_⟩
      rintro r y ⟨q0, q1, q2, q3⟩
      exact ⟨q0, k y q2 q3 q1⟩
    | some c =>
      have b1 := bb.1
      have c1 := ok c rfl
      refine ⟨fun z => ?_, fun z => ?_⟩
      · rw [b1, nI_leI (by omega) (by omega)] at z
        refine k h e r24 ?_
        rw [show tB pr wt W n row (some c) = some c from if_neg (by omega)]
        exact bb
      · rw [b1, nI_leI (by omega) (by omega)] at z
        refine new.mono ?_
        rintro r y ⟨q0, q1, q2, q3⟩
        refine ⟨q0, k y q2 q3 ?_⟩
        rw [show tB pr wt W n row (some c) = some ((tQ pr wt W n row).2, (tQ pr wt W n row).1, row) from if_pos (by omega)]
        exact q1
  have lp : ∀ m j, j + m = W → V true mX0_tryRow (d + 4) bc bs 8 [(0, aR 21 0), (2, aI (nI W)), (3, aI (nI (acc (tw pr wt row) j (n, 0)).1)), (4, aI (nI (acc (tw pr wt row) j (n, 0)).2)), (5, aI (nI j))] [] h P := by
    intro m
    induction m with
    | zero =>
      intro j hj
      obtain rfl : j = W := by omega
      exact wX0_tryRow_8 ⟨fun _ => fin, fun z => absurd (nI_le (Nat.le_refl _) (by omega)) z⟩
    | succ m ih =>
      intro j hj
      have q := ih (j + 1) (by omega)
      have hj3 := hr j (by omega)
      have b0 := tw_b (wt := wt) (n := n) hp j (fun v hv => hr v (by omega))
      have bp := hp _ hj3
      have bw := hwt _ hj3
      refine wX0_tryRow_8 ⟨fun z => absurd z (nI_ge (by omega) (by omega)), fun _ => ⟨fun z => absurd (show nI 8 ≤ nI j from z) (nI_ge (by omega) (by decide)), fun _ => ⟨vp_in_nI (by omega) (by decide), ?_⟩⟩⟩
      rw [nI_clamp (by omega), r24 j (by omega), nI_clamp (by omega), nI_1]
      refine ⟨fun z => absurd z (nI_pos (by omega)), fun _ => ⟨fun z => absurd (show nI 4 ≤ nI (row j) from z) (nI_ge (by omega) (by decide)), fun _ => ⟨vp_in_nI (by omega) (by decide), vp_in_nI (by omega) (by decide), ?_⟩⟩⟩
      rw [(e.1 23 0 _ rfl).1, (e.1 22 0 _ rfl).1, p22 _ hj3, p23 _ hj3, minF_n (by omega) (by omega), pk_mul, nI_add, pk_sub (Nat.min_le_right _ _)]
      exact q
  exact wX0_tryRow (lp W 0 (by omega))
end BE

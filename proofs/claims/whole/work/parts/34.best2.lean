-- ===== best: the next row; the reference =====
section BF
variable {h : HS} {P : Option AV → HS → Prop} {d bc bs : Nat} {pr wt row : Nat → Nat} {W n : Nat}
theorem nI_m1 {k : Nat} : nI k + (-1) = nI k - 1 := (Int32.sub_eq_add_neg (nI k) 1).symm
theorem lp_cF {w : Nat} {l : Int32} (hW : W ≤ 8) (hw : w < W) (k : P (some (aI 1)) (acc (fl 24 w l) (W - w) h)) : ∀ m j, w + j + m = W → V true mX0_stepRow (d + 3) bc bs 38 [(0, aR 21 0), (2, aI (nI W - 1)), (4, aI l), (5, aI (nI (w + j)))] [] (acc (fl 24 w l) j h) P := by
  have eW : nI W - 1 = nI (W - 1) := by
    rw [show W = (W - 1) + 1 by omega]; exact nI_pred _
  rw [eW]
  intro m
  induction m with
  | zero =>
    intro j hj
    obtain rfl : j = W - w := by omega
    exact wX0_stepRow_38 ⟨fun _ => k, fun z => absurd (nI_lt (by omega) (by omega)) z⟩
  | succ m ih =>
    intro j hj
    refine wX0_stepRow_38 ⟨fun z => absurd z (nI_nlt (by omega) (by omega)), fun _ => ⟨vp_in_nI (by omega) (by decide), ?_⟩⟩
    rw [nI_clamp (by omega), nI_1]
    exact ih (j + 1) (by omega)
theorem lp_mF {w : Nat} {l : Int32} (hW : W ≤ 8) (hw : w < W) (k : P (some (aI 1)) (acc (fl 56 w l) (W - w) h)) : ∀ m j, w + j + m = W → V true mX10_nextRow (d + 3) bc bs 42 [(0, aR 26 0), (1, aI (nI W)), (3, aI l), (4, aI (nI (w + j)))] [] (acc (fl 56 w l) j h) P := by
  intro m
  induction m with
  | zero =>
    intro j hj
    obtain rfl : j = W - w := by omega
    exact wX10_nextRow_42 ⟨fun _ => k, fun z => absurd (nI_le (by omega) (by omega)) z⟩
  | succ m ih =>
    intro j hj
    refine wX10_nextRow_42 ⟨fun z => absurd z (nI_ge (by omega) (by omega)), fun _ => ⟨vp_in_nI (by omega) (by decide), ?_⟩⟩
    rw [nI_clamp (by omega), nI_1]
    exact ih (j + 1) (by omega)
theorem row_fl {c w : Nat} (hw : w < W) (r : rowC c W row h) : rowC c W (stR row w) (acc (fl c w (nI (row w + 1))) (W - w) h) := by
  intro v hv
  rw [fl_at]
  unfold stR
  by_cases e : w ≤ v
  · rw [if_pos ⟨e, by omega⟩, if_pos e]
  · rw [if_neg (fun z => e z.1), if_neg e]
    exact r v hv
theorem cStep (hW : W ≤ 8) (hr : ∀ v, v < W → row v ≤ 3) (r24 : rowC 24 W row h) (k0 : nxW row W = none → P (some (aI 0)) h) (k1 : ∀ w, nxW row W = some w → P (some (aI 1)) (acc (fl 24 w (nI (row w + 1))) (W - w) h)) : Cl true mX0_stepRow (d + 4) bc bs [aR 21 0, aI (nI W)] h P := by
  have e8 : minF (nI W) 8 = nI W := by
    rw [show (8 : Int32) = nI 8 from rfl, minF_n (by omega) (by omega), Nat.min_eq_left hW]
  refine wX0_stepRow ?_
  rw [e8]
  have lp : ∀ j, j ≤ W → nxW row W = nxW row j → V true mX0_stepRow (d + 4) bc bs 11 [(0, aR 21 0), (2, aI (nI W - 1)), (3, aI (nI j - 1))] [] h P := by
    intro j
    induction j with
    | zero => exact fun _ e => wX0_stepRow_11 ⟨fun _ => k0 e, fun z => absurd (by decide) z⟩
    | succ j ih =>
      intro hj e
      rw [nI_pred]
      refine wX0_stepRow_11 ⟨fun z => absurd z (nI_pos (by omega)), fun _ => ⟨vp_in_nI (by omega) (by decide), ?_⟩⟩
      rw [nI_clamp (by omega), r24 j (by omega), show (3 : Int32) = nI 3 from rfl, nI_leI (by decide) (by have := hr j (by omega); omega), nI_m1, nI_1]
      refine ⟨fun z => ih (by omega) (e.trans (if_neg (by omega))), fun z => ⟨vp_in_nI (by omega) (by decide), ?_⟩⟩
      exact lp_cF (w := j) hW (by omega) (k1 j (e.trans (if_pos (by omega)))) (W - j) 0 (by omega)
  exact lp W (Nat.le_refl _) rfl
theorem mStep (hW : W ≤ 8) (hr : ∀ v, v < W → row v ≤ 3) (r24 : rowC 56 W row h) (k0 : nxW row W = none → P (some (aI 0)) h) (k1 : ∀ w, nxW row W = some w → P (some (aI 1)) (acc (fl 56 w (nI (row w + 1))) (W - w) h)) : Cl true mX10_nextRow (d + 4) bc bs [aR 26 0, aI (nI W)] h P := by
  refine wX10_nextRow ?_
  have lp : ∀ j, j ≤ W → nxW row W = nxW row j → V true mX10_nextRow (d + 4) bc bs 4 [(0, aR 26 0), (1, aI (nI W)), (2, aI (nI j - 1))] [] h P := by
    intro j
    induction j with
    | zero => exact fun _ e => wX10_nextRow_4 ⟨fun _ => ⟨fun z => absurd z (by decide), fun _ => k0 e⟩, fun z => absurd (by decide) z⟩
    | succ j ih =>
      intro hj e
      have h3 := hr j (by omega)
      rw [nI_pred]
      refine wX10_nextRow_4 ⟨fun z => absurd z (nI_pos (by omega)), fun _ => ⟨vp_in_nI (by omega) (by decide), ?_⟩⟩
      rw [nI_clamp (by omega), r24 j (by omega), show (3 : Int32) = nI 3 from rfl, nI_eq (by omega) (by omega), nI_m1, nI_1]
      refine ⟨fun z => ⟨fun _ => ⟨vp_in_nI (by omega) (by decide), ?_⟩, fun z2 => absurd (nI_pos' (by omega)) z2⟩, fun z => ih (by omega) (e.trans (if_neg (by omega)))⟩
      exact lp_mF (w := j) hW (by omega) (k1 j (e.trans (if_pos (by omega)))) (W - j) 0 (by omega)
  exact lp W (Nat.le_refl _) rfl
theorem mTry {h0 : HS} {b : BB} (hW : W ≤ 8) (hn : n ≤ 200) (hp : ∀ l, l ≤ 3 → pr l ≤ 999) (hwt : ∀ l, l ≤ 3 → wt l ≤ 99) (hr : ∀ v, v < W → row v ≤ 3) (e : Eqo FBm h0 h) (p22 : ∀ l, l ≤ 3 → gI h0 54 0 l = nI (pr l)) (p23 : ∀ l, l ≤ 3 → gI h0 55 0 l = nI (wt l)) (r24 : rowC 56 W row h) (bb : bstM W b h) (ok : bOK b) (k : ∀ y, Eqo FBm h0 y → rowC 56 W row y → bstM W (tB pr wt W n row b) y → P none y) : Cl true mX10_tries (d + 4) bc bs [aR 26 0, aI (nI W), aI (nI n)] h P := by
  have qb := tQ_b (wt := wt) (row := row) hp hn hr
  have fin : ((gI h 26 0 53 < nI (tQ pr wt W n row).2) → V true mX10_tries (d + 4) bc bs 103 [(0, aR 26 0), (1, aI (nI W)), (5, aI 0)] [] (sI (sI h 26 0 53 (nI (tQ pr wt W n row).2)) 26 0 54 (nI (tQ pr wt W n row).1)) P) ∧ ((¬ gI h 26 0 53 < nI (tQ pr wt W n row).2) → P none h) := by
    have new : (∀ y, Eqo FBm h0 y → rowC 56 W row y → bstM W (some ((tQ pr wt W n row).2, (tQ pr wt W n row).1, row)) y → P none y) → V true mX10_tries (d + 4) bc bs 103 [(0, aR 26 0), (1, aI (nI W)), (5, aI 0)] [] (sI (sI h 26 0 53 (nI (tQ pr wt W n row).2)) 26 0 54 (nI (tQ pr wt W n row).1)) P := by
      intro kk
      obtain ⟨x, ex⟩ : ∃ x, x = sI (sI h 26 0 53 (nI (tQ pr wt W n row).2)) 26 0 54 (nI (tQ pr wt W n row).1) := ⟨_, rfl⟩
      rw [← ex]
      have q : Eqo (fun c k => c == 26 || c == 56) x (acc (kp 57 56) W x) := Eqo.acc (kp_E (fun _ => rfl))
      refine lp_mK (h := x) hW (kk _ ?_ (fun w hw => ?_) ⟨?_, ?_, fun w hw => ?_⟩) W 0 (by omega)
      · rw [ex]
        exact ((e.sI rfl).sI rfl).tr (Eqo.acc (kp_E (fun _ => rfl)))
      · rw [(q.1 56 0 w rfl).1, ex]
        exact r24 w hw
      · rw [(q.1 26 0 53 rfl).1, ex]; rfl
      · rw [(q.1 26 0 54 rfl).1, ex]; rfl
      · rw [kp_at (by decide), if_pos hw, ex]
        exact r24 w hw
    cases b with
    | none =>
      have bb : gI h 26 0 53 = -1 := bb
      refine ⟨fun _ => new k, fun z => absurd (by
        rw [bb, iLt, nI_toInt (by omega)]
        have : (-1 : Int32).toInt = -1 := by decide
        omega) z⟩
    | some c =>
      have b1 := bb.1
      have c1 := ok c rfl
      refine ⟨fun z => ?_, fun z => ?_⟩
      · rw [b1, nI_ltI (by omega) (by omega)] at z
        rw [show tB pr wt W n row (some c) = some ((tQ pr wt W n row).2, (tQ pr wt W n row).1, row) from if_pos (by omega)] at k
        exact new k
      · rw [b1, nI_ltI (by omega) (by omega)] at z
        refine k h e r24 ?_
        rw [show tB pr wt W n row (some c) = some c from if_neg (by omega)]
        exact bb
  have lp : ∀ m j, j + m = W → V true mX10_tries (d + 4) bc bs 8 [(0, aR 26 0), (1, aI (nI W)), (3, aI (nI (acc (tw pr wt row) j (n, 0)).1)), (4, aI (nI (acc (tw pr wt row) j (n, 0)).2)), (5, aI (nI j))] [] h P := by
    intro m
    induction m with
    | zero =>
      intro j hj
      obtain rfl : j = W := by omega
      exact wX10_tries_8 ⟨fun _ => fin, fun z => absurd (nI_le (Nat.le_refl _) (by omega)) z⟩
    | succ m ih =>
      intro j hj
      have q := ih (j + 1) (by omega)
      have hj3 := hr j (by omega)
      have b0 := tw_b (wt := wt) (n := n) hp j (fun v hv => hr v (by omega))
      have bp := hp _ hj3
      have bw := hwt _ hj3
      have v8 : vp_in (nI j) 8 := vp_in_nI (by omega) (by decide)
      have v4 : vp_in (nI (row j)) 4 := vp_in_nI (by omega) (by decide)
      refine wX10_tries_8 ⟨fun z => absurd z (nI_ge (by omega) (by omega)), fun _ => ⟨v8, ?_⟩⟩
      rw [nI_clamp (by omega), r24 j (by omega), nI_clamp (by omega), nI_1, (e.1 54 0 _ rfl).1, (e.1 55 0 _ rfl).1, p22 _ hj3, p23 _ hj3]
      refine ⟨v4, ⟨fun z => ⟨v8, v4, ?_⟩, fun z => ⟨v8, v4, v8, v4, ?_⟩⟩⟩
      · rw [nI_leI (by omega) (by omega)] at z
        have em : min (wt (row j)) (acc (tw pr wt row) j (n, 0)).1 = (acc (tw pr wt row) j (n, 0)).1 := Nat.min_eq_right z
        rw [pk_mul, nI_add, pk_sub (Nat.le_refl _)]
        have q1 : acc (tw pr wt row) (j + 1) (n, 0) = ((acc (tw pr wt row) j (n, 0)).1 - min (wt (row j)) (acc (tw pr wt row) j (n, 0)).1, (acc (tw pr wt row) j (n, 0)).2 + min (wt (row j)) (acc (tw pr wt row) j (n, 0)).1 * pr (row j)) := rfl
        rw [q1, em] at q
        exact q
      · rw [nI_leI (by omega) (by omega)] at z
        have em : min (wt (row j)) (acc (tw pr wt row) j (n, 0)).1 = wt (row j) := Nat.min_eq_left (by omega)
        rw [pk_mul, nI_add, pk_sub (by omega)]
        have q1 : acc (tw pr wt row) (j + 1) (n, 0) = ((acc (tw pr wt row) j (n, 0)).1 - min (wt (row j)) (acc (tw pr wt row) j (n, 0)).1, (acc (tw pr wt row) j (n, 0)).2 + min (wt (row j)) (acc (tw pr wt row) j (n, 0)).1 * pr (row j)) := rfl
        rw [q1, em] at q
        exact q
  exact wX10_tries (lp W 0 (by omega))
theorem p4W (hW : W ≤ 8) : 4 ^ W ≤ 65536 := Nat.pow_le_pow_right (n := 4) (by decide) hW
theorem lp_c43 {h0 : HS} (hW : W ≤ 8) (hn : n ≤ 200) (hp : ∀ l, l ≤ 3 → pr l ≤ 999) (hwt : ∀ l, l ≤ 3 → wt l ≤ 99) (p22 : ∀ l, l ≤ 3 → gI h0 22 0 l = nI (pr l)) (p23 : ∀ l, l ≤ 3 → gI h0 23 0 l = nI (wt l)) : ∀ (f : Nat) (row : Nat → Nat) (b : BB) (x : HS) (k : Nat), (∀ v, v < W → row v ≤ 3) → Eqo FBc h0 x → rowC 24 W row x → bstC W b x → bOK b → k ≤ mu row W → 4 ^ W ≤ mu row W + f + 1 → (∀ y, Eqo FBc h0 y → bstC W (bRun pr wt W n f row b) y → P none y) → V true mX0_seek (d + 7) bc bs 43 [(0, aR 21 0), (1, aI (nI n)), (4, aI (nI W)), (5, aI 1), (6, aI (nI k))] [] x P := by
  have p4 := p4W hW
  intro f
  induction f with
  | zero =>
    intro row b x k hr e r24 bb ok hk hf kk
    have ml := mu_lt W hr
    refine wX0_seek_43 ⟨fun z => absurd (show nI 65536 ≤ nI k from z) (nI_ge (by omega) (by decide)), fun _ => ⟨fun z => absurd z (by decide), fun _ => cTry (d := d + 2) hW hn hp hwt hr e p22 p23 r24 bb ok (fun y ey ry by_ => ⟨rfl, cStep (d := d + 2) hW hr ry (fun _ => ⟨_, rfl, ?_⟩) (fun w ew => absurd (mu_lt W (stR_le (nxW_some W ew).2 hr)) ?_)⟩)⟩⟩
    · exact wX0_seek_43 ⟨fun _ => kk y ey by_, fun _ => ⟨fun _ => kk y ey by_, fun z => absurd rfl z⟩⟩
    · have := mu_st W (nxW_some W ew).1 hr
      omega
  | succ f ih =>
    intro row b x k hr e r24 bb ok hk hf kk
    have ml := mu_lt W hr
    unfold bRun at kk
    refine wX0_seek_43 ⟨fun z => absurd (show nI 65536 ≤ nI k from z) (nI_ge (by omega) (by decide)), fun _ => ⟨fun z => absurd z (by decide), fun _ => cTry (d := d + 2) hW hn hp hwt hr e p22 p23 r24 bb ok (fun y ey ry by_ => ⟨rfl, cStep (d := d + 2) hW hr ry (fun ew => ⟨_, rfl, ?_⟩) (fun w ew => ⟨_, rfl, ?_⟩)⟩)⟩⟩
    · rw [ew] at kk
      exact wX0_seek_43 ⟨fun _ => kk y ey by_, fun _ => ⟨fun _ => kk y ey by_, fun z => absurd rfl z⟩⟩
    · rw [ew] at kk
      rw [nI_1]
      obtain ⟨w1, w2⟩ := nxW_some W ew
      have ms := mu_st W w1 hr
      have q : Eqo (fun c k => c == 21 || c == 25) y (acc (fl 24 w (nI (row w + 1))) (W - w) y) := Eqo.acc (fl_E (fun _ => rfl))
      exact ih (stR row w) _ _ (k + 1) (stR_le w2 hr) (ey.tr (Eqo.acc (fl_E (fun _ => rfl)))) (row_fl w1 ry) (by_.keep q) (tB_ok hp hn hr ok) (by omega) (by omega) kk
theorem lp_m63 {h0 : HS} {what : Int32} (hW : W ≤ 8) (hn : n ≤ 200) (hp : ∀ l, l ≤ 3 → pr l ≤ 999) (hwt : ∀ l, l ≤ 3 → wt l ≤ 99) (p22 : ∀ l, l ≤ 3 → gI h0 54 0 l = nI (pr l)) (p23 : ∀ l, l ≤ 3 → gI h0 55 0 l = nI (wt l)) : ∀ (f : Nat) (row : Nat → Nat) (b : BB) (x : HS), (∀ v, v < W → row v ≤ 3) → Eqo FBm h0 x → rowC 56 W row x → bstM W b x → bOK b → 4 ^ W ≤ mu row W + f + 1 → (∀ y, Eqo FBm h0 y → bstM W (bRun pr wt W n f row b) y → V true mX10_best (d + 7) bc bs 63 [(0, aR 26 0), (1, aI (nI n)), (2, aI (nI W)), (4, aI what), (5, aI 0)] [] y P) → V true mX10_best (d + 7) bc bs 63 [(0, aR 26 0), (1, aI (nI n)), (2, aI (nI W)), (4, aI what), (5, aI 1)] [] x P := by
  intro f
  induction f with
  | zero =>
    intro row b x hr e r24 bb ok hf kk
    have ml := mu_lt W hr
    refine wX10_best_63 ⟨fun z => absurd z (by decide), fun _ => mTry (d := d + 2) hW hn hp hwt hr e p22 p23 r24 bb ok (fun y ey ry by_ => ⟨rfl, mStep (d := d + 2) hW hr ry (fun _ => ⟨_, rfl, kk y ey by_⟩) (fun w ew => absurd (mu_lt W (stR_le (nxW_some W ew).2 hr)) ?_)⟩)⟩
    have := mu_st W (nxW_some W ew).1 hr
    omega
  | succ f ih =>
    intro row b x hr e r24 bb ok hf kk
    have ml := mu_lt W hr
    unfold bRun at kk
    refine wX10_best_63 ⟨fun z => absurd z (by decide), fun _ => mTry (d := d + 2) hW hn hp hwt hr e p22 p23 r24 bb ok (fun y ey ry by_ => ⟨rfl, mStep (d := d + 2) hW hr ry (fun ew => ⟨_, rfl, ?_⟩) (fun w ew => ⟨_, rfl, ?_⟩)⟩)⟩
    · rw [ew] at kk
      exact kk y ey by_
    · rw [ew] at kk
      obtain ⟨w1, w2⟩ := nxW_some W ew
      have ms := mu_st W w1 hr
      have q : Eqo (fun c k => c == 26 || c == 57) y (acc (fl 56 w (nI (row w + 1))) (W - w) y) := Eqo.acc (fl_E (fun _ => rfl))
      exact ih (stR row w) _ _ (stR_le w2 hr) (ey.tr (Eqo.acc (fl_E (fun _ => rfl)))) (row_fl w1 ry) (by_.keep q) (tB_ok hp hn hr ok) (by omega) kk
theorem lp_c16 {l : Int32} (hW : W ≤ 8) (k : V true mX0_seek (d + 3) bc bs 43 [(0, aR 21 0), (1, aI (nI n)), (4, aI (nI W)), (5, aI 1), (6, aI 0)] [] (acc (fl 24 0 l) W h) P) : ∀ m j, j + m = W → V true mX0_seek (d + 3) bc bs 16 [(0, aR 21 0), (1, aI (nI n)), (3, aI l), (4, aI (nI W)), (5, aI (nI j))] [] (acc (fl 24 0 l) j h) P := by
  intro m
  induction m with
  | zero =>
    intro j hj
    obtain rfl : j = W := by omega
    exact wX0_seek_16 ⟨fun _ => k, fun z => absurd (nI_le (Nat.le_refl _) (by omega)) z⟩
  | succ m ih =>
    intro j hj
    refine wX0_seek_16 ⟨fun z => absurd z (nI_ge (by omega) (by omega)), fun _ => ⟨vp_in_nI (by omega) (by decide), ?_⟩⟩
    have q := ih (j + 1) (by omega)
    rw [nI_clamp (by omega), nI_1]
    have e : acc (fl 24 0 l) (j + 1) h = sI (acc (fl 24 0 l) j h) 24 0 j l := by
      show sI (acc (fl 24 0 l) j h) 24 0 (0 + j) l = _
      rw [Nat.zero_add]
    rw [e] at q
    exact q
theorem lp_m40 {l what : Int32} (hW : W ≤ 8) (k : V true mX10_best (d + 3) bc bs 63 [(0, aR 26 0), (1, aI (nI n)), (2, aI (nI W)), (4, aI what), (5, aI 1)] [] (acc (fl 56 0 l) W h) P) : ∀ m j, j + m = W → V true mX10_best (d + 3) bc bs 40 [(0, aR 26 0), (1, aI (nI n)), (2, aI (nI W)), (3, aI l), (4, aI what), (5, aI (nI j))] [] (acc (fl 56 0 l) j h) P := by
  intro m
  induction m with
  | zero =>
    intro j hj
    obtain rfl : j = W := by omega
    exact wX10_best_40 ⟨fun _ => k, fun z => absurd (nI_le (Nat.le_refl _) (by omega)) z⟩
  | succ m ih =>
    intro j hj
    refine wX10_best_40 ⟨fun z => absurd z (nI_ge (by omega) (by omega)), fun _ => ⟨vp_in_nI (by omega) (by decide), ?_⟩⟩
    have q := ih (j + 1) (by omega)
    rw [nI_clamp (by omega), nI_1]
    have e : acc (fl 56 0 l) (j + 1) h = sI (acc (fl 56 0 l) j h) 56 0 j l := by
      show sI (acc (fl 56 0 l) j h) 56 0 (0 + j) l = _
      rw [Nat.zero_add]
    rw [e] at q
    exact q
end BF

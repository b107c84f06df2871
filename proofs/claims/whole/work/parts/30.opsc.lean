-- ===== van =====
def fu (f : Nat → Int32) (k : Nat) (v : Int32) : Nat → Int32 := fun j => if j = k then v else f j
theorem fu_s {f : Nat → Int32} {k : Nat} {v : Int32} : fu f k v k = v := if_pos rfl
theorem fu_n {f : Nat → Int32} {k j : Nat} {v : Int32} (h : j ≠ k) : fu f k v j = f j := if_neg h
/-- asked, rounds of the slips, houses, how many, room left -/
abbrev VS : Type := (Nat → Int32) × (Nat → Int32) × (Nat → Int32) × Nat × Int32
abbrev vPar (hs bk rnd : Nat → Int32) (j : Nat) : Prop := ¬ hs j = -1 ∧ rnd j = -1 ∧ bk j = -1
def vSum (hs bk pc rnd : Nat → Int32) (hh : Int32) (ns : Nat) (a : Int32) : Int32 := acc (fun j s => if hs j = hh ∧ vPar hs bk rnd j then s + pc j else s) ns a
def vSt (hs bk pc : Nat → Int32) (rd : Int32) (ns i : Nat) (S : VS) : VS :=
  if vPar hs bk S.2.1 i then (if S.1 (hs i).toNatClampNeg = 0 then (if S.2.2.2.2 < vSum hs bk pc S.2.1 (hs i) ns 0 then (fu S.1 (hs i).toNatClampNeg 1, S.2) else (fu S.1 (hs i).toNatClampNeg 1, fun j => if j < ns ∧ hs j = hs i ∧ vPar hs bk S.2.1 j then rd else S.2.1 j, fu S.2.2.1 S.2.2.2.1 (hs i), S.2.2.2.1 + 1, S.2.2.2.2 - vSum hs bk pc S.2.1 (hs i) ns 0)) else S) else S
def vRun (hs bk pc : Nat → Int32) (rd : Int32) (ns : Nat) : Nat → Nat → VS → VS
  | 0, _, S => S
  | m + 1, i, S => vRun hs bk pc rd ns m (i + 1) (vSt hs bk pc rd ns i S)
def vCnt (f : Nat → Int32) : Nat → Nat
  | 0 => 0
  | n + 1 => vCnt f n + (if f n = 0 then 0 else 1)
theorem vCnt_le {f : Nat → Int32} : ∀ n, vCnt f n ≤ n
  | 0 => Nat.le_refl _
  | n + 1 => by
    have := vCnt_le (f := f) n
    show vCnt f n + (if f n = 0 then 0 else 1) ≤ n + 1
    split <;> omega
theorem vCnt_cg {f g : Nat → Int32} : ∀ n, (∀ j, j < n → f j = g j) → vCnt f n = vCnt g n
  | 0, _ => rfl
  | n + 1, h => by
    show vCnt f n + (if f n = 0 then 0 else 1) = vCnt g n + (if g n = 0 then 0 else 1)
    rw [vCnt_cg n (fun j hj => h j (by omega)), h n (by omega)]
theorem vCnt_fu {f : Nat → Int32} {k : Nat} (h0 : f k = 0) : ∀ n, k < n → vCnt (fu f k 1) n = vCnt f n + 1
  | 0, h => by omega
  | n + 1, h => by
    show vCnt (fu f k 1) n + (if fu f k 1 n = 0 then 0 else 1) = vCnt f n + (if f n = 0 then 0 else 1) + 1
    by_cases e : k = n
    · subst e
      rw [vCnt_cg k (g := f) (fun j hj => fu_n (by omega)), fu_s, h0, if_neg (by decide), if_pos rfl]
    · rw [vCnt_fu h0 n (by omega), fu_n (by omega)]
      omega
def Vok (S : VS) : Prop := S.2.2.2.1 ≤ vCnt S.1 20
def hsOK (hs : Nat → Int32) (ns : Nat) : Prop := ∀ i, i < ns → hs i = -1 ∨ ∃ n, n < 20 ∧ hs i = nI n
theorem vSt_ok {hs bk pc : Nat → Int32} {rd : Int32} {ns i : Nat} {S : VS} (hh : hsOK hs ns) (hi : i < ns) (ok : Vok S) : Vok (vSt hs bk pc rd ns i S) := by
  unfold vSt
  split
  · next z =>
    split
    · next z2 =>
      rcases hh i hi with q | ⟨n, hn, q⟩
      · exact absurd q z.1
      · rw [q, nI_clamp (by omega)] at z2
        have e := vCnt_fu z2 20 hn
        unfold Vok at ok
        split
        · show S.2.2.2.1 ≤ vCnt (fu S.1 (hs i).toNatClampNeg 1) 20
          rw [q, nI_clamp (by omega), e]; omega
        · show S.2.2.2.1 + 1 ≤ vCnt (fu S.1 (hs i).toNatClampNeg 1) 20
          rw [q, nI_clamp (by omega), e]; omega
    · exact ok
  · exact ok
theorem vRun_ok {hs bk pc : Nat → Int32} {rd : Int32} {ns : Nat} (hh : hsOK hs ns) : ∀ m i S, i + m = ns → Vok S → Vok (vRun hs bk pc rd ns m i S)
  | 0, _, _, _, ok => ok
  | m + 1, i, S, e, ok => vRun_ok hh m (i + 1) _ (by omega) (vSt_ok hh (by omega) ok)
theorem acc_sh {f : Nat → Prop} {pc : Nat → Int32} (df : ∀ j, Decidable (f j)) : ∀ (n : Nat) (a : Int32), acc (fun j s => if f j then s + pc j else s) n a = a + acc (fun j s => if f j then s + pc j else s) n 0
  | 0, a => (Int32.add_zero a).symm
  | n + 1, a => by
    show (if f n then acc (fun j s => if f j then s + pc j else s) n a + pc n else acc (fun j s => if f j then s + pc j else s) n a) = a + (if f n then acc (fun j s => if f j then s + pc j else s) n 0 + pc n else acc (fun j s => if f j then s + pc j else s) n 0)
    rw [acc_sh df n a]
    split
    · rw [Int32.add_assoc]
    · rfl
-- the class
def FVc (c k : Nat) : Bool := match c with
  | 62 => k != 11
  | 5 => false
  | 4 => false
  | 3 => k != 2
  | _ => true
def FVm (c k : Nat) : Bool := match c with
  | 42 => false
  | 45 => false
  | 44 => false
  | 26 => k != 21
  | _ => true
def RC (h0 : HS) (ns : Nat) (S : VS) (x : HS) : Prop := Eqo FVc h0 x ∧ (∀ j, j < ns → gI x 62 j 11 = S.2.1 j) ∧ (∀ n, n < 20 → gI x 5 0 n = S.1 n) ∧ gI x 3 0 2 = nI S.2.2.2.1 ∧ (∀ n, n < S.2.2.2.1 → gI x 4 0 n = S.2.2.1 n)
def RM (h0 : HS) (ns : Nat) (S : VS) (x : HS) : Prop := Eqo FVm h0 x ∧ (∀ j, j < ns → gI x 42 0 j = S.2.1 j) ∧ (∀ n, n < 20 → gI x 45 0 n = S.1 n) ∧ gI x 26 0 21 = nI S.2.2.2.1 ∧ (∀ n, n < S.2.2.2.1 → gI x 44 0 n = S.2.2.1 n)
theorem RC.ask {h0 : HS} {ns n : Nat} {S : VS} {x : HS} (r : RC h0 ns S x) : RC h0 ns (fu S.1 n 1, S.2) (sI x 5 0 n 1) := by
  obtain ⟨r1, r2, r3, r4, r5⟩ := r
  refine ⟨r1.sI rfl, r2, fun m hm => ?_, r4, r5⟩
  rw [gI_sI]
  by_cases e : m = n
  · rw [if_pos ⟨rfl, e, rfl⟩, e]; exact fu_s.symm
  · rw [if_neg (fun z => e z.2.1), r3 m hm]; exact (fu_n e).symm
theorem RM.ask {h0 : HS} {ns n : Nat} {S : VS} {x : HS} (r : RM h0 ns S x) : RM h0 ns (fu S.1 n 1, S.2) (sI x 45 0 n 1) := by
  obtain ⟨r1, r2, r3, r4, r5⟩ := r
  refine ⟨r1.sI rfl, r2, fun m hm => ?_, r4, r5⟩
  rw [gI_sI]
  by_cases e : m = n
  · rw [if_pos ⟨rfl, e, rfl⟩, e]; exact fu_s.symm
  · rw [if_neg (fun z => e z.2.1), r3 m hm]; exact (fu_n e).symm
def tkC (hh rd : Int32) (j : Nat) (y : HS) : HS := if gI y 62 j 5 = hh ∧ cPar y j then sI y 62 j 11 rd else y
theorem tkC_eq (hh rd : Int32) (j : Nat) (y : HS) : tkC hh rd j y = if gI y 62 j 5 = hh ∧ cPar y j then sI y 62 j 11 rd else y := rfl
def tkM (hh rd : Int32) (j : Nat) (y : HS) : HS := if gI y 37 0 j = hh ∧ mPar y j then sI y 42 0 j rd else y
theorem tkM_eq (hh rd : Int32) (j : Nat) (y : HS) : tkM hh rd j y = if gI y 37 0 j = hh ∧ mPar y j then sI y 42 0 j rd else y := rfl
theorem tkC_E {F : Nat → Nat → Bool} (hF : F 62 11 = false) {hh rd : Int32} {x : HS} : ∀ i y, Eqo F x y → Eqo F x (tkC hh rd i y) := fun i y e => by
  rw [tkC_eq]
  split
  · exact e.sI hF
  · exact e
theorem tkM_E {F : Nat → Nat → Bool} (hF : ∀ k, F 42 k = false) {hh rd : Int32} {x : HS} : ∀ i y, Eqo F x y → Eqo F x (tkM hh rd i y) := fun i y e => by
  rw [tkM_eq]
  split
  · exact e.sI (hF _)
  · exact e
theorem tkC_at {hh rd : Int32} {h : HS} : ∀ n i, gI (acc (tkC hh rd) n h) 62 i 11 = if i < n ∧ gI h 62 i 5 = hh ∧ cPar h i then rd else gI h 62 i 11
  | 0, i => by rw [if_neg (by omega)]; rfl
  | n + 1, i => by
    show gI (tkC hh rd n (acc (tkC hh rd) n h)) 62 i 11 = _
    have eq : Eqo FVc h (acc (tkC hh rd) n h) := Eqo.acc (tkC_E rfl)
    by_cases e : i = n
    · subst e
      have g11 : gI (acc (tkC hh rd) i h) 62 i 11 = gI h 62 i 11 := by rw [tkC_at i i, if_neg (by omega)]
      rw [tkC_eq]
      unfold cPar
      rw [(eq.1 62 i 5 rfl).1, (eq.1 62 i 10 rfl).1, g11]
      by_cases e2 : gI h 62 i 5 = hh ∧ ¬ gI h 62 i 5 = -1 ∧ gI h 62 i 11 = -1 ∧ gI h 62 i 10 = -1
      · rw [if_pos e2, if_pos ⟨by omega, e2⟩, gI_same]
      · rw [if_neg e2, if_neg (fun z => e2 z.2)]
        exact g11
    · have e3 : gI (tkC hh rd n (acc (tkC hh rd) n h)) 62 i 11 = gI (acc (tkC hh rd) n h) 62 i 11 := by
        rw [tkC_eq]
        split
        · rw [gI_sI, if_neg (fun z => e z.2.2)]
        · rfl
      rw [e3, tkC_at n i]
      by_cases e2 : i < n ∧ gI h 62 i 5 = hh ∧ cPar h i
      · rw [if_pos e2, if_pos ⟨by omega, e2.2⟩]
      · rw [if_neg e2, if_neg (fun z => e2 ⟨by omega, z.2⟩)]
theorem tkM_at {hh rd : Int32} {h : HS} : ∀ n i, gI (acc (tkM hh rd) n h) 42 0 i = if i < n ∧ gI h 37 0 i = hh ∧ mPar h i then rd else gI h 42 0 i
  | 0, i => by rw [if_neg (by omega)]; rfl
  | n + 1, i => by
    show gI (tkM hh rd n (acc (tkM hh rd) n h)) 42 0 i = _
    have eq : Eqo FVm h (acc (tkM hh rd) n h) := Eqo.acc (tkM_E (fun _ => rfl))
    by_cases e : i = n
    · subst e
      have g11 : gI (acc (tkM hh rd) i h) 42 0 i = gI h 42 0 i := by rw [tkM_at i i, if_neg (by omega)]
      rw [tkM_eq]
      unfold mPar
      rw [(eq.1 37 0 i rfl).1, (eq.1 41 0 i rfl).1, g11]
      by_cases e2 : gI h 37 0 i = hh ∧ ¬ gI h 37 0 i = -1 ∧ gI h 42 0 i = -1 ∧ gI h 41 0 i = -1
      · rw [if_pos e2, if_pos ⟨by omega, e2⟩, gI_same]
      · rw [if_neg e2, if_neg (fun z => e2 z.2)]
        exact g11
    · have e3 : gI (tkM hh rd n (acc (tkM hh rd) n h)) 42 0 i = gI (acc (tkM hh rd) n h) 42 0 i := by
        rw [tkM_eq]
        split
        · rw [gI_sI, if_neg (fun z => e z.2.1)]
        · rfl
      rw [e3, tkM_at n i]
      by_cases e2 : i < n ∧ gI h 37 0 i = hh ∧ mPar h i
      · rw [if_pos e2, if_pos ⟨by omega, e2.2⟩]
      · rw [if_neg e2, if_neg (fun z => e2 ⟨by omega, z.2⟩)]
section OPC
variable {h : HS} {P : Option AV → HS → Prop} {d bc bs : Nat}
theorem lp_cPf {ns : Nat} {hh : Int32} (hL : LsL h 2 64 62 ns) (hn : ns ≤ 120) (k : P (some (aI (acc (fun j s => if gI h 62 j 5 = hh ∧ cPar h j then s + gI h 62 j 4 else s) ns 0))) h) : ∀ m j, j + m = ns → V true mX8_piecesFor (d + 8) bc bs 5 [(1, aR 2 0), (2, aI hh), (3, aI (acc (fun j s => if gI h 62 j 5 = hh ∧ cPar h j then s + gI h 62 j 4 else s) j 0)), (4, aI (nI j))] [] h P := by
  intro m
  induction m with
  | zero =>
    intro j hj
    obtain rfl : j = ns := by omega
    exact wX8_piecesFor_5 ⟨fun _ => k, fun z => absurd (by rw [hL.1]; exact nI_le (Nat.le_refl _) (by omega)) z⟩
  | succ m ih =>
    intro j hj
    have q := ih (j + 1) (by omega)
    refine wX8_piecesFor_5 ⟨fun z => absurd z (by rw [hL.1]; exact nI_ge (by omega) (by omega)), fun _ => cGet_2 hL (by omega) ⟨_, rfl, ⟨fun z => ?_, fun z => ⟨fun z2 => ?_, fun z2 => ?_⟩⟩⟩⟩
    · rw [show acc (fun j s => if gI h 62 j 5 = hh ∧ cPar h j then s + gI h 62 j 4 else s) (j + 1) (0 : Int32) = acc (fun j s => if gI h 62 j 5 = hh ∧ cPar h j then s + gI h 62 j 4 else s) j 0 from if_neg (fun y => z y.1)] at q
      rw [nI_1]
      exact q
    · rw [show acc (fun j s => if gI h 62 j 5 = hh ∧ cPar h j then s + gI h 62 j 4 else s) (j + 1) (0 : Int32) = acc (fun j s => if gI h 62 j 5 = hh ∧ cPar h j then s + gI h 62 j 4 else s) j 0 from if_neg (fun y => z2 y.2)] at q
      rw [nI_1]
      exact q
    · rw [show acc (fun j s => if gI h 62 j 5 = hh ∧ cPar h j then s + gI h 62 j 4 else s) (j + 1) (0 : Int32) = acc (fun j s => if gI h 62 j 5 = hh ∧ cPar h j then s + gI h 62 j 4 else s) j 0 + gI h 62 j 4 from if_pos ⟨z, z2⟩] at q
      rw [nI_1]
      exact q
theorem lp_cTk {ns : Nat} {hh rd : Int32} (hL : LsL h 2 64 62 ns) (hn : ns ≤ 120) (k : P none (acc (tkC hh rd) ns h)) : ∀ m j, j + m = ns → V true mX8_take (d + 8) bc bs 32 [(1, aR 2 0), (2, aI hh), (3, aI rd), (4, aI (nI j))] [] (acc (tkC hh rd) j h) P := by
  have eq : ∀ j, Eqo FVc h (acc (tkC hh rd) j h) := fun j => Eqo.acc (tkC_E rfl)
  have L : ∀ j, LsL (acc (tkC hh rd) j h) 2 64 62 ns := fun j => hL.keep (fun i k => (eq j).1 2 i k rfl) (fun i k => ((eq j).1 64 i k rfl).2) (fun m => by rw [(eq j).2])
  intro m
  induction m with
  | zero =>
    intro j hj
    obtain rfl : j = ns := by omega
    exact wX8_take_32 ⟨fun _ => k, fun z => absurd (by rw [(L j).1]; exact nI_le (Nat.le_refl _) (by omega)) z⟩
  | succ m ih =>
    intro j hj
    have q := ih (j + 1) (by omega)
    have q : V true mX8_take (d + 8) bc bs 32 [(1, aR 2 0), (2, aI hh), (3, aI rd), (4, aI (nI (j + 1)))] [] (tkC hh rd j (acc (tkC hh rd) j h)) P := q
    rw [tkC_eq] at q
    refine wX8_take_32 ⟨fun z => absurd z (by rw [(L j).1]; exact nI_ge (by omega) (by omega)), fun _ => cGet_2 (L j) (by omega) ⟨_, rfl, ⟨fun z => ?_, fun z => ⟨fun z2 => ?_, fun z2 => ?_⟩⟩⟩⟩
    · rw [if_neg (fun y => z y.1)] at q
      rw [nI_1]
      exact q
    · rw [if_neg (fun y => z2 y.2)] at q
      rw [nI_1]
      exact q
    · rw [if_pos ⟨z, z2⟩] at q
      rw [nI_1]
      exact q
theorem cPar_v {h0 x : HS} {ns j : Nat} {S : VS} {hs bk : Nat → Int32} (r : RC h0 ns S x) (d5 : ∀ j, j < ns → gI h0 62 j 5 = hs j) (d10 : ∀ j, j < ns → gI h0 62 j 10 = bk j) (hj : j < ns) : cPar x j ↔ vPar hs bk S.2.1 j := by
  unfold cPar vPar
  rw [(r.1.1 62 j 5 rfl).1, (r.1.1 62 j 10 rfl).1, r.2.1 j hj, d5 j hj, d10 j hj]
theorem mPar_v {h0 x : HS} {ns j : Nat} {S : VS} {hs bk : Nat → Int32} (r : RM h0 ns S x) (d5 : ∀ j, j < ns → gI h0 37 0 j = hs j) (d10 : ∀ j, j < ns → gI h0 41 0 j = bk j) (hj : j < ns) : mPar x j ↔ vPar hs bk S.2.1 j := by
  unfold mPar vPar
  rw [(r.1.1 37 0 j rfl).1, (r.1.1 41 0 j rfl).1, r.2.1 j hj, d5 j hj, d10 j hj]
theorem lp_cV {h0 : HS} {ns : Nat} {hs bk pc : Nat → Int32} {room rd : Int32} (hn : ns ≤ 120) (hL : LsL h0 2 64 62 ns) (hh : hsOK hs ns) (d5 : ∀ j, j < ns → gI h0 62 j 5 = hs j) (d10 : ∀ j, j < ns → gI h0 62 j 10 = bk j) (d4 : ∀ j, j < ns → gI h0 62 j 4 = pc j) : ∀ m i S x, i + m = ns → RC h0 ns S x → Vok S → (∀ y, RC h0 ns (vRun hs bk pc rd ns m i S) y → P (some (aI (room - (vRun hs bk pc rd ns m i S).2.2.2.2))) y) → V true mX8_goRound (d + 11) bc bs 55 [(0, aR 3 0), (1, aR 2 0), (2, aI room), (4, aI rd), (5, aI S.2.2.2.2), (6, aI (nI i))] [] x P := by
  have L : ∀ {S x}, RC h0 ns S x → LsL x 2 64 62 ns := fun r => hL.keep (fun i k => r.1.1 2 i k rfl) (fun i k => (r.1.1 64 i k rfl).2) (fun m => by rw [r.1.2])
  intro m
  induction m with
  | zero =>
    intro i S x hi r ok kk
    obtain rfl : i = ns := by omega
    exact wX8_goRound_55 ⟨fun _ => kk x r, fun z => absurd (by rw [(L r).1]; exact nI_le (Nat.le_refl _) (by omega)) z⟩
  | succ m ih =>
    intro i S x hi r ok kk
    have hin : i < ns := by omega
    have kk' : ∀ S2, vSt hs bk pc rd ns i S = S2 → ∀ y, RC h0 ns (vRun hs bk pc rd ns m (i + 1) S2) y → P (some (aI (room - (vRun hs bk pc rd ns m (i + 1) S2).2.2.2.2))) y := fun S2 e => e ▸ kk
    have okn : ∀ S2, vSt hs bk pc rd ns i S = S2 → Vok S2 := fun S2 e => e ▸ vSt_ok hh hin ok
    have nx : ∀ S2 x2, vSt hs bk pc rd ns i S = S2 → RC h0 ns S2 x2 → V true mX8_goRound (d + 11) bc bs 55 [(0, aR 3 0), (1, aR 2 0), (2, aI room), (4, aI rd), (5, aI S2.2.2.2.2), (6, aI (nI i + 1))] [] x2 P := fun S2 x2 e r2 => by
      rw [nI_1]
      exact ih (i + 1) S2 x2 (by omega) r2 (okn S2 e) (kk' S2 e)
    refine wX8_goRound_55 ⟨fun z => absurd z (by rw [(L r).1]; exact nI_ge (by omega) (by omega)), fun _ => cGet_2 (L r) (by omega) ⟨_, rfl, ⟨fun z => ?_, fun z => ?_⟩⟩⟩
    · exact nx S x (by unfold vSt; rw [if_neg (fun y => z ((cPar_v r d5 d10 hin).mpr y))]) r
    · have zp := (cPar_v r d5 d10 hin).mp z
      have g5 : ∀ {S2 x2}, RC h0 ns S2 x2 → gI x2 62 i 5 = hs i := fun r2 => by rw [(r2.1.1 62 i 5 rfl).1, d5 i hin]
      rw [g5 r]
      rcases hh i hin with q | ⟨n, hn20, q⟩
      · exact absurd q zp.1
      have ecl : (hs i).toNatClampNeg = n := by rw [q]; exact nI_clamp (by omega)
      have vin20 : vp_in (hs i) 20 := by rw [q]; exact vp_in_nI hn20 (by decide)
      refine wX8_askOnce ⟨fun w => absurd w (by rw [q]; exact nI_pos (by omega)), fun _ => ⟨fun w => absurd w (by rw [q]; exact nI_ge (b := 20) hn20 (by decide)), fun _ => ⟨vin20, ⟨fun w => ⟨vin20, ⟨_, rfl, ⟨fun y => absurd y (by decide), fun _ => ?_⟩⟩⟩, fun w => ⟨_, rfl, ⟨fun _ => ?_, fun y => absurd rfl y⟩⟩⟩⟩⟩⟩
      · rw [ecl] at w ⊢
        rw [r.2.2.1 n hn20] at w
        have r1 := r.ask (n := n)
        rw [g5 r1]
        have esum : acc (fun j s => if gI (sI x 5 0 n 1) 62 j 5 = hs i ∧ cPar (sI x 5 0 n 1) j then s + gI (sI x 5 0 n 1) 62 j 4 else s) ns 0 = vSum hs bk pc S.2.1 (hs i) ns 0 := by
          unfold vSum
          refine acc_cg (fun j hj s => ?_)
          have e1 := cPar_v r1 d5 d10 hj
          have e2 : gI (sI x 5 0 n 1) 62 j 5 = hs j := by rw [(r1.1.1 62 j 5 rfl).1, d5 j hj]
          have e3 : gI (sI x 5 0 n 1) 62 j 4 = pc j := by rw [(r1.1.1 62 j 4 rfl).1, d4 j hj]
          by_cases e : hs j = hs i ∧ vPar hs bk S.2.1 j
          · rw [if_pos e, if_pos ⟨by rw [e2]; exact e.1, e1.mpr e.2⟩, e3]
          · rw [if_neg e, if_neg (fun y => e ⟨by rw [← e2]; exact y.1, e1.mp y.2⟩)]
        refine wX8_piecesFor (lp_cPf (d := d + 2) (L r1) hn ?_ ns 0 (by omega))
        rw [esum]
        refine ⟨_, rfl, ⟨fun y => ?_, fun y => ?_⟩⟩
        · exact nx (fu S.1 n 1, S.2) _ (by unfold vSt; rw [if_pos zp, ecl, if_pos w, if_pos y]) r1
        · rw [g5 r1]
          have hc20 : S.2.2.2.1 < 20 := by
            have e := vCnt_fu w 20 hn20
            have e2 := vCnt_le (f := fu S.1 n 1) 20
            unfold Vok at ok
            omega
          have h3 : gI (sI x 5 0 n 1) 3 0 2 = nI S.2.2.2.1 := r1.2.2.2.1
          refine wX8_take ⟨fun w2 => absurd w2 (by rw [h3]; exact nI_ge (b := 20) hc20 (by decide)), fun _ => ⟨by rw [h3]; exact vp_in_nI hc20 (by decide), ?_⟩⟩
          rw [h3, nI_clamp (by omega), nI_1]
          obtain ⟨y0, ey⟩ : ∃ y0, y0 = sI (sI (sI x 5 0 n 1) 4 0 S.2.2.2.1 (hs i)) 3 0 2 (nI (S.2.2.2.1 + 1)) := ⟨_, rfl⟩
          rw [← ey]
          have ry : RC h0 ns (fu S.1 n 1, S.2.1, fu S.2.2.1 S.2.2.2.1 (hs i), S.2.2.2.1 + 1, S.2.2.2.2 - vSum hs bk pc S.2.1 (hs i) ns 0) y0 := by
            obtain ⟨p1, p2, p3, p4, p5⟩ := r1
            rw [ey]
            refine ⟨(p1.sI rfl).sI rfl, p2, p3, gI_same, fun k hk => ?_⟩
            rw [gI_sI, if_neg (by omega), gI_sI]
            by_cases e : k = S.2.2.2.1
            · rw [if_pos ⟨rfl, e, rfl⟩, e]; exact fu_s.symm
            · rw [if_neg (fun w => e w.2.1)]
              have hk' : k < S.2.2.2.1 + 1 := hk
              exact (p5 k (show k < S.2.2.2.1 by omega)).trans (fu_n e).symm
          refine lp_cTk (d := d + 2) (L ry) hn ⟨rfl, nx (fu S.1 n 1, (fun j => if j < ns ∧ hs j = hs i ∧ vPar hs bk S.2.1 j then rd else S.2.1 j), fu S.2.2.1 S.2.2.2.1 (hs i), S.2.2.2.1 + 1, S.2.2.2.2 - vSum hs bk pc S.2.1 (hs i) ns 0) _ (by unfold vSt; rw [if_pos zp, ecl, if_pos w, if_neg y]) ?_⟩ ns 0 (by omega)
          have eq : ∀ {F : Nat → Nat → Bool}, F 62 11 = false → Eqo F y0 (acc (tkC (hs i) rd) ns y0) := fun q => Eqo.acc (tkC_E q)
          have x3 : Eqo (fun c _ => c == 3 || c == 4 || c == 5) y0 (acc (tkC (hs i) rd) ns y0) := eq rfl
          obtain ⟨p1, p2, p3, p4, p5⟩ := id ry
          refine ⟨p1.tr (eq rfl), fun j hj => ?_, fun k hk => by rw [(x3.1 5 0 k rfl).1]; exact p3 k hk, by rw [(x3.1 3 0 2 rfl).1]; exact p4, fun k hk => by rw [(x3.1 4 0 k rfl).1]; exact p5 k hk⟩
          have e5 : gI y0 62 j 5 = hs j := by rw [(ry.1.1 62 j 5 rfl).1, d5 j hj]
          have e1 := cPar_v ry d5 d10 hj
          rw [tkC_at]
          show _ = if j < ns ∧ hs j = hs i ∧ vPar hs bk S.2.1 j then rd else S.2.1 j
          by_cases e : j < ns ∧ hs j = hs i ∧ vPar hs bk S.2.1 j
          · rw [if_pos e, if_pos ⟨e.1, by rw [e5]; exact e.2.1, e1.mpr e.2.2⟩]
          · rw [if_neg e, if_neg (fun w => e ⟨w.1, by rw [← e5]; exact w.2.1, e1.mp w.2.2⟩)]
            exact p2 j hj
      · rw [ecl, r.2.2.1 n hn20] at w
        exact nx S x (by unfold vSt; rw [if_pos zp, ecl, if_neg w]) r
end OPC

-- ===== pay: alike =====
theorem ex1_n {s : Nat × Nat} (e : s.1 = 258) : ex1 s = [s.2] := by
  unfold ex1
  rw [if_neg (by omega), if_pos e]
theorem ex1_d {s : Nat × Nat} (e : s.1 = 47) : ex1 s = [s.2, 1000013] := if_pos e
theorem ex1_w {s : Nat × Nat} (h1 : 262 ≤ s.1) (h2 : s.1 ≤ 265) : ex1 s = [1000001 + (s.1 - 262)] := by
  obtain ⟨a, b⟩ := s
  have : a = 262 ∨ a = 263 ∨ a = 264 ∨ a = 265 := by
    have h1' : 262 ≤ a := h1
    have h2' : a ≤ 265 := h2
    omega
  rcases this with rfl | rfl | rfl | rfl <;> simp [ex1]
theorem ex1_b {s : Nat × Nat} (e : s.1 = 43 ∨ s.1 = 45 ∨ s.1 = 42 ∨ s.1 = 60 ∨ s.1 = 61 ∨ s.1 = 62 ∨ s.1 = 261) : ∃ c, ex1 s = [c] ∧ 1000010 ≤ c ∧ c < 2000000 ∧ c ≠ 1000013 ∧ ∀ a b, bothF (nI c) a b = joinF (nI s.1) a b := by
  obtain ⟨k, b⟩ := s
  have e' : k = 43 ∨ k = 45 ∨ k = 42 ∨ k = 60 ∨ k = 61 ∨ k = 62 ∨ k = 261 := e
  rcases e' with rfl | rfl | rfl | rfl | rfl | rfl | rfl
  · exact ⟨1000010, rfl, by decide, by decide, by decide, fun a b => rfl⟩
  · exact ⟨1000011, rfl, by decide, by decide, by decide, fun a b => rfl⟩
  · exact ⟨1000012, rfl, by decide, by decide, by decide, fun a b => rfl⟩
  · exact ⟨1000014, rfl, by decide, by decide, by decide, fun a b => rfl⟩
  · exact ⟨1000015, rfl, by decide, by decide, by decide, fun a b => rfl⟩
  · exact ⟨1000016, rfl, by decide, by decide, by decide, fun a b => rfl⟩
  · exact ⟨1000017, rfl, by decide, by decide, by decide, fun a b => rfl⟩
theorem SgM.app {h : HS} {c p : Nat} {a b : List Nat} (q : SgM h c p (a ++ b)) : SgM h c p a ∧ SgM h c (p + a.length) b := by
  refine ⟨fun j s hs => q j s ?_, fun j s hs => ?_⟩
  · rw [List.getElem?_append_left (List.getElem?_eq_some_iff.mp hs).1]
    exact hs
  · have w := q (a.length + j) s (by rw [List.getElem?_append_right (by omega), Nat.add_sub_cancel_left]; exact hs)
    rw [Nat.add_assoc]
    exact w
theorem exs_c {s : Nat × Nat} {l : List (Nat × Nat)} : exs (s :: l) = ex1 s ++ exs l := List.flatMap_cons
section PM
variable {h : HS} {P : Option AV → HS → Prop} {d bc bs : Nat}
theorem mWork_lp {e : Nat} {T : T4} (he : e ≤ 500) (tk : tkMp T h) : ∀ (l : List (Nat × Nat)) (p : Nat) (st : List Int32) (x : HS), p + (exs l).length = e → SgM h 48 p (exs l) → (∀ s ∈ l, stOK s) → st.length ≤ 60 → hts 60 l st.length = some 1 → Eqo F52 h x → stk 52 0 st x → (∀ y v, Eqo F52 h y → ev T l st = [v] → P (some (aI v)) y) → V true mX10_worked (d + 3) bc bs 5 [(0, aR 26 0), (2, aI (nI e)), (3, aI (nI st.length)), (4, aI (nI p))] [] x P := by
  intro l
  induction l with
  | nil =>
    intro p st x hp _ _ _ hh ex sk k
    have hp' : p = e := hp
    subst hp'
    have hl : some st.length = some 1 := hh
    match st, hl, sk, k with
    | [v], _, sk, k =>
      refine wX10_worked_5 ⟨fun _ => ⟨vp_in_nI (n := 0) (by decide) (by decide), ?_⟩, fun z => absurd (nI_le (Nat.le_refl _) (by omega)) z⟩
      rw [show (0 : Int32).toNatClampNeg = 0 by decide, show gI x 52 0 0 = v from sk.1]
      exact k _ v ex rfl
  | cons s l ih =>
    intro p st x hp hS hok h60 hh ex sk k
    rw [exs_c, List.length_append] at hp
    rw [exs_c] at hS
    obtain ⟨hS1, hS2⟩ := hS.app
    have ok1 := hok s List.mem_cons_self
    have tx : tkMp T x := ⟨((ex.1 26 0 45 rfl).1).trans tk.1, ((ex.1 26 0 46 rfl).1).trans tk.2.1, ((ex.1 26 0 47 rfl).1).trans tk.2.2.1, ((ex.1 26 0 48 rfl).1).trans tk.2.2.2⟩
    have g48 : ∀ q, gI x 48 0 q = gI h 48 0 q := fun q => (ex.1 48 0 q rfl).1
    have nx : ∀ (n : Nat) (st2 : List Int32) (y : HS), n = (ex1 s).length → ev1 T s st = st2 → Eqo F52 h y → stk 52 0 st2 y → st2.length ≤ 60 → hts 60 l st2.length = some 1 → V true mX10_worked (d + 3) bc bs 5 [(0, aR 26 0), (2, aI (nI e)), (3, aI (nI st2.length)), (4, aI (nI (p + n)))] [] y P := fun n st2 y q0 q1 q2 q4 q5 q6 => by
      subst q0
      exact ih (p + (ex1 s).length) st2 y (by omega) hS2 (fun t ht => hok t (List.mem_cons_of_mem _ ht)) q5 q6 q2 q4 (fun y v w1 w2 => k y v w1 (by show ev T l (ev1 T s st) = _; rw [q1]; exact w2))
    rcases stOK_c ok1 with q | ⟨q1, q2⟩ | ⟨q, q0⟩ | ⟨q1, q2, q3⟩
    · obtain ⟨hl, hh2⟩ := hts_p (Or.inl q) hh
      have e1 := ex1_n q
      rw [e1] at hS1 hp nx
      have hp1 : p < e := by simp at hp; omega
      refine mw1 hp1 he (by omega) ((g48 p).trans (hS1 0 s.2 rfl)) ok1.1 ?_
      exact nx 1 (nI s.2 :: st) _ rfl (by unfold ev1; rw [if_pos (Or.inl q), if_pos q]) (ex.sI rfl) ⟨gI_same, stk_sI (Nat.le_refl _) sk⟩ (show st.length + 1 ≤ 60 by omega) hh2
    · obtain ⟨hl, hh2⟩ := hts_p (Or.inr q1) hh
      have e1 := ex1_w q1 q2
      rw [e1] at hS1 hp nx
      have hp1 : p < e := by simp at hp; omega
      refine mw2 tx hp1 he (by omega) q1 q2 ((g48 p).trans (hS1 0 _ rfl)) ?_
      exact nx 1 (wdF T s.1 :: st) _ rfl (by unfold ev1; rw [if_pos (Or.inr q1), if_neg (by omega)]) (ex.sI rfl) ⟨gI_same, stk_sI (Nat.le_refl _) sk⟩ (show st.length + 1 ≤ 60 by omega) hh2
    · obtain ⟨hl, hh2⟩ := hts_d q hh
      have e1 := ex1_d q
      rw [e1] at hS1 hp nx
      have hp1 : p + 1 < e := by simp at hp; omega
      match st, hl, hh2, h60, sk, nx with
      | a :: t, _, hh2, h60, sk, nx =>
        have h60' : t.length + 1 ≤ 60 := h60
        have n0 : ¬ nI s.2 = 0 := nI_ne0 (by omega) (by have := ok1.1; omega)
        refine mw1 (n := t.length + 1) (by omega) he (by omega) ((g48 p).trans (hS1 0 s.2 rfl)) ok1.1 ?_
        have ga : gI (sI x 52 0 (t.length + 1) (nI s.2)) 52 0 t.length = a := by
          rw [gI_sI, if_neg (by omega)]
          exact sk.1
        refine mw3 (n := t.length) (p := p + 1) (c := 1000013) hp1 he (by omega) ((g48 (p + 1)).trans (hS1 1 1000013 rfl)) (by decide) (by decide) (fun _ => by rw [gI_same]; exact n0) ?_
        rw [ga, gI_same, show bothF (nI 1000013) a (nI s.2) = a / nI s.2 from rfl]
        exact nx 2 (a / nI s.2 :: t) _ rfl (by unfold ev1; rw [if_neg (by omega), if_pos q]) ((ex.sI rfl).sI rfl) ⟨gI_same, stk_sI (Nat.le_refl _) (stk_sI (by omega) sk.2)⟩ h60' hh2
    · obtain ⟨hl, hh2⟩ := hts_b (by omega) q3 hh
      obtain ⟨c, e1, c1, c2, c3, c4⟩ := ex1_b (s := s) (by have := ok1.2; omega)
      rw [e1] at hS1 hp nx
      have hp1 : p < e := by simp at hp; omega
      match st, hl, hh2, h60, sk, nx with
      | b :: a :: t, _, hh2, h60, sk, nx =>
        have h60' : t.length + 1 + 1 ≤ 60 := h60
        refine mw3 (n := t.length) hp1 he (by omega) ((g48 p).trans (hS1 0 c rfl)) c1 c2 (fun z => absurd z c3) ?_
        rw [show gI x 52 0 t.length = a from sk.2.1, show gI x 52 0 (t.length + 1) = b from sk.1, c4]
        exact nx 1 (joinF (nI s.1) a b :: t) _ rfl (by unfold ev1; rw [if_neg (by omega), if_neg q3]) (ex.sI rfl) ⟨gI_same, stk_sI (Nat.le_refl _) sk.2.2⟩ (show t.length + 1 ≤ 60 by omega) hh2
theorem mWork {p : Nat} {l : List (Nat × Nat)} {T : T4} (tk : tkMp T h) (hS : SgM h 48 p (exs l)) (hok : ∀ s ∈ l, stOK s) (hp : p + (exs l).length ≤ 500) (hh : hts 60 l 0 = some 1) (k : ∀ y v, Eqo F52 h y → ev T l [] = [v] → P (some (aI v)) y) : Cl true mX10_worked (d + 3) bc bs [aR 26 0, aI (nI p), aI (nI (p + (exs l).length))] h P :=
  wX10_worked (mWork_lp hp tk l p [] h rfl hS hok (Nat.zero_le _) hh Eqo.rf trivial k)
end PM
/-- line k of the rule: what its condition and its pay are worth -/
def LnV (h : HS) (ρ k : Nat) (T : T4) (v u : Int32) : Prop := (v = 0 ∨ v = 1) ∧
  (∀ (d bc bs : Nat) (x : HS) (P : Option AV → HS → Prop), Eqo FR h x → tkCp T x → (∀ y, Eqo FWp x y → P (some (aI v)) y) → Cl true mX1_valueOf (d + 4) bc bs [aR 12 ρ, aI (gI x 16 ρ k), aI (gI x 17 ρ k), aR 20 0] x P) ∧
  (∀ (d bc bs : Nat) (x : HS) (P : Option AV → HS → Prop), Eqo FR h x → tkCp T x → (∀ y, Eqo FWp x y → P (some (aI u)) y) → Cl true mX1_valueOf (d + 4) bc bs [aR 12 ρ, aI (gI x 15 ρ k), aI (gI x 16 ρ k), aR 20 0] x P) ∧
  (∀ (d bc bs : Nat) (x : HS) (P : Option AV → HS → Prop), Eqo FR h x → tkMp T x → (∀ y, Eqo F52 x y → P (some (aI v)) y) → Cl true mX10_worked (d + 3) bc bs [aR 26 0, aI (gI x 47 0 k), aI (gI x 46 0 (k + 1))] x P) ∧
  (∀ (d bc bs : Nat) (x : HS) (P : Option AV → HS → Prop), Eqo FR h x → tkMp T x → (∀ y, Eqo F52 x y → P (some (aI u)) y) → Cl true mX10_worked (d + 3) bc bs [aR 26 0, aI (gI x 46 0 k), aI (gI x 47 0 k)] x P)
theorem SgC.keep {h x : HS} {ρ p : Nat} {l : List (Nat × Nat)} (e : Eqo FR h x) (q : SgC h ρ p l) : SgC x ρ p l := fun j s hs => by
  rw [(e.1 13 ρ _ rfl).1, (e.1 14 ρ _ rfl).1]
  exact q j s hs
theorem SgM.keep {h x : HS} {p : Nat} {l : List Nat} (e : Eqo FR h x) (q : SgM h 48 p l) : SgM x 48 p l := fun j s hs => by
  rw [(e.1 48 0 _ rfl).1]
  exact q j s hs
theorem cmp01 {c : Nat} (hc : c = 60 ∨ c = 61 ∨ c = 62) (a b : Int32) : joinF (nI c) a b = 0 ∨ joinF (nI c) a b = 1 := by
  rcases hc with rfl | rfl | rfl
  · exact bI_01 (p := a < b)
  · exact bI_01 (p := a = b)
  · exact bI_01 (p := b < a)
theorem and01 {x r : Int32} (hr : r = 0 ∨ r = 1) : x &&& r = 0 ∨ x &&& r = 1 := by
  rcases hr with rfl | rfl
  · exact Or.inl (by simp)
  · obtain ⟨j, hj, e⟩ := pk_andE x (m := 1) 1 (by decide)
    have : j = 0 ∨ j = 1 := by omega
    rcases this with rfl | rfl
    · exact Or.inl e
    · exact Or.inr e
theorem ev1_b {T : T4} {c : Nat × Nat} {st : List Int32} (hc : c.1 ≠ 258 ∧ c.1 < 262 ∧ c.1 ≠ 47) : ev1 T c st = [] ∨ ∃ b a t, st = b :: a :: t ∧ ev1 T c st = joinF (nI c.1) a b :: t := by
  unfold ev1
  rw [if_neg (by omega), if_neg hc.2.2]
  match st with
  | [] => exact Or.inl rfl
  | [_] => exact Or.inl rfl
  | b :: a :: t => exact Or.inr ⟨b, a, t, rfl, rfl⟩
theorem LnOK.v {h : HS} {ρ k : Nat} (q : LnOK h ρ k) (T : T4) : ∃ w : Int32 × Int32, LnV h ρ k T w.1 w.2 := by
  obtain ⟨pl, wl, p, mp, c1, c2, c3, c4, ⟨w0, c, hc, hw⟩, c6, c7, c8, c9, c10, c11, c12, c13, c14, c15, c16, c17⟩ := q
  have l1 : ∀ {l : List Int32}, l.length = 1 → ∃ v, l = [v] := fun {l} hl => by
    match l, hl with
    | [v], _ => exact ⟨v, rfl⟩
  obtain ⟨u, hu⟩ := l1 (hts_len (T := T) pl [] 1 c3)
  obtain ⟨v, hv⟩ := l1 (hts_len (T := T) wl [] 1 c4)
  have v01 : v = 0 ∨ v = 1 := by
    rcases hw with hw | ⟨a, ha, hw⟩
    · rw [hw, ev_app] at hv
      have hv' : ev1 T c (ev T w0 []) = [v] := hv
      rcases ev1_b (T := T) (c := c) (st := ev T w0 []) (by omega) with z | ⟨b, a, t, -, z⟩
      · rw [z] at hv'; cases hv'
      · rw [z] at hv'
        cases hv'
        exact cmp01 hc a b
    · rw [hw, ev_app] at hv
      have hv' : ev1 T a (ev1 T c (ev T w0 [])) = [v] := hv
      rcases ev1_b (T := T) (c := a) (st := ev1 T c (ev T w0 [])) (by omega) with z | ⟨b, a2, t, z1, z⟩
      · rw [z] at hv'; cases hv'
      · rw [z] at hv'
        cases hv'
        rcases ev1_b (T := T) (c := c) (st := ev T w0 []) (by omega) with y | ⟨b2, a3, t2, -, y⟩
        · rw [y] at z1; cases z1
        · rw [y] at z1
          cases z1
          rw [ha]
          exact and01 (cmp01 hc a3 b2)
  refine ⟨(v, u), v01, fun d bc bs x P e tk kk => ?_, fun d bc bs x P e tk kk => ?_, fun d bc bs x P e tk kk => ?_, fun d bc bs x P e tk kk => ?_⟩
  · rw [(e.1 16 ρ k rfl).1, (e.1 17 ρ k rfl).1, c13, c14]
    exact cVal tk (c9.keep e) c2 (by omega) c4 (fun y w ey ew => by rw [hv] at ew; cases ew; exact kk y ey)
  · rw [(e.1 15 ρ k rfl).1, (e.1 16 ρ k rfl).1, c12, c13]
    exact cVal tk (c8.keep e) c1 (by omega) c3 (fun y w ey ew => by rw [hu] at ew; cases ew; exact kk y ey)
  · rw [(e.1 47 0 k rfl).1, (e.1 46 0 (k + 1) rfl).1, c16, c17]
    exact mWork tk (c11.keep e) c2 (by omega) c4 (fun y w ey ew => by rw [hv] at ew; cases ew; exact kk y ey)
  · rw [(e.1 46 0 k rfl).1, (e.1 47 0 k rfl).1, c15, c16]
    exact mWork tk (c10.keep e) c1 (by omega) c3 (fun y w ey ew => by rw [hu] at ew; cases ew; exact kk y ey)
def FPw (c k : Nat) : Bool := decide (c ≠ 20 ∧ c ≠ 18 ∧ c ≠ 52 ∧ ¬ (c = 12 ∧ k = 8) ∧ ¬ (c = 26 ∧ 45 ≤ k ∧ k ≤ 48))
theorem FPw_20 (c k : Nat) (z : FPw c k = true) : F20 c k = true := by
  have q := of_decide_eq_true z
  unfold F20
  simp
  omega
theorem FPw_52 (c k : Nat) (z : FPw c k = true) : F52 c k = true := by
  have q := of_decide_eq_true z
  unfold F52
  simp
  omega
theorem FPw_W (c k : Nat) (z : FPw c k = true) : FWp c k = true := by
  have q := of_decide_eq_true z
  unfold FWp
  split <;> first | rfl | (simp; omega) | (exfalso; omega)
theorem FPw_45 (c k : Nat) (z : FPw c k = true) : F45 c k = true := by
  have q := of_decide_eq_true z
  unfold F45
  split <;> first | rfl | (simp; omega) | (exfalso; omega)
theorem FA_p (c k : Nat) (z : FA c k = true) : FPw c k = true := by
  unfold FA at z
  unfold FPw
  apply decide_eq_true
  split at z <;> simp at z <;> omega
theorem FV_p (c k : Nat) (z : FV c k = true) : FPw c k = true := by
  unfold FV at z
  unfold FPw
  apply decide_eq_true
  split at z <;> simp at z <;> omega
theorem FT_p (c k : Nat) (z : FT c k = true) : FPw c k = true := by
  unfold FT at z
  unfold FPw
  apply decide_eq_true
  split at z <;> simp at z <;> omega
theorem FR_p (c k : Nat) (z : FR c k = true) : FPw c k = true := by
  unfold FR at z
  unfold FPw
  apply decide_eq_true
  split at z <;> simp at z <;> omega
theorem FF_p (c k : Nat) (z : FF c k = true) : FPw c k = true := by
  unfold FF at z
  unfold FPw
  apply decide_eq_true
  split at z <;> simp at z <;> omega
theorem FC_p (c k : Nat) (z : FC c k = true) : FPw c k = true := by
  unfold FC at z
  unfold FPw
  apply decide_eq_true
  split at z <;> simp at z <;> omega
theorem inv_p {h h2 : HS} (I : Inv h) (e : Eqo FPw h h2) : Inv h2 := by
  obtain ⟨⟨D, nt, ns, iA⟩, iV, iT, iR, iF, iC⟩ := I
  exact ⟨⟨D, nt, ns, iA.keep (e.mono FA_p)⟩, iV.keep (e.mono FV_p), iT.keep (e.mono FT_p), iR.keep (e.mono FR_p), iF.keep (e.mono FF_p), iC.keep (e.mono FC_p)⟩
theorem tkT_cg {h y : HS} {c m : Int32} (e : Eqo FPw h y) : tkT y c m = tkT h c m := by
  funext i a
  rw [tkT_eq, tkT_eq, (e.1 33 0 i rfl).1, (e.1 40 0 i rfl).1, (e.1 41 0 i rfl).1, (e.1 43 0 i rfl).1]
section PQ
variable {h : HS} {P : Option AV → HS → Prop} {d bc bs : Nat}
theorem cLine {h0 : HS} {ρ nl : Nat} {T : T4} {v u : Nat → Int32} (hn : nl ≤ 8) (gn : gI h 12 ρ 7 = nI nl) (tk : tkCp T h) (eh : Eqo FR h0 h) (hL : ∀ k, k < nl → LnV h0 ρ k T (v k) (u k)) (k0 : (∀ i, i < nl → v i = 0) → ∀ y, Eqo FWp h y → P (some (aI (-1))) y) (k1 : ∀ j, j < nl → v j = 1 → (∀ i, i < j → v i = 0) → ∀ y, Eqo FWp h y → P (some (aI (nI j))) y) : Cl true mX1_lineFor (d + 5) bc bs [aR 12 ρ, aR 20 0] h P := by
  have lp : ∀ q j x, j + q = nl → Eqo FWp h x → (∀ i, i < j → v i = 0) → V true mX1_lineFor (d + 5) bc bs 2 [(0, aR 12 ρ), (1, aR 20 0), (2, aI (nI j))] [] x P := by
    intro q
    induction q with
    | zero =>
      intro j x hj e hz
      obtain rfl : j = nl := by omega
      exact wX1_lineFor_2 ⟨fun _ => k0 hz x e, fun z => absurd (by rw [(e.1 12 ρ 7 rfl).1, gn]; exact nI_le (Nat.le_refl _) (by omega)) z⟩
    | succ q ih =>
      intro j x hj e hz
      have vin : vp_in (nI j) 8 := vp_in_nI (by omega) (by decide)
      have tx : tkCp T x := ⟨((e.1 20 0 0 rfl).1).trans tk.1, ((e.1 20 0 1 rfl).1).trans tk.2.1, ((e.1 20 0 2 rfl).1).trans tk.2.2.1, ((e.1 20 0 3 rfl).1).trans tk.2.2.2⟩
      have L := hL j (by omega)
      refine wX1_lineFor_2 ⟨fun z => absurd z (by rw [(e.1 12 ρ 7 rfl).1, gn]; exact nI_ge (by omega) (by omega)), fun _ => ⟨fun z => absurd (show nI 8 ≤ nI j from z) (nI_ge (by omega) (by decide)), fun _ => ⟨vin, vin, ?_⟩⟩⟩
      rw [nI_clamp (by omega)]
      refine L.2.1 _ _ _ x _ (eh.tr (e.mono (fun c k z => FPw_W c k (FR_p c k z)))) tx (fun y ey => ⟨_, rfl, fun z => ?_, fun z => ?_⟩)
      · rw [nI_1]
        exact ih (j + 1) y (by omega) (e.tr ey) (fun i hi => by
          rcases Nat.lt_or_ge i j with w | w
          · exact hz i w
          · rw [show i = j by omega]; exact z)
      · exact k1 j (by omega) (L.1.resolve_left z) hz y (e.tr ey)
  exact wX1_lineFor (lp nl 0 h (by omega) Eqo.rf (fun i hi => absurd hi (Nat.not_lt_zero _)))
theorem cPayFor {h0 : HS} {ρ nl : Nat} {T : T4} {v u : Nat → Int32} (hn : nl ≤ 8) (gn : gI h 12 ρ 7 = nI nl) (tk : tkCp T h) (eh : Eqo FR h0 h) (hL : ∀ k, k < nl → LnV h0 ρ k T (v k) (u k)) (k0 : (∀ i, i < nl → v i = 0) → ∀ y, Eqo FWp h y → P (some (aI 0)) y) (k1 : ∀ j, j < nl → v j = 1 → (∀ i, i < j → v i = 0) → ∀ y, Eqo FWp h y → P (some (aI (u j))) y) : Cl true mX1_payFor (d + 6) bc bs [aR 12 ρ, aR 20 0] h P := by
  refine wX1_payFor (cLine hn gn tk eh hL (fun a y ey => ⟨_, rfl, fun _ => k0 a y ey, fun z => absurd (by decide) z⟩) (fun j hj vj hz y ey => ⟨_, rfl, fun z => absurd z (nI_pos (by omega)), fun _ => ⟨fun _ => ⟨vp_in_nI (by omega) (by decide), vp_in_nI (by omega) (by decide), ?_⟩, fun z => absurd (show nI j < nI 8 from nI_lt (by omega) (by decide)) z⟩⟩))
  rw [nI_clamp (by omega)]
  have tx : tkCp T y := ⟨((ey.1 20 0 0 rfl).1).trans tk.1, ((ey.1 20 0 1 rfl).1).trans tk.2.1, ((ey.1 20 0 2 rfl).1).trans tk.2.2.1, ((ey.1 20 0 3 rfl).1).trans tk.2.2.2⟩
  exact (hL j hj).2.2.1 (d + 1) _ _ y _ (eh.tr (ey.mono (fun c k z => FPw_W c k (FR_p c k z)))) tx (fun y2 ey2 => ⟨_, rfl, k1 j hj vj hz y2 (ey.tr ey2)⟩)
theorem mLine {h0 : HS} {ρ nl : Nat} {T : T4} {w : Int32} {v u : Nat → Int32} (hn : nl ≤ 8) (gn : gI h 26 0 24 = nI nl) (tk : tkMp T h) (eh : Eqo FR h0 h) (hL : ∀ k, k < nl → LnV h0 ρ k T (v k) (u k)) (k0 : (∀ i, i < nl → v i = 0) → ∀ y, Eqo F52 h y → (¬ w = 4 → P (some (aI 0)) y) ∧ (w = 4 → P (some (aI (-1))) y)) (k1 : ∀ j, j < nl → v j = 1 → (∀ i, i < j → v i = 0) → ∀ y, Eqo F52 h y → (¬ w = 4 → P (some (aI (u j))) y) ∧ (w = 4 → P (some (aI (nI j))) y)) : V true mX10_pay (d + 4) bc bs 72 [(0, aR 26 0), (3, aI w), (4, aI 0)] [] h P := by
  have lp : ∀ q j x, j + q = nl → Eqo F52 h x → (∀ i, i < j → v i = 0) → V true mX10_pay (d + 4) bc bs 72 [(0, aR 26 0), (3, aI w), (4, aI (nI j))] [] x P := by
    intro q
    induction q with
    | zero =>
      intro j x hj e hz
      obtain rfl : j = nl := by omega
      exact wX10_pay_72 ⟨fun _ => k0 hz x e, fun z => absurd (by rw [(e.1 26 0 24 rfl).1, gn]; exact nI_le (Nat.le_refl _) (by omega)) z⟩
    | succ q ih =>
      intro j x hj e hz
      have v8 : vp_in (nI j) 8 := vp_in_nI (by omega) (by decide)
      have v9 : vp_in (nI j) 9 := vp_in_nI (by omega) (by decide)
      have tx : ∀ {y}, Eqo F52 h y → tkMp T y := fun e => ⟨((e.1 26 0 45 rfl).1).trans tk.1, ((e.1 26 0 46 rfl).1).trans tk.2.1, ((e.1 26 0 47 rfl).1).trans tk.2.2.1, ((e.1 26 0 48 rfl).1).trans tk.2.2.2⟩
      have L := hL j (by omega)
      have fr : ∀ {y}, Eqo F52 h y → Eqo FR h0 y := fun e => eh.tr (e.mono (fun c k z => FPw_52 c k (FR_p c k z)))
      refine wX10_pay_72 ⟨fun z => absurd z (by rw [(e.1 26 0 24 rfl).1, gn]; exact nI_ge (by omega) (by omega)), fun _ => ⟨v8, ?_⟩⟩
      rw [nI_1, nI_clamp (show j < 2 ^ 31 by omega), nI_clamp (show j + 1 < 2 ^ 31 by omega)]
      refine ⟨vp_in_nI (by omega) (by decide), L.2.2.2.1 _ _ _ x _ (fr e) (tx e) (fun y ey => ⟨_, rfl, fun z => ?_, fun z => ⟨fun z2 => ⟨v9, v8, ?_⟩, fun z2 => (k1 j (by omega) z hz y (e.tr ey)).2 z2⟩⟩)⟩
      · exact ih (j + 1) y (by omega) (e.tr ey) (fun i hi => by
          rcases Nat.lt_or_ge i j with w | w
          · exact hz i w
          · rw [show i = j by omega]; exact L.1.resolve_right z)
      · exact L.2.2.2.2 _ _ _ y _ (fr (e.tr ey)) (tx (e.tr ey)) (fun y2 ey2 => ⟨_, rfl, (k1 j (by omega) z hz y2 ((e.tr ey).tr ey2)).1 z2⟩)
  exact lp nl 0 h (by omega) Eqo.rf (fun i hi => absurd hi (Nat.not_lt_zero _))
theorem sim_pay {c m w : Int32} (I : Inv h) : Sim mX9_pay mX10_pay 0 0 [aI c, aI m, aI w] h := by
  obtain ⟨⟨D, nt, ns, iA⟩, iV, iT, iR, iF, iC⟩ := id I
  obtain ⟨⟨hD, hnt, hns⟩, a1, a2, a3, a4, a5, a6, a7, a8, a9, a10⟩ := id iA
  obtain ⟨ρ, hρ, r8, r9, rj, nl, hn, n7, n24, hL⟩ := iR
  refine wX9_pay ⟨fun z => ⟨_, rfl, wX10_pay ⟨fun _ => ⟨rfl, I⟩, fun y => absurd y z⟩⟩, fun z => ⟨fun z2 => ?_, fun z2 => ⟨_, rfl, wX10_pay ⟨fun y => absurd z y, fun _ => ⟨fun _ => ⟨rfl, I⟩, fun y => absurd y z2⟩⟩⟩⟩⟩
  refine cGath (d := 91) a6 hns a8 (fun y ey ty => ⟨rfl, ?_⟩)
  obtain ⟨A, hA⟩ : ∃ A, A = acc (tkT h c m) ns (0, 0, 0) := ⟨_, rfl⟩
  rw [← hA] at ty
  have ep : Eqo FPw h y := ey.mono FPw_20
  have Iy : Inv y := inv_p I ep
  have T1 : tkCp (A.1, A.2.1, A.2.2, m) y := ty
  obtain ⟨f, hf⟩ : ∃ f : Nat → Int32 × Int32, ∀ k, k < nl → LnV h ρ k (A.1, A.2.1, A.2.2, m) (f k).1 (f k).2 := by
    have q : ∀ k, ∃ w : Int32 × Int32, k < nl → LnV h ρ k (A.1, A.2.1, A.2.2, m) w.1 w.2 := fun k => by
      by_cases e : k < nl
      · obtain ⟨w, hw⟩ := (hL k e).v (A.1, A.2.1, A.2.2, m)
        exact ⟨w, fun _ => hw⟩
      · exact ⟨(0, 0), fun z => absurd z e⟩
    exact ⟨fun k => Classical.choose (q k), fun k hk => Classical.choose_spec (q k) hk⟩
  have ref : ∀ {Q : Option AV → HS → Prop} (x : HS), Eqo FPw h x → inR w 0 4 → (∀ x2, Eqo FPw h x2 → Eqo FR h x2 → tkMp (A.1, A.2.1, A.2.2, m) x2 → ((3 ≤ w → V true mX10_pay 100 0 0 72 [(0, aR 26 0), (3, aI w), (4, aI 0)] [] x2 Q) ∧ (¬ 3 ≤ w → ((¬ w = 0 → ((¬ w = 1 → Q (some (aI (gI x2 26 0 47))) x2) ∧ (w = 1 → Q (some (aI (gI x2 26 0 46))) x2))) ∧ (w = 0 → Q (some (aI (gI x2 26 0 45))) x2))))) → Cl true mX10_pay 100 0 0 [aR 26 0, aI c, aI m, aI w] x Q := fun x ex hw k =>
    wX10_pay ⟨fun q => absurd z q, fun _ => ⟨fun q => absurd z2 q, fun _ => ⟨fun _ => mTak (d := 96) (((ex.1 26 0 2 rfl).1).trans a4) hns (fun x2 e2 t2 => ⟨rfl, by
      rw [tkT_cg ex, ← hA] at t2
      have e3 : Eqo FPw h x2 := ex.tr (e2.mono FPw_45)
      exact k x2 e3 (e3.mono FR_p) t2⟩), fun q => absurd hw q⟩⟩⟩
  have g7 : ∀ {x}, Eqo FPw h x → gI x 12 ρ 7 = nI nl := fun e => ((e.mono FR_p).1 12 ρ 7 rfl).1.trans n7
  have g24 : ∀ {x}, Eqo FPw h x → gI x 26 0 24 = nI nl := fun e => ((e.mono FR_p).1 26 0 24 rfl).1.trans n24
  have lit : ∀ {a : Int32}, w = a → inR a 0 4 → inR w 0 4 := fun e q => e ▸ q
  refine ⟨fun z3 => ⟨_, rfl, ref y ep (lit z3 (by decide)) (fun x2 e2 _ t2 => ⟨fun q => absurd q (by rw [z3]; decide), fun _ => ⟨fun q => absurd z3 q, fun _ => ⟨?_, inv_p I e2⟩⟩⟩)⟩, fun z3 => ⟨_, rfl, ref y ep (lit z3 (by decide)) (fun x2 e2 _ t2 => ⟨fun q => absurd q (by rw [z3]; decide), fun _ => ⟨fun _ => ⟨fun q => absurd z3 q, fun _ => ⟨?_, inv_p I e2⟩⟩, fun q => absurd (q.symm.trans z3) (by decide)⟩⟩)⟩, fun z3 => ⟨_, rfl, ref y ep (lit z3 (by decide)) (fun x2 e2 _ t2 => ⟨fun q => absurd q (by rw [z3]; decide), fun _ => ⟨fun _ => ⟨fun _ => ⟨?_, inv_p I e2⟩, fun q => absurd (q.symm.trans z3) (by decide)⟩, fun q => absurd (q.symm.trans z3) (by decide)⟩⟩)⟩, fun z3 => ?_, fun z3 => ?_, fun z3 => ⟨_, rfl, ?_⟩⟩
  · rw [t2.1, ty.1]
  · rw [t2.2.1, ty.2.1]
  · rw [t2.2.2.1, ty.2.2.1]
  · have w4 : ¬ w = 4 := fun q => absurd (q.symm.trans z3) (by decide)
    refine ⟨ρ, ((ep.mono FR_p).1 0 0 8 rfl).2.trans r8, cPayFor (d := 93) (v := fun k => (f k).1) (u := fun k => (f k).2) hn (g7 ep) T1 (ep.mono FR_p) hf (fun az y1 e1 => ⟨_, rfl, ⟨_, rfl, ?_⟩⟩) (fun j hj vj hz y1 e1 => ⟨_, rfl, ⟨_, rfl, ?_⟩⟩)⟩
    · have e1' : Eqo FPw h y1 := ep.tr (e1.mono FPw_W)
      refine ref y1 e1' (lit z3 (by decide)) (fun x2 e2 er t2 => ⟨fun _ => mLine (d := 96) (v := fun k => (f k).1) (u := fun k => (f k).2) hn (g24 e2) t2 er hf (fun _ y3 e3 => ⟨fun _ => ⟨rfl, inv_p I (e2.tr (e3.mono FPw_52))⟩, fun q => absurd q w4⟩) (fun j hj vj _ y3 e3 => absurd ((az j hj).symm.trans vj) (by decide)), fun q => absurd (by rw [z3]; decide) q⟩)
    · have e1' : Eqo FPw h y1 := ep.tr (e1.mono FPw_W)
      refine ref y1 e1' (lit z3 (by decide)) (fun x2 e2 er t2 => ⟨fun _ => mLine (d := 96) (v := fun k => (f k).1) (u := fun k => (f k).2) hn (g24 e2) t2 er hf (fun az y3 e3 => absurd ((az j hj).symm.trans vj) (by decide)) (fun i hi vi hzi y3 e3 => ⟨fun _ => ⟨?_, inv_p I (e2.tr (e3.mono FPw_52))⟩, fun q => absurd q w4⟩), fun q => absurd (by rw [z3]; decide) q⟩)
      rcases Nat.lt_trichotomy i j with q | q | q
      · exact absurd ((hz i q).symm.trans vi) (by decide)
      · rw [q]
      · exact absurd ((hzi j q).symm.trans vj) (by decide)
  · refine ⟨ρ, ((ep.mono FR_p).1 0 0 8 rfl).2.trans r8, cLine (d := 94) (v := fun k => (f k).1) (u := fun k => (f k).2) hn (g7 ep) T1 (ep.mono FR_p) hf (fun az y1 e1 => ⟨_, rfl, ⟨_, rfl, ?_⟩⟩) (fun j hj vj hz y1 e1 => ⟨_, rfl, ⟨_, rfl, ?_⟩⟩)⟩
    · have e1' : Eqo FPw h y1 := ep.tr (e1.mono FPw_W)
      refine ref y1 e1' (lit z3 (by decide)) (fun x2 e2 er t2 => ⟨fun _ => mLine (d := 96) (v := fun k => (f k).1) (u := fun k => (f k).2) hn (g24 e2) t2 er hf (fun _ y3 e3 => ⟨fun q => absurd z3 q, fun _ => ⟨rfl, inv_p I (e2.tr (e3.mono FPw_52))⟩⟩) (fun j hj vj _ y3 e3 => absurd ((az j hj).symm.trans vj) (by decide)), fun q => absurd (by rw [z3]; decide) q⟩)
    · have e1' : Eqo FPw h y1 := ep.tr (e1.mono FPw_W)
      refine ref y1 e1' (lit z3 (by decide)) (fun x2 e2 er t2 => ⟨fun _ => mLine (d := 96) (v := fun k => (f k).1) (u := fun k => (f k).2) hn (g24 e2) t2 er hf (fun az y3 e3 => absurd ((az j hj).symm.trans vj) (by decide)) (fun i hi vi hzi y3 e3 => ⟨fun q => absurd z3 q, fun _ => ⟨?_, inv_p I (e2.tr (e3.mono FPw_52))⟩⟩), fun q => absurd (by rw [z3]; decide) q⟩)
      rcases Nat.lt_trichotomy i j with q | q | q
      · exact absurd ((hz i q).symm.trans vi) (by decide)
      · rw [q]
      · exact absurd ((hzi j q).symm.trans vj) (by decide)
  · refine wX10_pay ⟨fun q => absurd z q, fun _ => ⟨fun q => absurd z2 q, fun _ => ⟨fun q => absurd ?_ z3, fun _ => ⟨rfl, Iy⟩⟩⟩⟩
    have q' := inR_iff.mp q
    exact q'
end PQ

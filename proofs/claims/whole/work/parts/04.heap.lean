-- ===== entry, return, calls =====
theorem vl_cg {h : HS} {ad ad2 : PT → Nat} {v : AV} (ho : okV h v) (ha : ∀ q, okL h.2.2 q → ad2 q = ad q) : vl ad2 v = vl ad v := by
  match v, ho with
  | .inl x, _ => rfl
  | .inr (.inl x), _ => rfl
  | .inr (.inr none), _ => rfl
  | .inr (.inr (some q)), ho => simp [vl, ha q (ho q rfl)]
theorem vls_cg {h : HS} {ad ad2 : PT → Nat} (ha : ∀ q, okL h.2.2 q → ad2 q = ad q) : ∀ {st : List AV}, (∀ v ∈ st, okV h v) → st.map (vl ad2) = st.map (vl ad)
  | [], _ => rfl
  | v :: t, ho => by rw [List.map_cons, List.map_cons, vl_cg (okh ho) ha, vls_cg ha (okt ho)]
theorem lvm_cg {h : HS} {ad ad2 : PT → Nat} (ha : ∀ q, okL h.2.2 q → ad2 q = ad q) {lv : List (Nat × AV)} (ho : ∀ q ∈ lv, okV h q.2) : lvm ad2 lv = lvm ad lv := by
  unfold lvm
  refine List.map_congr_left (fun q hq => ?_)
  rw [vl_cg (ho q hq) ha]
theorem Cl.mono {σ : Bool} {M : MT} {d bc bs : Nat} {as : List AV} {h : HS} {P P2 : Option AV → HS → Prop} (hp : ∀ r h2, P r h2 → P2 r h2) (k : Cl σ M d bc bs as h P) : Cl σ M d bc bs as h P2 := by
  intro l D cA B ad
  refine MetFree.mono (k l D cA B ad) (fun _ _ z => z) (fun _ _ _ _ _ z => z) (fun a s o t _ z => ?_)
  obtain ⟨⟨r, h2, ad2, z1, z2, z3⟩, z4⟩ := z
  exact ⟨⟨r, h2, ad2, z1, hp r h2 z2, z3⟩, z4⟩
theorem V.mono {σ : Bool} {M : MT} {d bc bs pc : Nat} {lv : List (Nat × AV)} {st : List AV} {h : HS} {P P2 : Option AV → HS → Prop} (hp : ∀ r h2, P r h2 → P2 r h2) (k : V σ M d bc bs pc lv st h P) : V σ M d bc bs pc lv st h P2 := by
  intro p l e R s m args below meth c D cA B ad ad0 L0 H locs cells slots ls b T hT X
  obtain ⟨t, a1, o, z1, z2, ⟨r, h2, ad2, y1, y2, y3⟩, z4⟩ := k p l e R s m args below meth c D cA B ad ad0 L0 H locs cells slots ls b T hT X
  exact ⟨t, a1, o, z1, z2, ⟨r, h2, ad2, y1, hp r h2 y2, y3⟩, z4⟩
def la : Nat → List AV → List (Nat × AV)
  | _, [] => []
  | n, v :: t => (n, v) :: la (if ct v = 2 then n + 2 else n + 1) t
theorem la_eq (ad : PT → Nat) : ∀ (as : List AV) (n : Nat), lv_args n (as.map (vl ad)) = lvm ad (la n as)
  | [], n => rfl
  | v :: t, n => by
    show (n, vl ad v) :: lv_args (if (vl ad v).category = 2 then n + 2 else n + 1) (t.map (vl ad)) = (n, vl ad v) :: lvm ad (la (if ct v = 2 then n + 2 else n + 1) t)
    rw [ctv, la_eq ad t]
theorem la_ok {h : HS} : ∀ (as : List AV) (n : Nat), (∀ v ∈ as, okV h v) → ∀ q ∈ la n as, okV h q.2
  | [], n, _, q, hq => by cases hq
  | v :: t, n, ho, q, hq => by
    rcases List.mem_cons.mp hq with e | hq
    · rw [e]; exact okh ho
    · exact la_ok t _ (okt ho) q hq
theorem la_len (ad : PT → Nat) : ∀ (as : List AV), (lg_sl (as.map (vl ad))).length = (as.map ct).sum
  | [] => rfl
  | v :: t => by
    have ih := la_len ad t
    simp only [lg_sl, List.map_cons, List.flatMap_cons, List.length_append, List.sum_cons, ctv] at ih ⊢
    rw [ih]
    match v with
    | .inl x => rfl
    | .inr (.inl x) => rfl
    | .inr (.inr none) => rfl
    | .inr (.inr (some q)) => rfl
/-- a method's contract, out of its walk from the entry -/
theorem Cl_of {σ : Bool} {M : MT} {d bc bs : Nat} {as : List AV} {h : HS} {P : Option AV → HS → Prop} (hy : plainName M.1.cls = true) (hn : (as.map ct).sum ≤ M.2.2.1) (k : V σ M d bc bs 0 (la 0 as) [] h P) : Cl σ M d bc bs as h P := by
  intro l D cA B ad
  refine Met.ofW (cc := M.2.1) (maxL := M.2.2.1) (ret := M.2.2.2) hy rfl ?_
  intro p e s m args below meth c s₁ Bo hml hv
  obtain ⟨rfl, hB, hE, hR, hK, ho⟩ := hv
  have hts := atoms_spec (ws := Cond.code M.1 M.2.1 M.2.2.1 M.2.2.2 :: gw) Bo.pre
  have hl := lv_entry (as.map (vl ad)) (n := M.2.2.1) (by rw [la_len]; exact hn)
  rw [lg_entry_eq]
  generalize (lg_sl (as.map (vl ad)) ++ List.replicate (M.2.2.1 - (lg_sl (as.map (vl ad))).length) Slot.unset).toArray = ls at hl ⊢
  rw [la_eq] at hl
  exact k p l e _ s m _ below meth c D cA B ad ad h.2.2 s.heap [] 0 0 ls ⟨⟨Bo.exec, Bo.bytes, hml, findClass_of_methodNamed Bo.named, fun w hw => hts w (List.mem_cons_of_mem _ hw), Bo.returns, Bo.notSynchronized, (name_of_methodNamed Bo.named Bo.method).1, hK⟩, hB, hE, ⟨Nat.le_refl _, Nat.le_refl _⟩, ⟨by show 0 + bc ≤ bc; omega, by show 0 + bs ≤ bs; omega⟩, hR, va_S.rf, hl, la_ok as 0 ho, (fun v hv => by cases hv), fun q hq => ⟨rfl, hq⟩⟩
section VC
variable {σ : Bool} {M : MT} {d bc bs pc : Nat} {lv : List (Nat × AV)} {st : List AV} {h : HS} {P : Option AV → HS → Prop}
theorem V_ireturn {x : Int32} (hd : decode M.2.1 pc = .ok (.ireturn, 1)) (hr : M.2.2.2 = some .int) (k : P (some (aI x)) h) : V σ M d bc bs pc lv [aI x] h P := by
  intro p l e R s m args below meth c D cA B ad ad0 L0 H locs cells slots ls b
  refine W.widen (k := R.cells) (n := R.slots) (Nat.le_trans (Nat.le_add_right _ _) b.2.2.2.2.1.1) (Nat.le_trans (Nat.le_add_right _ _) b.2.2.2.2.1.2) ?_
  exact W.iret (v := x) b.x b.b (b.1.2.2.2.2.2.1.trans hr) (fun t ht hW => ⟨some (aI x), h, ad, rfl, k, by rw [ht]; exact b.rep, fun v e => by cases e; exact okI, b.2.2.2.2.2.2.2.2.2.2, b.S.F ht⟩) b.S.2.2 hd b.1.2.2.2.2.2.2.1
theorem V_zreturn {x : Int32} (hd : decode M.2.1 pc = .ok (.ireturn, 1)) (hr : M.2.2.2 = some .boolean) (hz : x = 0 ∨ x = 1) (k : P (some (aI x)) h) : V σ M d bc bs pc lv [aI x] h P := by
  intro p l e R s m args below meth c D cA B ad ad0 L0 H locs cells slots ls b
  refine W.widen (k := R.cells) (n := R.slots) (Nat.le_trans (Nat.le_add_right _ _) b.2.2.2.2.1.1) (Nat.le_trans (Nat.le_add_right _ _) b.2.2.2.2.1.2) ?_
  exact W.zret (v := x) b.x b.b (b.1.2.2.2.2.2.1.trans hr) (by rcases hz with rfl | rfl <;> decide +kernel) (fun t ht hW => ⟨some (aI x), h, ad, rfl, k, by rw [ht]; exact b.rep, fun v e => by cases e; exact okI, b.2.2.2.2.2.2.2.2.2.2, b.S.F ht⟩) b.S.2.2 hd b.1.2.2.2.2.2.2.1
theorem V_areturn {r : Option PT} (hd : decode M.2.1 pc = .ok (.areturn, 1)) {rt : FieldType} (hr : M.2.2.2 = some rt) (hrt : (∃ n, rt = .object n) ∨ ∃ t, rt = .array t) (k : P (some (aP r)) h) : V σ M d bc bs pc lv [aP r] h P := by
  intro p l e R s m args below meth c D cA B ad ad0 L0 H locs cells slots ls b
  refine W.widen (k := R.cells) (n := R.slots) (Nat.le_trans (Nat.le_add_right _ _) b.2.2.2.2.1.1) (Nat.le_trans (Nat.le_add_right _ _) b.2.2.2.2.1.2) ?_
  exact W.aret (v := vl ad (aP r)) b.x b.b (b.1.2.2.2.2.2.1.trans hr) hrt (va_rf_or _) (fun t ht hW => ⟨some (aP r), h, ad, rfl, k, by rw [ht]; exact b.rep, fun v e => by cases e; exact okh b.so, b.2.2.2.2.2.2.2.2.2.2, b.S.F ht⟩) b.S.2.2 hd b.1.2.2.2.2.2.2.1
theorem V_return (hd : decode M.2.1 pc = .ok (.return_, 1)) (hr : M.2.2.2 = none) (k : P none h) : V σ M d bc bs pc lv [] h P := by
  intro p l e R s m args below meth c D cA B ad ad0 L0 H locs cells slots ls b
  refine W.widen (k := R.cells) (n := R.slots) (Nat.le_trans (Nat.le_add_right _ _) b.2.2.2.2.1.1) (Nat.le_trans (Nat.le_add_right _ _) b.2.2.2.2.1.2) ?_
  exact W.vret b.x b.b (b.1.2.2.2.2.2.1.trans hr) (fun t ht hW => ⟨none, h, ad, rfl, k, by rw [ht]; exact b.rep, fun v e => (by cases e), b.2.2.2.2.2.2.2.2.2.2, b.S.F ht⟩) b.S.2.2 hd b.1.2.2.2.2.2.2.1
/-- behind a call -/
theorem V_back {M2 : MT} {mc ms : Nat} {as : List AV} {p : Program} {l : Launch} {e : Env} {R : Room} {s : State} {m : MethodId} {args : Array Value} {below : List Frame} {meth : Method} {c : Code} {D : va_G} {cA : FieldType → ClassId} {B : Nat} {ad ad0 : PT → Nat} {L0 : List PT} {H : Heap} {locs : List Loc} {cells slots : Nat} {ls : Array Slot} {st0 : List AV} {sv : List Value} {av : Array Value}
    (hm : mc ≤ bc) (hs : ms ≤ bs) (b : Bd σ M d bc bs lv st0 h p R s m args meth c D cA B ad ad0 L0 H locs cells slots ls) (ho : ∀ v ∈ st, okV h v)
    (hr : va_Run p l e R s m args below meth c H locs cells slots mc ms (F0 m pc ls sv) (st.map (vl ad)) (QM σ D cA B ad h.2.2 (fun r h2 => V σ M d (bc - mc) (bs - ms) (pc + 3) lv (r.toList ++ st) h2 P) av) (fun q => B ≤ q)) :
    W p l e R s m args below meth c H locs cells slots (MQ below (QM σ D cA B ad0 L0 P) args s R.cells R.slots (fun q => B ≤ q)) (F0 m pc ls sv) := by
  intro T hT X
  obtain ⟨v, st₀, t, T', L, h0, X', hL, e1, e2, ⟨r, h2, ad2, z1, z2, z3, z4, z5, z6⟩, go⟩ := hr T hT X
  have hv : v = r.map (vl ad2) := by cases z1; rfl
  obtain ⟨hz, hk⟩ := z6
  rw [h0] at hz hk
  obtain ⟨b1, b2, b3, b4, b5, b6, b7, b8, b9, b10, b11⟩ := b
  have ha : ∀ q, okL h.2.2 q → ad2 q = ad q := fun q hq => (z5 q hq).1
  have up : ∀ {v : AV}, okV h v → okV h2 v := fun hv q e => (z5 q (hv q e)).2
  have est : (r.toList ++ st).map (vl ad2) = v.toList ++ st.map (vl ad) := by
    rw [List.map_append, vls_cg ha ho, hv]
    cases r <;> rfl
  have b' : Bd σ M d (bc - mc) (bs - ms) lv (r.toList ++ st) h2 p R s m args meth c D cA B ad2 ad0 L0 T'.heap (locs ++ L) (cells + mc) (slots + ms) ls := by
    refine ⟨b1, b2, ?_, b4, ⟨by omega, by omega⟩, by rw [e1]; exact z3, ?_, by rw [lvm_cg ha b9]; exact b8, fun q hq => up (b9 q hq), ?_, fun q hq => ?_⟩
    · exact Ex.kept b3 (fun _ _ _ => rfl) (fun q hq => ha q (Or.inr hq))
    · refine ⟨Nat.le_trans b7.1 (by rw [e1]; exact hz), fun q h1 h2 => by rw [e1, hk q (Nat.lt_of_lt_of_le h1 b7.1) h2]; exact b7.2.1 q h1 h2, fun q hq => ?_⟩
      rcases List.mem_append.mp hq with h | h
      · exact b7.2.2 q h
      · exact hL q h
    · intro w hw
      rcases List.mem_append.mp hw with h | h
      · cases r with
        | none => cases h
        | some x =>
          have : w = x := by simpa using h
          rw [this]
          exact z4 x rfl
      · exact up (ho w h)
    · obtain ⟨y1, y2⟩ := b11 q hq
      exact ⟨(z5 q y2).1.trans y1, (z5 q y2).2⟩
  have K := z2 p l e R s m args below meth c D cA B ad2 ad0 L0 T'.heap (locs ++ L) (cells + mc) (slots + ms) ls b'
  rw [est] at K
  obtain ⟨t2, a1, a2⟩ := K T' rfl X'
  exact ⟨t2, go t2 a1, a2⟩
theorem blind {D : va_G} {cA : FieldType → ClassId} {B : Nat} {ad : PT → Nat} {as : List AV} : FrameBlind (va_Pc (as.map (vl ad)) (fun U => B ≤ U.heap.size ∧ Ex B ad U U.heap ∧ Rep σ D cA ad B h U.heap ∧ va_K D vwCl (tysO cA) U ∧ ∀ v ∈ as, okV h v)) := by
  intro a U g mk ⟨q1, q2, q3, q4, q5, q6⟩
  exact ⟨q1, q2, Ex.same (u := U) (U := U.calling g mk a) rfl q3, q4, va_K.moved (u := U) (U := U.calling g mk a) (Vm.Alike.refl U.vm) q5, q6⟩
theorem pre_at {p : Program} {R : Room} {s : State} {m : MethodId} {args : Array Value} {meth : Method} {c : Code} {D : va_G} {cA : FieldType → ClassId} {B : Nat} {ad ad0 : PT → Nat} {L0 : List PT} {H : Heap} {locs : List Loc} {cells slots : Nat} {ls : Array Slot} {as : List AV}
    (b : Bd σ M d bc bs lv st h p R s m args meth c D cA B ad ad0 L0 H locs cells slots ls) (ho : ∀ v ∈ as, okV h v) : ∀ U : State, U.heap = H → s.WarmedH U.vm → va_Pc (as.map (vl ad)) (fun U => B ≤ U.heap.size ∧ Ex B ad U U.heap ∧ Rep σ D cA ad B h U.heap ∧ va_K D vwCl (tysO cA) U ∧ ∀ v ∈ as, okV h v) (as.map (vl ad)).toArray U := by
  intro U hU hW
  refine ⟨rfl, by rw [hU]; exact Nat.le_trans b.2.1 b.S.1, ?_, by rw [hU]; exact b.rep, va_K.moved hW.alike b.K, ho⟩
  rw [hU]
  exact Ex.kept (Ex.warm hW b.2.2.1) (fun q h1 h2 => b.S.2.1 q h1 h2) (fun _ _ => rfl)
theorem gwIn {w : Cond} (h : w ∈ gw) : GoodIn gw (w :: gw) := fun x hx => by
  have hg : x ∈ gw := (List.mem_cons.mp hx).elim (fun e => e ▸ h) id
  exact ⟨hg, good_of_word (List.mem_filter.mp hg).2⟩
/-- what a method is to a caller: its words among the tables' -/
def Mok (M2 : MT) (n : Nat) : Prop := Cond.code M2.1 M2.2.1 M2.2.2.1 M2.2.2.2 ∈ gw ∧ Cond.initialized M2.1.cls ∈ gw ∧ (M2.1.cls ≠ "java/lang/invoke/MethodHandle" ∧ M2.1.cls ≠ "java/lang/invoke/VarHandle" ∧ (parseMethodDescriptor M2.1.desc).map (fun d => d.parameters.length) = some n) ∧ M2.2.2.1 ≤ 45
theorem stk_split {ad : PT → Nat} {as st : List AV} : (as.reverse ++ st).map (vl ad) = (as.map (vl ad)).reverse ++ st.map (vl ad) := by
  rw [List.map_append, List.map_reverse]
theorem ct_room {ad : PT → Nat} {st : List AV} (hw : (st.map ct).sum ≤ 8) : ((st.map (vl ad)).map fun v => v.category).sum ≤ 8 := by
  rw [List.map_map]
  have : ((fun v => v.category) ∘ vl ad) = ct := by funext v; exact ctv v
  rw [this]
  exact hw
theorem V_callS {M2 : MT} {n idx mc ms : Nat} {as : List AV} (hd : decode M.2.1 pc = .ok (.invokestatic idx, 3)) (ho : Mok M2 n) (hs : Cond.static M2.1 ∈ gw) (hl : Cond.methodLink M.1.cls idx M2.1 ∈ gw) (hn : as.length = n) (hw : (st.map ct).sum ≤ 8) (hm : mc ≤ bc) (hms : ms ≤ bs)
    (k : Cl σ M2 d mc ms as h (fun r h2 => V σ M (d + 1) (bc - mc) (bs - ms) (pc + 3) lv (r.toList ++ st) h2 P)) : V σ M (d + 1) bc bs pc lv (as.reverse ++ st) h P := by
  intro p l e R s m args below meth c D cA B ad ad0 L0 H locs cells slots ls b
  have hst : ∀ v ∈ st, okV h v := fun v hv => b.so v (List.mem_append_right _ hv)
  have has : ∀ v ∈ as, okV h v := fun v hv => b.so v (List.mem_append_left _ (List.mem_reverse.mpr hv))
  obtain ⟨o1, o2, o3, o4⟩ := ho
  obtain ⟨f1, f2⟩ := b.2.2.2.1
  obtain ⟨g1, g2⟩ := b.2.2.2.2.1
  refine V_back (M2 := M2) (as := as) hm hms b hst (va_runS (As := as.map (vl ad)) (rest := st.map (vl ad)) (Ts := gw) ⟨b.x, b.b, b.1.2.2.1, b.own, b.ts⟩ (k l D cA B ad) ⟨callB_of n b.ts (gwIn o1) rfl rfl rfl (b.ts _ o2) (b.ts _ hl) o3 ⟨f1, by show 8 + (M2.2.2.1 + 11) + 64 * d ≤ R.locals; omega⟩, b.ts _ hs⟩ ⟨blind, pre_at b has⟩ rfl (by rw [List.length_map]; exact hn) b.lh.1 stk_split (lv_room (ct_room hw)) hd ⟨by omega, by omega⟩)
theorem V_callI {M2 : MT} {n idx mc ms ca ia : Nat} {as : List AV} (hd : decode M.2.1 pc = .ok (.invokespecial idx, 3)) (ho : Mok M2 n) (hr : M2.2.2.2 = none) (hy : M2.1.name = "<init>") (hs : Cond.instanceMethod M2.1 ∈ gw) (hl : Cond.methodLink M.1.cls idx M2.1 ∈ gw) (hn : as.length = n) (hw : (st.map ct).sum ≤ 8) (hm : mc ≤ bc) (hms : ms ≤ bs)
    (k : Cl σ M2 d mc ms (aR ca ia :: as) h (fun r h2 => V σ M (d + 1) (bc - mc) (bs - ms) (pc + 3) lv (r.toList ++ st) h2 P)) : V σ M (d + 1) bc bs pc lv (as.reverse ++ aR ca ia :: st) h P := by
  intro p l e R s m args below meth c D cA B ad ad0 L0 H locs cells slots ls b
  have hst : ∀ v ∈ st, okV h v := fun v hv => b.so v (List.mem_append_right _ (List.mem_cons_of_mem _ hv))
  have has : ∀ v ∈ aR ca ia :: as, okV h v := okc (b.so _ (List.mem_append_right _ List.mem_cons_self)) (fun v hv => b.so v (List.mem_append_left _ (List.mem_reverse.mpr hv)))
  obtain ⟨o1, o2, o3, o4⟩ := ho
  obtain ⟨f1, f2⟩ := b.2.2.2.1
  obtain ⟨g1, g2⟩ := b.2.2.2.2.1
  obtain ⟨y2, c2, n2, r2⟩ := M2
  dsimp only at hr
  subst hr
  refine V_back (M2 := (y2, c2, n2, none)) (as := as) hm hms b hst (va_runI (b := ad (ca, ia)) (As := as.map (vl ad)) (rest := st.map (vl ad)) (Ts := gw) ⟨b.x, b.b, b.1.2.2.1, b.own, b.ts⟩ (k l D cA B ad) ⟨callB_of n b.ts (gwIn o1) rfl rfl rfl (b.ts _ o2) (b.ts _ hl) o3 ⟨f1, by show 8 + (n2 + 11) + 64 * d ≤ R.locals; dsimp only at o4; omega⟩, hy, b.ts _ hs⟩ ⟨blind, pre_at b has⟩ rfl (by rw [List.length_map]; exact hn) b.lh.1 (by rw [stk_split]; rfl) (lv_room (ct_room hw)) hd ⟨by omega, by omega⟩)
/-- where a pointer of the store lies among the cells -/
theorem ws_at {cA : FieldType → ClassId} {ad : PT → Nat} {q : PT} (hq : q ∈ h.2.2) : ∃ j : Nat, h.2.2[j]? = some q ∧ (wsO σ cA ad h)[j]? = some (ad q, toE σ cA ad h q) := by
  obtain ⟨j, hj⟩ := List.getElem?_of_mem hq
  exact ⟨j, hj, by unfold wsO; rw [List.getElem?_map, hj]; rfl⟩
theorem toE_o {cA : FieldType → ClassId} {ad : PT → Nat} {c i ci : Nat} (hr : rty c i = .inl ci) : toE σ cA ad h (c, i) = .inr (ci, (List.range (nF ci)).map (fv σ ad h c i ci)) := by
  unfold toE
  rw [hr]
theorem toE_a {cA : FieldType → ClassId} {ad : PT → Nat} {c i n : Nat} {t : FieldType} (hr : rty c i = .inr (t, n)) (ht : isRT t = false) : toE σ cA ad h (c, i) = .inl (cA t, n, .inl (gI h c i)) := by
  unfold toE
  rw [hr]
  simp [ht]
theorem inL {c i : Nat} (hc : c < 65) (ho : okV h (aR c i)) : (c, i) ∈ h.2.2 := by
  rcases ho (c, i) rfl with z | z
  · exact z
  · exact absurd z (by show ¬ 65 ≤ c; omega)
theorem V_callV {M2 : MT} {n idx mc ms ca ia ci N : Nat} {T : u_T} {as : List AV} (hc65 : ca < 65) (hty : rty ca ia = .inl ci) (hcl : vwCl[ci]? = some (M2.1.cls, T, N)) (hd : decode M.2.1 pc = .ok (.invokevirtual idx, 3)) (ho : Mok M2 n) (hs : Cond.instanceMethod M2.1 ∈ gw) (hse : Cond.selects M2.1.cls M2.1 M2.1 ∈ gw) (hl : Cond.methodLink M.1.cls idx M2.1 ∈ gw) (hn : as.length = n) (hw : (st.map ct).sum ≤ 8) (hm : mc ≤ bc) (hms : ms ≤ bs)
    (k : Cl σ M2 d mc ms (aR ca ia :: as) h (fun r h2 => V σ M (d + 1) (bc - mc) (bs - ms) (pc + 3) lv (r.toList ++ st) h2 P)) : V σ M (d + 1) bc bs pc lv (as.reverse ++ aR ca ia :: st) h P := by
  intro p l e R s m args below meth c D cA B ad ad0 L0 H locs cells slots ls b
  have hst : ∀ v ∈ st, okV h v := fun v hv => b.so v (List.mem_append_right _ (List.mem_cons_of_mem _ hv))
  have has : ∀ v ∈ aR ca ia :: as, okV h v := okc (b.so _ (List.mem_append_right _ List.mem_cons_self)) (fun v hv => b.so v (List.mem_append_left _ (List.mem_reverse.mpr hv)))
  obtain ⟨o1, o2, o3, o4⟩ := ho
  obtain ⟨f1, f2⟩ := b.2.2.2.1
  obtain ⟨g1, g2⟩ := b.2.2.2.2.1
  obtain ⟨j, -, hj⟩ := ws_at (σ := σ) (cA := cA) (ad := ad) (inL hc65 (okh has))
  rw [toE_o hty] at hj
  refine V_back (M2 := M2) (as := as) hm hms b hst (va_runV (b := ad (ca, ia)) (C := M2.1.cls) (As := as.map (vl ad)) (rest := st.map (vl ad)) (Ts := gw) ⟨b.x, b.b, b.1.2.2.1, b.own, b.ts⟩ (k l D cA B ad) ⟨callB_of n b.ts (gwIn o1) rfl rfl rfl (b.ts _ o2) (b.ts _ hl) o3 ⟨f1, by show 8 + (M2.2.2.1 + 11) + 64 * d ≤ R.locals; omega⟩, b.ts _ hs, b.ts _ hse⟩ ⟨blind, va_recv b.K b.rep.1 hcl hj, pre_at b has⟩ rfl (by rw [List.length_map]; exact hn) b.lh.1 (by rw [stk_split]; rfl) (lv_room (ct_room hw)) hd ⟨by omega, by omega⟩)
end VC

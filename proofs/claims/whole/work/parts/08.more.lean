-- ===== references stored, new cells, Object's constructor, casts =====
theorem rf_fit {t : FieldType} (ht : isRT t = true) (r : Option Nat) : narrow t (va_rf r) = va_rf r ∧ fits t (va_rf r) = true := by
  cases t <;> first | (cases ht; done) | (cases r <;> exact ⟨rfl, rfl⟩)
theorem cls_int {ci : Nat} {C : String} {T : u_T} {N : Nat} (h : vwCl[ci]? = some (C, T, N)) : ∀ k, k < N → isRT (fty ci k) = true ∨ fty ci k = .int := by
  match ci, h with
  | 0, h => cases h; decide
  | 1, h => cases h; decide
  | 2, h => cases h; decide
  | 3, h => cases h; decide
  | 4, h => cases h; decide
  | 5, h => cases h; decide
  | 6, h => cases h; decide
  | 7, h => cases h; decide
  | 8, h => cases h; decide
  | 9, h => cases h; decide
  | 10, h => cases h; decide
  | 11, h => cases h; decide
  | k + 12, h => simp at h
section VN
variable {σ : Bool} {M : MT} {d bc bs pc : Nat} {lv : List (Nat × AV)} {st : List AV} {h : HS} {P : Option AV → HS → Prop}
theorem gS_sRn {c i k c' i' k' : Nat} {r : Option PT} (hn : ¬ (c' = c ∧ k' = k ∧ i' = i)) : gS σ (sR h c i k r) c' i' k' = gS σ h c' i' k' := by
  unfold gS
  rw [gR_sR, if_neg hn]
theorem gS_sRe {c i k : Nat} {r : Option PT} (hs : σ = false ∨ fR c i k = none) : gS σ (sR h c i k r) c i k = r := by
  have e : gR (sR h c i k r) c i k = r := by rw [gR_sR, if_pos ⟨rfl, rfl, rfl⟩]
  unfold gS
  rcases hs with rfl | hs
  · rw [e]; rfl
  · rw [e, hs]; cases σ <;> rfl
theorem toE_sR {cA : FieldType → ClassId} {ad : PT → Nat} {c i k : Nat} {r : Option PT} {q : PT} (hq : q ≠ (c, i)) : toE σ cA ad (sR h c i k r) q = toE σ cA ad h q := by
  obtain ⟨c', i'⟩ := q
  have hn : ∀ k', ¬ (c' = c ∧ k' = k ∧ i' = i) := fun k' z => hq (by rw [z.1, z.2.2])
  have e1 : ∀ k', gS σ (sR h c i k r) c' i' k' = gS σ h c' i' k' := fun k' => gS_sRn (hn k')
  have e2 : gI (sR h c i k r) c' i' = gI h c' i' := rfl
  have e3 : ∀ ci, fv σ ad (sR h c i k r) c' i' ci = fv σ ad h c' i' ci := fun ci => by funext k'; unfold fv; rw [e1]; rfl
  unfold toE
  simp only [e1, e2, e3]
/-- a store of a reference -/
theorem Bd.stR {p : Program} {R : Room} {s : State} {m : MethodId} {args : Array Value} {meth : Method} {c : Code} {D : va_G} {cA : FieldType → ClassId} {B : Nat} {ad ad0 : PT → Nat} {L0 : List PT} {H H1 : Heap} {locs locs1 : List Loc} {cells slots : Nat} {ls : Array Slot} {st' : List AV} {cc i k j : Nat} {r : Option PT}
    (b : Bd σ M d bc bs lv st h p R s m args meth c D cA B ad ad0 L0 H locs cells slots ls) (hs : ∀ v ∈ st', okV h v) (hr : okV h (aP r)) (hj : h.2.2[j]? = some (cc, i)) (hP : va_P D vwCl ((wsO σ cA ad h).set j (ad (cc, i), toE σ cA ad (sR h cc i k r) (cc, i))) H1) (hD : va_D (fun q => B ≤ q) ((wsO σ cA ad h).set j (ad (cc, i), toE σ cA ad (sR h cc i k r) (cc, i)))) (hS : va_S (fun q => B ≤ q) s.heap H1 locs1) (hst : σ = false ∨ fR cc i k = none) :
    Bd σ M d bc bs lv st' (sR h cc i k r) p R s m args meth c D cA B ad ad0 L0 H1 locs1 cells slots ls := by
  obtain ⟨h1, h2, h3, h4, h5, h6, h7, h8, h9, -, h11⟩ := b
  have e := wsO_set (σ := σ) (cA := cA) (ad := ad) (h := h) (h2 := sR h cc i k r) (j := j) (q := (cc, i)) rfl hj (fun n q' hn hne => toE_sR (fun z => hne (ws_nd h6.2.1 (by rw [hn, z]) hj)))
  refine ⟨h1, h2, h3, h4, h5, ⟨by rw [e]; exact hP, by rw [e]; exact hD, fun q hq k' r' hr' => ?_⟩, hS, h8, h9, hs, h11⟩
  by_cases z : q.1 = cc ∧ k' = k ∧ q.2 = i
  · obtain ⟨z1, z2, z3⟩ := z
    rw [z1, z2, z3, gS_sRe hst] at hr'
    exact hr r' (by rw [hr'])
  · rw [gS_sRn z] at hr'
    exact h6.2.2 q hq k' r' hr'
theorem V_putR {c i ci idx k N : Nat} {C : String} {T : u_T} {r : Option PT} (hc65 : c < 65) (hr : rty c i = .inl ci) (hcl : vwCl[ci]? = some (C, T, N)) (hk : k < N) (hf : isRT (fty ci k) = true) (hfin : (T k).2.2.2 = false ∨ (T k).2.2.2 = true ∧ M.1.name = "<init>" ∧ (T k).1 = M.1.cls) (hst : σ = false ∨ fR c i k = none) (hd : decode M.2.1 pc = .ok (.putfield idx, 3)) (hw : Cond.fieldLink M.1.cls idx (T k).1 (T k).2.1 (T k).2.2.1 ∈ gw)
    (kk : V σ M d bc bs (pc + 3) lv st (sR h c i k r) P) : V σ M d bc bs pc lv (aP r :: aR c i :: st) h P := by
  intro p l e R s m args below meth c0 D cA B ad ad0 L0 H locs cells slots ls b
  obtain ⟨j, hj0, hj⟩ := ws_at (σ := σ) (cA := cA) (ad := ad) (inL hc65 (okh (okt b.so)))
  rw [toE_o hr] at hj
  obtain ⟨eN, hin, hty, hnm⟩ := cls_ok hcl
  have hlen : k < ((List.range (nF ci)).map (fv σ ad h c i ci)).length := by rw [List.length_map, List.length_range, ← eN]; exact hk
  have hset : ((List.range (nF ci)).map (fv σ ad h c i ci)).set k (vl ad (aP r)) = (List.range (nF ci)).map (fv σ ad (sR h c i k r) c i ci) := by
    refine fs_set ?_ (fun n hn => ?_)
    · unfold fv
      rw [hf, gS_sRe hst]
      rfl
    · unfold fv
      rw [gS_sRn (fun z => hn z.2.1)]
      rfl
  have go : ∀ (H1 : Heap) (locs1 : List Loc), va_P D vwCl ((wsO σ cA ad h).set j (ad (c, i), .inr (ci, ((List.range (nF ci)).map (fv σ ad h c i ci)).set k (vl ad (aP r))))) H1 → va_D (fun q => B ≤ q) ((wsO σ cA ad h).set j (ad (c, i), .inr (ci, ((List.range (nF ci)).map (fv σ ad h c i ci)).set k (vl ad (aP r))))) → va_S (fun q => B ≤ q) s.heap H1 locs1 → W p l e R s m args below meth c0 H1 locs1 cells slots (MQ below (QM σ D cA B ad0 L0 P) args s R.cells R.slots (fun q => B ≤ q)) (F0 m (pc + 3) ls (st.map (vl ad))) := by
    intro H1 locs1 hP hD hS
    rw [hset, ← toE_o (cA := cA) hr] at hP hD
    exact kk p l e R s m args below meth c0 D cA B ad ad0 L0 H1 locs1 cells slots ls (b.stR (okt (okt b.so)) (okh b.so) hj0 hP hD hS hst)
  have hp : parseFieldDescriptor (T k).2.2.1 = some (fty ci k) := hty k hk
  have hfit := rf_fit hf (r.map ad)
  rcases hfin with h1 | ⟨h1, h2, h3⟩
  · exact va_put (D := D) (ty := fty ci k) (v := vl ad (aP r)) b.x b.b b.ts hin (fty ci) hty hnm b.own b.K b.rep.1 b.rep.2.1 b.S j hj hcl k hk (b.ts _ hw) (fun _ z => z) h1 hp hfit.1 hfit.2 hlen hd go
  · exact va_putF (D := D) (ty := fty ci k) (v := vl ad (aP r)) b.x b.b b.ts hin (fty ci) hty hnm b.own b.K b.rep.1 b.rep.2.1 b.S j hj hcl k hk (b.ts _ hw) (fun _ z => z) h1 (b.1.2.2.2.2.2.2.2.1.trans h2) h3 hp hfit.1 hfit.2 hlen hd go
theorem gI_nw {c i c' i' k' : Nat} : gI (nw h c i) c' i' k' = if c' = c ∧ i' = i then 0 else gI h c' i' k' := rfl
theorem gR_nw {c i c' i' k' : Nat} : gR (nw h c i) c' i' k' = if c' = c ∧ i' = i then none else gR h c' i' k' := rfl
theorem gS_nwn {c i c' i' k' : Nat} (hn : ¬ (c' = c ∧ i' = i)) : gS σ (nw h c i) c' i' k' = gS σ h c' i' k' := by
  unfold gS
  rw [gR_nw, if_neg hn]
theorem gS_nwe {c i k : Nat} (hs : σ = false ∨ fR c i k = none) : gS σ (nw h c i) c i k = none := by
  have e : gR (nw h c i) c i k = none := by rw [gR_nw, if_pos ⟨rfl, rfl⟩]
  unfold gS
  rcases hs with rfl | hs
  · rw [e]; rfl
  · rw [e, hs]; cases σ <;> rfl
def adn (ad : PT → Nat) (c i a : Nat) : PT → Nat := fun q => if q = (c, i) then a else ad q
theorem adn_e {ad : PT → Nat} {c i a : Nat} : adn ad c i a (c, i) = a := by simp [adn]
theorem adn_n {ad : PT → Nat} {c i a : Nat} {q : PT} (hq : q ≠ (c, i)) : adn ad c i a q = ad q := by simp [adn, hq]
theorem toE_nw {cA : FieldType → ClassId} {ad : PT → Nat} {c i a : Nat} {q : PT} (hq : q ≠ (c, i)) (hc : ∀ k r, gS σ h q.1 q.2 k = some r → r ≠ (c, i)) : toE σ cA (adn ad c i a) (nw h c i) q = toE σ cA ad h q := by
  obtain ⟨c', i'⟩ := q
  have hn : ¬ (c' = c ∧ i' = i) := fun z => hq (by rw [z.1, z.2])
  have e1 : ∀ k', (gS σ (nw h c i) c' i' k').map (adn ad c i a) = (gS σ h c' i' k').map ad := fun k' => by
    rw [gS_nwn hn]
    cases hg : gS σ h c' i' k' with
    | none => rfl
    | some r => simp [adn_n (hc k' r hg)]
  have e2 : gI (nw h c i) c' i' = gI h c' i' := by funext k'; rw [gI_nw, if_neg hn]
  have e3 : ∀ ci, fv σ (adn ad c i a) (nw h c i) c' i' ci = fv σ ad h c' i' ci := fun ci => by funext k'; unfold fv; rw [e1, e2]
  unfold toE
  simp only [e1, e2, e3]
theorem wsO_nw {cA : FieldType → ClassId} {ad : PT → Nat} {c i a : Nat} (hc65 : c < 65) (hf : (c, i) ∉ h.2.2) (hc : ∀ q ∈ h.2.2, ∀ k r, gS σ h q.1 q.2 k = some r → okL h.2.2 r) : wsO σ cA (adn ad c i a) (nw h c i) = wsO σ cA ad h ++ [(a, toE σ cA (adn ad c i a) (nw h c i) (c, i))] := by
  unfold wsO
  show (h.2.2 ++ [(c, i)]).map _ = _
  rw [List.map_append]
  congr 1
  · refine List.map_congr_left (fun q hq => ?_)
    have hne : q ≠ (c, i) := fun z => hf (z ▸ hq)
    rw [adn_n hne, toE_nw hne (fun k r hr z => ?_)]
    rcases hc q hq k r hr with y | y
    · exact hf (z ▸ y)
    · rw [z] at y; exact absurd y (by show ¬ 65 ≤ c; omega)
  · simp [adn_e]
/-- behind a new cell -/
theorem Bd.nwc {p : Program} {R : Room} {s : State} {m : MethodId} {args : Array Value} {meth : Method} {c0 : Code} {D : va_G} {cA : FieldType → ClassId} {B : Nat} {ad ad0 : PT → Nat} {L0 : List PT} {H H1 : Heap} {locs : List Loc} {cells slots : Nat} {ls : Array Slot} {c i a n : Nat}
    (b : Bd σ M d bc bs lv st h p R s m args meth c0 D cA B ad ad0 L0 H locs cells slots ls) (hc65 : c < 65) (hf : (c, i) ∉ h.2.2) (hst : σ = false ∨ ∀ k, fR c i k = none) (hb : 1 ≤ bc) (hn : n ≤ bs)
    (hP : va_P D vwCl (wsO σ cA ad h ++ [(a, toE σ cA (adn ad c i a) (nw h c i) (c, i))]) H1) (hD : va_D (fun q => B ≤ q) (wsO σ cA ad h ++ [(a, toE σ cA (adn ad c i a) (nw h c i) (c, i))])) (hS : va_S (fun q => B ≤ q) s.heap H1 locs) :
    Bd σ M d (bc - 1) (bs - n) lv (aR c i :: st) (nw h c i) p R s m args meth c0 D cA B (adn ad c i a) ad0 L0 H1 locs (cells + 1) (slots + n) ls := by
  obtain ⟨h1, h2, h3, h4, h5, h6, h7, h8, h9, h10, h11⟩ := b
  have hne : ∀ q, okL h.2.2 q → q ≠ (c, i) := fun q hq z => by
    rcases hq with y | y
    · exact hf (z ▸ y)
    · rw [z] at y; exact absurd y (by show ¬ 65 ≤ c; omega)
  have ha : ∀ q, okL h.2.2 q → adn ad c i a q = ad q := fun q hq => adn_n (hne q hq)
  have up : ∀ q, okL h.2.2 q → okL (nw h c i).2.2 q := fun q hq => hq.elim (fun z => Or.inl (List.mem_append_left _ z)) Or.inr
  have e := wsO_nw (σ := σ) (cA := cA) (ad := ad) (a := a) hc65 hf h6.2.2
  refine ⟨h1, h2, Ex.kept h3 (fun _ _ _ => rfl) (fun q hq => ha q (Or.inr hq)), h4, ⟨by omega, by omega⟩, ⟨by rw [e]; exact hP, by rw [e]; exact hD, fun q hq k r hr => ?_⟩, hS, by rw [lvm_cg ha h9]; exact h8, fun q hq v e => up v (h9 q hq v e), okc (fun q e => by cases e; exact Or.inl (List.mem_append_right _ List.mem_cons_self)) (fun v hv q e => up q (h10 v hv q e)), fun q hq => ⟨(ha q (h11 q hq).2).trans (h11 q hq).1, up q (h11 q hq).2⟩⟩
  by_cases z : q.1 = c ∧ q.2 = i
  · rw [z.1, z.2, gS_nwe (hst.imp id (fun y => y k))] at hr
    cases hr
  · rw [gS_nwn z] at hr
    rcases List.mem_append.mp hq with y | y
    · exact up r (h6.2.2 q y k r hr)
    · have : q = (c, i) := by simpa using y
      exact absurd ⟨by rw [this], by rw [this]⟩ z
theorem V_new {c i ci idx N : Nat} {C : String} {T : u_T} (hc65 : c < 65) (hr : rty c i = .inl ci) (hcl : vwCl[ci]? = some (C, T, N)) (hst : σ = false ∨ ∀ k, fR c i k = none) (hd : decode M.2.1 pc = .ok (.new idx, 3)) (hw : Cond.classLink M.1.cls idx C ∈ gw) (hin : Cond.instantiable C N ∈ gw) (hini : Cond.initialized C ∈ gw) (hb : 1 ≤ bc) (hs : N ≤ bs) (hf : (c, i) ∉ h.2.2)
    (kk : V σ M d (bc - 1) (bs - N) (pc + 3) lv (aR c i :: st) (nw h c i) P) : V σ M d bc bs pc lv st h P := by
  intro p l e R s m args below meth c0 D cA B ad ad0 L0 H locs cells slots ls b
  obtain ⟨eN, hws, hty, hnm⟩ := cls_ok hcl
  have hA : ∀ q : Nat, s.heap.size ≤ q → B ≤ q := fun q hq => Nat.le_trans b.2.1 hq
  obtain ⟨g1, g2⟩ := b.2.2.2.2.1
  have hfs : ∀ j, j < N → defaultValue (fty ci j) = vp_V ((List.range (nF ci)).map (fv σ ad (nw h c i) c i ci)) j := by
    intro j hj
    unfold vp_V
    rw [List.getD_eq_getElem?_getD, ← eN, fs_get hj]
    show _ = fv σ ad (nw h c i) c i ci j
    unfold fv
    rw [gS_nwe (hst.imp id (fun y => y j))]
    rcases cls_int hcl j hj with z | z
    · rw [z]
      cases hq : fty ci j <;> rw [hq] at z <;> first | rfl | (cases z)
    · have e0 : gI (nw h c i) c i j = 0 := by rw [gI_nw, if_pos ⟨rfl, rfl⟩]
      rw [z, e0]
      rfl
  refine va_new (D := D) (ci := ci) (C := C) (T := T) (N := N) (fs := (List.range (nF ci)).map (fv σ ad (nw h c i) c i ci)) b.x b.b b.ts hws (fty ci) hty b.own (b.ts _ hw) (b.ts _ hin) (b.ts _ hini) b.K b.rep.1 b.rep.2.1 b.S hA hcl hfs (by omega) (by omega) hd (fun a H1 hP hD hS => ?_)
  have ee : (.inr (ci, (List.range (nF ci)).map (fv σ ad (nw h c i) c i ci)) : va_E) = toE σ cA (adn ad c i a) (nw h c i) (c, i) := by
    rw [toE_o hr]
    congr 3
    funext k
    unfold fv
    rw [gS_nwe (hst.imp id (fun y => y k))]
    rfl
  rw [ee] at hP hD
  have b2 := b.nwc (n := N) hc65 hf hst hb hs hP hD hS
  have K := kk p l e R s m args below meth c0 D cA B (adn ad c i a) ad0 L0 H1 locs (cells + 1) (slots + N) ls b2
  have est : (aR c i :: st).map (vl (adn ad c i a)) = .ref a :: st.map (vl ad) := by
    rw [List.map_cons, vls_cg (h := h) (fun q hq => adn_n (fun z => ?_)) b.so]
    · congr 1
      show va_rf (some (adn ad c i a (c, i))) = _
      rw [adn_e]
      rfl
    · rcases hq with y | y
      · exact hf (z ▸ y)
      · rw [z] at y; exact absurd y (by show ¬ 65 ≤ c; omega)
  rw [est] at K
  exact K
theorem V_newa {c i n : Nat} {x : Int32} {t : FieldType} {at' : ArrayType} (hc65 : c < 65) (hr : rty c i = .inr (t, n)) (ht : t = .int ∨ t = .byte ∨ t = .boolean) (hat : newarray.typeOf at' = t) (hst : σ = false ∨ ∀ k, fR c i k = none) (hd : decode M.2.1 pc = .ok (.newarray at', 2)) (hw : Cond.arrayClass t ∈ gw) (hx : ¬ x < 0) (hn : x.toNatClampNeg = n) (hby : n ≤ 65536) (hb : 1 ≤ bc) (hs : n ≤ bs) (hf : (c, i) ∉ h.2.2)
    (kk : V σ M d (bc - 1) (bs - n) (pc + 2) lv (aR c i :: st) (nw h c i) P) : V σ M d bc bs pc lv (aI x :: st) h P := by
  intro p l e R s m args below meth c0 D cA B ad ad0 L0 H locs cells slots ls b
  have hA : ∀ q : Nat, s.heap.size ≤ q → B ≤ q := fun q hq => Nat.le_trans b.2.1 hq
  obtain ⟨g1, g2⟩ := b.2.2.2.2.1
  have b' : Bd σ M d bc bs lv st h p R s m args meth c0 D cA B ad ad0 L0 H locs cells slots ls := b.stk (okt b.so)
  have hrt : isRT t = false := by rcases ht with rfl | rfl | rfl <;> rfl
  have hcb : n * componentBytes t ≤ 536870912 := by
    have : componentBytes t ≤ 8 := by rcases ht with rfl | rfl | rfl <;> decide
    have := Nat.mul_le_mul hby this
    omega
  refine va_newa (D := D) (a0 := (n, .inl (fun _ => 0))) b.x b.b (by rw [hat]; exact b.ts _ hw) hat b.K b.rep.1 b.rep.2.1 b.S hA (fun cA' => by rcases ht with rfl | rfl | rfl <;> rfl) hx hn hcb (by omega) (by omega) hd (fun a cA' H1 hK hP hD hS => ?_)
  have hcA : cA' = cA t := by
    have k1 : s.vm.findClass ("[" ++ t.toString) = some cA' := by
      have z := (hK.2 4 (cA', t) rfl).2
      rcases ht with rfl | rfl | rfl <;> exact z
    have k2 : s.vm.findClass ("[" ++ t.toString) = some (cA t) := by
      rcases ht with rfl | rfl | rfl
      · exact (b.K.2 0 (cA .int, .int) rfl).2
      · exact (b.K.2 1 (cA .byte, .byte) rfl).2
      · exact (b.K.2 2 (cA .boolean, .boolean) rfl).2
    rw [k1] at k2
    exact Option.some.inj k2
  have ee : (.inl (cA', n, .inl (fun _ => 0)) : va_E) = toE σ cA (adn ad c i a) (nw h c i) (c, i) := by
    have e0 : gI (nw h c i) c i = fun _ => 0 := by
      funext k
      rw [gI_nw, if_pos ⟨rfl, rfl⟩]
    rw [toE_a hr hrt, hcA, e0]
  rw [ee] at hP hD
  have b2 := b'.nwc (n := n) hc65 hf hst hb hs hP hD hS
  have K := kk p l e R s m args below meth c0 D cA B (adn ad c i a) ad0 L0 H1 locs (cells + 1) (slots + n) ls b2
  have est : (aR c i :: st).map (vl (adn ad c i a)) = .ref a :: st.map (vl ad) := by
    rw [List.map_cons, vls_cg (h := h) (fun q hq => adn_n (fun z => ?_)) b'.so]
    · congr 1
      show va_rf (some (adn ad c i a (c, i))) = _
      rw [adn_e]
      rfl
    · rcases hq with y | y
      · exact hf (z ▸ y)
      · rw [z] at y; exact absurd y (by show ¬ 65 ≤ c; omega)
  rw [est] at K
  exact K
theorem obj_code : Cond.code objectInit ⟨#[0xb1]⟩ 1 none ∈ gw := by decide +kernel
theorem obj_inst : Cond.instanceMethod objectInit ∈ gw := by decide +kernel
theorem V_objInit {c i idx : Nat} (hd : decode M.2.1 pc = .ok (.invokespecial idx, 3)) (hl : Cond.methodLink M.1.cls idx objectInit ∈ gw) (hw : (st.map ct).sum ≤ 8) (kk : V σ M (d + 1) bc bs (pc + 3) lv st h P) : V σ M (d + 1) bc bs pc lv (aR c i :: st) h P := by
  intro p l e R s m args below meth c0 D cA B ad ad0 L0 H locs cells slots ls b
  obtain ⟨f1, f2⟩ := b.2.2.2.1
  have hr : 2 * (F0 m pc ls (st.map (vl ad))).monitorRoom + ((st.map (vl ad)).map fun v => v.category).sum ≤ 8 := lv_room (ct_room hw)
  refine W.objInit b.x b.b b.own (b.ts _ hl) (b.ts _ obj_inst) (b.ts _ obj_code) rfl (by rw [b.1.2.2.1]; exact b.lh.1) rfl hd (by omega) ?_ (kk p l e R s m args below meth c0 D cA B ad ad0 L0 H locs cells slots ls (b.stk (okt b.so)))
  have hm : (F0 m pc ls ((aR c i :: st).map (vl ad))).monitorRoom = 0 := rfl
  have hm2 : (F0 m pc ls (st.map (vl ad))).monitorRoom = 0 := rfl
  rw [hm2] at hr
  rw [hm]
  omega
end VN

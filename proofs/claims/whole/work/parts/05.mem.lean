-- ===== fields, arrays, new cells =====
theorem fs_get {N k : Nat} {f : Nat → Value} (hk : k < N) : ((List.range N).map f)[k]? = some (f k) := by
  rw [List.getElem?_map, List.getElem?_range hk]
  rfl
theorem fs_set {N k : Nat} {f g : Nat → Value} {v : Value} (hv : g k = v) (hg : ∀ j, j ≠ k → g j = f j) : ((List.range N).map f).set k v = (List.range N).map g := by
  apply List.ext_getElem?
  intro n
  rw [List.getElem?_set]
  by_cases e : k = n
  · subst e
    rw [if_pos rfl]
    by_cases hk : k < N
    · rw [if_pos (by simpa using hk), fs_get hk, hv]
    · rw [if_neg (by simpa using hk)]
      symm
      apply List.getElem?_eq_none
      simpa using hk
  · rw [if_neg e]
    by_cases hk : n < N
    · rw [fs_get hk, fs_get hk, hg n (fun z => e z.symm)]
    · rw [List.getElem?_eq_none (by simpa using hk), List.getElem?_eq_none (by simpa using hk)]
section VM
variable {σ : Bool} {M : MT} {d bc bs pc : Nat} {lv : List (Nat × AV)} {st : List AV} {h : HS} {P : Option AV → HS → Prop}
theorem wsO_set {cA : FieldType → ClassId} {ad : PT → Nat} {h2 : HS} {j : Nat} {q : PT} (hL : h2.2.2 = h.2.2) (hj : h.2.2[j]? = some q) (ho : ∀ n q', h.2.2[n]? = some q' → n ≠ j → toE σ cA ad h2 q' = toE σ cA ad h q') : wsO σ cA ad h2 = (wsO σ cA ad h).set j (ad q, toE σ cA ad h2 q) := by
  apply List.ext_getElem?
  intro n
  rw [List.getElem?_set]
  unfold wsO
  rw [hL, List.getElem?_map, List.getElem?_map]
  by_cases e : j = n
  · subst e
    have hl : j < (h.2.2.map (fun q => (ad q, toE σ cA ad h q))).length := by
      rw [List.length_map]
      exact (List.getElem?_eq_some_iff.mp hj).1
    rw [if_pos rfl, if_pos hl, hj]
    rfl
  · rw [if_neg e]
    cases hn : h.2.2[n]? with
    | none => rfl
    | some q' =>
      show some (ad q', toE σ cA ad h2 q') = some (ad q', toE σ cA ad h q')
      rw [ho n q' hn (fun z => e z.symm)]
theorem ws_nd {cA : FieldType → ClassId} {ad : PT → Nat} {A : Nat → Prop} {i j : Nat} {q : PT} (hD : va_D A (wsO σ cA ad h)) (hi : h.2.2[i]? = some q) (hj : h.2.2[j]? = some q) : i = j := by
  refine hD.1 i j (ad q, toE σ cA ad h q) (ad q, toE σ cA ad h q) ?_ ?_ rfl
  · unfold wsO; rw [List.getElem?_map, hi]; rfl
  · unfold wsO; rw [List.getElem?_map, hj]; rfl
theorem gS_sI {c i k c' i' k' : Nat} {v : Int32} : gS σ (sI h c i k v) c' i' k' = gS σ h c' i' k' := rfl
theorem gI_sI {c i k c' i' k' : Nat} {v : Int32} : gI (sI h c i k v) c' i' k' = if c' = c ∧ k' = k ∧ i' = i then v else gI h c' i' k' := rfl
theorem gI_sR {c i k c' i' k' : Nat} {v : Option PT} : gI (sR h c i k v) c' i' k' = gI h c' i' k' := rfl
theorem gR_sI {c i k c' i' k' : Nat} {v : Int32} : gR (sI h c i k v) c' i' k' = gR h c' i' k' := rfl
theorem gR_sR {c i k c' i' k' : Nat} {v : Option PT} : gR (sR h c i k v) c' i' k' = if c' = c ∧ k' = k ∧ i' = i then v else gR h c' i' k' := rfl
theorem toE_sI {cA : FieldType → ClassId} {ad : PT → Nat} {c i k : Nat} {v : Int32} {q : PT} (hq : q ≠ (c, i)) : toE σ cA ad (sI h c i k v) q = toE σ cA ad h q := by
  obtain ⟨c', i'⟩ := q
  have hn : ∀ k', ¬ (c' = c ∧ k' = k ∧ i' = i) := fun k' z => hq (by rw [z.1, z.2.2])
  have e1 : ∀ k', gI (sI h c i k v) c' i' k' = gI h c' i' k' := fun k' => by rw [gI_sI, if_neg (hn k')]
  have e2 : gI (sI h c i k v) c' i' = gI h c' i' := funext e1
  have e3 : ∀ ci, fv σ ad (sI h c i k v) c' i' ci = fv σ ad h c' i' ci := fun ci => by funext k'; unfold fv; rw [gS_sI, e1]
  unfold toE
  simp only [e2, e3, gS_sI]
/-- a store of an int -/
theorem Bd.stI {p : Program} {R : Room} {s : State} {m : MethodId} {args : Array Value} {meth : Method} {c : Code} {D : va_G} {cA : FieldType → ClassId} {B : Nat} {ad ad0 : PT → Nat} {L0 : List PT} {H H1 : Heap} {locs locs1 : List Loc} {cells slots : Nat} {ls : Array Slot} {st' : List AV} {cc i k j : Nat} {v : Int32}
    (b : Bd σ M d bc bs lv st h p R s m args meth c D cA B ad ad0 L0 H locs cells slots ls) (hs : ∀ v ∈ st', okV h v) (hj : h.2.2[j]? = some (cc, i)) (hP : va_P D vwCl ((wsO σ cA ad h).set j (ad (cc, i), toE σ cA ad (sI h cc i k v) (cc, i))) H1) (hD : va_D (fun q => B ≤ q) ((wsO σ cA ad h).set j (ad (cc, i), toE σ cA ad (sI h cc i k v) (cc, i)))) (hS : va_S (fun q => B ≤ q) s.heap H1 locs1) :
    Bd σ M d bc bs lv st' (sI h cc i k v) p R s m args meth c D cA B ad ad0 L0 H1 locs1 cells slots ls := by
  obtain ⟨h1, h2, h3, h4, h5, h6, h7, h8, h9, -, h11⟩ := b
  have e := wsO_set (σ := σ) (cA := cA) (ad := ad) (h := h) (h2 := sI h cc i k v) (j := j) (q := (cc, i)) rfl hj (fun n q' hn hne => toE_sI (fun z => hne (ws_nd h6.2.1 (by rw [hn, z]) hj)))
  refine ⟨h1, h2, h3, h4, h5, ⟨by rw [e]; exact hP, by rw [e]; exact hD, fun q hq k' r hr => h6.2.2 q hq k' r hr⟩, hS, h8, h9, hs, h11⟩
theorem V_getI {c i ci idx k N : Nat} {C : String} {T : u_T} (hc65 : c < 65) (hr : rty c i = .inl ci) (hcl : vwCl[ci]? = some (C, T, N)) (hk : k < N) (hf : isRT (fty ci k) = false) (hd : decode M.2.1 pc = .ok (.getfield idx, 3)) (hw : Cond.fieldLink M.1.cls idx (T k).1 (T k).2.1 (T k).2.2.1 ∈ gw)
    (kk : V σ M d bc bs (pc + 3) lv (aI (gI h c i k) :: st) h P) : V σ M d bc bs pc lv (aR c i :: st) h P := by
  intro p l e R s m args below meth c0 D cA B ad ad0 L0 H locs cells slots ls b
  obtain ⟨j, -, hj⟩ := ws_at (σ := σ) (cA := cA) (ad := ad) (inL hc65 (okh b.so))
  rw [toE_o hr] at hj
  obtain ⟨eN, hin, -, -⟩ := cls_ok hcl
  refine va_get (D := D) b.x b.b b.ts hin b.own b.K b.rep.1 j hj hcl k hk (b.ts _ hw) (fun _ z => z) (v := .int (gI h c i k)) ?_ hd (kk p l e R s m args below meth c0 D cA B ad ad0 L0 H locs cells slots ls (b.stk (okc okI (okt b.so))))
  rw [← eN, fs_get hk]
  simp [fv, hf]
theorem V_getR {c i ci idx k N : Nat} {C : String} {T : u_T} (r : Option PT) (hc65 : c < 65) (hr : rty c i = .inl ci) (hcl : vwCl[ci]? = some (C, T, N)) (hk : k < N) (hf : isRT (fty ci k) = true) (hd : decode M.2.1 pc = .ok (.getfield idx, 3)) (hw : Cond.fieldLink M.1.cls idx (T k).1 (T k).2.1 (T k).2.2.1 ∈ gw) (hg : gS σ h c i k = r)
    (kk : V σ M d bc bs (pc + 3) lv (aP r :: st) h P) : V σ M d bc bs pc lv (aR c i :: st) h P := by
  intro p l e R s m args below meth c0 D cA B ad ad0 L0 H locs cells slots ls b
  have hm := inL hc65 (okh b.so)
  obtain ⟨j, -, hj⟩ := ws_at (σ := σ) (cA := cA) (ad := ad) hm
  rw [toE_o hr] at hj
  obtain ⟨eN, hin, -, -⟩ := cls_ok hcl
  refine va_get (D := D) b.x b.b b.ts hin b.own b.K b.rep.1 j hj hcl k hk (b.ts _ hw) (fun _ z => z) (v := va_rf (r.map ad)) ?_ hd (kk p l e R s m args below meth c0 D cA B ad ad0 L0 H locs cells slots ls (b.stk (okc ?_ (okt b.so))))
  · rw [← eN, fs_get hk]
    simp [fv, hf, hg]
  · intro q e
    cases e
    exact b.rep.2.2 (c, i) hm k q hg
theorem V_putI {c i ci idx k N : Nat} {C : String} {T : u_T} {v : Int32} (hc65 : c < 65) (hr : rty c i = .inl ci) (hcl : vwCl[ci]? = some (C, T, N)) (hk : k < N) (hf : fty ci k = .int) (hfin : (T k).2.2.2 = false ∨ (T k).2.2.2 = true ∧ M.1.name = "<init>" ∧ (T k).1 = M.1.cls) (hd : decode M.2.1 pc = .ok (.putfield idx, 3)) (hw : Cond.fieldLink M.1.cls idx (T k).1 (T k).2.1 (T k).2.2.1 ∈ gw)
    (kk : V σ M d bc bs (pc + 3) lv st (sI h c i k v) P) : V σ M d bc bs pc lv (aI v :: aR c i :: st) h P := by
  intro p l e R s m args below meth c0 D cA B ad ad0 L0 H locs cells slots ls b
  obtain ⟨j, hj0, hj⟩ := ws_at (σ := σ) (cA := cA) (ad := ad) (inL hc65 (okh (okt b.so)))
  rw [toE_o hr] at hj
  obtain ⟨eN, hin, hty, hnm⟩ := cls_ok hcl
  have hlen : k < ((List.range (nF ci)).map (fv σ ad h c i ci)).length := by rw [List.length_map, List.length_range, ← eN]; exact hk
  have hset : ((List.range (nF ci)).map (fv σ ad h c i ci)).set k (.int v) = (List.range (nF ci)).map (fv σ ad (sI h c i k v) c i ci) := by
    refine fs_set ?_ (fun n hn => ?_)
    · unfold fv
      rw [hf]
      simp [isRT, gI_sI]
    · have e1 : gI (sI h c i k v) c i n = gI h c i n := by rw [gI_sI, if_neg (fun z => hn z.2.1)]
      unfold fv
      rw [gS_sI, e1]
  have go : ∀ (H1 : Heap) (locs1 : List Loc), va_P D vwCl ((wsO σ cA ad h).set j (ad (c, i), .inr (ci, ((List.range (nF ci)).map (fv σ ad h c i ci)).set k (.int v)))) H1 → va_D (fun q => B ≤ q) ((wsO σ cA ad h).set j (ad (c, i), .inr (ci, ((List.range (nF ci)).map (fv σ ad h c i ci)).set k (.int v)))) → va_S (fun q => B ≤ q) s.heap H1 locs1 → W p l e R s m args below meth c0 H1 locs1 cells slots (MQ below (QM σ D cA B ad0 L0 P) args s R.cells R.slots (fun q => B ≤ q)) (F0 m (pc + 3) ls (st.map (vl ad))) := by
    intro H1 locs1 hP hD hS
    rw [hset, ← toE_o (cA := cA) hr] at hP hD
    exact kk p l e R s m args below meth c0 D cA B ad ad0 L0 H1 locs1 cells slots ls (b.stI (okt (okt b.so)) hj0 hP hD hS)
  have hp : parseFieldDescriptor (T k).2.2.1 = some .int := by rw [hty k hk, hf]
  rcases hfin with h1 | ⟨h1, h2, h3⟩
  · exact va_put (D := D) (ty := .int) (v := .int v) b.x b.b b.ts hin (fty ci) hty hnm b.own b.K b.rep.1 b.rep.2.1 b.S j hj hcl k hk (b.ts _ hw) (fun _ z => z) h1 hp rfl rfl hlen hd go
  · exact va_putF (D := D) (ty := .int) (v := .int v) b.x b.b b.ts hin (fty ci) hty hnm b.own b.K b.rep.1 b.rep.2.1 b.S j hj hcl k hk (b.ts _ hw) (fun _ z => z) h1 (b.1.2.2.2.2.2.2.2.1.trans h2) h3 hp rfl rfl hlen hd go
/-- fewer locals -/
theorem V_lv {lv2 : List (Nat × AV)} (is : List Nat) (he : is.map (fun i => lv[i]?) = lv2.map some) (kk : V σ M d bc bs pc lv2 st h P) : V σ M d bc bs pc lv st h P := by
  intro p l e R s m args below meth c D cA B ad ad0 L0 H locs cells slots ls b
  have hsub : ∀ q ∈ lv2, q ∈ lv := by
    intro q hq
    have h1 : some q ∈ is.map (fun i => lv[i]?) := by rw [he]; exact List.mem_map.mpr ⟨q, hq, rfl⟩
    obtain ⟨i, -, hi⟩ := List.mem_map.mp h1
    exact List.mem_of_getElem? hi
  refine kk p l e R s m args below meth c D cA B ad ad0 L0 H locs cells slots ls (b.lst b.so ⟨b.lh.1, b.lh.2.1, fun q hq => ?_⟩ (fun q hq => b.lo q (hsub q hq)))
  obtain ⟨q', hq', e⟩ := List.mem_map.mp hq
  exact b.lh.2.2 q (List.mem_map.mpr ⟨q', hsub q' hq', e⟩)
-- arrays of ints, bytes, booleans
theorem V_iald {c i n : Nat} {j : Int32} (hc65 : c < 65) (hr : rty c i = .inr (.int, n)) (hd : decode M.2.1 pc = .ok (.iaload, 1)) (hin : vp_in j n) (kk : V σ M d bc bs (pc + 1) lv (aI (gI h c i j.toNatClampNeg) :: st) h P) : V σ M d bc bs pc lv (aI j :: aR c i :: st) h P := by
  intro p l e R s m args below meth c0 D cA B ad ad0 L0 H locs cells slots ls b
  obtain ⟨j0, -, hj⟩ := ws_at (σ := σ) (cA := cA) (ad := ad) (inL hc65 (okh (okt b.so)))
  rw [toE_a hr rfl] at hj
  exact va_iald b.x b.b b.K b.rep.1 j0 0 hj rfl hin hd (kk p l e R s m args below meth c0 D cA B ad ad0 L0 H locs cells slots ls (b.stk (okc okI (okt (okt b.so)))))
theorem V_bald {c i n : Nat} {j : Int32} (hc65 : c < 65) (hr : rty c i = .inr (.byte, n)) (hd : decode M.2.1 pc = .ok (.baload, 1)) (hin : vp_in j n) (kk : V σ M d bc bs (pc + 1) lv (aI (gI h c i j.toNatClampNeg) :: st) h P) : V σ M d bc bs pc lv (aI j :: aR c i :: st) h P := by
  intro p l e R s m args below meth c0 D cA B ad ad0 L0 H locs cells slots ls b
  obtain ⟨j0, -, hj⟩ := ws_at (σ := σ) (cA := cA) (ad := ad) (inL hc65 (okh (okt b.so)))
  rw [toE_a hr rfl] at hj
  exact va_bald b.x b.b b.K b.rep.1 j0 1 hj rfl hin hd (kk p l e R s m args below meth c0 D cA B ad ad0 L0 H locs cells slots ls (b.stk (okc okI (okt (okt b.so)))))
theorem V_zald {c i n : Nat} {j : Int32} (hc65 : c < 65) (hr : rty c i = .inr (.boolean, n)) (hd : decode M.2.1 pc = .ok (.baload, 1)) (hin : vp_in j n) (kk : V σ M d bc bs (pc + 1) lv (aI (gI h c i j.toNatClampNeg) :: st) h P) : V σ M d bc bs pc lv (aI j :: aR c i :: st) h P := by
  intro p l e R s m args below meth c0 D cA B ad ad0 L0 H locs cells slots ls b
  obtain ⟨j0, -, hj⟩ := ws_at (σ := σ) (cA := cA) (ad := ad) (inL hc65 (okh (okt b.so)))
  rw [toE_a hr rfl] at hj
  exact va_zald b.x b.b b.K b.rep.1 j0 2 hj rfl hin hd (kk p l e R s m args below meth c0 D cA B ad ad0 L0 H locs cells slots ls (b.stk (okc okI (okt (okt b.so)))))
theorem gI_up {c i k : Nat} {v : Int32} : gI (sI h c i k v) c i = upd (gI h c i) k v := by
  funext k'
  rw [gI_sI, upd]
  by_cases e : k' = k
  · rw [if_pos ⟨rfl, e, rfl⟩, if_pos e]
  · rw [if_neg (fun z => e z.2.1), if_neg e]
theorem toE_up {cA : FieldType → ClassId} {ad : PT → Nat} {c i n k : Nat} {t : FieldType} {v : Int32} (hr : rty c i = .inr (t, n)) (ht : isRT t = false) : (.inl (cA t, n, .inl (upd (gI h c i) k v)) : va_E) = toE σ cA ad (sI h c i k v) (c, i) := by
  rw [toE_a hr ht, gI_up]
theorem V_iast {c i n : Nat} {j x : Int32} (hc65 : c < 65) (hr : rty c i = .inr (.int, n)) (hd : decode M.2.1 pc = .ok (.iastore, 1)) (hin : vp_in j n) (kk : V σ M d bc bs (pc + 1) lv st (sI h c i j.toNatClampNeg x) P) : V σ M d bc bs pc lv (aI x :: aI j :: aR c i :: st) h P := by
  intro p l e R s m args below meth c0 D cA B ad ad0 L0 H locs cells slots ls b
  obtain ⟨j0, hj0, hj⟩ := ws_at (σ := σ) (cA := cA) (ad := ad) (inL hc65 (okh (okt (okt b.so))))
  rw [toE_a hr rfl] at hj
  refine va_iast b.x b.b b.K b.rep.1 b.rep.2.1 b.S j0 0 hj rfl hin hd (fun H1 locs1 hP hD hS => ?_)
  rw [toE_up (σ := σ) (ad := ad) hr rfl] at hP hD
  exact kk p l e R s m args below meth c0 D cA B ad ad0 L0 H1 locs1 cells slots ls (b.stI (okt (okt (okt b.so))) hj0 hP hD hS)
theorem V_bast {c i n : Nat} {j x : Int32} (hc65 : c < 65) (hr : rty c i = .inr (.byte, n)) (hd : decode M.2.1 pc = .ok (.bastore, 1)) (hin : vp_in j n) (kk : V σ M d bc bs (pc + 1) lv st (sI h c i j.toNatClampNeg (vp_nar .byte x)) P) : V σ M d bc bs pc lv (aI x :: aI j :: aR c i :: st) h P := by
  intro p l e R s m args below meth c0 D cA B ad ad0 L0 H locs cells slots ls b
  obtain ⟨j0, hj0, hj⟩ := ws_at (σ := σ) (cA := cA) (ad := ad) (inL hc65 (okh (okt (okt b.so))))
  rw [toE_a hr rfl] at hj
  refine va_bast b.x b.b b.K b.rep.1 b.rep.2.1 b.S j0 1 hj rfl hin hd (fun H1 locs1 hP hD hS => ?_)
  rw [toE_up (σ := σ) (ad := ad) hr rfl] at hP hD
  exact kk p l e R s m args below meth c0 D cA B ad ad0 L0 H1 locs1 cells slots ls (b.stI (okt (okt (okt b.so))) hj0 hP hD hS)
theorem V_zast {c i n : Nat} {j x : Int32} (hc65 : c < 65) (hr : rty c i = .inr (.boolean, n)) (hd : decode M.2.1 pc = .ok (.bastore, 1)) (hin : vp_in j n) (hx : x = 0 ∨ x = 1) (kk : V σ M d bc bs (pc + 1) lv st (sI h c i j.toNatClampNeg x) P) : V σ M d bc bs pc lv (aI x :: aI j :: aR c i :: st) h P := by
  intro p l e R s m args below meth c0 D cA B ad ad0 L0 H locs cells slots ls b
  obtain ⟨j0, hj0, hj⟩ := ws_at (σ := σ) (cA := cA) (ad := ad) (inL hc65 (okh (okt (okt b.so))))
  rw [toE_a hr rfl] at hj
  have ex : vp_nar .boolean x = x := by rcases hx with rfl | rfl <;> decide +kernel
  refine va_zast b.x b.b b.K b.rep.1 b.rep.2.1 b.S j0 2 hj rfl hin hd (fun H1 locs1 hP hD hS => ?_)
  rw [ex, toE_up (σ := σ) (ad := ad) hr rfl] at hP hD
  exact kk p l e R s m args below meth c0 D cA B ad ad0 L0 H1 locs1 cells slots ls (b.stI (okt (okt (okt b.so))) hj0 hP hD hS)
theorem V_alen {c i n : Nat} {t : FieldType} {v : Int32} (hc65 : c < 65) (hr : rty c i = .inr (t, n)) (ht : t = .int ∨ t = .byte ∨ t = .boolean) (hv : Int32.ofNat n = v) (hd : decode M.2.1 pc = .ok (.arraylength, 1)) (kk : V σ M d bc bs (pc + 1) lv (aI v :: st) h P) : V σ M d bc bs pc lv (aR c i :: st) h P := by
  intro p l e R s m args below meth c0 D cA B ad ad0 L0 H locs cells slots ls b
  obtain ⟨j0, -, hj⟩ := ws_at (σ := σ) (cA := cA) (ad := ad) (inL hc65 (okh b.so))
  have K := kk p l e R s m args below meth c0 D cA B ad ad0 L0 H locs cells slots ls (b.stk (okc okI (okt b.so)))
  rcases ht with rfl | rfl | rfl
  · rw [toE_a hr rfl] at hj
    exact va_alen b.x b.b b.K b.rep.1 j0 0 hj rfl hv hd K
  · rw [toE_a hr rfl] at hj
    exact va_alen b.x b.b b.K b.rep.1 j0 1 hj rfl hv hd K
  · rw [toE_a hr rfl] at hj
    exact va_alen b.x b.b b.K b.rep.1 j0 2 hj rfl hv hd K
-- switches
theorem V_tabIn {dflt lo hi off : Int} {offs : Array Int} {len : Nat} {x : Int32} (tgt : Nat) (hd : decode M.2.1 pc = .ok (.tableswitch dflt lo hi offs, len)) (h1 : ¬ x.toInt < lo) (h2 : ¬ hi < x.toInt) (ho : offs[(x.toInt - lo).toNat]? = some off) (ht : (pc : Int) + off = (tgt : Int)) (kk : V σ M d bc bs tgt lv st h P) : V σ M d bc bs pc lv (aI x :: st) h P := by
  intro p l e R s m args below meth c D cA B ad ad0 L0 H locs cells slots ls b
  exact lv_tableIn b.x b.b hd h1 h2 ho ht (kk p l e R s m args below meth c D cA B ad ad0 L0 H locs cells slots ls (b.stk (okt b.so)))
theorem V_tabOut {dflt lo hi : Int} {offs : Array Int} {len : Nat} {x : Int32} (tgt : Nat) (hd : decode M.2.1 pc = .ok (.tableswitch dflt lo hi offs, len)) (h1 : x.toInt < lo ∨ hi < x.toInt) (ht : (pc : Int) + dflt = (tgt : Int)) (kk : V σ M d bc bs tgt lv st h P) : V σ M d bc bs pc lv (aI x :: st) h P := by
  intro p l e R s m args below meth c D cA B ad ad0 L0 H locs cells slots ls b
  exact lv_tableOut b.x b.b hd h1 ht (kk p l e R s m args below meth c D cA B ad ad0 L0 H locs cells slots ls (b.stk (okt b.so)))
theorem V_lookup {dflt off : Int} {ps : Array (Int × Int)} {len : Nat} {x : Int32} (tgt : Nat) (hd : decode M.2.1 pc = .ok (.lookupswitch dflt ps, len)) (hp : (ps.toList.zip (ps.toList.drop 1)).all (fun (a, next) => a.1 < next.1) = true) (ho : Op.lookupswitch.offset ps.toList dflt x.toInt = off) (ht : (pc : Int) + off = (tgt : Int)) (kk : V σ M d bc bs tgt lv st h P) : V σ M d bc bs pc lv (aI x :: st) h P := by
  intro p l e R s m args below meth c D cA B ad ad0 L0 H locs cells slots ls b
  exact lv_lookup b.x b.b hd hp ho ht (kk p l e R s m args below meth c D cA B ad ad0 L0 H locs cells slots ls (b.stk (okt b.so)))
theorem V_ifnull {q : PT} {off : Int} (hd : decode M.2.1 pc = .ok (.ifnull off, 3)) (kk : V σ M d bc bs (pc + 3) lv st h P) : V σ M d bc bs pc lv (aP (some q) :: st) h P := by
  intro p l e R s m args below meth c D cA B ad ad0 L0 H locs cells slots ls b
  exact lv_ifnull b.x b.b hd (kk p l e R s m args below meth c D cA B ad ad0 L0 H locs cells slots ls (b.stk (okt b.so)))
theorem V_ifnullN {off : Int} (tgt : Nat) (hd : decode M.2.1 pc = .ok (.ifnull off, 3)) (ht : (pc : Int) + off = (tgt : Int)) (kk : V σ M d bc bs tgt lv st h P) : V σ M d bc bs pc lv (aP none :: st) h P := by
  intro p l e R s m args below meth c D cA B ad ad0 L0 H locs cells slots ls b
  exact lv_ifnullN b.x b.b hd ht (kk p l e R s m args below meth c D cA B ad ad0 L0 H locs cells slots ls (b.stk (okt b.so)))
theorem V_ifnonnull {q : PT} {off : Int} (tgt : Nat) (hd : decode M.2.1 pc = .ok (.ifnonnull off, 3)) (ht : (pc : Int) + off = (tgt : Int)) (kk : V σ M d bc bs tgt lv st h P) : V σ M d bc bs pc lv (aP (some q) :: st) h P := by
  intro p l e R s m args below meth c D cA B ad ad0 L0 H locs cells slots ls b
  exact lv_ifnonnull b.x b.b hd ht (kk p l e R s m args below meth c D cA B ad ad0 L0 H locs cells slots ls (b.stk (okt b.so)))
theorem V_ifnonnullN {off : Int} (hd : decode M.2.1 pc = .ok (.ifnonnull off, 3)) (kk : V σ M d bc bs (pc + 3) lv st h P) : V σ M d bc bs pc lv (aP none :: st) h P := by
  intro p l e R s m args below meth c D cA B ad ad0 L0 H locs cells slots ls b
  exact lv_ifnonnullN b.x b.b hd (kk p l e R s m args below meth c D cA B ad ad0 L0 H locs cells slots ls (b.stk (okt b.so)))
end VM

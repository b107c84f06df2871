-- ===== rows of references, the library's statics and texts =====
theorem rt_63 {i : Nat} : rty 63 i = .inr (OJ, i) := rfl
theorem rt_64 {i : Nat} : rty 64 i = .inr (OJ, i) := rfl
section VJ
variable {σ : Bool} {M : MT} {d bc bs pc : Nat} {lv : List (Nat × AV)} {st : List AV} {h : HS} {P : Option AV → HS → Prop}
theorem okX {c i : Nat} (hc : 65 ≤ c) : okV h (aR c i) := fun q e => by cases e; exact Or.inr hc
theorem toE_r {cA : FieldType → ClassId} {ad : PT → Nat} {c i n : Nat} (hr : rty c i = .inr (OJ, n)) : toE σ cA ad h (c, i) = .inl (cA OJ, n, .inr (.inr (.inr (.inr (fun k => (gS σ h c i k).map ad))))) := by
  unfold toE
  rw [hr]
  rfl
theorem V_aald {c i n : Nat} {j : Int32} (r : Option PT) (hc65 : c < 65) (hr : rty c i = .inr (OJ, n)) (hd : decode M.2.1 pc = .ok (.aaload, 1)) (hin : vp_in j n) (hg : gS σ h c i j.toNatClampNeg = r) (kk : V σ M d bc bs (pc + 1) lv (aP r :: st) h P) : V σ M d bc bs pc lv (aI j :: aR c i :: st) h P := by
  intro p l e R s m args below meth c0 D cA B ad ad0 L0 H locs cells slots ls b
  have hm := inL hc65 (okh (okt b.so))
  obtain ⟨j0, -, hj⟩ := ws_at (σ := σ) (cA := cA) (ad := ad) hm
  rw [toE_r hr] at hj
  refine va_aldq b.x b.b b.K b.rep.1 j0 3 hj rfl hin hd ?_
  rw [hg]
  exact kk p l e R s m args below meth c0 D cA B ad ad0 L0 H locs cells slots ls (b.stk (okc (fun q e => by cases e; exact b.rep.2.2 (c, i) hm _ q hg) (okt (okt b.so))))
theorem toE_sRa {cA : FieldType → ClassId} {ad : PT → Nat} {c i n k : Nat} {r : Option PT} (hr : rty c i = .inr (OJ, n)) (hst : σ = false ∨ fR c i k = none) : (.inl (cA OJ, n, .inr (.inr (.inr (.inr (va_up (fun k => (gS σ h c i k).map ad) k (r.map ad)))))) : va_E) = toE σ cA ad (sR h c i k r) (c, i) := by
  rw [toE_r hr]
  have : va_up (fun k => (gS σ h c i k).map ad) k (r.map ad) = fun k' => (gS σ (sR h c i k r) c i k').map ad := by
    funext k'
    by_cases e : k' = k
    · subst e
      rw [va_up_self, gS_sRe hst]
    · rw [va_up_ne _ _ e, gS_sRn (fun z => e z.2.1)]
  rw [this]
theorem V_aast {c i n cv iv ci N : Nat} {C : String} {T : u_T} {j : Int32} (hc65 : c < 65) (hr : rty c i = .inr (OJ, n)) (hv65 : cv < 65) (hvr : rty cv iv = .inl ci) (hcl : vwCl[ci]? = some (C, T, N)) (hC : C = "GreatStore$Thing" ∨ C = "GreatStore$Slip") (hst : σ = false ∨ ∀ k, fR c i k = none) (hd : decode M.2.1 pc = .ok (.aastore, 1)) (hin : vp_in j n) (kk : V σ M d bc bs (pc + 1) lv st (sR h c i j.toNatClampNeg (some (cv, iv))) P) : V σ M d bc bs pc lv (aR cv iv :: aI j :: aR c i :: st) h P := by
  intro p l e R s m args below meth c0 D cA B ad ad0 L0 H locs cells slots ls b
  obtain ⟨j0, hj0, hj⟩ := ws_at (σ := σ) (cA := cA) (ad := ad) (inL hc65 (okh (okt (okt b.so))))
  obtain ⟨jv, -, hjv⟩ := ws_at (σ := σ) (cA := cA) (ad := ad) (inL hv65 (okh b.so))
  rw [toE_r hr] at hj
  rw [toE_o hvr] at hjv
  have hca : va_Nw (.castable C "java/lang/Object") s := by
    rcases hC with e | e
    · rw [e]; exact b.2.2.1.2.2.2.2.2.2.2.2.1
    · rw [e]; exact b.2.2.1.2.2.2.2.2.2.2.2.2.1
  refine va_astqO (r := (C, T, N)) b.x b.b b.K b.rep.1 b.rep.2.1 b.S j0 3 jv ci hj rfl hca hjv hcl hin hd (fun H1 locs1 hP hD hS => ?_)
  have hst' := hst.imp id (fun y => y j.toNatClampNeg)
  have e2 := toE_sRa (σ := σ) (h := h) (cA := cA) (ad := ad) (r := some (cv, iv)) (k := j.toNatClampNeg) hr hst'
  rw [show (some (cv, iv) : Option PT).map ad = some (ad (cv, iv)) from rfl] at e2
  rw [e2] at hP hD
  exact kk p l e R s m args below meth c0 D cA B ad ad0 L0 H1 locs1 cells slots ls (b.stR (okt (okt (okt b.so))) (okh b.so) hj0 hP hD hS hst')
theorem V_anew {c n idx : Nat} {x : Int32} (hc65 : c < 65) (hr : rty c n = .inr (OJ, n)) (hst : σ = false ∨ ∀ k, fR c n k = none) (hd : decode M.2.1 pc = .ok (.anewarray idx, 3)) (hw : Cond.classLink M.1.cls idx "java/lang/Object" ∈ gw) (hx : ¬ x < 0) (hn : x.toNatClampNeg = n) (hby : n ≤ 65536) (hb : 1 ≤ bc) (hs : n ≤ bs) (hf : (c, n) ∉ h.2.2)
    (kk : V σ M d (bc - 1) (bs - n) (pc + 3) lv (aR c n :: st) (nw h c n) P) : V σ M d bc bs pc lv (aI x :: st) h P := by
  intro p l e R s m args below meth c0 D cA B ad ad0 L0 H locs cells slots ls b
  have hA : ∀ q : Nat, s.heap.size ≤ q → B ≤ q := fun q hq => Nat.le_trans b.2.1 hq
  obtain ⟨g1, g2⟩ := b.2.2.2.2.1
  have b' : Bd σ M d bc bs lv st h p R s m args meth c0 D cA B ad ad0 L0 H locs cells slots ls := b.stk (okt b.so)
  refine va_newq (D := D) b.x b.b b.own (b.ts _ hw) b.2.2.1.2.2.2.2.2.2.1 b.K b.rep.1 b.rep.2.1 b.S hA hx hn (by omega) (by omega) (by omega) hd (fun a cA' H1 hK hP hD hS => ?_)
  have hcA : cA' = cA OJ := by
    obtain ⟨kA, comp, z1, z2, z3, z4⟩ := (hK.2 4 (cA', OJ) rfl).2
    obtain ⟨kA2, comp2, y1, y2, y3, y4⟩ := (b.K.2 3 (cA OJ, OJ) rfl).2
    rw [z4] at y4
    exact Option.some.inj y4
  have ee : (.inl (cA', n, .inr (.inr (.inr (.inr (fun _ => none))))) : va_E) = toE σ cA (adn ad c n a) (nw h c n) (c, n) := by
    rw [toE_r hr, hcA]
    have : (fun _ => none : Nat → Option Nat) = fun k => (gS σ (nw h c n) c n k).map (adn ad c n a) := by
      funext k
      rw [gS_nwe (hst.imp id (fun y => y k))]
      rfl
    rw [this]
  rw [ee] at hP hD
  have b2 := b'.nwc (n := n) hc65 hf hst hb hs hP hD hS
  have K := kk p l e R s m args below meth c0 D cA B (adn ad c n a) ad0 L0 H1 locs (cells + 1) (slots + n) ls b2
  have est : (aR c n :: st).map (vl (adn ad c n a)) = .ref a :: st.map (vl ad) := by
    rw [List.map_cons, vls_cg (h := h) (fun q hq => adn_n (fun z => ?_)) b'.so]
    · congr 1
      show va_rf (some (adn ad c n a (c, n))) = _
      rw [adn_e]
      rfl
    · rcases hq with y | y
      · exact hf (z ▸ y)
      · rw [z] at y; exact absurd y (by show ¬ 65 ≤ c; omega)
  rw [est] at K
  exact K
theorem V_alenR {c i n : Nat} {v : Int32} (hc65 : c < 65) (hr : rty c i = .inr (OJ, n)) (hv : Int32.ofNat n = v) (hd : decode M.2.1 pc = .ok (.arraylength, 1)) (kk : V σ M d bc bs (pc + 1) lv (aI v :: st) h P) : V σ M d bc bs pc lv (aR c i :: st) h P := by
  intro p l e R s m args below meth c0 D cA B ad ad0 L0 H locs cells slots ls b
  obtain ⟨j0, -, hj⟩ := ws_at (σ := σ) (cA := cA) (ad := ad) (inL hc65 (okh b.so))
  rw [toE_r hr] at hj
  exact va_alen b.x b.b b.K b.rep.1 j0 3 hj rfl hv hd (kk p l e R s m args below meth c0 D cA B ad ad0 L0 H locs cells slots ls (b.stk (okc okI (okt b.so))))
theorem V_alenE (hd : decode M.2.1 pc = .ok (.arraylength, 1)) (kk : V σ M d bc bs (pc + 1) lv (aI 0 :: st) h P) : V σ M d bc bs pc lv (aR 66 0 :: st) h P := by
  intro p l e R s m args below meth c0 D cA B ad ad0 L0 H locs cells slots ls b
  exact va_tlen b.x b.b b.2.2.1.2.2.2.2.1 b.S (v := 0) rfl hd (kk p l e R s m args below meth c0 D cA B ad ad0 L0 H locs cells slots ls (b.stk (okc okI (okt b.so))))
theorem V_alenS {j : Nat} (hj : j < 7) (hd : decode M.2.1 pc = .ok (.arraylength, 1)) (kk : V σ M d bc bs (pc + 1) lv (aI (Int32.ofNat (sLn.getD j 0)) :: st) h P) : V σ M d bc bs pc lv (aR 68 j :: st) h P := by
  intro p l e R s m args below meth c0 D cA B ad ad0 L0 H locs cells slots ls b
  exact va_tlen b.x b.b (b.2.2.1.1.1 j hj).2.2.2 b.S rfl hd (kk p l e R s m args below meth c0 D cA B ad ad0 L0 H locs cells slots ls (b.stk (okc okI (okt b.so))))
theorem V_baldS {j : Nat} {x : Int32} (hj : j < 7) (hd : decode M.2.1 pc = .ok (.baload, 1)) (hin : vp_in x (sLn.getD j 0)) (kk : V σ M d bc bs (pc + 1) lv (aI ((sBy.getD j []).getD x.toNatClampNeg 0) :: st) h P) : V σ M d bc bs pc lv (aI x :: aR 68 j :: st) h P := by
  intro p l e R s m args below meth c0 D cA B ad ad0 L0 H locs cells slots ls b
  exact va_tb b.x b.b (b.2.2.1.1.1 j hj).2.2.2 b.S hin rfl hd (kk p l e R s m args below meth c0 D cA B ad ad0 L0 H locs cells slots ls (b.stk (okc okI (okt (okt b.so)))))
theorem V_getsE {idx : Nat} (hd : decode M.2.1 pc = .ok (.getstatic idx, 3)) (hw : Cond.fieldLink M.1.cls idx "java/util/ArrayList" "DEFAULTCAPACITY_EMPTY_ELEMENTDATA" "[Ljava/lang/Object;" ∈ gw) (kk : V σ M d bc bs (pc + 3) lv (aR 66 0 :: st) h P) : V σ M d bc bs pc lv st h P := by
  intro p l e R s m args below meth c0 D cA B ad ad0 L0 H locs cells slots ls b
  exact va_gets b.x b.b b.2.2.1.2.2.2.1 b.S b.own (b.ts _ hw) (fun _ z => z) hd (kk p l e R s m args below meth c0 D cA B ad ad0 L0 H locs cells slots ls (b.stk (okc (okX (by decide)) b.so)))
theorem V_getsC {idx : Nat} (hd : decode M.2.1 pc = .ok (.getstatic idx, 3)) (hw : Cond.fieldLink M.1.cls idx "java/lang/String" "COMPACT_STRINGS" "Z" ∈ gw) (kk : V σ M d bc bs (pc + 3) lv (aI 1 :: st) h P) : V σ M d bc bs pc lv st h P := by
  intro p l e R s m args below meth c0 D cA B ad ad0 L0 H locs cells slots ls b
  exact va_gets b.x b.b b.2.2.1.2.2.1 b.S b.own (b.ts _ hw) (fun _ z => z) hd (kk p l e R s m args below meth c0 D cA B ad ad0 L0 H locs cells slots ls (b.stk (okc okI b.so)))
theorem V_getsF {idx : Nat} (hd : decode M.2.1 pc = .ok (.getstatic idx, 3)) (hw : Cond.fieldLink M.1.cls idx "jdk/internal/util/Preconditions" "SIOOBE_FORMATTER" "Ljava/util/function/BiFunction;" ∈ gw) (kk : ∀ r : Option PT, V σ M d bc bs (pc + 3) lv (aP r :: st) h P) : V σ M d bc bs pc lv st h P := by
  intro p l e R s m args below meth c0 D cA B ad ad0 L0 H locs cells slots ls b
  rcases b.2.2.1.2.2.2.2.2.2.2.2.2.2 with z | z
  · exact va_gets b.x b.b z b.S b.own (b.ts _ hw) (fun _ z => z) hd (kk none p l e R s m args below meth c0 D cA B ad ad0 L0 H locs cells slots ls (b.stk (okc okN b.so)))
  · exact va_gets b.x b.b z b.S b.own (b.ts _ hw) (fun _ z => z) hd (kk (some (69, 0)) p l e R s m args below meth c0 D cA B ad ad0 L0 H locs cells slots ls (b.stk (okc (okX (by decide)) b.so)))
theorem V_getSV {idx j : Nat} (hj : j < 7) (hd : decode M.2.1 pc = .ok (.getfield idx, 3)) (hw : Cond.fieldLink M.1.cls idx "java/lang/String" "value" "[B" ∈ gw) (kk : V σ M d bc bs (pc + 3) lv (aR 68 j :: st) h P) : V σ M d bc bs pc lv (aR 65 j :: st) h P := by
  intro p l e R s m args below meth c0 D cA B ad ad0 L0 H locs cells slots ls b
  exact vk_getf b.x b.b (b.2.2.1.1.1 j hj).2.2.1 b.S b.own (b.ts _ hw) (fun _ z => z) hd (kk p l e R s m args below meth c0 D cA B ad ad0 L0 H locs cells slots ls (b.stk (okc (okX (by decide)) (okt b.so))))
theorem V_getSC {idx j : Nat} (hj : j < 7) (hd : decode M.2.1 pc = .ok (.getfield idx, 3)) (hw : Cond.fieldLink M.1.cls idx "java/lang/String" "coder" "B" ∈ gw) (kk : V σ M d bc bs (pc + 3) lv (aI 0 :: st) h P) : V σ M d bc bs pc lv (aR 65 j :: st) h P := by
  intro p l e R s m args below meth c0 D cA B ad ad0 L0 H locs cells slots ls b
  exact vk_getf b.x b.b (b.2.2.1.1.1 j hj).2.1 b.S b.own (b.ts _ hw) (fun _ z => z) hd (kk p l e R s m args below meth c0 D cA B ad ad0 L0 H locs cells slots ls (b.stk (okc okI (okt b.so))))
theorem V_acmpE {r : Option PT} {off : Int} (tgt : Nat) (hd : decode M.2.1 pc = .ok (.if_acmp .eq off, 3)) (ht : (pc : Int) + off = (tgt : Int)) (kk : V σ M d bc bs tgt lv st h P) : V σ M d bc bs pc lv (aP r :: aP r :: st) h P := by
  intro p l e R s m args below meth c0 D cA B ad ad0 L0 H locs cells slots ls b
  exact lv_acmp_eq b.x b.b hd ht (fun _ => kk p l e R s m args below meth c0 D cA B ad ad0 L0 H locs cells slots ls (b.stk (okt (okt b.so)))) (fun z => absurd rfl z)
theorem V_acmpN {r : Option PT} {off : Int} (tgt : Nat) (hd : decode M.2.1 pc = .ok (.if_acmp .ne off, 3)) (ht : (pc : Int) + off = (tgt : Int)) (kk : V σ M d bc bs (pc + 3) lv st h P) : V σ M d bc bs pc lv (aP r :: aP r :: st) h P := by
  intro p l e R s m args below meth c0 D cA B ad ad0 L0 H locs cells slots ls b
  exact lv_acmp_ne b.x b.b hd ht (fun z => absurd rfl z) (fun _ => kk p l e R s m args below meth c0 D cA B ad ad0 L0 H locs cells slots ls (b.stk (okt (okt b.so))))
theorem V_ldcM {idx : Nat} (hd : decode M.2.1 pc = .ok (.ldc idx, 2)) (hw : Cond.classLink M.1.cls idx "[Ljava/lang/Object;" ∈ gw) (kk : V σ M d bc bs (pc + 2) lv (aR 67 0 :: st) h P) : V σ M d bc bs pc lv st h P := by
  intro p l e R s m args below meth c0 D cA B ad ad0 L0 H locs cells slots ls b
  exact va_ldcM b.x b.b b.own (b.ts _ hw) b.2.2.1.2.2.2.2.2.1 hd (kk p l e R s m args below meth c0 D cA B ad ad0 L0 H locs cells slots ls (b.stk (okc (okX (by decide)) b.so)))
theorem V_i2c {x : Int32} (hd : decode M.2.1 pc = .ok (.i2c, 1)) (kk : V σ M d bc bs (pc + 1) lv (aI ((x.toUInt32 % 65536).toInt32) :: st) h P) : V σ M d bc bs pc lv (aI x :: st) h P := by
  intro p l e R s m args below meth c0 D cA B ad ad0 L0 H locs cells slots ls b
  exact lv_i2c b.x b.b hd rfl (kk p l e R s m args below meth c0 D cA B ad ad0 L0 H locs cells slots ls (b.stk (okc okI (okt b.so))))
theorem V_nreturn {x : Int32} {ty : FieldType} (hd : decode M.2.1 pc = .ok (.ireturn, 1)) (hr : M.2.2.2 = some ty) (hz : narrow ty (.int x) = .int x) (k : P (some (aI x)) h) : V σ M d bc bs pc lv [aI x] h P := by
  intro p l e R s m args below meth c D cA B ad ad0 L0 H locs cells slots ls b
  refine W.widen (k := R.cells) (n := R.slots) (Nat.le_trans (Nat.le_add_right _ _) b.2.2.2.2.1.1) (Nat.le_trans (Nat.le_add_right _ _) b.2.2.2.2.1.2) ?_
  exact W.zret (v := x) b.x b.b (b.1.2.2.2.2.2.1.trans hr) hz (fun t ht hW => ⟨some (aI x), h, ad, rfl, k, by rw [ht]; exact b.rep, fun v e => by cases e; exact okI, b.2.2.2.2.2.2.2.2.2.2, b.S.F ht⟩) b.S.2.2 hd b.1.2.2.2.2.2.2.1
theorem gc_inst : Cond.instanceMethod ⟨"java/lang/Object", "getClass", "()Ljava/lang/Class;"⟩ ∈ gw := by decide +kernel
theorem gc_nat : Cond.native ⟨"java/lang/Object", "getClass", "()Ljava/lang/Class;"⟩ ∈ gw := by decide +kernel
theorem gc_sel : Cond.selects "[Ljava/lang/Object;" ⟨"java/lang/Object", "getClass", "()Ljava/lang/Class;"⟩ ⟨"java/lang/Object", "getClass", "()Ljava/lang/Class;"⟩ ∈ gw := by decide +kernel
theorem V_getC {c i n idx : Nat} (hc65 : c < 65) (hr : rty c i = .inr (OJ, n)) (hd : decode M.2.1 pc = .ok (.invokevirtual idx, 3)) (hw : Cond.methodLink M.1.cls idx ⟨"java/lang/Object", "getClass", "()Ljava/lang/Class;"⟩ ∈ gw) (hs : (st.map ct).sum ≤ 8) (kk : V σ M (d + 1) bc bs (pc + 3) lv (aR 67 0 :: st) h P) : V σ M (d + 1) bc bs pc lv (aR c i :: st) h P := by
  intro p l e R s m args below meth c0 D cA B ad ad0 L0 H locs cells slots ls b
  obtain ⟨j0, -, hj⟩ := ws_at (σ := σ) (cA := cA) (ad := ad) (inL hc65 (okh b.so))
  rw [toE_r hr] at hj
  obtain ⟨f1, f2⟩ := b.2.2.2.1
  have hcell : H[ad (c, i)]? = some (vp_cell (cA OJ) (n, .inr (.inr (.inr (.inr (fun k => (gS σ h c i k).map ad)))))) := b.rep.1 j0 _ hj
  obtain ⟨kA, comp, z1, z2, z3, z4⟩ := (b.K.2 3 (cA OJ, OJ) rfl).2
  have en : "[" ++ (FieldType.object "java/lang/Object").toString = "[Ljava/lang/Object;" := by decide +kernel
  have hrm := ct_room (ad := ad) hs
  refine va_getC (mi := ad (67, 0)) (C := "[Ljava/lang/Object;") b.x b.b (by rw [b.1.2.2.1]; exact b.lh.1.symm) b.own (b.ts _ hw) (va_Dc.use b.2.2.1.2.2.2.2.2.2.2.1) (b.ts _ gc_sel) (b.ts _ gc_inst) (b.ts _ gc_nat) b.2.2.1.2.2.2.2.2.1 ⟨_, hcell, rfl, by rw [← en]; exact z4⟩ (by omega) (by omega) hd (kk p l e R s m args below meth c0 D cA B ad ad0 L0 H locs cells slots ls (b.stk (okc (okX (by decide)) (okt b.so))))
/-- the first n references of row i1 come to row i2 -/
def cpR (h : HS) (c i2 i1 n : Nat) : HS := (h.1, fun c' i' k' => if c' = c ∧ i' = i2 ∧ k' < n then h.2.1 c i1 k' else h.2.1 c' i' k', h.2.2)
theorem gR_cp {c i2 i1 n c' i' k' : Nat} : gR (cpR h c i2 i1 n) c' i' k' = if c' = c ∧ i' = i2 ∧ k' < n then gR h c i1 k' else gR h c' i' k' := rfl
theorem gI_cp {c i2 i1 n c' i' k' : Nat} : gI (cpR h c i2 i1 n) c' i' k' = gI h c' i' k' := rfl
theorem ac_nat : Cond.native arraycopyName ∈ gw := by decide +kernel
theorem ac_sta : Cond.static arraycopyName ∈ gw := by decide +kernel
theorem ac_ini : Cond.initialized "java/lang/System" ∈ gw := by decide +kernel
theorem V_acopy {c i1 i2 n0 n1 idx : Nat} {x : Int32} (hc65 : c < 65) (hr0 : rty c i1 = .inr (OJ, n0)) (hr1 : rty c i2 = .inr (OJ, n1)) (hne : i1 ≠ i2) (hfr : ∀ i k, fR c i k = none) (hd : decode M.2.1 pc = .ok (.invokestatic idx, 3)) (hw : Cond.methodLink M.1.cls idx arraycopyName ∈ gw) (hs : (st.map ct).sum ≤ 8) (hx : ¬ x < 0) (h4 : x.toNatClampNeg ≤ n0) (h5 : x.toNatClampNeg ≤ n1)
    (hel : ∀ k, k < x.toNatClampNeg → ∀ q, gR h c i1 k = some q → (∃ i, q = (60, i)) ∨ ∃ i, q = (62, i)) (kk : V σ M (d + 1) bc bs (pc + 3) lv st (cpR h c i2 i1 x.toNatClampNeg) P) : V σ M (d + 1) bc bs pc lv (aI x :: aI 0 :: aR c i2 :: aI 0 :: aR c i1 :: st) h P := by
  intro p l e R s m args below meth c0 D cA B ad ad0 L0 H locs cells slots ls b
  have hm1 := inL hc65 (okh (okt (okt b.so)))
  have hm0 := inL hc65 (okh (okt (okt (okt (okt b.so)))))
  have hg : ∀ i k, gS σ h c i k = gR h c i k := fun i k => by
    unfold gS
    rw [hfr i k]
    cases σ <;> rfl
  obtain ⟨j0, hj0', hj0⟩ := ws_at (σ := σ) (cA := cA) (ad := ad) hm0
  obtain ⟨j1, hj1', hj1⟩ := ws_at (σ := σ) (cA := cA) (ad := ad) hm1
  rw [toE_r hr0] at hj0
  rw [toE_r hr1] at hj1
  obtain ⟨f1, f2⟩ := b.2.2.2.1
  have hrm := ct_room (ad := ad) hs
  have hany : ∀ i : Nat, i < x.toNatClampNeg → ∀ y : Nat, (fun k => (gS σ h c i1 k).map ad) ((0 : Int32).toNatClampNeg + i) = some y → va_Any "java/lang/Object" s H y := by
    intro i hi y hy
    rw [sb_cl0, Nat.zero_add] at hy
    dsimp only at hy
    cases hq : gS σ h c i1 i with
    | none => rw [hq] at hy; cases hy
    | some q =>
      rw [hq] at hy
      have ey : ad q = y := Option.some.inj hy
      have hin : okL h.2.2 q := b.rep.2.2 (c, i1) hm0 i q hq
      rw [hg] at hq
      rcases hel i hi q hq with ⟨t, rfl⟩ | ⟨t, rfl⟩
      · have hL : (60, t) ∈ h.2.2 := inL (by decide) (fun q e => by cases e; exact hin)
        obtain ⟨jq, -, hjq⟩ := ws_at (σ := σ) (cA := cA) (ad := ad) hL
        rw [toE_o (show rty 60 t = .inl 7 from rfl)] at hjq
        rw [← ey]
        refine va_rAny b.K b.rep.1 hjq (r := (RX6, TX6, 5)) rfl (fun comp c1 y1 y2 => ?_)
        obtain ⟨c2, t2, g1, g2, g3⟩ := Cond.castable_spec (va_Nw.use (A := args) rfl b.2.2.1.2.2.2.2.2.2.2.2.1)
        rw [show RX6 = "GreatStore$Thing" from rfl, g1] at y2
        rw [g2] at y1
        cases y1; cases y2
        exact g3
      · have hL : (62, t) ∈ h.2.2 := inL (by decide) (fun q e => by cases e; exact hin)
        obtain ⟨jq, -, hjq⟩ := ws_at (σ := σ) (cA := cA) (ad := ad) hL
        rw [toE_o (show rty 62 t = .inl 4 from rfl)] at hjq
        rw [← ey]
        refine va_rAny b.K b.rep.1 hjq (r := (RX3, TX3, 12)) rfl (fun comp c1 y1 y2 => ?_)
        obtain ⟨c2, t2, g1, g2, g3⟩ := Cond.castable_spec (va_Nw.use (A := args) rfl b.2.2.1.2.2.2.2.2.2.2.2.2.1)
        rw [show RX3 = "GreatStore$Slip" from rfl, g1] at y2
        rw [g2] at y1
        cases y1; cases y2
        exact g3
  have hnw : nativeFrameWords "java/lang/System" "arraycopy" 5 + 11 ≤ 50 := by decide +kernel
  refine va_copyM b.x b.b (by rw [b.1.2.2.1]; exact b.lh.1.symm) b.own (b.ts _ hw) (b.ts _ ac_nat) (b.ts _ ac_sta) (b.ts _ ac_ini) b.K b.rep.1 b.rep.2.1 b.S j0 j1 3 3 hj0 hj1 rfl rfl (by decide) (by decide) hx (by rw [sb_cl0]; omega) (by rw [sb_cl0]; omega) hany (by omega) (by omega) hd (fun H1 locs1 hP hD hS => ?_)
  have e2 : (.inl (cA OJ, n1, .inr (.inr (.inr (.inr (va_cpy (fun k => (gS σ h c i1 k).map ad) (fun k => (gS σ h c i2 k).map ad) (0 : Int32).toNatClampNeg (0 : Int32).toNatClampNeg x.toNatClampNeg))))) : va_E) = toE σ cA ad (cpR h c i2 i1 x.toNatClampNeg) (c, i2) := by
    rw [toE_r hr1]
    have : va_cpy (fun k => (gS σ h c i1 k).map ad) (fun k => (gS σ h c i2 k).map ad) (0 : Int32).toNatClampNeg (0 : Int32).toNatClampNeg x.toNatClampNeg = fun k => (gS σ (cpR h c i2 i1 x.toNatClampNeg) c i2 k).map ad := by
      funext k
      have eg : gS σ (cpR h c i2 i1 x.toNatClampNeg) c i2 k = gR (cpR h c i2 i1 x.toNatClampNeg) c i2 k := by
        unfold gS
        rw [hfr i2 k]
        cases σ <;> rfl
      rw [eg, gR_cp, sb_cl0]
      unfold va_cpy
      by_cases hk : k < x.toNatClampNeg
      · rw [if_pos ⟨Nat.zero_le k, by omega⟩, if_pos ⟨rfl, rfl, hk⟩]
        show (gS σ h c i1 (0 + (k - 0))).map ad = _
        rw [hg, Nat.zero_add, Nat.sub_zero]
      · rw [if_neg (fun z => hk (by omega)), if_neg (fun z => hk z.2.2)]
        show (gS σ h c i2 k).map ad = _
        rw [hg]
    rw [this]
  rw [e2] at hP hD
  have hneq : ∀ (q : PT) (k : Nat), q ≠ (c, i2) → gS σ (cpR h c i2 i1 x.toNatClampNeg) q.1 q.2 k = gS σ h q.1 q.2 k := by
    intro q k hq
    have : gR (cpR h c i2 i1 x.toNatClampNeg) q.1 q.2 k = gR h q.1 q.2 k := by
      rw [gR_cp, if_neg]
      intro z
      exact hq (by obtain ⟨q1, q2⟩ := q; dsimp only at z; rw [z.1, z.2.1])
    unfold gS
    rw [this]
  have ews := wsO_set (σ := σ) (cA := cA) (ad := ad) (h := h) (h2 := cpR h c i2 i1 x.toNatClampNeg) (j := j1) (q := (c, i2)) rfl hj1' (fun n q' hn hne' => by
    have hq' : q' ≠ (c, i2) := fun z => hne' (ws_nd b.rep.2.1 (by rw [hn, z]) hj1')
    have e1 : ∀ k, gS σ (cpR h c i2 i1 x.toNatClampNeg) q'.1 q'.2 k = gS σ h q'.1 q'.2 k := fun k => hneq q' k hq'
    have e3 : ∀ ci, fv σ ad (cpR h c i2 i1 x.toNatClampNeg) q'.1 q'.2 ci = fv σ ad h q'.1 q'.2 ci := fun ci => by funext k'; unfold fv; rw [e1]; rfl
    have e4 : gI (cpR h c i2 i1 x.toNatClampNeg) q'.1 q'.2 = gI h q'.1 q'.2 := rfl
    unfold toE
    simp only [e1, e3, e4])
  obtain ⟨k1, k2, k3, k4, k5, k6, k7, k8, k9, k10, k11⟩ := b
  refine kk p l e R s m args below meth c0 D cA B ad ad0 L0 H1 locs1 cells slots ls ⟨k1, k2, k3, k4, k5, ⟨by rw [ews]; exact hP, by rw [ews]; exact hD, fun q hq k r hr => ?_⟩, hS, k8, k9, okt (okt (okt (okt (okt k10)))), k11⟩
  by_cases z : q = (c, i2)
  · subst z
    have eg : gS σ (cpR h c i2 i1 x.toNatClampNeg) c i2 k = gR (cpR h c i2 i1 x.toNatClampNeg) c i2 k := by
      unfold gS
      rw [hfr i2 k]
      cases σ <;> rfl
    rw [show ((c, i2) : PT).1 = c from rfl, show ((c, i2) : PT).2 = i2 from rfl, eg, gR_cp] at hr
    split at hr
    · exact k6.2.2 (c, i1) hm0 k r (by rw [hg]; exact hr)
    · exact k6.2.2 (c, i2) hm1 k r (by rw [hg]; exact hr)
  · rw [hneq q k z] at hr
    exact k6.2.2 q hq k r hr
theorem sf_mod : Cond.sameField "java/util/ArrayList" "java/util/AbstractList" "modCount" "I" ∈ gw := by decide +kernel
theorem V_getI2 {c i ci idx k N : Nat} {C ref : String} {T : u_T} (hc65 : c < 65) (hr : rty c i = .inl ci) (hcl : vwCl[ci]? = some (C, T, N)) (hk : k < N) (hf : isRT (fty ci k) = false) (hd : decode M.2.1 pc = .ok (.getfield idx, 3)) (hsm : Cond.sameField ref (T k).1 (T k).2.1 (T k).2.2.1 ∈ gw) (hw : Cond.fieldLink M.1.cls idx ref (T k).2.1 (T k).2.2.1 ∈ gw)
    (kk : V σ M d bc bs (pc + 3) lv (aI (gI h c i k) :: st) h P) : V σ M d bc bs pc lv (aR c i :: st) h P := by
  intro p l e R s m args below meth c0 D cA B ad ad0 L0 H locs cells slots ls b
  obtain ⟨j, -, hj⟩ := ws_at (σ := σ) (cA := cA) (ad := ad) (inL hc65 (okh b.so))
  rw [toE_o hr] at hj
  obtain ⟨eN, hin, -, -⟩ := cls_ok hcl
  refine va_get (D := D) b.x b.b b.ts hin b.own b.K b.rep.1 j hj hcl k hk (b.ts _ hw) (u_same (b.ts _ hsm)) (v := .int (gI h c i k)) ?_ hd (kk p l e R s m args below meth c0 D cA B ad ad0 L0 H locs cells slots ls (b.stk (okc okI (okt b.so))))
  rw [← eN, fs_get hk]
  simp [fv, hf]
theorem V_putI2 {c i ci idx k N : Nat} {C ref : String} {T : u_T} {v : Int32} (hc65 : c < 65) (hr : rty c i = .inl ci) (hcl : vwCl[ci]? = some (C, T, N)) (hk : k < N) (hf : fty ci k = .int) (hfin : (T k).2.2.2 = false ∨ (T k).2.2.2 = true ∧ M.1.name = "<init>" ∧ (T k).1 = M.1.cls) (hd : decode M.2.1 pc = .ok (.putfield idx, 3)) (hsm : Cond.sameField ref (T k).1 (T k).2.1 (T k).2.2.1 ∈ gw) (hw : Cond.fieldLink M.1.cls idx ref (T k).2.1 (T k).2.2.1 ∈ gw)
    (kk : V σ M d bc bs (pc + 3) lv st (sI h c i k v) P) : V σ M d bc bs pc lv (aI v :: aR c i :: st) h P := by
  intro p l e R s m args below meth c0 D cA B ad ad0 L0 H locs cells slots ls b
  obtain ⟨j, hj0, hj⟩ := ws_at (σ := σ) (cA := cA) (ad := ad) (inL hc65 (okh (okt b.so)))
  rw [toE_o hr] at hj
  obtain ⟨eN, hin, hty, hnm⟩ := cls_ok hcl
  have hlen : k < ((List.range (nF ci)).map (fv σ ad h c i ci)).length := by rw [List.length_map, List.length_range, ← eN]; exact hk
  have hset : ((List.range (nF ci)).map (fv σ ad h c i ci)).set k (.int v) = (List.range (nF ci)).map (fv σ ad (sI h c i k v) c i ci) := by
    refine fs_set ?_ (fun n hn => ?_)
    · unfold fv
      rw [hf]
      simp [isRT, gI_sI]
    · have e1 : gI (sI h c i k v) c i n = gI h c i n := by rw [gI_sI, if_neg (fun z => hn z.2.1)]
      unfold fv
      rw [gS_sI, e1]
  have go : ∀ (H1 : Heap) (locs1 : List Loc), va_P D vwCl ((wsO σ cA ad h).set j (ad (c, i), .inr (ci, ((List.range (nF ci)).map (fv σ ad h c i ci)).set k (.int v)))) H1 → va_D (fun q => B ≤ q) ((wsO σ cA ad h).set j (ad (c, i), .inr (ci, ((List.range (nF ci)).map (fv σ ad h c i ci)).set k (.int v)))) → va_S (fun q => B ≤ q) s.heap H1 locs1 → W p l e R s m args below meth c0 H1 locs1 cells slots (MQ below (QM σ D cA B ad0 L0 P) args s R.cells R.slots (fun q => B ≤ q)) (F0 m (pc + 3) ls (st.map (vl ad))) := by
    intro H1 locs1 hP hD hS
    rw [hset, ← toE_o (cA := cA) hr] at hP hD
    exact kk p l e R s m args below meth c0 D cA B ad ad0 L0 H1 locs1 cells slots ls (b.stI (okt (okt b.so)) hj0 hP hD hS)
  have hp : parseFieldDescriptor (T k).2.2.1 = some .int := by rw [hty k hk, hf]
  rcases hfin with h1 | ⟨h1, h2, h3⟩
  · exact va_put (D := D) (ty := .int) (v := .int v) b.x b.b b.ts hin (fty ci) hty hnm b.own b.K b.rep.1 b.rep.2.1 b.S j hj hcl k hk (b.ts _ hw) (u_same (b.ts _ hsm)) h1 hp rfl rfl hlen hd go
  · exact va_putF (D := D) (ty := .int) (v := .int v) b.x b.b b.ts hin (fty ci) hty hnm b.own b.K b.rep.1 b.rep.2.1 b.S j hj hcl k hk (b.ts _ hw) (u_same (b.ts _ hsm)) h1 (b.1.2.2.2.2.2.2.2.1.trans h2) h3 hp rfl rfl hlen hd go
theorem V_callI0 {M2 : MT} {n idx ca ia : Nat} {as : List AV} (hd : decode M.2.1 pc = .ok (.invokespecial idx, 3)) (ho : Mok M2 n) (hr : M2.2.2.2 = none) (hy : M2.1.name = "<init>") (hs : Cond.instanceMethod M2.1 ∈ gw) (hl : Cond.methodLink M.1.cls idx M2.1 ∈ gw) (hn : as.length = n) (hw : (st.map ct).sum ≤ 8)
    (k : Cl σ M2 d 0 0 (aR ca ia :: as) h (fun r h2 => V σ M (d + 1) bc bs (pc + 3) lv (r.toList ++ st) h2 P)) : V σ M (d + 1) bc bs pc lv (as.reverse ++ aR ca ia :: st) h P := V_callI (mc := 0) (ms := 0) hd ho hr hy hs hl hn hw (Nat.zero_le _) (Nat.zero_le _) k
end VJ

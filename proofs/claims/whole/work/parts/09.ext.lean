theorem Cl_ofF {σ : Bool} {M : MT} {d bc bs : Nat} {as : List AV} {h : HS} {P : Option AV → HS → Prop} (hy : plainFor M.1 = true) (hn : (as.map ct).sum ≤ M.2.2.1) (k : V σ M d bc bs 0 (la 0 as) [] h P) : Cl σ M d bc bs as h P := by
  intro l D cA B ad
  refine va_MetF (cc := M.2.1) (maxL := M.2.2.1) (ret := M.2.2.2) hy rfl ?_
  intro p e s m args below meth c s₁ Bo hml hv
  obtain ⟨rfl, hB, hE, hR, hK, ho⟩ := hv
  have hts := atoms_spec (ws := Cond.code M.1 M.2.1 M.2.2.1 M.2.2.2 :: gw) Bo.pre
  have hl := lv_entry (as.map (vl ad)) (n := M.2.2.1) (by rw [la_len]; exact hn)
  rw [lg_entry_eq]
  generalize (lg_sl (as.map (vl ad)) ++ List.replicate (M.2.2.1 - (lg_sl (as.map (vl ad))).length) Slot.unset).toArray = ls at hl ⊢
  rw [la_eq] at hl
  exact k p l e _ s m _ below meth c D cA B ad ad h.2.2 s.heap [] 0 0 ls ⟨⟨Bo.exec, Bo.bytes, hml, findClass_of_methodNamed Bo.named, fun w hw => hts w (List.mem_cons_of_mem _ hw), Bo.returns, Bo.notSynchronized, (name_of_methodNamed Bo.named Bo.method).1, hK⟩, hB, hE, ⟨Nat.le_refl _, Nat.le_refl _⟩, ⟨by show 0 + bc ≤ bc; omega, by show 0 + bs ≤ bs; omega⟩, hR, va_S.rf, hl, la_ok as 0 ho, (fun v hv => by cases hv), fun q hq => ⟨rfl, hq⟩⟩
theorem lkn {x v : Int32} {n : Int} (hv : v.toInt = n) (z : ¬ x = v) : ¬ n = x.toInt := fun q => z (Int32.toInt_inj.mp (by rw [hv]; exact q.symm))
-- ===== casts, text constants, calls on texts =====
section VX
variable {σ : Bool} {M : MT} {d bc bs pc : Nat} {lv : List (Nat × AV)} {st : List AV} {h : HS} {P : Option AV → HS → Prop}
theorem V_cast {c i ci idx N : Nat} {C : String} {T : u_T} (hc65 : c < 65) (hr : rty c i = .inl ci) (hcl : vwCl[ci]? = some (C, T, N)) (hw : Cond.classLink M.1.cls idx C ∈ gw) (hd : decode M.2.1 pc = .ok (.checkcast idx, 3)) (kk : V σ M d bc bs (pc + 3) lv (aR c i :: st) h P) : V σ M d bc bs pc lv (aR c i :: st) h P := by
  intro p l e R s m args below meth c0 D cA B ad ad0 L0 H locs cells slots ls b
  obtain ⟨j, -, hj⟩ := ws_at (σ := σ) (cA := cA) (ad := ad) (inL hc65 (okh b.so))
  rw [toE_o hr] at hj
  exact va_castS b.x b.b b.own (b.ts _ hw) (b.K.1 ci _ hcl).2 (va_recv b.K b.rep.1 hcl hj) hd (kk p l e R s m args below meth c0 D cA B ad ad0 L0 H locs cells slots ls b)
theorem V_ldcs {idx : Nat} (j : Nat) {tx : String} (hd : decode M.2.1 pc = .ok (.ldc idx, 2)) (_hw : Cond.stringRef M.1.cls idx tx ∈ lw_tbl) (hown : M.1.cls = "GreatStore$Tokens") (hj : j < 7) (hi : sIx.getD j 0 = idx) (kk : V σ M d bc bs (pc + 2) lv (aR 65 j :: st) h P) : V σ M d bc bs pc lv st h P := by
  intro p l e R s m args below meth c0 D cA B ad ad0 L0 H locs cells slots ls b
  subst hi
  refine va_ldcS b.x b.b b.own (by rw [hown]; exact b.2.2.1.2.1 j hj) hd (kk p l e R s m args below meth c0 D cA B ad ad0 L0 H locs cells slots ls (b.stk (okc (fun q e => ?_) b.so)))
  cases e
  exact Or.inr (Nat.le_refl 65)
/-- a call on a text -/
theorem V_callX {M2 : MT} {n idx mc ms ia : Nat} {as : List AV} (hi7 : ia < 7) (hcs : M2.1.cls = "java/lang/String") (hd : decode M.2.1 pc = .ok (.invokevirtual idx, 3)) (ho : Mok M2 n) (hs : Cond.instanceMethod M2.1 ∈ gw) (hse : Cond.selects M2.1.cls M2.1 M2.1 ∈ gw) (hl : Cond.methodLink M.1.cls idx M2.1 ∈ gw) (hn : as.length = n) (hw : (st.map ct).sum ≤ 8) (hm : mc ≤ bc) (hms : ms ≤ bs)
    (k : Cl σ M2 d mc ms (aR 65 ia :: as) h (fun r h2 => V σ M (d + 1) (bc - mc) (bs - ms) (pc + 3) lv (r.toList ++ st) h2 P)) : V σ M (d + 1) bc bs pc lv (as.reverse ++ aR 65 ia :: st) h P := by
  intro p l e R s m args below meth c D cA B ad ad0 L0 H locs cells slots ls b
  have hst : ∀ v ∈ st, okV h v := fun v hv => b.so v (List.mem_append_right _ (List.mem_cons_of_mem _ hv))
  have has : ∀ v ∈ aR 65 ia :: as, okV h v := okc (b.so _ (List.mem_append_right _ List.mem_cons_self)) (fun v hv => b.so v (List.mem_append_left _ (List.mem_reverse.mpr hv)))
  obtain ⟨o1, o2, o3, o4⟩ := ho
  obtain ⟨f1, f2⟩ := b.2.2.2.1
  obtain ⟨g1, g2⟩ := b.2.2.2.2.1
  have hO := ((b.2.2.1.1).kept b.S.2.1).1 ia hi7
  obtain ⟨cell, y1, y2, y3, -⟩ := hO.1
  refine V_back (M2 := M2) (as := as) hm hms b hst (va_runV (b := ad (65, ia)) (C := M2.1.cls) (As := as.map (vl ad)) (rest := st.map (vl ad)) (Ts := gw) ⟨b.x, b.b, b.1.2.2.1, b.own, b.ts⟩ (k l D cA B ad) ⟨callB_of n b.ts (gwIn o1) rfl rfl rfl (b.ts _ o2) (b.ts _ hl) o3 ⟨f1, by show 8 + (M2.2.2.1 + 11) + 64 * d ≤ R.locals; omega⟩, b.ts _ hs, b.ts _ hse⟩ ⟨blind, ⟨cell, y1, y2, by rw [hcs]; exact y3⟩, pre_at b has⟩ rfl (by rw [List.length_map]; exact hn) b.lh.1 (by rw [stk_split]; rfl) (lv_room (ct_room hw)) hd ⟨by omega, by omega⟩)
end VX
theorem ac_int : Cond.arrayClass .int ∈ gw := by decide +kernel
theorem ac_byte : Cond.arrayClass .byte ∈ gw := by decide +kernel
theorem ac_boolean : Cond.arrayClass .boolean ∈ gw := by decide +kernel

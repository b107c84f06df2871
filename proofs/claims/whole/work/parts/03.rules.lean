def lvm (ad : PT → Nat) (lv : List (Nat × AV)) : List (Nat × Value) := lv.map (fun q => (q.1, vl ad q.2))
def tysO (cA : FieldType → ClassId) : List (ClassId × FieldType) := [(cA .int, .int), (cA .byte, .byte), (cA .boolean, .boolean), (cA OJ, OJ)]
def sTx : List String := ["pay", "when", "and", "sum", "slips", "back", "month"]
def sIx : List Nat := [52, 58, 60, 62, 64, 66, 68]
def sLn : List Nat := [3, 4, 3, 3, 5, 4, 5]
def sBy : List (List Int32) := [[112, 97, 121], [119, 104, 101, 110], [97, 110, 100], [115, 117, 109], [115, 108, 105, 112, 115], [98, 97, 99, 107], [109, 111, 110, 116, 104]]
/-- what lies outside the store: the texts (65, j), ArrayList's empty array (66, 0), the mirror of Object[] (67, 0), the texts' bytes (68, j), a formatter (69, 0) -/
def Ex (B : Nat) (ad : PT → Nat) (U : State) (H : Heap) : Prop :=
  vk_S 7 sLn sBy (fun j => ad (65, j)) (fun j => ad (68, j)) (fun q => B ≤ q) U H ∧ (∀ j, j < 7 → vk_R "GreatStore$Tokens" (sIx.getD j 0) (sTx.getD j "") (ad (65, j)) U) ∧ va_Z "java/lang/String" "COMPACT_STRINGS" "Z" (.int 1) (fun q => B ≤ q) U H ∧
  va_Z "java/util/ArrayList" "DEFAULTCAPACITY_EMPTY_ELEMENTDATA" "[Ljava/lang/Object;" (.ref (ad (66, 0))) (fun q => B ≤ q) U H ∧ va_T OJ (ad (66, 0)) 0 (fun _ => .null) (fun q => B ≤ q) U H ∧ va_Mi "[Ljava/lang/Object;" (ad (67, 0)) U ∧ va_AO "java/lang/Object" U ∧ va_Dc U ∧
  va_Nw (.castable "GreatStore$Thing" "java/lang/Object") U ∧ va_Nw (.castable "GreatStore$Slip" "java/lang/Object") U ∧ (va_Z "jdk/internal/util/Preconditions" "SIOOBE_FORMATTER" "Ljava/util/function/BiFunction;" .null (fun q => B ≤ q) U H ∨ va_Z "jdk/internal/util/Preconditions" "SIOOBE_FORMATTER" "Ljava/util/function/BiFunction;" (.ref (ad (69, 0))) (fun q => B ≤ q) U H)
theorem Ex.warm {B : Nat} {ad : PT → Nat} {u U : State} {H : Heap} (hW : u.WarmedH U.vm) (h : Ex B ad u H) : Ex B ad U H := by
  obtain ⟨h1, h2, h3, h4, h5, h6, h7, h8, h9, h10, h11⟩ := h
  exact ⟨h1.moved hW.alike, fun j hj => (h2 j hj).warm hW, h3.moved hW.alike, h4.moved hW.alike, h5.moved hW.alike, h6.moved hW.alike, h7.moved hW.alike, h8.moved hW.alike, va_Nw.warmC hW h9, va_Nw.warmC hW h10, h11.imp (fun z => z.moved hW.alike) (fun z => z.moved hW.alike)⟩
theorem Ex.same {B : Nat} {ad : PT → Nat} {u U : State} {H : Heap} (hv : U.vm = u.vm) (h : Ex B ad u H) : Ex B ad U H := by
  obtain ⟨h1, h2, h3, h4, h5, h6, h7, h8, h9, h10, h11⟩ := h
  have ha : u.vm.Alike U.vm := by rw [hv]; exact Vm.Alike.refl u.vm
  exact ⟨h1.moved ha, fun j hj => (h2 j hj).same hv, h3.moved ha, h4.moved ha, h5.moved ha, h6.moved ha, h7.moved ha, h8.moved ha, va_tabs rfl hv.symm h9, va_tabs rfl hv.symm h10, h11.imp (fun z => z.moved ha) (fun z => z.moved ha)⟩
theorem Ex.kept {B : Nat} {ad ad2 : PT → Nat} {U : State} {H H1 : Heap} (h : Ex B ad U H) (hq : ∀ q : Nat, q < H.size → ¬ B ≤ q → H1[q]? = H[q]?) (ha : ∀ q : PT, 65 ≤ q.1 → ad2 q = ad q) : Ex B ad2 U H1 := by
  obtain ⟨h1, h2, h3, h4, h5, h6, h7, h8, h9, h10, h11⟩ := h
  have e1 : (fun j => ad2 (65, j)) = fun j => ad (65, j) := funext fun j => ha (65, j) (Nat.le_refl 65)
  have e4 : (fun j => ad2 (68, j)) = fun j => ad (68, j) := funext fun j => ha (68, j) (by show 65 ≤ 68; omega)
  have e5 : ad2 (69, 0) = ad (69, 0) := ha (69, 0) (by show 65 ≤ 69; omega)
  have e2 : ad2 (66, 0) = ad (66, 0) := ha (66, 0) (by show 65 ≤ 66; omega)
  have e3 : ad2 (67, 0) = ad (67, 0) := ha (67, 0) (by show 65 ≤ 67; omega)
  refine ⟨by rw [e1, e4]; exact h1.kept hq, fun j hj => by rw [ha (65, j) (Nat.le_refl 65)]; exact h2 j hj, h3.kept hq, by rw [e2]; exact h4.kept hq, by rw [e2]; exact h5.kept hq, by rw [e3]; exact h6, h7, h8, h9, h10, h11.imp (fun z => z.kept hq) (fun z => by rw [e5]; exact z.kept hq)⟩
def Cx (M : MT) (p : Program) (s : State) (m : MethodId) (args : Array Value) (meth : Method) (c : Code) (D : va_G) (cA : FieldType → ClassId) : Prop :=
  p.tables.exec = Jvm.exec ∧ c.code = M.2.1 ∧ c.maxLocals = M.2.2.1 ∧ s.vm.findClass M.1.cls = some m.cls ∧ (∀ w ∈ gw, w.before args s = true) ∧ meth.sig.returnType = M.2.2.2 ∧ meth.locks = false ∧ meth.name = M.1.name ∧ va_K D vwCl (tysO cA) s
def QM (σ : Bool) (D : va_G) (cA : FieldType → ClassId) (B : Nat) (ad0 : PT → Nat) (L0 : List PT) (P : Option AV → HS → Prop) : Array Value → State → Outcome → State → Prop := fun _ st o t =>
  ∃ (r : Option AV) (h : HS) (ad : PT → Nat), o = .returned (r.map (vl ad)) ∧ P r h ∧ Rep σ D cA ad B h t.heap ∧ (∀ v, r = some v → okV h v) ∧ (∀ q, okL L0 q → ad q = ad0 q ∧ okL h.2.2 q) ∧ va_F (fun q => B ≤ q) st t
def Bd (σ : Bool) (M : MT) (d bc bs : Nat) (lv : List (Nat × AV)) (st : List AV) (h : HS) (p : Program) (R : Room) (s : State) (m : MethodId) (args : Array Value) (meth : Method) (c : Code) (D : va_G) (cA : FieldType → ClassId) (B : Nat) (ad ad0 : PT → Nat) (L0 : List PT) (H : Heap) (locs : List Loc) (cells slots : Nat) (ls : Array Slot) : Prop :=
  Cx M p s m args meth c D cA ∧ B ≤ s.heap.size ∧ Ex B ad s s.heap ∧ (d ≤ R.frames ∧ 64 * d ≤ R.locals) ∧ (cells + bc ≤ R.cells ∧ slots + bs ≤ R.slots) ∧ Rep σ D cA ad B h H ∧ va_S (fun q => B ≤ q) s.heap H locs ∧ lv_has ls M.2.2.1 (lvm ad lv) ∧ (∀ q ∈ lv, okV h q.2) ∧ (∀ v ∈ st, okV h v) ∧ (∀ q, okL L0 q → ad q = ad0 q ∧ okL h.2.2 q)
/-- the machine, in method M at pc, with these locals, this stack and this store, comes to M's end with P -/
def V (σ : Bool) (M : MT) (d bc bs pc : Nat) (lv : List (Nat × AV)) (st : List AV) (h : HS) (P : Option AV → HS → Prop) : Prop :=
  ∀ (p : Program) (l : Launch) (e : Env) (R : Room) (s : State) (m : MethodId) (args : Array Value) (below : List Frame) (meth : Method) (c : Code) (D : va_G) (cA : FieldType → ClassId) (B : Nat) (ad ad0 : PT → Nat) (L0 : List PT) (H : Heap) (locs : List Loc) (cells slots : Nat) (ls : Array Slot),
    Bd σ M d bc bs lv st h p R s m args meth c D cA B ad ad0 L0 H locs cells slots ls →
    W p l e R s m args below meth c H locs cells slots (MQ below (QM σ D cA B ad0 L0 P) args s R.cells R.slots (fun q => B ≤ q)) (F0 m pc ls (st.map (vl ad)))
/-- method M at these arguments and this store comes back, with P -/
def Cl (σ : Bool) (M : MT) (d bc bs : Nat) (as : List AV) (h : HS) (P : Option AV → HS → Prop) : Prop :=
  ∀ (l : Launch) (D : va_G) (cA : FieldType → ClassId) (B : Nat) (ad : PT → Nat), Met l M.1 (Cond.code M.1 M.2.1 M.2.2.1 M.2.2.2 :: gw) { frames := d, cells := bc, slots := bs, locals := 64 * d }
    (va_Pc (as.map (vl ad)) (fun U => B ≤ U.heap.size ∧ Ex B ad U U.heap ∧ Rep σ D cA ad B h U.heap ∧ va_K D vwCl (tysO cA) U ∧ ∀ v ∈ as, okV h v)) (QM σ D cA B ad h.2.2 P) bc bs (fun q => B ≤ q)
section VR
variable {σ : Bool} {M : MT} {d bc bs pc : Nat} {lv : List (Nat × AV)} {st : List AV} {h : HS} {P : Option AV → HS → Prop}
theorem okI {x : Int32} : okV h (aI x) := fun q e => by cases e
theorem okLg {x : Int64} : okV h (aL x) := fun q e => by cases e
theorem okN : okV h (aP none) := fun q e => by cases e
theorem okc {v : AV} {st : List AV} (hx : okV h v) (hs : ∀ v ∈ st, okV h v) : ∀ w ∈ v :: st, okV h w := fun w hw => (List.mem_cons.mp hw).elim (fun e => e ▸ hx) (hs w)
theorem okt {v : AV} {st : List AV} (hs : ∀ w ∈ v :: st, okV h w) : ∀ w ∈ st, okV h w := fun w hw => hs w (List.mem_cons_of_mem _ hw)
theorem okh {v : AV} {st : List AV} (hs : ∀ w ∈ v :: st, okV h w) : okV h v := hs v List.mem_cons_self
section BD
variable {p : Program} {R : Room} {s : State} {m : MethodId} {args : Array Value} {meth : Method} {c : Code} {D : va_G} {cA : FieldType → ClassId} {B : Nat} {ad ad0 : PT → Nat} {L0 : List PT} {H : Heap} {locs : List Loc} {cells slots : Nat} {ls : Array Slot}
theorem Bd.x (b : Bd σ M d bc bs lv st h p R s m args meth c D cA B ad ad0 L0 H locs cells slots ls) : p.tables.exec = Jvm.exec := b.1.1
theorem Bd.b (b : Bd σ M d bc bs lv st h p R s m args meth c D cA B ad ad0 L0 H locs cells slots ls) : c.code = M.2.1 := b.1.2.1
theorem Bd.own (b : Bd σ M d bc bs lv st h p R s m args meth c D cA B ad ad0 L0 H locs cells slots ls) : s.vm.findClass M.1.cls = some m.cls := b.1.2.2.2.1
theorem Bd.ts (b : Bd σ M d bc bs lv st h p R s m args meth c D cA B ad ad0 L0 H locs cells slots ls) : ∀ w ∈ gw, w.before args s = true := b.1.2.2.2.2.1
theorem Bd.K (b : Bd σ M d bc bs lv st h p R s m args meth c D cA B ad ad0 L0 H locs cells slots ls) : va_K D vwCl (tysO cA) s := b.1.2.2.2.2.2.2.2.2
theorem Bd.rep (b : Bd σ M d bc bs lv st h p R s m args meth c D cA B ad ad0 L0 H locs cells slots ls) : Rep σ D cA ad B h H := b.2.2.2.2.2.1
theorem Bd.S (b : Bd σ M d bc bs lv st h p R s m args meth c D cA B ad ad0 L0 H locs cells slots ls) : va_S (fun q => B ≤ q) s.heap H locs := b.2.2.2.2.2.2.1
theorem Bd.lh (b : Bd σ M d bc bs lv st h p R s m args meth c D cA B ad ad0 L0 H locs cells slots ls) : lv_has ls M.2.2.1 (lvm ad lv) := b.2.2.2.2.2.2.2.1
theorem Bd.lo (b : Bd σ M d bc bs lv st h p R s m args meth c D cA B ad ad0 L0 H locs cells slots ls) : ∀ q ∈ lv, okV h q.2 := b.2.2.2.2.2.2.2.2.1
theorem Bd.so (b : Bd σ M d bc bs lv st h p R s m args meth c D cA B ad ad0 L0 H locs cells slots ls) : ∀ v ∈ st, okV h v := b.2.2.2.2.2.2.2.2.2.1
theorem Bd.stk {st' : List AV} (b : Bd σ M d bc bs lv st h p R s m args meth c D cA B ad ad0 L0 H locs cells slots ls) (hs : ∀ v ∈ st', okV h v) : Bd σ M d bc bs lv st' h p R s m args meth c D cA B ad ad0 L0 H locs cells slots ls := by
  obtain ⟨h1, h2, h3, h4, h5, h6, h7, h8, h9, -, h11⟩ := b
  exact ⟨h1, h2, h3, h4, h5, h6, h7, h8, h9, hs, h11⟩
theorem Bd.lst {lv' : List (Nat × AV)} {st' : List AV} {ls' : Array Slot} (b : Bd σ M d bc bs lv st h p R s m args meth c D cA B ad ad0 L0 H locs cells slots ls) (hs : ∀ v ∈ st', okV h v) (hl : lv_has ls' M.2.2.1 (lvm ad lv')) (ho : ∀ q ∈ lv', okV h q.2) : Bd σ M d bc bs lv' st' h p R s m args meth c D cA B ad ad0 L0 H locs cells slots ls' := by
  obtain ⟨h1, h2, h3, h4, h5, h6, h7, -, -, -, h11⟩ := b
  exact ⟨h1, h2, h3, h4, h5, h6, h7, hl, ho, hs, h11⟩
end BD
theorem V_iconst {n : Int} (v : Int32) (hd : decode M.2.1 pc = .ok (.iconst n, 1)) (hv : Int32.ofInt n = v) (k : V σ M d bc bs (pc + 1) lv (aI v :: st) h P) : V σ M d bc bs pc lv (st) h P := by
  intro p l e R s m args below meth c D cA B ad ad0 L0 H locs cells slots ls b
  exact lv_iconst b.x b.b hd hv (k p l e R s m args below meth c D cA B ad ad0 L0 H locs cells slots ls (b.stk (okc okI b.so)))
theorem V_bipush {n : Int} (v : Int32) (hd : decode M.2.1 pc = .ok (.bipush n, 2)) (hv : (Int8.ofInt n).toInt32 = v) (k : V σ M d bc bs (pc + 2) lv (aI v :: st) h P) : V σ M d bc bs pc lv (st) h P := by
  intro p l e R s m args below meth c D cA B ad ad0 L0 H locs cells slots ls b
  exact lv_bipush b.x b.b hd hv (k p l e R s m args below meth c D cA B ad ad0 L0 H locs cells slots ls (b.stk (okc okI b.so)))
theorem V_sipush {n : Int} (v : Int32) (hd : decode M.2.1 pc = .ok (.sipush n, 3)) (hv : (Int16.ofInt n).toInt32 = v) (k : V σ M d bc bs (pc + 3) lv (aI v :: st) h P) : V σ M d bc bs pc lv (st) h P := by
  intro p l e R s m args below meth c D cA B ad ad0 L0 H locs cells slots ls b
  exact lv_sipush b.x b.b hd hv (k p l e R s m args below meth c D cA B ad ad0 L0 H locs cells slots ls (b.stk (okc okI b.so)))
theorem V_lconst {n : Fin 2} (v : Int64) (hd : decode M.2.1 pc = .ok (.lconst n, 1)) (hv : Int64.ofNat (n : Nat) = v) (k : V σ M d bc bs (pc + 1) lv (aL v :: st) h P) : V σ M d bc bs pc lv (st) h P := by
  intro p l e R s m args below meth c D cA B ad ad0 L0 H locs cells slots ls b
  exact lv_lconst b.x b.b hd hv (k p l e R s m args below meth c D cA B ad ad0 L0 H locs cells slots ls (b.stk (okc okLg b.so)))
theorem V_null (hd : decode M.2.1 pc = .ok (.aconst_null, 1)) (k : V σ M d bc bs (pc + 1) lv (aP none :: st) h P) : V σ M d bc bs pc lv (st) h P := by
  intro p l e R s m args below meth c D cA B ad ad0 L0 H locs cells slots ls b
  exact lv_null b.x b.b hd (k p l e R s m args below meth c D cA B ad ad0 L0 H locs cells slots ls (b.stk (okc okN b.so)))
theorem V_iadd {x y : Int32} (hd : decode M.2.1 pc = .ok (.iadd, 1)) (k : V σ M d bc bs (pc + 1) lv (aI (x + y) :: st) h P) : V σ M d bc bs pc lv (aI y :: aI x :: st) h P := by
  intro p l e R s m args below meth c D cA B ad ad0 L0 H locs cells slots ls b
  exact lv_iadd b.x b.b hd (k p l e R s m args below meth c D cA B ad ad0 L0 H locs cells slots ls (b.stk (okc okI (okt (okt b.so)))))
theorem V_isub {x y : Int32} (hd : decode M.2.1 pc = .ok (.isub, 1)) (k : V σ M d bc bs (pc + 1) lv (aI (x - y) :: st) h P) : V σ M d bc bs pc lv (aI y :: aI x :: st) h P := by
  intro p l e R s m args below meth c D cA B ad ad0 L0 H locs cells slots ls b
  exact lv_isub b.x b.b hd (k p l e R s m args below meth c D cA B ad ad0 L0 H locs cells slots ls (b.stk (okc okI (okt (okt b.so)))))
theorem V_imul {x y : Int32} (hd : decode M.2.1 pc = .ok (.imul, 1)) (k : V σ M d bc bs (pc + 1) lv (aI (x * y) :: st) h P) : V σ M d bc bs pc lv (aI y :: aI x :: st) h P := by
  intro p l e R s m args below meth c D cA B ad ad0 L0 H locs cells slots ls b
  exact lv_imul b.x b.b hd (k p l e R s m args below meth c D cA B ad ad0 L0 H locs cells slots ls (b.stk (okc okI (okt (okt b.so)))))
theorem V_iand {x y : Int32} (hd : decode M.2.1 pc = .ok (.iand, 1)) (k : V σ M d bc bs (pc + 1) lv (aI (x &&& y) :: st) h P) : V σ M d bc bs pc lv (aI y :: aI x :: st) h P := by
  intro p l e R s m args below meth c D cA B ad ad0 L0 H locs cells slots ls b
  exact lv_iand b.x b.b hd (k p l e R s m args below meth c D cA B ad ad0 L0 H locs cells slots ls (b.stk (okc okI (okt (okt b.so)))))
theorem V_ior {x y : Int32} (hd : decode M.2.1 pc = .ok (.ior, 1)) (k : V σ M d bc bs (pc + 1) lv (aI (x ||| y) :: st) h P) : V σ M d bc bs pc lv (aI y :: aI x :: st) h P := by
  intro p l e R s m args below meth c D cA B ad ad0 L0 H locs cells slots ls b
  exact lv_ior b.x b.b hd (k p l e R s m args below meth c D cA B ad ad0 L0 H locs cells slots ls (b.stk (okc okI (okt (okt b.so)))))
theorem V_ishl {x y : Int32} (hd : decode M.2.1 pc = .ok (.ishl, 1)) (k : V σ M d bc bs (pc + 1) lv (aI (x <<< (y &&& 31)) :: st) h P) : V σ M d bc bs pc lv (aI y :: aI x :: st) h P := by
  intro p l e R s m args below meth c D cA B ad ad0 L0 H locs cells slots ls b
  exact lv_ishl b.x b.b hd (k p l e R s m args below meth c D cA B ad ad0 L0 H locs cells slots ls (b.stk (okc okI (okt (okt b.so)))))
theorem V_ishr {x y : Int32} (hd : decode M.2.1 pc = .ok (.ishr, 1)) (k : V σ M d bc bs (pc + 1) lv (aI (x >>> (y &&& 31)) :: st) h P) : V σ M d bc bs pc lv (aI y :: aI x :: st) h P := by
  intro p l e R s m args below meth c D cA B ad ad0 L0 H locs cells slots ls b
  exact lv_ishr b.x b.b hd (k p l e R s m args below meth c D cA B ad ad0 L0 H locs cells slots ls (b.stk (okc okI (okt (okt b.so)))))
theorem V_iushr {x y : Int32} (hd : decode M.2.1 pc = .ok (.iushr, 1)) (k : V σ M d bc bs (pc + 1) lv (aI ((x.toUInt32 >>> (y.toUInt32 &&& Int32.toUInt32 31)).toInt32) :: st) h P) : V σ M d bc bs pc lv (aI y :: aI x :: st) h P := by
  intro p l e R s m args below meth c D cA B ad ad0 L0 H locs cells slots ls b
  exact lv_iushr b.x b.b hd rfl (k p l e R s m args below meth c D cA B ad ad0 L0 H locs cells slots ls (b.stk (okc okI (okt (okt b.so)))))
theorem V_idiv {x y : Int32} (hd : decode M.2.1 pc = .ok (.idiv, 1)) (hne : ¬ y = 0) (k : V σ M d bc bs (pc + 1) lv (aI (x / y) :: st) h P) : V σ M d bc bs pc lv (aI y :: aI x :: st) h P := by
  intro p l e R s m args below meth c D cA B ad ad0 L0 H locs cells slots ls b
  exact lv_idiv b.x b.b hd hne (k p l e R s m args below meth c D cA B ad ad0 L0 H locs cells slots ls (b.stk (okc okI (okt (okt b.so)))))
theorem V_irem {x y : Int32} (hd : decode M.2.1 pc = .ok (.irem, 1)) (hne : ¬ y = 0) (k : V σ M d bc bs (pc + 1) lv (aI (x - x / y * y) :: st) h P) : V σ M d bc bs pc lv (aI y :: aI x :: st) h P := by
  intro p l e R s m args below meth c D cA B ad ad0 L0 H locs cells slots ls b
  exact lv_irem b.x b.b hd hne (k p l e R s m args below meth c D cA B ad ad0 L0 H locs cells slots ls (b.stk (okc okI (okt (okt b.so)))))
theorem V_ineg {x : Int32} (hd : decode M.2.1 pc = .ok (.ineg, 1)) (k : V σ M d bc bs (pc + 1) lv (aI (-x) :: st) h P) : V σ M d bc bs pc lv (aI x :: st) h P := by
  intro p l e R s m args below meth c D cA B ad ad0 L0 H locs cells slots ls b
  exact lv_ineg b.x b.b hd (k p l e R s m args below meth c D cA B ad ad0 L0 H locs cells slots ls (b.stk (okc okI (okt b.so))))
theorem V_i2b {x : Int32} (hd : decode M.2.1 pc = .ok (.i2b, 1)) (k : V σ M d bc bs (pc + 1) lv (aI (x.toInt8.toInt32) :: st) h P) : V σ M d bc bs pc lv (aI x :: st) h P := by
  intro p l e R s m args below meth c D cA B ad ad0 L0 H locs cells slots ls b
  exact lv_i2b b.x b.b hd rfl (k p l e R s m args below meth c D cA B ad ad0 L0 H locs cells slots ls (b.stk (okc okI (okt b.so))))
theorem V_i2l {x : Int32} (hd : decode M.2.1 pc = .ok (.i2l, 1)) (k : V σ M d bc bs (pc + 1) lv (aL (x.toInt64) :: st) h P) : V σ M d bc bs pc lv (aI x :: st) h P := by
  intro p l e R s m args below meth c D cA B ad ad0 L0 H locs cells slots ls b
  exact lv_i2l b.x b.b hd rfl (k p l e R s m args below meth c D cA B ad ad0 L0 H locs cells slots ls (b.stk (okc okLg (okt b.so))))
theorem V_lshl {x : Int64} {y : Int32} (hd : decode M.2.1 pc = .ok (.lshl, 1)) (k : V σ M d bc bs (pc + 1) lv (aL (x <<< (y.toInt64 &&& 63)) :: st) h P) : V σ M d bc bs pc lv (aI y :: aL x :: st) h P := by
  intro p l e R s m args below meth c D cA B ad ad0 L0 H locs cells slots ls b
  exact lv_lshl b.x b.b hd rfl (k p l e R s m args below meth c D cA B ad ad0 L0 H locs cells slots ls (b.stk (okc okLg (okt (okt b.so)))))
theorem V_lor {x y : Int64} (hd : decode M.2.1 pc = .ok (.lor, 1)) (k : V σ M d bc bs (pc + 1) lv (aL (x ||| y) :: st) h P) : V σ M d bc bs pc lv (aL y :: aL x :: st) h P := by
  intro p l e R s m args below meth c D cA B ad ad0 L0 H locs cells slots ls b
  exact lv_lor b.x b.b hd (k p l e R s m args below meth c D cA B ad ad0 L0 H locs cells slots ls (b.stk (okc okLg (okt (okt b.so)))))
theorem V_lcmp {x y : Int64} (hd : decode M.2.1 pc = .ok (.lcmp, 1)) (k : V σ M d bc bs (pc + 1) lv (aI (lg_cmp x y) :: st) h P) : V σ M d bc bs pc lv (aL y :: aL x :: st) h P := by
  intro p l e R s m args below meth c D cA B ad ad0 L0 H locs cells slots ls b
  exact W.lcmp b.x b.b hd (k p l e R s m args below meth c D cA B ad ad0 L0 H locs cells slots ls (b.stk (okc okI (okt (okt b.so)))))
theorem V_if_eq {x : Int32} {off : Int} (tgt : Nat) (hd : decode M.2.1 pc = .ok (.ifCond .eq off, 3)) (ht : (pc : Int) + off = (tgt : Int)) (k : (x = 0 → V σ M d bc bs tgt lv st h P) ∧ (¬ x = 0 → V σ M d bc bs (pc + 3) lv st h P)) : V σ M d bc bs pc lv (aI x :: st) h P := by
  intro p l e R s m args below meth c D cA B ad ad0 L0 H locs cells slots ls b
  exact lv_if_eq b.x b.b hd ht (fun z => k.1 z p l e R s m args below meth c D cA B ad ad0 L0 H locs cells slots ls (b.stk (okt b.so))) (fun z => k.2 z p l e R s m args below meth c D cA B ad ad0 L0 H locs cells slots ls (b.stk (okt b.so)))
theorem V_icmp_eq {x y : Int32} {off : Int} (tgt : Nat) (hd : decode M.2.1 pc = .ok (.if_icmp .eq off, 3)) (ht : (pc : Int) + off = (tgt : Int)) (k : (x = y → V σ M d bc bs tgt lv st h P) ∧ (¬ x = y → V σ M d bc bs (pc + 3) lv st h P)) : V σ M d bc bs pc lv (aI y :: aI x :: st) h P := by
  intro p l e R s m args below meth c D cA B ad ad0 L0 H locs cells slots ls b
  exact lv_icmp_eq b.x b.b hd ht (fun z => k.1 z p l e R s m args below meth c D cA B ad ad0 L0 H locs cells slots ls (b.stk (okt (okt b.so)))) (fun z => k.2 z p l e R s m args below meth c D cA B ad ad0 L0 H locs cells slots ls (b.stk (okt (okt b.so))))
theorem V_if_ne {x : Int32} {off : Int} (tgt : Nat) (hd : decode M.2.1 pc = .ok (.ifCond .ne off, 3)) (ht : (pc : Int) + off = (tgt : Int)) (k : (¬ x = 0 → V σ M d bc bs tgt lv st h P) ∧ (x = 0 → V σ M d bc bs (pc + 3) lv st h P)) : V σ M d bc bs pc lv (aI x :: st) h P := by
  intro p l e R s m args below meth c D cA B ad ad0 L0 H locs cells slots ls b
  exact lv_if_ne b.x b.b hd ht (fun z => k.1 z p l e R s m args below meth c D cA B ad ad0 L0 H locs cells slots ls (b.stk (okt b.so))) (fun z => k.2 z p l e R s m args below meth c D cA B ad ad0 L0 H locs cells slots ls (b.stk (okt b.so)))
theorem V_icmp_ne {x y : Int32} {off : Int} (tgt : Nat) (hd : decode M.2.1 pc = .ok (.if_icmp .ne off, 3)) (ht : (pc : Int) + off = (tgt : Int)) (k : (¬ x = y → V σ M d bc bs tgt lv st h P) ∧ (x = y → V σ M d bc bs (pc + 3) lv st h P)) : V σ M d bc bs pc lv (aI y :: aI x :: st) h P := by
  intro p l e R s m args below meth c D cA B ad ad0 L0 H locs cells slots ls b
  exact lv_icmp_ne b.x b.b hd ht (fun z => k.1 z p l e R s m args below meth c D cA B ad ad0 L0 H locs cells slots ls (b.stk (okt (okt b.so)))) (fun z => k.2 z p l e R s m args below meth c D cA B ad ad0 L0 H locs cells slots ls (b.stk (okt (okt b.so))))
theorem V_if_lt {x : Int32} {off : Int} (tgt : Nat) (hd : decode M.2.1 pc = .ok (.ifCond .lt off, 3)) (ht : (pc : Int) + off = (tgt : Int)) (k : (x < 0 → V σ M d bc bs tgt lv st h P) ∧ (¬ x < 0 → V σ M d bc bs (pc + 3) lv st h P)) : V σ M d bc bs pc lv (aI x :: st) h P := by
  intro p l e R s m args below meth c D cA B ad ad0 L0 H locs cells slots ls b
  exact lv_if_lt b.x b.b hd ht (fun z => k.1 z p l e R s m args below meth c D cA B ad ad0 L0 H locs cells slots ls (b.stk (okt b.so))) (fun z => k.2 z p l e R s m args below meth c D cA B ad ad0 L0 H locs cells slots ls (b.stk (okt b.so)))
theorem V_icmp_lt {x y : Int32} {off : Int} (tgt : Nat) (hd : decode M.2.1 pc = .ok (.if_icmp .lt off, 3)) (ht : (pc : Int) + off = (tgt : Int)) (k : (x < y → V σ M d bc bs tgt lv st h P) ∧ (¬ x < y → V σ M d bc bs (pc + 3) lv st h P)) : V σ M d bc bs pc lv (aI y :: aI x :: st) h P := by
  intro p l e R s m args below meth c D cA B ad ad0 L0 H locs cells slots ls b
  exact lv_icmp_lt b.x b.b hd ht (fun z => k.1 z p l e R s m args below meth c D cA B ad ad0 L0 H locs cells slots ls (b.stk (okt (okt b.so)))) (fun z => k.2 z p l e R s m args below meth c D cA B ad ad0 L0 H locs cells slots ls (b.stk (okt (okt b.so))))
theorem V_if_ge {x : Int32} {off : Int} (tgt : Nat) (hd : decode M.2.1 pc = .ok (.ifCond .ge off, 3)) (ht : (pc : Int) + off = (tgt : Int)) (k : (0 ≤ x → V σ M d bc bs tgt lv st h P) ∧ (¬ 0 ≤ x → V σ M d bc bs (pc + 3) lv st h P)) : V σ M d bc bs pc lv (aI x :: st) h P := by
  intro p l e R s m args below meth c D cA B ad ad0 L0 H locs cells slots ls b
  exact lv_if_ge b.x b.b hd ht (fun z => k.1 z p l e R s m args below meth c D cA B ad ad0 L0 H locs cells slots ls (b.stk (okt b.so))) (fun z => k.2 z p l e R s m args below meth c D cA B ad ad0 L0 H locs cells slots ls (b.stk (okt b.so)))
theorem V_icmp_ge {x y : Int32} {off : Int} (tgt : Nat) (hd : decode M.2.1 pc = .ok (.if_icmp .ge off, 3)) (ht : (pc : Int) + off = (tgt : Int)) (k : (y ≤ x → V σ M d bc bs tgt lv st h P) ∧ (¬ y ≤ x → V σ M d bc bs (pc + 3) lv st h P)) : V σ M d bc bs pc lv (aI y :: aI x :: st) h P := by
  intro p l e R s m args below meth c D cA B ad ad0 L0 H locs cells slots ls b
  exact lv_icmp_ge b.x b.b hd ht (fun z => k.1 z p l e R s m args below meth c D cA B ad ad0 L0 H locs cells slots ls (b.stk (okt (okt b.so)))) (fun z => k.2 z p l e R s m args below meth c D cA B ad ad0 L0 H locs cells slots ls (b.stk (okt (okt b.so))))
theorem V_if_gt {x : Int32} {off : Int} (tgt : Nat) (hd : decode M.2.1 pc = .ok (.ifCond .gt off, 3)) (ht : (pc : Int) + off = (tgt : Int)) (k : (0 < x → V σ M d bc bs tgt lv st h P) ∧ (¬ 0 < x → V σ M d bc bs (pc + 3) lv st h P)) : V σ M d bc bs pc lv (aI x :: st) h P := by
  intro p l e R s m args below meth c D cA B ad ad0 L0 H locs cells slots ls b
  exact lv_if_gt b.x b.b hd ht (fun z => k.1 z p l e R s m args below meth c D cA B ad ad0 L0 H locs cells slots ls (b.stk (okt b.so))) (fun z => k.2 z p l e R s m args below meth c D cA B ad ad0 L0 H locs cells slots ls (b.stk (okt b.so)))
theorem V_icmp_gt {x y : Int32} {off : Int} (tgt : Nat) (hd : decode M.2.1 pc = .ok (.if_icmp .gt off, 3)) (ht : (pc : Int) + off = (tgt : Int)) (k : (y < x → V σ M d bc bs tgt lv st h P) ∧ (¬ y < x → V σ M d bc bs (pc + 3) lv st h P)) : V σ M d bc bs pc lv (aI y :: aI x :: st) h P := by
  intro p l e R s m args below meth c D cA B ad ad0 L0 H locs cells slots ls b
  exact lv_icmp_gt b.x b.b hd ht (fun z => k.1 z p l e R s m args below meth c D cA B ad ad0 L0 H locs cells slots ls (b.stk (okt (okt b.so)))) (fun z => k.2 z p l e R s m args below meth c D cA B ad ad0 L0 H locs cells slots ls (b.stk (okt (okt b.so))))
theorem V_if_le {x : Int32} {off : Int} (tgt : Nat) (hd : decode M.2.1 pc = .ok (.ifCond .le off, 3)) (ht : (pc : Int) + off = (tgt : Int)) (k : (x ≤ 0 → V σ M d bc bs tgt lv st h P) ∧ (¬ x ≤ 0 → V σ M d bc bs (pc + 3) lv st h P)) : V σ M d bc bs pc lv (aI x :: st) h P := by
  intro p l e R s m args below meth c D cA B ad ad0 L0 H locs cells slots ls b
  exact lv_if_le b.x b.b hd ht (fun z => k.1 z p l e R s m args below meth c D cA B ad ad0 L0 H locs cells slots ls (b.stk (okt b.so))) (fun z => k.2 z p l e R s m args below meth c D cA B ad ad0 L0 H locs cells slots ls (b.stk (okt b.so)))
theorem V_icmp_le {x y : Int32} {off : Int} (tgt : Nat) (hd : decode M.2.1 pc = .ok (.if_icmp .le off, 3)) (ht : (pc : Int) + off = (tgt : Int)) (k : (x ≤ y → V σ M d bc bs tgt lv st h P) ∧ (¬ x ≤ y → V σ M d bc bs (pc + 3) lv st h P)) : V σ M d bc bs pc lv (aI y :: aI x :: st) h P := by
  intro p l e R s m args below meth c D cA B ad ad0 L0 H locs cells slots ls b
  exact lv_icmp_le b.x b.b hd ht (fun z => k.1 z p l e R s m args below meth c D cA B ad ad0 L0 H locs cells slots ls (b.stk (okt (okt b.so)))) (fun z => k.2 z p l e R s m args below meth c D cA B ad ad0 L0 H locs cells slots ls (b.stk (okt (okt b.so))))
theorem V_goto {off : Int} (tgt : Nat) (hd : decode M.2.1 pc = .ok (.goto off, 3)) (ht : (pc : Int) + off = (tgt : Int)) (k : V σ M d bc bs tgt lv st h P) : V σ M d bc bs pc lv st h P := by
  intro p l e R s m args below meth c D cA B ad ad0 L0 H locs cells slots ls b
  exact lv_goto b.x b.b hd ht (k p l e R s m args below meth c D cA B ad ad0 L0 H locs cells slots ls b)
theorem ct1 {ad : PT → Nat} {v : AV} (hv : ct v = 1) : (vl ad v).category = 1 := by
  match v, hv with
  | .inl x, _ => rfl
  | .inr (.inr none), _ => rfl
  | .inr (.inr (some q)), _ => rfl
theorem ctv {ad : PT → Nat} (v : AV) : (vl ad v).category = ct v := by
  match v with
  | .inl x => rfl
  | .inr (.inl x) => rfl
  | .inr (.inr none) => rfl
  | .inr (.inr (some q)) => rfl
theorem V_dup {v : AV} (hd : decode M.2.1 pc = .ok (.dup, 1)) (hv : ct v = 1) (k : V σ M d bc bs (pc + 1) lv (v :: v :: st) h P) : V σ M d bc bs pc lv (v :: st) h P := by
  intro p l e R s m args below meth c D cA B ad ad0 L0 H locs cells slots ls b
  exact lv_dup b.x b.b hd (ct1 hv) (k p l e R s m args below meth c D cA B ad ad0 L0 H locs cells slots ls (b.stk (okc (okh b.so) b.so)))
theorem V_pop {v : AV} (hd : decode M.2.1 pc = .ok (.pop, 1)) (hv : ct v = 1) (k : V σ M d bc bs (pc + 1) lv (st) h P) : V σ M d bc bs pc lv (v :: st) h P := by
  intro p l e R s m args below meth c D cA B ad ad0 L0 H locs cells slots ls b
  exact lv_pop b.x b.b hd (ct1 hv) (k p l e R s m args below meth c D cA B ad ad0 L0 H locs cells slots ls (b.stk (okt b.so)))
theorem V_dup2 {v w : AV} (hd : decode M.2.1 pc = .ok (.dup2, 1)) (hv : ct v = 1) (hw : ct w = 1) (k : V σ M d bc bs (pc + 1) lv (v :: w :: v :: w :: st) h P) : V σ M d bc bs pc lv (v :: w :: st) h P := by
  intro p l e R s m args below meth c D cA B ad ad0 L0 H locs cells slots ls b
  exact lv_dup2_11 b.x b.b hd (ct1 hv) (ct1 hw) (k p l e R s m args below meth c D cA B ad ad0 L0 H locs cells slots ls (b.stk (okc (okh b.so) (okc (okh (okt b.so)) b.so))))
theorem V_dup_x1 {v w : AV} (hd : decode M.2.1 pc = .ok (.dup_x1, 1)) (hv : ct v = 1) (hw : ct w = 1) (k : V σ M d bc bs (pc + 1) lv (v :: w :: v :: st) h P) : V σ M d bc bs pc lv (v :: w :: st) h P := by
  intro p l e R s m args below meth c D cA B ad ad0 L0 H locs cells slots ls b
  exact lv_dup_x1 b.x b.b hd (ct1 hv) (ct1 hw) (k p l e R s m args below meth c D cA B ad ad0 L0 H locs cells slots ls (b.stk (okc (okh b.so) (okc (okh (okt b.so)) (okc (okh b.so) (okt (okt b.so)))))))
theorem V_dup_x2 {v w u : AV} (hd : decode M.2.1 pc = .ok (.dup_x2, 1)) (hv : ct v = 1) (hw : ct w = 1) (hu : ct u = 1) (k : V σ M d bc bs (pc + 1) lv (v :: w :: u :: v :: st) h P) : V σ M d bc bs pc lv (v :: w :: u :: st) h P := by
  intro p l e R s m args below meth c D cA B ad ad0 L0 H locs cells slots ls b
  exact lv_dup_x2 b.x b.b hd (ct1 hv) (ct1 hw) (ct1 hu) (k p l e R s m args below meth c D cA B ad ad0 L0 H locs cells slots ls (b.stk (okc (okh b.so) (okc (okh (okt b.so)) (okc (okh (okt (okt b.so))) (okc (okh b.so) (okt (okt (okt b.so)))))))))
def lg (lv : List (Nat × AV)) (i : Nat) : Option AV := lv.lookup i
theorem lg_mem {i : Nat} {v : AV} : ∀ {lv : List (Nat × AV)}, lv.lookup i = some v → (i, v) ∈ lv
  | [], h => by cases h
  | (j, w) :: t, h => by
    rw [List.lookup_cons] at h
    by_cases e : i = j
    · subst e
      simp at h
      subst h
      exact List.mem_cons_self
    · have e2 : (i == j) = false := by simp [e]
      rw [e2] at h
      exact List.mem_cons_of_mem _ (lg_mem h)
theorem lg_at {ad : PT → Nat} {ls : Array Slot} {nL i : Nat} {v : AV} (hl : lv_has ls nL (lvm ad lv)) (hg : lg lv i = some v) : ls[i]? = some (.val (vl ad v)) :=
  hl.2.2 (i, vl ad v) (List.mem_map.mpr ⟨(i, v), lg_mem hg, rfl⟩)
theorem lg_ok {i : Nat} {v : AV} (ho : ∀ q ∈ lv, okV h q.2) (hg : lg lv i = some v) : okV h v := ho (i, v) (lg_mem hg)
theorem V_iload_n {n : Fin 4} (i : Nat) {x : Int32} (hd : decode M.2.1 pc = .ok (.iload_n n, 1)) (hi : (n : Nat) = i) (hg : lg lv i = some (aI x)) (k : V σ M d bc bs (pc + 1) lv (aI x :: st) h P) : V σ M d bc bs pc lv st h P := by
  intro p l e R s m args below meth c D cA B ad ad0 L0 H locs cells slots ls b
  exact lv_iload_n b.x b.b hd hi (lg_at b.lh hg) (k p l e R s m args below meth c D cA B ad ad0 L0 H locs cells slots ls (b.stk (okc okI b.so)))
theorem V_lload_n {n : Fin 4} (i : Nat) {x : Int64} (hd : decode M.2.1 pc = .ok (.lload_n n, 1)) (hi : (n : Nat) = i) (hg : lg lv i = some (aL x)) (k : V σ M d bc bs (pc + 1) lv (aL x :: st) h P) : V σ M d bc bs pc lv st h P := by
  intro p l e R s m args below meth c D cA B ad ad0 L0 H locs cells slots ls b
  exact lv_lload_n b.x b.b hd hi (lg_at b.lh hg) (k p l e R s m args below meth c D cA B ad ad0 L0 H locs cells slots ls (b.stk (okc okLg b.so)))
theorem V_aload_n {n : Fin 4} (i : Nat) {r : Option PT} (hd : decode M.2.1 pc = .ok (.aload_n n, 1)) (hi : (n : Nat) = i) (hg : lg lv i = some (aP r)) (k : V σ M d bc bs (pc + 1) lv (aP r :: st) h P) : V σ M d bc bs pc lv st h P := by
  intro p l e R s m args below meth c D cA B ad ad0 L0 H locs cells slots ls b
  have b2 := b.stk (okc (lg_ok b.lo hg) b.so)
  cases r with
  | none => exact lv_aload_nN b.x b.b hd hi (lg_at b.lh hg) (k p l e R s m args below meth c D cA B ad ad0 L0 H locs cells slots ls b2)
  | some q => exact lv_aload_n b.x b.b hd hi (lg_at b.lh hg) (k p l e R s m args below meth c D cA B ad ad0 L0 H locs cells slots ls b2)
theorem V_iload (i : Nat) {x : Int32} (hd : decode M.2.1 pc = .ok (.iload i, 2)) (hg : lg lv i = some (aI x)) (k : V σ M d bc bs (pc + 2) lv (aI x :: st) h P) : V σ M d bc bs pc lv st h P := by
  intro p l e R s m args below meth c D cA B ad ad0 L0 H locs cells slots ls b
  exact lv_iload b.x b.b hd (lg_at b.lh hg) (k p l e R s m args below meth c D cA B ad ad0 L0 H locs cells slots ls (b.stk (okc okI b.so)))
theorem V_lload (i : Nat) {x : Int64} (hd : decode M.2.1 pc = .ok (.lload i, 2)) (hg : lg lv i = some (aL x)) (k : V σ M d bc bs (pc + 2) lv (aL x :: st) h P) : V σ M d bc bs pc lv st h P := by
  intro p l e R s m args below meth c D cA B ad ad0 L0 H locs cells slots ls b
  exact lv_lload b.x b.b hd (lg_at b.lh hg) (k p l e R s m args below meth c D cA B ad ad0 L0 H locs cells slots ls (b.stk (okc okLg b.so)))
theorem V_aload (i : Nat) {r : Option PT} (hd : decode M.2.1 pc = .ok (.aload i, 2)) (hg : lg lv i = some (aP r)) (k : V σ M d bc bs (pc + 2) lv (aP r :: st) h P) : V σ M d bc bs pc lv st h P := by
  intro p l e R s m args below meth c D cA B ad ad0 L0 H locs cells slots ls b
  have b2 := b.stk (okc (lg_ok b.lo hg) b.so)
  cases r with
  | none => exact lv_aloadN b.x b.b hd (lg_at b.lh hg) (k p l e R s m args below meth c D cA B ad ad0 L0 H locs cells slots ls b2)
  | some q => exact lv_aload b.x b.b hd (lg_at b.lh hg) (k p l e R s m args below meth c D cA B ad ad0 L0 H locs cells slots ls b2)
def lpS (lv : List (Nat × AV)) (i : Nat) (v : AV) : List (Nat × AV) := (i, v) :: lv.filter (fun q => !(q.1 == i) && !(q.1 + 1 == i && ct q.2 == 2))
def lpD (lv : List (Nat × AV)) (i : Nat) (v : AV) : List (Nat × AV) := (i, v) :: lv.filter (fun q => !(q.1 == i) && (!(q.1 == i + 1) && !(q.1 + 1 == i && ct q.2 == 2)))
theorem lpS_eq {ad : PT → Nat} {i : Nat} {v : AV} : (i, vl ad v) :: (lvm ad lv).filter (fun q => !(q.1 == i) && !(q.1 + 1 == i && q.2.category == 2)) = lvm ad (lpS lv i v) := by
  simp only [lvm, lpS, List.map_cons, List.filter_map]
  congr 2
  apply List.filter_congr
  intro q _
  simp [ctv]
theorem lpD_eq {ad : PT → Nat} {i : Nat} {v : AV} : (i, vl ad v) :: (lvm ad lv).filter (fun q => !(q.1 == i) && (!(q.1 == i + 1) && !(q.1 + 1 == i && q.2.category == 2))) = lvm ad (lpD lv i v) := by
  simp only [lvm, lp2, List.map_cons, List.filter_map]
  congr 2
  apply List.filter_congr
  intro q _
  simp [ctv]
theorem lpS_ok {i : Nat} {v : AV} (hv : okV h v) (ho : ∀ q ∈ lv, okV h q.2) : ∀ q ∈ lpS lv i v, okV h q.2 := fun q hq => (List.mem_cons.mp hq).elim (fun e => by rw [e]; exact hv) (fun hq => ho q (List.mem_filter.mp hq).1)
theorem lpD_ok {i : Nat} {v : AV} (hv : okV h v) (ho : ∀ q ∈ lv, okV h q.2) : ∀ q ∈ lpD lv i v, okV h q.2 := fun q hq => (List.mem_cons.mp hq).elim (fun e => by rw [e]; exact hv) (fun hq => ho q (List.mem_filter.mp hq).1)
theorem V_istore_n {n : Fin 4} (i : Nat) {x : Int32} (hd : decode M.2.1 pc = .ok (.istore_n n, 1)) (hi : (n : Nat) = i) (hn : i < M.2.2.1) {lv2 : List (Nat × AV)} (he : lpS lv i (aI x) = lv2) (k : V σ M d bc bs (pc + 1) lv2 st h P) : V σ M d bc bs pc lv (aI x :: st) h P := by
  subst he
  intro p l e R s m args below meth c D cA B ad ad0 L0 H locs cells slots ls b
  exact lv_istore_n b.x b.b hd hi b.lh hn (lpS_eq (v := aI x)) (fun ls2 hl2 => k p l e R s m args below meth c D cA B ad ad0 L0 H locs cells slots ls2 (b.lst (okt b.so) hl2 (lpS_ok okI b.lo)))
theorem V_lstore_n {n : Fin 4} (i : Nat) {x : Int64} (hd : decode M.2.1 pc = .ok (.lstore_n n, 1)) (hi : (n : Nat) = i) (hn : i + 1 < M.2.2.1) {lv2 : List (Nat × AV)} (he : lpD lv i (aL x) = lv2) (k : V σ M d bc bs (pc + 1) lv2 st h P) : V σ M d bc bs pc lv (aL x :: st) h P := by
  subst he
  intro p l e R s m args below meth c D cA B ad ad0 L0 H locs cells slots ls b
  exact lv_lstore_n b.x b.b hd hi b.lh hn (lpD_eq (v := aL x)) (fun ls2 hl2 => k p l e R s m args below meth c D cA B ad ad0 L0 H locs cells slots ls2 (b.lst (okt b.so) hl2 (lpD_ok okLg b.lo)))
theorem V_astore_n {n : Fin 4} (i : Nat) {r : Option PT} (hd : decode M.2.1 pc = .ok (.astore_n n, 1)) (hi : (n : Nat) = i) (hn : i < M.2.2.1) {lv2 : List (Nat × AV)} (he : lpS lv i (aP r) = lv2) (k : V σ M d bc bs (pc + 1) lv2 st h P) : V σ M d bc bs pc lv (aP r :: st) h P := by
  subst he
  intro p l e R s m args below meth c D cA B ad ad0 L0 H locs cells slots ls b
  have hk := fun ls2 hl2 => k p l e R s m args below meth c D cA B ad ad0 L0 H locs cells slots ls2 (b.lst (okt b.so) hl2 (lpS_ok (okh b.so) b.lo))
  cases r with
  | none => exact lv_astore_nN b.x b.b hd hi b.lh hn (lpS_eq (v := aP none)) hk
  | some q => exact lv_astore_n b.x b.b hd hi b.lh hn (lpS_eq (v := aP (some q))) hk
theorem V_istore (i : Nat) {x : Int32} (hd : decode M.2.1 pc = .ok (.istore i, 2)) (hn : i < M.2.2.1) {lv2 : List (Nat × AV)} (he : lpS lv i (aI x) = lv2) (k : V σ M d bc bs (pc + 2) lv2 st h P) : V σ M d bc bs pc lv (aI x :: st) h P := by
  subst he
  intro p l e R s m args below meth c D cA B ad ad0 L0 H locs cells slots ls b
  exact lv_istore b.x b.b hd b.lh hn (lpS_eq (v := aI x)) (fun ls2 hl2 => k p l e R s m args below meth c D cA B ad ad0 L0 H locs cells slots ls2 (b.lst (okt b.so) hl2 (lpS_ok okI b.lo)))
theorem V_lstore (i : Nat) {x : Int64} (hd : decode M.2.1 pc = .ok (.lstore i, 2)) (hn : i + 1 < M.2.2.1) {lv2 : List (Nat × AV)} (he : lpD lv i (aL x) = lv2) (k : V σ M d bc bs (pc + 2) lv2 st h P) : V σ M d bc bs pc lv (aL x :: st) h P := by
  subst he
  intro p l e R s m args below meth c D cA B ad ad0 L0 H locs cells slots ls b
  exact lv_lstore b.x b.b hd b.lh hn (lpD_eq (v := aL x)) (fun ls2 hl2 => k p l e R s m args below meth c D cA B ad ad0 L0 H locs cells slots ls2 (b.lst (okt b.so) hl2 (lpD_ok okLg b.lo)))
theorem V_astore (i : Nat) {r : Option PT} (hd : decode M.2.1 pc = .ok (.astore i, 2)) (hn : i < M.2.2.1) {lv2 : List (Nat × AV)} (he : lpS lv i (aP r) = lv2) (k : V σ M d bc bs (pc + 2) lv2 st h P) : V σ M d bc bs pc lv (aP r :: st) h P := by
  subst he
  intro p l e R s m args below meth c D cA B ad ad0 L0 H locs cells slots ls b
  have hk := fun ls2 hl2 => k p l e R s m args below meth c D cA B ad ad0 L0 H locs cells slots ls2 (b.lst (okt b.so) hl2 (lpS_ok (okh b.so) b.lo))
  cases r with
  | none => exact lv_astoreN b.x b.b hd b.lh hn (lpS_eq (v := aP none)) hk
  | some q => exact lv_astore b.x b.b hd b.lh hn (lpS_eq (v := aP (some q))) hk
theorem V_iinc (i : Nat) {n : Int} {x v : Int32} (hd : decode M.2.1 pc = .ok (.iinc i n, 3)) (hg : lg lv i = some (aI x)) (hv : x + Int32.ofInt n = v) (hn : i < M.2.2.1) {lv2 : List (Nat × AV)} (he : lpS lv i (aI v) = lv2) (k : V σ M d bc bs (pc + 3) lv2 st h P) : V σ M d bc bs pc lv st h P := by
  subst he
  intro p l e R s m args below meth c D cA B ad ad0 L0 H locs cells slots ls b
  have hm : (i, Value.int x) ∈ lvm ad lv := List.mem_map.mpr ⟨(i, aI x), lg_mem hg, rfl⟩
  obtain ⟨j, hj⟩ := List.getElem?_of_mem hm
  exact lv_iinc b.x b.b hd b.lh hj hv hn (lpS_eq (v := aI v)) (fun ls2 hl2 => k p l e R s m args below meth c D cA B ad ad0 L0 H locs cells slots ls2 (b.lst b.so hl2 (lpS_ok okI b.lo)))
theorem V_ldc {idx : Nat} (v : Int32) (hd : decode M.2.1 pc = .ok (.ldc idx, 2)) (hw : Cond.constant M.1.cls idx v ∈ gw) (k : V σ M d bc bs (pc + 2) lv (aI v :: st) h P) : V σ M d bc bs pc lv st h P := by
  intro p l e R s m args below meth c D cA B ad ad0 L0 H locs cells slots ls b
  exact W.ldc b.x b.b b.own (b.ts _ hw) rfl hd (k p l e R s m args below meth c D cA B ad ad0 L0 H locs cells slots ls (b.stk (okc okI b.so)))
theorem V_ldc_w {idx : Nat} (v : Int32) (hd : decode M.2.1 pc = .ok (.ldc_w idx, 3)) (hw : Cond.constant M.1.cls idx v ∈ gw) (k : V σ M d bc bs (pc + 3) lv (aI v :: st) h P) : V σ M d bc bs pc lv st h P := by
  intro p l e R s m args below meth c D cA B ad ad0 L0 H locs cells slots ls b
  exact lv_ldcw b.x b.b b.own (b.ts _ hw) hd (k p l e R s m args below meth c D cA B ad ad0 L0 H locs cells slots ls (b.stk (okc okI b.so)))
theorem V_ldc2 {idx : Nat} (v : Int64) (hd : decode M.2.1 pc = .ok (.ldc2_w idx, 3)) (hw : Cond.constantLong M.1.cls idx v ∈ gw) (k : V σ M d bc bs (pc + 3) lv (aL v :: st) h P) : V σ M d bc bs pc lv st h P := by
  intro p l e R s m args below meth c D cA B ad ad0 L0 H locs cells slots ls b
  exact W.ldc2 b.x b.b b.own (b.ts _ hw) rfl hd (k p l e R s m args below meth c D cA B ad ad0 L0 H locs cells slots ls (b.stk (okc okLg b.so)))
end VR

-- ===== the law: the machine over the store, and the script beside it =====
def R_law : String := "GreatStoreLaw"
def lw_P (b : Addr) (xs : List Int32) (args : Array Value) (s : State) : Prop := args = #[.ref b] ∧ s.IntsAt b xs ∧ xs.length ≤ 4096 ∧ (Jvm.Cond.and given_1 narrow_1).before args s = true
def lw_Q (_ : Array Value) (s : State) (o : Outcome) (t : State) : Prop := o = .returned (some (.int 1)) ∧ Framed s o t [] 600000 7302250
def lw_Z (below : List Frame) (a : Array Value) (s : State) : State → Prop := fun t => ∃ o, t.status = .running ∧ Ended t below o ∧ lw_Q a s o t
/-- the law's own end, with 1 on the stack, nothing written that was there before, its room as the claim has it -/
theorem lw_ret {p : Program} {l : Launch} {e : Env} {s : State} {m : MethodId} {below : List Frame} {meth : Method} {c : Code} {b : Nat} (hx : p.tables.exec = Jvm.exec) (hb : c.code = code) (hr : meth.sig.returnType = ret) (hlocks : meth.locks = false) {pc : Nat} {H : Heap} {ls : Array Slot} (hdg : decode code pc = .ok (.ireturn, 1)) : W p l e room_1 s m #[Value.ref b] below meth c H [] 600000 7302250 (lw_Z below #[Value.ref b] s) (F0 m pc ls [.int 1]) := by
  intro T hT X
  obtain ⟨fs, hret, hrun, hended, hW, hframe⟩ := X.leave (v := some (.int 1)) (hlocks := hlocks) (fun h => by rw [hr] at h; cases h)
  have hmeth' : T.vm.method? m = some meth := X.method'
  refine ⟨T.setFrames fs, ?_, .returned (some (.int 1)), hrun, hended, rfl, ⟨_, rfl⟩, hW, hframe⟩
  jvm_step X.here [X.here.top, hx, hb, hdg, hmeth', hr, ret, narrow_b1]
  (try refine ⟨rfl, ?_⟩); (try refine ⟨rfl, ?_⟩)
  first | (intro acts; rw [hret _ acts rfl rfl rfl]) | rw [hret _ _ rfl rfl rfl]
  exact Steps.refl _
/-- what holds at the law's entry -/
def lw_At (p : Program) (s : State) (m : MethodId) (meth : Method) (c : Code) (b L : Nat) (xs : Nat → Int32) : Prop :=
  p.tables.exec = Jvm.exec ∧ c.code = code ∧ meth.sig.returnType = ret ∧ c.maxLocals = 4 ∧ s.vm.findClass R_law = some m.cls ∧ (∀ w ∈ lw_tbl, w.before #[Value.ref b] s = true) ∧ va_X b L xs s s.heap ∧ b < s.heap.size ∧ meth.locks = false ∧ (Jvm.Cond.and given_1 narrow_1).before #[Value.ref b] s = true
def mL (nm : String) : MT := (⟨RL, nm, "([I)Z"⟩, cL_law, 4, some .boolean)
/-- program, launch, surroundings, start, method, frames below, its method, its code, the script's cell, classes, array classes, addresses of what lies outside -/
abbrev LC : Type := Program × Launch × Env × State × MethodId × List Frame × Method × Code × Nat × va_G × (FieldType → ClassId) × (PT → Nat)
def LV (σ : Bool) (Γ : LC) (bc bs pc : Nat) (lv : List (Nat × AV)) (st : List AV) (h : HS) : Prop :=
  ∀ (ad : PT → Nat) (H : Heap) (locs : List Loc) (cells slots : Nat) (ls : Array Slot),
    Bd σ (mL Γ.2.2.2.2.2.2.1.name) 101 bc bs lv st h Γ.1 room_1 Γ.2.2.2.1 Γ.2.2.2.2.1 #[Value.ref Γ.2.2.2.2.2.2.2.2.1] Γ.2.2.2.2.2.2.1 Γ.2.2.2.2.2.2.2.1 Γ.2.2.2.2.2.2.2.2.2.1 Γ.2.2.2.2.2.2.2.2.2.2.1 Γ.2.2.2.1.heap.size ad Γ.2.2.2.2.2.2.2.2.2.2.2 [] H locs cells slots ls →
    W Γ.1 Γ.2.1 Γ.2.2.1 room_1 Γ.2.2.2.1 Γ.2.2.2.2.1 #[Value.ref Γ.2.2.2.2.2.2.2.2.1] Γ.2.2.2.2.2.1 Γ.2.2.2.2.2.2.1 Γ.2.2.2.2.2.2.2.1 H locs cells slots (lw_Z Γ.2.2.2.2.2.1 #[Value.ref Γ.2.2.2.2.2.2.2.2.1] Γ.2.2.2.1) (F0 Γ.2.2.2.2.1 pc ls (st.map (vl ad)))
section LR
variable {σ : Bool} {Γ : LC} {bc bs pc : Nat} {lv : List (Nat × AV)} {st : List AV} {h : HS}
theorem L_iconst {n : Int} (v : Int32) (hd : decode cL_law pc = .ok (.iconst n, 1)) (hv : Int32.ofInt n = v) (k : LV σ Γ bc bs (pc + 1) lv (aI v :: st) h) : LV σ Γ bc bs pc lv st h := by
  intro ad H locs cells slots ls b
  exact lv_iconst b.x b.b hd hv (k ad H locs cells slots ls (b.stk (okc okI b.so)))
theorem L_bipush {n : Int} (v : Int32) (hd : decode cL_law pc = .ok (.bipush n, 2)) (hv : (Int8.ofInt n).toInt32 = v) (k : LV σ Γ bc bs (pc + 2) lv (aI v :: st) h) : LV σ Γ bc bs pc lv st h := by
  intro ad H locs cells slots ls b
  exact lv_bipush b.x b.b hd hv (k ad H locs cells slots ls (b.stk (okc okI b.so)))
theorem L_iadd {x y : Int32} (hd : decode cL_law pc = .ok (.iadd, 1)) (k : LV σ Γ bc bs (pc + 1) lv (aI (x + y) :: st) h) : LV σ Γ bc bs pc lv (aI y :: aI x :: st) h := by
  intro ad H locs cells slots ls b
  exact lv_iadd b.x b.b hd (k ad H locs cells slots ls (b.stk (okc okI (okt (okt b.so)))))
theorem L_isub {x y : Int32} (hd : decode cL_law pc = .ok (.isub, 1)) (k : LV σ Γ bc bs (pc + 1) lv (aI (x - y) :: st) h) : LV σ Γ bc bs pc lv (aI y :: aI x :: st) h := by
  intro ad H locs cells slots ls b
  exact lv_isub b.x b.b hd (k ad H locs cells slots ls (b.stk (okc okI (okt (okt b.so)))))
theorem L_iand {x y : Int32} (hd : decode cL_law pc = .ok (.iand, 1)) (k : LV σ Γ bc bs (pc + 1) lv (aI (x &&& y) :: st) h) : LV σ Γ bc bs pc lv (aI y :: aI x :: st) h := by
  intro ad H locs cells slots ls b
  exact lv_iand b.x b.b hd (k ad H locs cells slots ls (b.stk (okc okI (okt (okt b.so)))))
theorem L_dup {v : AV} (hd : decode cL_law pc = .ok (.dup, 1)) (hv : ct v = 1) (k : LV σ Γ bc bs (pc + 1) lv (v :: v :: st) h) : LV σ Γ bc bs pc lv (v :: st) h := by
  intro ad H locs cells slots ls b
  exact lv_dup b.x b.b hd (ct1 hv) (k ad H locs cells slots ls (b.stk (okc (okh b.so) b.so)))
theorem L_iload {n : Fin 4} (i : Nat) {x : Int32} (hd : decode cL_law pc = .ok (.iload_n n, 1)) (hi : (n : Nat) = i) (hg : lg lv i = some (aI x)) (k : LV σ Γ bc bs (pc + 1) lv (aI x :: st) h) : LV σ Γ bc bs pc lv st h := by
  intro ad H locs cells slots ls b
  exact lv_iload_n b.x b.b hd hi (lg_at b.lh hg) (k ad H locs cells slots ls (b.stk (okc okI b.so)))
theorem L_aload {n : Fin 4} (i : Nat) {q : PT} (hd : decode cL_law pc = .ok (.aload_n n, 1)) (hi : (n : Nat) = i) (hg : lg lv i = some (aP (some q))) (k : LV σ Γ bc bs (pc + 1) lv (aP (some q) :: st) h) : LV σ Γ bc bs pc lv st h := by
  intro ad H locs cells slots ls b
  exact lv_aload_n b.x b.b hd hi (lg_at b.lh hg) (k ad H locs cells slots ls (b.stk (okc (lg_ok b.lo hg) b.so)))
theorem L_istore {n : Fin 4} (i : Nat) {x : Int32} (hd : decode cL_law pc = .ok (.istore_n n, 1)) (hi : (n : Nat) = i) (hn : i < 4) {lv2 : List (Nat × AV)} (he : lpS lv i (aI x) = lv2) (k : LV σ Γ bc bs (pc + 1) lv2 st h) : LV σ Γ bc bs pc lv (aI x :: st) h := by
  subst he
  intro ad H locs cells slots ls b
  exact lv_istore_n b.x b.b hd hi b.lh hn (lpS_eq (v := aI x)) (fun ls2 hl2 => k ad H locs cells slots ls2 (b.lst (okt b.so) hl2 (lpS_ok okI b.lo)))
theorem L_astore {n : Fin 4} (i : Nat) {q : PT} (hd : decode cL_law pc = .ok (.astore_n n, 1)) (hi : (n : Nat) = i) (hn : i < 4) {lv2 : List (Nat × AV)} (he : lpS lv i (aP (some q)) = lv2) (k : LV σ Γ bc bs (pc + 1) lv2 st h) : LV σ Γ bc bs pc lv (aP (some q) :: st) h := by
  subst he
  intro ad H locs cells slots ls b
  exact lv_astore_n b.x b.b hd hi b.lh hn (lpS_eq (v := aP (some q))) (fun ls2 hl2 => k ad H locs cells slots ls2 (b.lst (okt b.so) hl2 (lpS_ok (okh b.so) b.lo)))
theorem L_iinc (i : Nat) {n : Int} {x v : Int32} (hd : decode cL_law pc = .ok (.iinc i n, 3)) (hg : lg lv i = some (aI x)) (hv : x + Int32.ofInt n = v) (hn : i < 4) {lv2 : List (Nat × AV)} (he : lpS lv i (aI v) = lv2) (k : LV σ Γ bc bs (pc + 3) lv2 st h) : LV σ Γ bc bs pc lv st h := by
  subst he
  intro ad H locs cells slots ls b
  have hm : (i, Value.int x) ∈ lvm ad lv := List.mem_map.mpr ⟨(i, aI x), lg_mem hg, rfl⟩
  obtain ⟨j, hj⟩ := List.getElem?_of_mem hm
  exact lv_iinc b.x b.b hd b.lh hj hv hn (lpS_eq (v := aI v)) (fun ls2 hl2 => k ad H locs cells slots ls2 (b.lst b.so hl2 (lpS_ok okI b.lo)))
theorem L_goto {off : Int} (tgt : Nat) (hd : decode cL_law pc = .ok (.goto off, 3)) (ht : (pc : Int) + off = (tgt : Int)) (k : LV σ Γ bc bs tgt lv st h) : LV σ Γ bc bs pc lv st h := by
  intro ad H locs cells slots ls b
  exact lv_goto b.x b.b hd ht (k ad H locs cells slots ls b)
theorem L_icmpeq {x y : Int32} {off : Int} (tgt : Nat) (hd : decode cL_law pc = .ok (.if_icmp .eq off, 3)) (ht : (pc : Int) + off = (tgt : Int)) (he : x = y) (k : LV σ Γ bc bs tgt lv st h) : LV σ Γ bc bs pc lv (aI y :: aI x :: st) h := by
  intro ad H locs cells slots ls b
  exact lv_icmp_eq b.x b.b hd ht (fun _ => k ad H locs cells slots ls (b.stk (okt (okt b.so)))) (fun z => absurd he z)
theorem L_icmpgt {x y : Int32} {off : Int} (tgt : Nat) (hd : decode cL_law pc = .ok (.if_icmp .gt off, 3)) (ht : (pc : Int) + off = (tgt : Int)) (k : (y < x → LV σ Γ bc bs tgt lv st h) ∧ (¬ y < x → LV σ Γ bc bs (pc + 3) lv st h)) : LV σ Γ bc bs pc lv (aI y :: aI x :: st) h := by
  intro ad H locs cells slots ls b
  exact lv_icmp_gt b.x b.b hd ht (fun z => k.1 z ad H locs cells slots ls (b.stk (okt (okt b.so)))) (fun z => k.2 z ad H locs cells slots ls (b.stk (okt (okt b.so))))
theorem L_tabIn {dflt lo hi off : Int} {offs : Array Int} {len : Nat} {x : Int32} (tgt : Nat) (hd : decode cL_law pc = .ok (.tableswitch dflt lo hi offs, len)) (h1 : ¬ x.toInt < lo) (h2 : ¬ hi < x.toInt) (ho : offs[(x.toInt - lo).toNat]? = some off) (ht : (pc : Int) + off = (tgt : Int)) (k : LV σ Γ bc bs tgt lv st h) : LV σ Γ bc bs pc lv (aI x :: st) h := by
  intro ad H locs cells slots ls b
  exact lv_tableIn b.x b.b hd h1 h2 ho ht (k ad H locs cells slots ls (b.stk (okt b.so)))
theorem L_tabOut {dflt lo hi : Int} {offs : Array Int} {len : Nat} {x : Int32} (tgt : Nat) (hd : decode cL_law pc = .ok (.tableswitch dflt lo hi offs, len)) (h1 : x.toInt < lo ∨ hi < x.toInt) (ht : (pc : Int) + dflt = (tgt : Int)) (k : LV σ Γ bc bs tgt lv st h) : LV σ Γ bc bs pc lv (aI x :: st) h := by
  intro ad H locs cells slots ls b
  exact lv_tableOut b.x b.b hd h1 ht (k ad H locs cells slots ls (b.stk (okt b.so)))
/-- the script -/
def LX (Γ : LC) (L : Nat) (xs : Nat → Int32) : Prop := va_X Γ.2.2.2.2.2.2.2.2.1 L xs Γ.2.2.2.1 Γ.2.2.2.1.heap ∧ Γ.2.2.2.2.2.2.2.2.1 < Γ.2.2.2.1.heap.size ∧ Γ.2.2.2.2.2.2.2.2.2.2.2 (70, 0) = Γ.2.2.2.2.2.2.2.2.1
theorem L_sld {L : Nat} {xs : Nat → Int32} {x : Int32} (X : LX Γ L xs) (hd : decode cL_law pc = .ok (.iaload, 1)) (hin : vp_in x L) (k : LV σ Γ bc bs (pc + 1) lv (aI (xs x.toNatClampNeg) :: st) h) : LV σ Γ bc bs pc lv (aI x :: aR 70 0 :: st) h := by
  intro ad H locs cells slots ls b
  have e : ad (70, 0) = Γ.2.2.2.2.2.2.2.2.1 := ((b.2.2.2.2.2.2.2.2.2.2 (70, 0) (Or.inr (by decide))).1).trans X.2.2
  show W _ _ _ _ _ _ _ _ _ _ _ _ _ _ _ (F0 _ _ _ (.int x :: .ref (ad (70, 0)) :: st.map (vl ad)))
  rw [e]
  exact va_sld b.x b.b X.1 X.2.1 (Nat.not_le.mpr X.2.1) b.S hin hd (k ad H locs cells slots ls (b.stk (okc okI (okt (okt b.so)))))
theorem L_slen {L : Nat} {xs : Nat → Int32} (X : LX Γ L xs) (hd : decode cL_law pc = .ok (.arraylength, 1)) (k : LV σ Γ bc bs (pc + 1) lv (aI (nI L) :: st) h) : LV σ Γ bc bs pc lv (aR 70 0 :: st) h := by
  intro ad H locs cells slots ls b
  have e : ad (70, 0) = Γ.2.2.2.2.2.2.2.2.1 := ((b.2.2.2.2.2.2.2.2.2.2 (70, 0) (Or.inr (by decide))).1).trans X.2.2
  show W _ _ _ _ _ _ _ _ _ _ _ _ _ _ _ (F0 _ _ _ (.ref (ad (70, 0)) :: st.map (vl ad)))
  rw [e]
  exact va_slen b.x b.b X.1 X.2.1 (Nat.not_le.mpr X.2.1) b.S hd (k ad H locs cells slots ls (b.stk (okc okI (okt b.so))))
theorem L_ret (hd : decode cL_law pc = .ok (.ireturn, 1)) : LV σ Γ bc bs pc lv [aI 1] h := by
  intro ad H locs cells slots ls b
  refine va_forget (fun q hq => b.S.2.2 q hq) (W.widen (k := 600000) (n := 7302250) (Nat.le_trans (Nat.le_add_right _ _) b.2.2.2.2.1.1) (Nat.le_trans (Nat.le_add_right _ _) b.2.2.2.2.1.2) ?_)
  exact lw_ret b.x b.b b.1.2.2.2.2.2.1 b.1.2.2.2.2.2.2.1 hd
/-- behind a call -/
theorem L_back {mc ms : Nat} {ad : PT → Nat} {H : Heap} {locs : List Loc} {cells slots : Nat} {ls : Array Slot} {st0 : List AV} {sv : List Value} {av : Array Value}
    (hm : mc ≤ bc) (hs : ms ≤ bs) (b : Bd σ (mL Γ.2.2.2.2.2.2.1.name) 101 bc bs lv st0 h Γ.1 room_1 Γ.2.2.2.1 Γ.2.2.2.2.1 #[Value.ref Γ.2.2.2.2.2.2.2.2.1] Γ.2.2.2.2.2.2.1 Γ.2.2.2.2.2.2.2.1 Γ.2.2.2.2.2.2.2.2.2.1 Γ.2.2.2.2.2.2.2.2.2.2.1 Γ.2.2.2.1.heap.size ad Γ.2.2.2.2.2.2.2.2.2.2.2 [] H locs cells slots ls) (ho : ∀ v ∈ st, okV h v)
    (hr : va_Run Γ.1 Γ.2.1 Γ.2.2.1 room_1 Γ.2.2.2.1 Γ.2.2.2.2.1 #[Value.ref Γ.2.2.2.2.2.2.2.2.1] Γ.2.2.2.2.2.1 Γ.2.2.2.2.2.2.1 Γ.2.2.2.2.2.2.2.1 H locs cells slots mc ms (F0 Γ.2.2.2.2.1 pc ls sv) (st.map (vl ad)) (QM σ Γ.2.2.2.2.2.2.2.2.2.1 Γ.2.2.2.2.2.2.2.2.2.2.1 Γ.2.2.2.1.heap.size ad h.2.2 (fun r h2 => LV σ Γ (bc - mc) (bs - ms) (pc + 3) lv (r.toList ++ st) h2) av) (fun q => Γ.2.2.2.1.heap.size ≤ q)) :
    W Γ.1 Γ.2.1 Γ.2.2.1 room_1 Γ.2.2.2.1 Γ.2.2.2.2.1 #[Value.ref Γ.2.2.2.2.2.2.2.2.1] Γ.2.2.2.2.2.1 Γ.2.2.2.2.2.2.1 Γ.2.2.2.2.2.2.2.1 H locs cells slots (lw_Z Γ.2.2.2.2.2.1 #[Value.ref Γ.2.2.2.2.2.2.2.2.1] Γ.2.2.2.1) (F0 Γ.2.2.2.2.1 pc ls sv) := by
  intro T hT X
  obtain ⟨v, st₀, t, T', L, h0, X', hL, e1, e2, ⟨r, h2, ad2, z1, z2, z3, z4, z5, z6⟩, go⟩ := hr T hT X
  have hv : v = r.map (vl ad2) := by cases z1; rfl
  obtain ⟨hz, hk⟩ := z6
  rw [h0] at hz hk
  obtain ⟨b1, b2, b3, b4, b5, b6, b7, b8, b9, b10, b11⟩ := b
  have ha : ∀ q, okL h.2.2 q → ad2 q = ad q := fun q hq => (z5 q hq).1
  have up : ∀ {v : AV}, okV h v → okV h2 v := fun hv q e => (z5 q (hv q e)).2
  have est : (r.toList ++ st).map (vl ad2) = v.toList ++ st.map (vl ad) := by
    rw [List.map_append, vls_cg ha ho, hv]
    cases r <;> rfl
  have b' : Bd σ (mL Γ.2.2.2.2.2.2.1.name) 101 (bc - mc) (bs - ms) lv (r.toList ++ st) h2 Γ.1 room_1 Γ.2.2.2.1 Γ.2.2.2.2.1 #[Value.ref Γ.2.2.2.2.2.2.2.2.1] Γ.2.2.2.2.2.2.1 Γ.2.2.2.2.2.2.2.1 Γ.2.2.2.2.2.2.2.2.2.1 Γ.2.2.2.2.2.2.2.2.2.2.1 Γ.2.2.2.1.heap.size ad2 Γ.2.2.2.2.2.2.2.2.2.2.2 [] T'.heap (locs ++ L) (cells + mc) (slots + ms) ls := by
    refine ⟨b1, b2, ?_, b4, ⟨by omega, by omega⟩, by rw [e1]; exact z3, ?_, by rw [lvm_cg ha b9]; exact b8, fun q hq => up (b9 q hq), ?_, fun q hq => ?_⟩
    · exact Ex.kept b3 (fun _ _ _ => rfl) (fun q hq => ha q (Or.inr hq))
    · refine ⟨Nat.le_trans b7.1 (by rw [e1]; exact hz), fun q h1 h2 => by rw [e1, hk q (Nat.lt_of_lt_of_le h1 b7.1) h2]; exact b7.2.1 q h1 h2, fun q hq => ?_⟩
      rcases List.mem_append.mp hq with h | h
      · exact b7.2.2 q h
      · exact hL q h
    · intro w hw
      rcases List.mem_append.mp hw with h | h
      · cases r with
        | none => cases h
        | some x =>
          have : w = x := by simpa using h
          rw [this]
          exact z4 x rfl
      · exact up (ho w h)
    · obtain ⟨y1, y2⟩ := b11 q hq
      exact ⟨(z5 q y2).1.trans y1, (z5 q y2).2⟩
  have K := z2 ad2 T'.heap (locs ++ L) (cells + mc) (slots + ms) ls b'
  rw [est] at K
  obtain ⟨t2, a1, a2⟩ := K T' rfl X'
  exact ⟨t2, go t2 a1, a2⟩
theorem L_callI {M2 : MT} {n idx mc ms ca ia : Nat} {as : List AV} (hd : decode cL_law pc = .ok (.invokespecial idx, 3)) (ho : Mok M2 n) (hr : M2.2.2.2 = none) (hy : M2.1.name = "<init>") (hs : Cond.instanceMethod M2.1 ∈ gw) (hl : Cond.methodLink RL idx M2.1 ∈ gw) (hn : as.length = n) (hw : (st.map ct).sum ≤ 8) (hm : mc ≤ bc) (hms : ms ≤ bs)
    (k : Cl σ M2 100 mc ms (aR ca ia :: as) h (fun r h2 => LV σ Γ (bc - mc) (bs - ms) (pc + 3) lv (r.toList ++ st) h2)) : LV σ Γ bc bs pc lv (as.reverse ++ aR ca ia :: st) h := by
  intro ad H locs cells slots ls b
  have hst : ∀ v ∈ st, okV h v := fun v hv => b.so v (List.mem_append_right _ (List.mem_cons_of_mem _ hv))
  have has : ∀ v ∈ aR ca ia :: as, okV h v := okc (b.so _ (List.mem_append_right _ List.mem_cons_self)) (fun v hv => b.so v (List.mem_append_left _ (List.mem_reverse.mpr hv)))
  obtain ⟨o1, o2, o3, o4⟩ := ho
  obtain ⟨f1, f2⟩ := b.2.2.2.1
  obtain ⟨g1, g2⟩ := b.2.2.2.2.1
  obtain ⟨y2, c2, n2, r2⟩ := M2
  dsimp only at hr
  subst hr
  refine L_back hm hms b hst (va_runI (b := ad (ca, ia)) (As := as.map (vl ad)) (rest := st.map (vl ad)) (Ts := gw) ⟨b.x, b.b, b.1.2.2.1, b.own, b.ts⟩ (k _ _ _ _ ad) ⟨callB_of n b.ts (gwIn o1) rfl rfl rfl (b.ts _ o2) (b.ts _ hl) o3 ⟨f1, by show 8 + (n2 + 11) + 64 * 100 ≤ room_1.locals; dsimp only at o4; omega⟩, hy, b.ts _ hs⟩ ⟨blind, pre_at b has⟩ rfl (by rw [List.length_map]; exact hn) b.lh.1 (by rw [stk_split]; rfl) (lv_room (ct_room hw)) hd ⟨by omega, by omega⟩)
theorem L_callV {M2 : MT} {n idx mc ms ca ia ci N : Nat} {T : u_T} {as : List AV} (hc65 : ca < 65) (hty : rty ca ia = .inl ci) (hcl : vwCl[ci]? = some (M2.1.cls, T, N)) (hd : decode cL_law pc = .ok (.invokevirtual idx, 3)) (ho : Mok M2 n) (hs : Cond.instanceMethod M2.1 ∈ gw) (hse : Cond.selects M2.1.cls M2.1 M2.1 ∈ gw) (hl : Cond.methodLink RL idx M2.1 ∈ gw) (hn : as.length = n) (hw : (st.map ct).sum ≤ 8) (hm : mc ≤ bc) (hms : ms ≤ bs)
    (k : Cl σ M2 100 mc ms (aR ca ia :: as) h (fun r h2 => LV σ Γ (bc - mc) (bs - ms) (pc + 3) lv (r.toList ++ st) h2)) : LV σ Γ bc bs pc lv (as.reverse ++ aR ca ia :: st) h := by
  intro ad H locs cells slots ls b
  have hst : ∀ v ∈ st, okV h v := fun v hv => b.so v (List.mem_append_right _ (List.mem_cons_of_mem _ hv))
  have has : ∀ v ∈ aR ca ia :: as, okV h v := okc (b.so _ (List.mem_append_right _ List.mem_cons_self)) (fun v hv => b.so v (List.mem_append_left _ (List.mem_reverse.mpr hv)))
  obtain ⟨o1, o2, o3, o4⟩ := ho
  obtain ⟨f1, f2⟩ := b.2.2.2.1
  obtain ⟨g1, g2⟩ := b.2.2.2.2.1
  obtain ⟨j, -, hj⟩ := ws_at (σ := σ) (cA := Γ.2.2.2.2.2.2.2.2.2.2.1) (ad := ad) (inL hc65 (okh has))
  rw [toE_o hty] at hj
  refine L_back hm hms b hst (va_runV (b := ad (ca, ia)) (C := M2.1.cls) (As := as.map (vl ad)) (rest := st.map (vl ad)) (Ts := gw) ⟨b.x, b.b, b.1.2.2.1, b.own, b.ts⟩ (k _ _ _ _ ad) ⟨callB_of n b.ts (gwIn o1) rfl rfl rfl (b.ts _ o2) (b.ts _ hl) o3 ⟨f1, by show 8 + (M2.2.2.1 + 11) + 64 * 100 ≤ room_1.locals; omega⟩, b.ts _ hs, b.ts _ hse⟩ ⟨blind, va_recv b.K b.rep.1 hcl hj, pre_at b has⟩ rfl (by rw [List.length_map]; exact hn) b.lh.1 (by rw [stk_split]; rfl) (lv_room (ct_room hw)) hd ⟨by omega, by omega⟩)
set_option maxRecDepth 100000 in
theorem L_new {c i ci idx N : Nat} {C : String} {T : u_T} (hc65 : c < 65) (hr : rty c i = .inl ci) (hcl : vwCl[ci]? = some (C, T, N)) (hst : σ = false ∨ ∀ k, fR c i k = none) (hd : decode cL_law pc = .ok (.new idx, 3)) (hw : Cond.classLink RL idx C ∈ gw) (hin : Cond.instantiable C N ∈ gw) (hini : Cond.initialized C ∈ gw) (hb : 1 ≤ bc) (hs : N ≤ bs) (hf : (c, i) ∉ h.2.2)
    (kk : LV σ Γ (bc - 1) (bs - N) (pc + 3) lv (aR c i :: st) (nw h c i)) : LV σ Γ bc bs pc lv st h := by
  intro ad H locs cells slots ls b
  obtain ⟨eN, hws, hty, hnm⟩ := cls_ok hcl
  have hA : ∀ q : Nat, Γ.2.2.2.1.heap.size ≤ q → Γ.2.2.2.1.heap.size ≤ q := fun q hq => hq
  obtain ⟨g1, g2⟩ := b.2.2.2.2.1
  have hfs : ∀ j, j < N → defaultValue (fty ci j) = vp_V ((List.range (nF ci)).map (fv σ ad (nw h c i) c i ci)) j := by
    intro j hj
    unfold vp_V
    rw [List.getD_eq_getElem?_getD, ← eN, fs_get hj]
    show _ = fv σ ad (nw h c i) c i ci j
    unfold fv
    rw [gS_nwe (hst.imp id (fun y => y j))]
    rcases cls_int hcl j hj with z | z
    · rw [z]
      cases hq : fty ci j <;> rw [hq] at z <;> first | rfl | (cases z)
    · have e0 : gI (nw h c i) c i j = 0 := by rw [gI_nw, if_pos ⟨rfl, rfl⟩]
      rw [z, e0]
      rfl
  refine va_new (ci := ci) (C := C) (T := T) (N := N) (fs := (List.range (nF ci)).map (fv σ ad (nw h c i) c i ci)) b.x b.b b.ts hws (fty ci) hty b.own (b.ts _ hw) (b.ts _ hin) (b.ts _ hini) b.K b.rep.1 b.rep.2.1 b.S hA hcl hfs (by omega) (by omega) hd (fun a H1 hP hD hS => ?_)
  have ee : (.inr (ci, (List.range (nF ci)).map (fv σ ad (nw h c i) c i ci)) : va_E) = toE σ Γ.2.2.2.2.2.2.2.2.2.2.1 (adn ad c i a) (nw h c i) (c, i) := by
    rw [toE_o hr]
    congr 3
    funext k
    unfold fv
    rw [gS_nwe (hst.imp id (fun y => y k))]
    rfl
  rw [ee] at hP hD
  have b2 := b.nwc (n := N) hc65 hf hst hb hs hP hD hS
  have K := kk (adn ad c i a) H1 locs (cells + 1) (slots + N) ls b2
  have est : (aR c i :: st).map (vl (adn ad c i a)) = .ref a :: st.map (vl ad) := by
    rw [List.map_cons, vls_cg (h := h) (fun q hq => adn_n (fun z => ?_)) b.so]
    · congr 1
      show va_rf (some (adn ad c i a (c, i))) = _
      rw [adn_e]
      rfl
    · rcases hq with y | y
      · exact hf (z ▸ y)
      · rw [z] at y; exact absurd y (by show ¬ 65 ≤ c; omega)
  rw [est] at K
  exact K
end LR
/-- the fixed references, once they are set -/
theorem Rep_tf {D : va_G} {cA : FieldType → ClassId} {ad : PT → Nat} {B : Nat} {h : HS} {H : Heap} (hs : ∀ q ∈ h.2.2, ∀ k r, fR q.1 q.2 k = some r → gR h q.1 q.2 k = some r) (a : Rep false D cA ad B h H) : Rep true D cA ad B h H := by
  have e : ∀ q ∈ h.2.2, ∀ k, gS true h q.1 q.2 k = gS false h q.1 q.2 k := fun q hq k => by
    show (match fR q.1 q.2 k with
      | some q => some q
      | none => gR h q.1 q.2 k) = gR h q.1 q.2 k
    cases z : fR q.1 q.2 k with
    | none => rfl
    | some r => exact (hs q hq k r z).symm
  have e2 : wsO true cA ad h = wsO false cA ad h := by
    unfold wsO
    refine List.map_congr_left (fun q hq => ?_)
    have e3 : ∀ k, gS true h q.1 q.2 k = gS false h q.1 q.2 k := e q hq
    have e4 : ∀ ci, fv true ad h q.1 q.2 ci = fv false ad h q.1 q.2 ci := fun ci => by funext k; unfold fv; rw [e3]
    unfold toE
    simp only [e3, e4]
  refine ⟨by rw [e2]; exact a.1, by rw [e2]; exact a.2.1, fun q hq k r hr => ?_⟩
  rw [e q hq k] at hr
  exact a.2.2 q hq k r hr
theorem LV_tf {Γ : LC} {bc bs pc : Nat} {lv : List (Nat × AV)} {st : List AV} {h : HS} (hs : ∀ q ∈ h.2.2, ∀ k r, fR q.1 q.2 k = some r → gR h q.1 q.2 k = some r) (k : LV true Γ bc bs pc lv st h) : LV false Γ bc bs pc lv st h := by
  intro ad H locs cells slots ls b
  obtain ⟨b1, b2, b3, b4, b5, b6, b7⟩ := b
  exact k ad H locs cells slots ls ⟨b1, b2, b3, b4, b5, Rep_tf hs b6, b7⟩
theorem LV_bud {σ : Bool} {Γ : LC} {bc bs bc2 bs2 pc : Nat} {lv : List (Nat × AV)} {st : List AV} {h : HS} (h1 : bc2 ≤ bc) (h2 : bs2 ≤ bs) (k : LV σ Γ bc2 bs2 pc lv st h) : LV σ Γ bc bs pc lv st h := by
  intro ad H locs cells slots ls b
  obtain ⟨b1, b2, b3, b4, b5, b6⟩ := b
  exact k ad H locs cells slots ls ⟨b1, b2, b3, b4, ⟨by omega, by omega⟩, b6⟩

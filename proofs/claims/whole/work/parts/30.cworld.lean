/-! CONSTRUCTORS: a world wp ++ l, of which l is known and grows at its end -/
def tyC (C : Nat → ClassId) : List (ClassId × FieldType) := [(C 0, .int), (C 1, .byte), (C 2, .boolean), (C 3, .object "LowHeads$Scene")]
def cN2 : List (String × Nat × MethodName) := [(RX7, 11, yX3_init), (RX7, 40, yX5_init), (RX7, 63, yX0_init), (RX5, 11, yX3_init)]
def cNN (U : State) : Prop := (∀ q ∈ cN2, va_Nw (.methodLinkNest q.1 q.2.1 q.2.2 RX7) U) ∧ va_AO "LowHeads$Scene" U
def rmc (k mc ms : Nat) : Room := { frames := k, cells := mc, slots := ms, locals := 40 * k }
def Wc (D : va_G) (C : Nat → ClassId) (h0 : Nat) (wp l : va_W) (U : State) : Prop := va_P D classes (wp ++ l) U.heap ∧ va_D (fun q => h0 ≤ q) (wp ++ l) ∧ va_K D classes (tyC C) U ∧ h0 ≤ U.heap.size ∧ cNN U
def Qg (D : va_G) (h0 : Nat) (wp : va_W) (post : va_W → Prop) : Array Value → State → Outcome → State → Prop := fun _ s o t => (o = .returned none ∧ ∃ l1, post l1 ∧ va_P D classes (wp ++ l1) t.heap ∧ va_D (fun q => h0 ≤ q) (wp ++ l1)) ∧ va_F (fun q => h0 ≤ q) s t
def Cc (l : Launch) (D : va_G) (C : Nat → ClassId) (h0 k : Nat) (y : MethodName) (cd : Cond) (as : List Value) (wp l0 : va_W) (post : va_W → Prop) (mc ms : Nat) : Prop := Met l y (cd :: gtbl) (rmc k mc ms) (va_Pc as (Wc D C h0 wp l0)) (Qg D h0 wp post) mc ms (fun q => h0 ≤ q)
def HyC (D : va_G) (C : Nat → ClassId) (h0 : Nat) (p : Program) (s : State) (m : MethodId) (args : Array Value) (meth : Method) (c : Code) (cc : ByteArray) (nL : Nat) (own : String) : Prop :=
  p.tables.exec = Jvm.exec ∧ c.code = cc ∧ c.maxLocals = nL ∧ s.vm.findClass own = some m.cls ∧ (∀ w ∈ gtbl, w.before args s = true) ∧ va_K D classes (tyC C) s ∧ h0 ≤ s.heap.size ∧ cNN s ∧ meth.locks = false
def Y (D : va_G) (h0 : Nat) (wp : va_W) (p : Program) (l : Launch) (e : Env) (R : Room) (s : State) (m : MethodId) (args : Array Value) (below : List Frame) (meth : Method) (c : Code) (nL : Nat) (Q : State → Prop) (pc : Nat) (lv : List (Nat × Value)) (stk : List Value) (w : va_W) (kc ks : Nat) : Prop :=
  ∀ (H : Heap) (locs : List Loc) (ls : Array Slot), va_P D classes (wp ++ w) H → va_D (fun q => h0 ≤ q) (wp ++ w) → va_S (fun q => h0 ≤ q) s.heap H locs → lv_has ls nL lv → W p l e R s m args below meth c H locs kc ks Q (F0 m pc ls stk)
theorem cNN_same {s U : State} (hv : U.vm = s.vm) (h : cNN s) : cNN U := ⟨fun q hq => va_Nw.same rfl hv.symm (h.1 q hq), va_AO.moved (u := s) (by rw [hv]; exact Vm.Alike.refl _) h.2⟩
theorem cNN_warm {s U : State} (hW : s.WarmedH U.vm) (h : cNN s) : cNN U := ⟨fun q hq => va_Nw.warmM hW (h.1 q hq), va_AO.moved hW.alike h.2⟩
theorem Wc_blind {D : va_G} {C : Nat → ClassId} {h0 : Nat} {wp l : va_W} (as : List Value) : FrameBlind (va_Pc as (Wc D C h0 wp l)) := by
  intro a U g mk h
  obtain ⟨h1, h2, h3, h4, h5, h6⟩ := h
  exact ⟨h1, h2, h3, va_K.moved (u := U) (U := U.calling g mk a) (Vm.Alike.refl U.vm) h4, h5, cNN_same (s := U) (U := U.calling g mk a) rfl h6⟩
theorem Cc.of {l : Launch} {D : va_G} {C : Nat → ClassId} {h0 k : Nat} {y : MethodName} {cc : ByteArray} {maxL : Nat} {as : List Value} {wp l0 : va_W} {post : va_W → Prop} {mc ms : Nat} (hy : plainName y.cls = true) (hl : (lg_sl as).length ≤ maxL)
    (body : ∀ (p : Program) (e : Env) (s : State) (m : MethodId) (args : Array Value) (below : List Frame) (meth : Method) (c : Code), HyC D C h0 p s m args meth c cc maxL y.cls → meth.sig.returnType = none → meth.name = y.name → Y D h0 wp p l e (rmc k mc ms) s m args below meth c maxL (MQ below (Qg D h0 wp post) args s mc ms (fun q => h0 ≤ q)) 0 (lv_args 0 as) [] l0 0 0) :
    Cc l D C h0 k y (.code y cc maxL none) as wp l0 post mc ms := by
  refine Met.ofW (cc := cc) (maxL := maxL) (ret := none) hy rfl ?_
  intro p e s m args below meth c s₁ B hml hv
  obtain ⟨rfl, hP, hD, hK, hh, hN⟩ := hv
  have hts := atoms_spec (ws := .code y cc maxL none :: gtbl) B.pre
  have hown : s.vm.findClass y.cls = some m.cls := findClass_of_methodNamed B.named
  rw [lg_entry_eq]
  exact body p e s m _ below meth c ⟨B.exec, B.bytes, hml, hown, fun w hw => hts w (List.mem_cons_of_mem _ hw), hK, hh, hN, B.notSynchronized⟩ B.returns (name_of_methodNamed B.named B.method).1 s.heap [] _ hP hD va_S.rf (lv_entry as hl)
theorem app_at {wp w : va_W} {k : Nat} {x : Nat × va_E} (h : w[k]? = some x) : (wp ++ w)[wp.length + k]? = some x := by
  rw [List.getElem?_append_right (Nat.le_add_right _ _), Nat.add_sub_cancel_left]
  exact h
theorem app_set {wp w : va_W} {k : Nat} {x : Nat × va_E} : (wp ++ w).set (wp.length + k) x = wp ++ w.set k x := by
  rw [List.set_append_right _ _ (Nat.le_add_right _ _), Nat.add_sub_cancel_left]
section Y
variable {D : va_G} {C : Nat → ClassId} {h0 : Nat} {wp : va_W} {p : Program} {l : Launch} {e : Env} {R : Room} {s : State} {m : MethodId} {args : Array Value} {below : List Frame} {meth : Method} {c : Code} {cc : ByteArray} {nL : Nat} {own : String} {Q : State → Prop} {pc : Nat} {lv : List (Nat × Value)} {rest : List Value} {w : va_W} {kc ks : Nat}
theorem y_iconst (hh : HyC D C h0 p s m args meth c cc nL own) {n : Int} (hd : decode cc pc = .ok (.iconst n, 1)) (v : Int32) (hv : Int32.ofInt n = v) (pc' : Nat) (hp : pc + 1 = pc') (k : Y D h0 wp p l e R s m args below meth c nL Q pc' lv (.int v :: rest) w kc ks) : Y D h0 wp p l e R s m args below meth c nL Q pc lv (rest) w kc ks := by
  subst hp
  exact fun H locs ls hP hD hS hl => lv_iconst hh.1 hh.2.1 hd hv (k H locs ls hP hD hS hl)
theorem y_bipush (hh : HyC D C h0 p s m args meth c cc nL own) {n : Int} (hd : decode cc pc = .ok (.bipush n, 2)) (v : Int32) (hv : (Int8.ofInt n).toInt32 = v) (pc' : Nat) (hp : pc + 2 = pc') (k : Y D h0 wp p l e R s m args below meth c nL Q pc' lv (.int v :: rest) w kc ks) : Y D h0 wp p l e R s m args below meth c nL Q pc lv (rest) w kc ks := by
  subst hp
  exact fun H locs ls hP hD hS hl => lv_bipush hh.1 hh.2.1 hd hv (k H locs ls hP hD hS hl)
theorem y_sipush (hh : HyC D C h0 p s m args meth c cc nL own) {n : Int} (hd : decode cc pc = .ok (.sipush n, 3)) (v : Int32) (hv : (Int16.ofInt n).toInt32 = v) (pc' : Nat) (hp : pc + 3 = pc') (k : Y D h0 wp p l e R s m args below meth c nL Q pc' lv (.int v :: rest) w kc ks) : Y D h0 wp p l e R s m args below meth c nL Q pc lv (rest) w kc ks := by
  subst hp
  exact fun H locs ls hP hD hS hl => lv_sipush hh.1 hh.2.1 hd hv (k H locs ls hP hD hS hl)
theorem y_iload_n (hh : HyC D C h0 p s m args meth c cc nL own) {n : Fin 4} {i : Nat} {x : Int32} (hd : decode cc pc = .ok (.iload_n n, 1)) (hi : (n : Nat) = i) (j : Nat) (hj : lv[j]? = some (i, .int x)) (pc' : Nat) (hp : pc + 1 = pc') (k : Y D h0 wp p l e R s m args below meth c nL Q pc' lv (.int x :: rest) w kc ks) : Y D h0 wp p l e R s m args below meth c nL Q pc lv (rest) w kc ks := by
  subst hp
  exact fun H locs ls hP hD hS hl => lv_iload_n hh.1 hh.2.1 hd hi (lv_at hl j hj) (k H locs ls hP hD hS hl)
theorem y_istore_n (hh : HyC D C h0 p s m args meth c cc nL own) {n : Fin 4} {i : Nat} {x : Int32} (hd : decode cc pc = .ok (.istore_n n, 1)) (hi : (n : Nat) = i) (hn : i < nL) (lv' : List (Nat × Value)) (hl : (i, Value.int x) :: lv.filter (fun q => !(q.1 == i) && !(q.1 + 1 == i && q.2.category == 2)) = lv') (pc' : Nat) (hp : pc + 1 = pc') (k : Y D h0 wp p l e R s m args below meth c nL Q pc' lv' rest w kc ks) : Y D h0 wp p l e R s m args below meth c nL Q pc lv (.int x :: rest) w kc ks := by
  subst hp
  exact fun H locs ls hP hD hS hl0 => lv_istore_n hh.1 hh.2.1 hd hi hl0 hn hl (fun ls' hl' => k H locs ls' hP hD hS hl')
theorem y_aload_n (hh : HyC D C h0 p s m args meth c cc nL own) {n : Fin 4} {i : Nat} {x : Nat} (hd : decode cc pc = .ok (.aload_n n, 1)) (hi : (n : Nat) = i) (j : Nat) (hj : lv[j]? = some (i, .ref x)) (pc' : Nat) (hp : pc + 1 = pc') (k : Y D h0 wp p l e R s m args below meth c nL Q pc' lv (.ref x :: rest) w kc ks) : Y D h0 wp p l e R s m args below meth c nL Q pc lv (rest) w kc ks := by
  subst hp
  exact fun H locs ls hP hD hS hl => lv_aload_n hh.1 hh.2.1 hd hi (lv_at hl j hj) (k H locs ls hP hD hS hl)
theorem y_astore_n (hh : HyC D C h0 p s m args meth c cc nL own) {n : Fin 4} {i : Nat} {x : Nat} (hd : decode cc pc = .ok (.astore_n n, 1)) (hi : (n : Nat) = i) (hn : i < nL) (lv' : List (Nat × Value)) (hl : (i, Value.ref x) :: lv.filter (fun q => !(q.1 == i) && !(q.1 + 1 == i && q.2.category == 2)) = lv') (pc' : Nat) (hp : pc + 1 = pc') (k : Y D h0 wp p l e R s m args below meth c nL Q pc' lv' rest w kc ks) : Y D h0 wp p l e R s m args below meth c nL Q pc lv (.ref x :: rest) w kc ks := by
  subst hp
  exact fun H locs ls hP hD hS hl0 => lv_astore_n hh.1 hh.2.1 hd hi hl0 hn hl (fun ls' hl' => k H locs ls' hP hD hS hl')
theorem y_dup (hh : HyC D C h0 p s m args meth c cc nL own) {va : Value} (hd : decode cc pc = .ok (.dup, 1)) (hc : va.category = 1) (pc' : Nat) (hp : pc + 1 = pc') (k : Y D h0 wp p l e R s m args below meth c nL Q pc' lv (va :: va :: rest) w kc ks) : Y D h0 wp p l e R s m args below meth c nL Q pc lv (va :: rest) w kc ks := by
  subst hp
  exact fun H locs ls hP hD hS hl => lv_dup hh.1 hh.2.1 hd hc (k H locs ls hP hD hS hl)
theorem y_iinc (hh : HyC D C h0 p s m args meth c cc nL own) {i : Nat} {n : Int} {x : Int32} (hd : decode cc pc = .ok (.iinc i n, 3)) (j : Nat) (hj : lv[j]? = some (i, .int x)) (v : Int32) (hv : x + Int32.ofInt n = v) (hn : i < nL) (lv' : List (Nat × Value)) (hl : (i, Value.int v) :: lv.filter (fun q => !(q.1 == i) && !(q.1 + 1 == i && q.2.category == 2)) = lv') (pc' : Nat) (hp : pc + 3 = pc') (k : Y D h0 wp p l e R s m args below meth c nL Q pc' lv' rest w kc ks) : Y D h0 wp p l e R s m args below meth c nL Q pc lv rest w kc ks := by
  subst hp
  exact fun H locs ls hP hD hS hl0 => lv_iinc hh.1 hh.2.1 hd hl0 hj hv hn hl (fun ls' hl' => k H locs ls' hP hD hS hl')
theorem y_geT (hh : HyC D C h0 p s m args meth c cc nL own) {x y : Int32} {off : Int} (hd : decode cc pc = .ok (.if_icmp .ge off, 3)) (tgt : Nat) (ht : (pc : Int) + off = (tgt : Int)) (hc : y ≤ x) (k : Y D h0 wp p l e R s m args below meth c nL Q tgt lv rest w kc ks) : Y D h0 wp p l e R s m args below meth c nL Q pc lv (.int y :: .int x :: rest) w kc ks :=
  fun H locs ls hP hD hS hl => lv_icmp_ge hh.1 hh.2.1 hd ht (fun _ => k H locs ls hP hD hS hl) (fun q => absurd hc q)
theorem y_geF (hh : HyC D C h0 p s m args meth c cc nL own) {x y : Int32} {off : Int} (hd : decode cc pc = .ok (.if_icmp .ge off, 3)) (tgt : Nat) (ht : (pc : Int) + off = (tgt : Int)) (hc : ¬ y ≤ x) (pc' : Nat) (hp : pc + 3 = pc') (k : Y D h0 wp p l e R s m args below meth c nL Q pc' lv rest w kc ks) : Y D h0 wp p l e R s m args below meth c nL Q pc lv (.int y :: .int x :: rest) w kc ks := by
  subst hp
  exact fun H locs ls hP hD hS hl => lv_icmp_ge hh.1 hh.2.1 hd ht (fun q => absurd q hc) (fun _ => k H locs ls hP hD hS hl)
theorem y_goto (hh : HyC D C h0 p s m args meth c cc nL own) {off : Int} (hd : decode cc pc = .ok (.goto off, 3)) (tgt : Nat) (ht : (pc : Int) + off = (tgt : Int)) (k : Y D h0 wp p l e R s m args below meth c nL Q tgt lv rest w kc ks) : Y D h0 wp p l e R s m args below meth c nL Q pc lv rest w kc ks := fun H locs ls hP hD hS hl => lv_goto hh.1 hh.2.1 hd ht (k H locs ls hP hD hS hl)
theorem Y.re {lv' : List (Nat × Value)} {w' : va_W} {kc' ks' : Nat} (h1 : lv = lv') (h2 : w = w') (h3 : kc = kc') (h4 : ks = ks') (k : Y D h0 wp p l e R s m args below meth c nL Q pc lv' rest w' kc' ks') : Y D h0 wp p l e R s m args below meth c nL Q pc lv rest w kc ks := by
  subst h1; subst h2; subst h3; subst h4
  exact k
theorem y_objInit (hh : HyC D C h0 p s m args meth c cc nL own) {a idx : Nat} (hd : decode cc pc = .ok (.invokespecial idx, 3)) (hw : Cond.methodLink own idx Lib.objectInit ∈ gtbl) (hi : Cond.instanceMethod Lib.objectInit ∈ gtbl) (hcd : Cond.code Lib.objectInit ⟨#[0xb1]⟩ 1 none ∈ gtbl) (hR : 1 ≤ R.frames ∧ 2 + (rest.map fun v => v.category).sum + 12 ≤ R.locals) (pc' : Nat) (hp : pc + 3 = pc') (k : Y D h0 wp p l e R s m args below meth c nL Q pc' lv rest w kc ks) : Y D h0 wp p l e R s m args below meth c nL Q pc lv (.ref a :: rest) w kc ks := by
  subst hp
  intro H locs ls hP hD hS hl
  exact W.objInit hh.1 hh.2.1 hh.2.2.2.1 (hh.2.2.2.2.1 _ hw) (hh.2.2.2.2.1 _ hi) (hh.2.2.2.2.1 _ hcd) rfl (by rw [hh.2.2.1]; exact hl.1) rfl hd hR.1 (by
    have h9 : 2 * (F0 m pc ls (.ref a :: rest)).monitorRoom ≤ 2 := by first | exact Nat.le_of_ble_eq_true rfl | simp [JFrame.monitorRoom]
    omega) (k H locs ls hP hD hS hl)
theorem y_new (hh : HyC D C h0 p s m args meth c cc nL own) {ci N idx : Nat} {K : String} {T : u_T} {ty : Nat → FieldType} (hc : Cl ci K T N ty) (hd : decode cc pc = .ok (.new idx, 3)) (hw : Cond.classLink own idx K ∈ gtbl) (hi : Cond.instantiable K N ∈ gtbl) (hn : Cond.initialized K ∈ gtbl) (fs : List Value) (hfs : ∀ j, j < N → defaultValue (ty j) = vp_V fs j) (hR : kc + 1 ≤ R.cells ∧ ks + N ≤ R.slots) (pc' : Nat) (hp : pc + 3 = pc') (k : ∀ q : Nat, Y D h0 wp p l e R s m args below meth c nL Q pc' lv (.ref q :: rest) (w ++ [(q, .inr (ci, fs))]) (kc + 1) (ks + N)) : Y D h0 wp p l e R s m args below meth c nL Q pc lv rest w kc ks := by
  subst hp
  intro H locs ls hP hD hS hl
  have hts := hh.2.2.2.2.1
  refine va_new hh.1 hh.2.1 hts hc.2.1 ty hc.2.2.1 hh.2.2.2.1 (hts _ hw) (hts _ hi) (hts _ hn) hh.2.2.2.2.2.1 hP hD hS (fun q h => Nat.le_trans hh.2.2.2.2.2.2.1 h) hc.1 hfs hR.1 hR.2 hd (fun q H1 hP1 hD1 hS1 => ?_)
  rw [List.append_assoc] at hP1 hD1
  exact k q H1 locs ls hP1 hD1 hS1 hl
theorem y_newa_int (hh : HyC D C h0 p s m args meth c cc nL own) {n : Int32} (hd : decode cc pc = .ok (.newarray .int, 2)) (hw : Cond.arrayClass .int ∈ gtbl) (N : Nat) (hn : ¬ n < 0) (hN : n.toNatClampNeg = N) (hb : N ≤ 1000) (hR : kc + 1 ≤ R.cells ∧ ks + N ≤ R.slots) (pc' : Nat) (hp : pc + 2 = pc') (k : ∀ q : Nat, Y D h0 wp p l e R s m args below meth c nL Q pc' lv (.ref q :: rest) (w ++ [(q, .inl (C 0, N, .inl (fun _ => 0)))]) (kc + 1) (ks + N)) : Y D h0 wp p l e R s m args below meth c nL Q pc lv (.int n :: rest) w kc ks := by
  subst hp
  intro H locs ls hP hD hS hl
  refine va_newa (atype := .int) (a0 := (N, .inl (fun _ => 0))) (ty := .int) hh.1 hh.2.1 (hh.2.2.2.2.1 _ hw) rfl hh.2.2.2.2.2.1 hP hD hS (fun q h => Nat.le_trans hh.2.2.2.2.2.2.1 h) (fun _ => rfl) hn hN (Nat.le_trans (Nat.mul_le_mul_right _ hb) (by decide)) hR.1 hR.2 hd (fun q cA H1 hK1 hP1 hD1 hS1 => ?_)
  have e1 : cA = C 0 := by
    have a := (hK1.2 4 (cA, .int) rfl).2
    have b := (hK1.2 0 (C 0, .int) rfl).2
    exact Option.some.inj (a.symm.trans b)
  subst e1
  rw [List.append_assoc] at hP1 hD1
  exact k q H1 locs ls hP1 hD1 hS1 hl
theorem y_newa_byte (hh : HyC D C h0 p s m args meth c cc nL own) {n : Int32} (hd : decode cc pc = .ok (.newarray .byte, 2)) (hw : Cond.arrayClass .byte ∈ gtbl) (N : Nat) (hn : ¬ n < 0) (hN : n.toNatClampNeg = N) (hb : N ≤ 1000) (hR : kc + 1 ≤ R.cells ∧ ks + N ≤ R.slots) (pc' : Nat) (hp : pc + 2 = pc') (k : ∀ q : Nat, Y D h0 wp p l e R s m args below meth c nL Q pc' lv (.ref q :: rest) (w ++ [(q, .inl (C 1, N, .inl (fun _ => 0)))]) (kc + 1) (ks + N)) : Y D h0 wp p l e R s m args below meth c nL Q pc lv (.int n :: rest) w kc ks := by
  subst hp
  intro H locs ls hP hD hS hl
  refine va_newa (atype := .byte) (a0 := (N, .inl (fun _ => 0))) (ty := .byte) hh.1 hh.2.1 (hh.2.2.2.2.1 _ hw) rfl hh.2.2.2.2.2.1 hP hD hS (fun q h => Nat.le_trans hh.2.2.2.2.2.2.1 h) (fun _ => rfl) hn hN (Nat.le_trans (Nat.mul_le_mul_right _ hb) (by decide)) hR.1 hR.2 hd (fun q cA H1 hK1 hP1 hD1 hS1 => ?_)
  have e1 : cA = C 1 := by
    have a := (hK1.2 4 (cA, .byte) rfl).2
    have b := (hK1.2 1 (C 1, .byte) rfl).2
    exact Option.some.inj (a.symm.trans b)
  subst e1
  rw [List.append_assoc] at hP1 hD1
  exact k q H1 locs ls hP1 hD1 hS1 hl
theorem y_newa_bool (hh : HyC D C h0 p s m args meth c cc nL own) {n : Int32} (hd : decode cc pc = .ok (.newarray .boolean, 2)) (hw : Cond.arrayClass .boolean ∈ gtbl) (N : Nat) (hn : ¬ n < 0) (hN : n.toNatClampNeg = N) (hb : N ≤ 1000) (hR : kc + 1 ≤ R.cells ∧ ks + N ≤ R.slots) (pc' : Nat) (hp : pc + 2 = pc') (k : ∀ q : Nat, Y D h0 wp p l e R s m args below meth c nL Q pc' lv (.ref q :: rest) (w ++ [(q, .inl (C 2, N, .inl (fun _ => 0)))]) (kc + 1) (ks + N)) : Y D h0 wp p l e R s m args below meth c nL Q pc lv (.int n :: rest) w kc ks := by
  subst hp
  intro H locs ls hP hD hS hl
  refine va_newa (atype := .boolean) (a0 := (N, .inl (fun _ => 0))) (ty := .boolean) hh.1 hh.2.1 (hh.2.2.2.2.1 _ hw) rfl hh.2.2.2.2.2.1 hP hD hS (fun q h => Nat.le_trans hh.2.2.2.2.2.2.1 h) (fun _ => rfl) hn hN (Nat.le_trans (Nat.mul_le_mul_right _ hb) (by decide)) hR.1 hR.2 hd (fun q cA H1 hK1 hP1 hD1 hS1 => ?_)
  have e1 : cA = C 2 := by
    have a := (hK1.2 4 (cA, .boolean) rfl).2
    have b := (hK1.2 2 (C 2, .boolean) rfl).2
    exact Option.some.inj (a.symm.trans b)
  subst e1
  rw [List.append_assoc] at hP1 hD1
  exact k q H1 locs ls hP1 hD1 hS1 hl
theorem y_newq (hh : HyC D C h0 p s m args meth c cc nL own) {n : Int32} {idx : Nat} (hd : decode cc pc = .ok (.anewarray idx, 3)) (hw : Cond.classLink own idx "LowHeads$Scene" ∈ gtbl) (N : Nat) (hn : ¬ n < 0) (hN : n.toNatClampNeg = N) (hb : N ≤ 1000) (hR : kc + 1 ≤ R.cells ∧ ks + N ≤ R.slots) (pc' : Nat) (hp : pc + 3 = pc') (k : ∀ q : Nat, Y D h0 wp p l e R s m args below meth c nL Q pc' lv (.ref q :: rest) (w ++ [(q, .inl (C 3, N, .inr (.inr (.inr (.inr (fun _ => none))))))]) (kc + 1) (ks + N)) : Y D h0 wp p l e R s m args below meth c nL Q pc lv (.int n :: rest) w kc ks := by
  subst hp
  intro H locs ls hP hD hS hl
  refine va_newq hh.1 hh.2.1 hh.2.2.2.1 (hh.2.2.2.2.1 _ hw) hh.2.2.2.2.2.2.2.1.2 hh.2.2.2.2.2.1 hP hD hS (fun q h => Nat.le_trans hh.2.2.2.2.2.2.1 h) hn hN (Nat.le_trans (Nat.mul_le_mul_right _ hb) (by decide)) hR.1 hR.2 hd (fun q cA H1 hK1 hP1 hD1 hS1 => ?_)
  have e1 : cA = C 3 := by
    obtain ⟨_, _, _, _, _, a⟩ := (hK1.2 4 (cA, .object "LowHeads$Scene") rfl).2
    obtain ⟨_, _, _, _, _, b⟩ := (hK1.2 3 (C 3, .object "LowHeads$Scene") rfl).2
    exact Option.some.inj (a.symm.trans b)
  subst e1
  rw [List.append_assoc] at hP1 hD1
  exact k q H1 locs ls hP1 hD1 hS1 hl
theorem y_get (hh : HyC D C h0 p s m args meth c cc nL own) {a ci N idx : Nat} {K : String} {T : u_T} {ty : Nat → FieldType} {fs : List Value} {v : Value} (hc : Cl ci K T N ty) (hd : decode cc pc = .ok (.getfield idx, 3)) (j : Nat) (hj : w[j]? = some (a, .inr (ci, fs))) (k : Nat) (hv : fs[k]? = some v) (hk : k < N) (hw : Cond.fieldLink own idx (T k).1 (T k).2.1 (T k).2.2.1 ∈ gtbl) (pc' : Nat) (hp : pc + 3 = pc') (kk : Y D h0 wp p l e R s m args below meth c nL Q pc' lv (v :: rest) w kc ks) : Y D h0 wp p l e R s m args below meth c nL Q pc lv (.ref a :: rest) w kc ks := by
  subst hp
  exact fun H locs ls hP hD hS hl => va_get hh.1 hh.2.1 hh.2.2.2.2.1 hc.2.1 hh.2.2.2.1 hh.2.2.2.2.2.1 hP _ (app_at hj) hc.1 k hk (hh.2.2.2.2.1 _ hw) (fun _ h9 => h9) hv hd (kk H locs ls hP hD hS hl)
theorem y_put (hh : HyC D C h0 p s m args meth c cc nL own) {a ci N idx : Nat} {K : String} {T : u_T} {ty : Nat → FieldType} {fs : List Value} {v : Value} (hc : Cl ci K T N ty) (hd : decode cc pc = .ok (.putfield idx, 3)) (j : Nat) (hj : w[j]? = some (a, .inr (ci, fs))) (k : Nat) (hk : k < N) (hw : Cond.fieldLink own idx (T k).1 (T k).2.1 (T k).2.2.1 ∈ gtbl) (hfin : (T k).2.2.2 = false) (hn : narrow (ty k) v = v) (hfit : fits (ty k) v = true) (hl0 : k < fs.length) (pc' : Nat) (hp : pc + 3 = pc') (w' : va_W) (hw' : w.set j (a, .inr (ci, fs.set k v)) = w') (kk : Y D h0 wp p l e R s m args below meth c nL Q pc' lv rest w' kc ks) : Y D h0 wp p l e R s m args below meth c nL Q pc lv (v :: .ref a :: rest) w kc ks := by
  subst hp; subst hw'
  exact fun H locs ls hP hD hS hl => va_put hh.1 hh.2.1 hh.2.2.2.2.1 hc.2.1 ty hc.2.2.1 hc.2.2.2 hh.2.2.2.1 hh.2.2.2.2.2.1 hP hD hS _ (app_at hj) hc.1 k hk (hh.2.2.2.2.1 _ hw) (fun _ h9 => h9) hfin (hc.2.2.1 k hk) hn hfit hl0 hd (fun H1 locs1 hP1 hD1 hS1 => kk H1 locs1 ls (by rw [app_set] at hP1; exact hP1) (by rw [app_set] at hD1; exact hD1) hS1 hl)
theorem y_putF (hh : HyC D C h0 p s m args meth c cc nL own) (hin : meth.name = "<init>") {a ci N idx : Nat} {K : String} {T : u_T} {ty : Nat → FieldType} {fs : List Value} {v : Value} (hc : Cl ci K T N ty) (hd : decode cc pc = .ok (.putfield idx, 3)) (j : Nat) (hj : w[j]? = some (a, .inr (ci, fs))) (k : Nat) (hk : k < N) (hw : Cond.fieldLink own idx (T k).1 (T k).2.1 (T k).2.2.1 ∈ gtbl) (hfin : (T k).2.2.2 = true) (hdecl : (T k).1 = own) (hn : narrow (ty k) v = v) (hfit : fits (ty k) v = true) (hl0 : k < fs.length) (pc' : Nat) (hp : pc + 3 = pc') (w' : va_W) (hw' : w.set j (a, .inr (ci, fs.set k v)) = w') (kk : Y D h0 wp p l e R s m args below meth c nL Q pc' lv rest w' kc ks) : Y D h0 wp p l e R s m args below meth c nL Q pc lv (v :: .ref a :: rest) w kc ks := by
  subst hp; subst hw'
  exact fun H locs ls hP hD hS hl => va_putF hh.1 hh.2.1 hh.2.2.2.2.1 hc.2.1 ty hc.2.2.1 hc.2.2.2 hh.2.2.2.1 hh.2.2.2.2.2.1 hP hD hS _ (app_at hj) hc.1 k hk (hh.2.2.2.2.1 _ hw) (fun _ h9 => h9) hfin hin hdecl (hc.2.2.1 k hk) hn hfit hl0 hd (fun H1 locs1 hP1 hD1 hS1 => kk H1 locs1 ls (by rw [app_set] at hP1; exact hP1) (by rw [app_set] at hD1; exact hD1) hS1 hl)
theorem y_iaload (hh : HyC D C h0 p s m args meth c cc nL own) {a n : Nat} {f : Nat → Int32} {i v : Int32} (hd : decode cc pc = .ok (.iaload, 1)) (j : Nat) (hj : w[j]? = some (a, .inl (C 0, n, .inl f))) (hi : vp_in i n) (hv : f i.toNatClampNeg = v) (pc' : Nat) (hp : pc + 1 = pc') (k : Y D h0 wp p l e R s m args below meth c nL Q pc' lv (.int v :: rest) w kc ks) : Y D h0 wp p l e R s m args below meth c nL Q pc lv (.int i :: .ref a :: rest) w kc ks := by
  subst hp; subst hv
  exact fun H locs ls hP hD hS hl => va_iald hh.1 hh.2.1 hh.2.2.2.2.2.1 hP _ 0 (app_at hj) rfl hi hd (k H locs ls hP hD hS hl)
theorem y_iastore (hh : HyC D C h0 p s m args meth c cc nL own) {a n : Nat} {f : Nat → Int32} {i x : Int32} (hd : decode cc pc = .ok (.iastore, 1)) (j : Nat) (hj : w[j]? = some (a, .inl (C 0, n, .inl f))) (hi : vp_in i n) (pc' : Nat) (hp : pc + 1 = pc') (w' : va_W) (hw' : w.set j (a, .inl (C 0, n, .inl (upd f i.toNatClampNeg x))) = w') (k : Y D h0 wp p l e R s m args below meth c nL Q pc' lv rest w' kc ks) : Y D h0 wp p l e R s m args below meth c nL Q pc lv (.int x :: .int i :: .ref a :: rest) w kc ks := by
  subst hp; subst hw'
  exact fun H locs ls hP hD hS hl => va_iast hh.1 hh.2.1 hh.2.2.2.2.2.1 hP hD hS _ 0 (app_at hj) rfl hi hd (fun H1 locs1 hP1 hD1 hS1 => k H1 locs1 ls (by rw [app_set] at hP1; exact hP1) (by rw [app_set] at hD1; exact hD1) hS1 hl)
theorem y_aastore (hh : HyC D C h0 p s m args meth c cc nL own) {a n v : Nat} {f : Nat → Option Nat} {vs : List Value} {i : Int32} (hd : decode cc pc = .ok (.aastore, 1)) (j jv : Nat) (hj : w[j]? = some (a, .inl (C 3, n, .inr (.inr (.inr (.inr f)))))) (hv : w[jv]? = some (v, .inr (6, vs))) (hi : vp_in i n) (pc' : Nat) (hp : pc + 1 = pc') (w' : va_W) (hw' : w.set j (a, .inl (C 3, n, .inr (.inr (.inr (.inr (va_up f i.toNatClampNeg (some v))))))) = w') (k : Y D h0 wp p l e R s m args below meth c nL Q pc' lv rest w' kc ks) : Y D h0 wp p l e R s m args below meth c nL Q pc lv (.ref v :: .int i :: .ref a :: rest) w kc ks := by
  subst hp; subst hw'
  exact fun H locs ls hP hD hS hl => va_astq (r := (RX6, TX6, 7)) hh.1 hh.2.1 hh.2.2.2.2.2.1 hP hD hS _ 3 _ 6 (app_at hj) rfl (app_at hv) rfl hi hd (fun H1 locs1 hP1 hD1 hS1 => k H1 locs1 ls (by rw [app_set] at hP1; exact hP1) (by rw [app_set] at hD1; exact hD1) hS1 hl)
theorem y_vret (hh : HyC D C h0 p s m args meth c cc nL own) (hr : meth.sig.returnType = none) {post : va_W → Prop} (hd : decode cc pc = .ok (.return_, 1)) (hpost : post w) : Y D h0 wp p l e R s m args below meth c nL (MQ below (Qg D h0 wp post) args s kc ks (fun q => h0 ≤ q)) pc lv [] w kc ks :=
  fun H locs ls hP hD hS hl => W.vret hh.1 hh.2.1 hr (fun t ht hW => ⟨⟨rfl, w, hpost, by rw [ht]; exact hP, hD⟩, hS.F ht⟩) hS.2.2 hd hh.2.2.2.2.2.2.2.2
theorem y_back {H : Heap} {locs : List Loc} {ls : Array Slot} {stk : List Value} {a : Array Value} {wq : va_W} {post : va_W → Prop} {mc ms : Nat} (hr : va_Run p l e R s m args below meth c H locs kc ks mc ms (F0 m pc ls stk) rest (Qg D h0 (wp ++ wq) post a) (fun q => h0 ≤ q)) (hS : va_S (fun q => h0 ≤ q) s.heap H locs) (hl : lv_has ls nL lv) (k : ∀ l1, post l1 → Y D h0 wp p l e R s m args below meth c nL Q (pc + 3) lv rest (wq ++ l1) (kc + mc) (ks + ms)) : W p l e R s m args below meth c H locs kc ks Q (F0 m pc ls stk) := by
  intro T hT X0
  obtain ⟨v1, st₀, t, T', L, h1, X', hL, e1, e2, ⟨⟨hv, l1, hpost, hP1, hD1⟩, hz, hk⟩, go⟩ := hr T hT X0
  cases hv
  rw [h1] at hz hk
  rw [List.append_assoc] at hP1 hD1
  obtain ⟨t2, a1, b1⟩ := k l1 hpost T'.heap (locs ++ L) ls (by rw [e1]; exact hP1) hD1 ⟨Nat.le_trans hS.1 (by rw [e1]; exact hz), fun q h1 h2 => by rw [e1, hk q (Nat.lt_of_lt_of_le h1 hS.1) h2]; exact hS.2.1 q h1 h2, fun q hq => by
      rcases List.mem_append.mp hq with h | h
      · exact hS.2.2 q h
      · exact hL q h⟩ hl T' rfl X'
  exact ⟨t2, go t2 a1, b1⟩
theorem y_pre (hh : HyC D C h0 p s m args meth c cc nL own) {H : Heap} {locs : List Loc} (as : List Value) {w1 w2 : va_W} (hP : va_P D classes (wp ++ (w1 ++ w2)) H) (hD : va_D (fun q => h0 ≤ q) (wp ++ (w1 ++ w2))) (hS : va_S (fun q => h0 ≤ q) s.heap H locs) : ∀ U : State, U.heap = H → s.WarmedH U.vm → va_Pc as (Wc D C h0 (wp ++ w1) w2) as.toArray U := by
  intro U hU hW
  obtain ⟨-, -, -, -, -, hK, hh0, hN, -⟩ := hh
  rw [← List.append_assoc] at hP hD
  exact ⟨rfl, by rw [hU]; exact hP, hD, va_K.moved hW.alike hK, by rw [hU]; exact Nat.le_trans hh0 hS.1, cNN_warm hW hN⟩
def Mk (y : MethodName) (bytes : ByteArray) (maxL : Nat) (n : Nat) : Prop := Cond.instanceMethod y ∈ gtbl ∧ Cond.initialized y.cls ∈ gtbl ∧ Cond.code y bytes maxL none ∈ gtbl ∧ (y.cls ≠ "java/lang/invoke/MethodHandle" ∧ y.cls ≠ "java/lang/invoke/VarHandle" ∧ (parseMethodDescriptor y.desc).map (fun d => d.parameters.length) = some n)
theorem y_callI (hh : HyC D C h0 p s m args meth c cc nL own) {b n k idx maxL mc ms : Nat} {y : MethodName} {bytes : ByteArray} {post : va_W → Prop} {stk : List Value} (hM : Mk y bytes maxL n) (hy : y.name = "<init>") (As : List Value) (hd : decode cc pc = .ok (.invokespecial idx, 3)) (hw : Cond.methodLink own idx y ∈ gtbl ∨ (own, idx, y) ∈ cN2) (w1 w2 : va_W) (hww : w1 ++ w2 = w) (hC : Cc l D C h0 k y (.code y bytes maxL none) (.ref b :: As) (wp ++ w1) w2 post mc ms) (hst : As.reverse ++ .ref b :: rest = stk) (hn : As.length = n) (hR : k + 1 ≤ R.frames ∧ 8 + (maxL + 11) + 40 * k ≤ R.locals) (hR2 : kc + mc ≤ R.cells ∧ ks + ms ≤ R.slots) (hrest : (rest.map fun v => v.category).sum ≤ 8) (pc' : Nat) (hp : pc + 3 = pc') (kk : ∀ l1, post l1 → Y D h0 wp p l e R s m args below meth c nL Q pc' lv rest (w1 ++ l1) (kc + mc) (ks + ms)) : Y D h0 wp p l e R s m args below meth c nL Q pc lv stk w kc ks := by
  subst hp; subst hst; subst hww
  intro H locs ls hP hD hS hl
  obtain ⟨m1, m3, m4, m5⟩ := hM
  have hts := hh.2.2.2.2.1
  rcases hw with hw | hw
  · exact y_back (va_runI (Ts := gtbl) (cc := cc) (nL := nL) (As := As) (rest := rest) (n := n) ⟨hh.1, hh.2.1, hh.2.2.1, hh.2.2.2.1, hts⟩ hC ⟨callB_of n hts (gt_goodIn m4 (fun _ h => h)) rfl rfl rfl (hts _ m3) (hts _ hw) m5 hR, hy, hts _ m1⟩ ⟨Wc_blind _, y_pre hh _ hP hD hS⟩ rfl hn hl.1 rfl (lv_room hrest) hd hR2) hS hl kk
  · exact y_back (va_runIN (host := RX7) (Ts := gtbl) (cc := cc) (nL := nL) (As := As) (rest := rest) (n := n) ⟨hh.1, hh.2.1, hh.2.2.1, hh.2.2.2.1, hts⟩ hC ⟨va_cnB n hts (gt_goodIn m4 (fun _ h => h)) rfl rfl rfl (hh.2.2.2.2.2.2.2.1.1 _ hw) (hts _ m3) m5 hR, hy, hts _ m1⟩ ⟨Wc_blind _, y_pre hh _ hP hD hS⟩ rfl hn hl.1 rfl (lv_room hrest) hd hR2) hS hl kk
theorem y_callV (hh : HyC D C h0 p s m args meth c cc nL own) {b n k idx maxL mc ms j ci : Nat} {fs : List Value} {y : MethodName} {bytes : ByteArray} {post : va_W → Prop} {stk : List Value} (hM : Mi y bytes maxL none n ci) (As : List Value) (hd : decode cc pc = .ok (.invokevirtual idx, 3)) (hw : Cond.methodLink own idx y ∈ gtbl) (hj : w[j]? = some (b, .inr (ci, fs))) (hC : Cc l D C h0 k y (.code y bytes maxL none) (.ref b :: As) (wp ++ []) w post mc ms) (hst : As.reverse ++ .ref b :: rest = stk) (hn : As.length = n) (hR : k + 1 ≤ R.frames ∧ 8 + (maxL + 11) + 40 * k ≤ R.locals) (hR2 : kc + mc ≤ R.cells ∧ ks + ms ≤ R.slots) (hrest : (rest.map fun v => v.category).sum ≤ 8) (pc' : Nat) (hp : pc + 3 = pc') (kk : ∀ l1, post l1 → Y D h0 wp p l e R s m args below meth c nL Q pc' lv rest l1 (kc + mc) (ks + ms)) : Y D h0 wp p l e R s m args below meth c nL Q pc lv stk w kc ks := by
  subst hp; subst hst
  intro H locs ls hP hD hS hl
  obtain ⟨m1, m2, m3, m4, m5, m6⟩ := hM
  have hts := hh.2.2.2.2.1
  obtain ⟨r, hr1, hr2⟩ : ∃ r : vw_C, classes[ci]? = some r ∧ r.1 = y.cls := by
    cases hq : classes[ci]? with
    | none => rw [hq] at m6; cases m6
    | some r => rw [hq] at m6; exact ⟨r, rfl, Option.some.inj m6⟩
  have hrec := va_recv hh.2.2.2.2.2.1 hP hr1 (app_at hj)
  rw [hr2] at hrec
  exact y_back (va_runV (C := y.cls) (Ts := gtbl) (cc := cc) (nL := nL) (As := As) (rest := rest) (n := n) ⟨hh.1, hh.2.1, hh.2.2.1, hh.2.2.2.1, hts⟩ hC ⟨callB_of n hts (gt_goodIn m4 (fun _ h => h)) rfl rfl rfl (hts _ m3) (hts _ hw) m5 hR, hts _ m1, hts _ m2⟩ ⟨Wc_blind _, hrec, y_pre (w1 := []) hh _ hP hD hS⟩ rfl hn hl.1 rfl (lv_room hrest) hd hR2) hS hl kk
theorem vin {i : Int32} {n : Nat} (h : 0 ≤ i.toInt ∧ i.toInt < (n : Int)) : vp_in i n := vp_in_iff.mpr h
end Y

/-! the law, as the skeleton has it -/
def R_law : String := "LowHeadsLaw"
def lw_P (b : Addr) (xs : List Int32) (args : Array Value) (s : State) : Prop := args = #[.ref b] ∧ s.IntsAt b xs ∧ xs.length ≤ 2048 ∧ (Jvm.Cond.and given_1 narrow_1).before args s = true
def lw_Q (_ : Array Value) (s : State) (o : Outcome) (t : State) : Prop := o = .returned (some (.int 1)) ∧ Framed s o t [] 600000 7302250
def lw_Z (below : List Frame) (a : Array Value) (s : State) : State → Prop := fun t => ∃ o, t.status = .running ∧ Ended t below o ∧ lw_Q a s o t
/-- the law's own end, with 1 on the stack, nothing written that was there before, its room as the claim has it -/
theorem lw_ret {p : Program} {l : Launch} {e : Env} {s : State} {m : MethodId} {below : List Frame} {meth : Method} {c : Code} {b : Nat} (hx : p.tables.exec = Jvm.exec) (hb : c.code = code) (hr : meth.sig.returnType = ret) (hlocks : meth.locks = false) {pc : Nat} {H : Heap} {ls : Array Slot} (hdg : decode code pc = .ok (.ireturn, 1)) : W p l e room_1 s m #[Value.ref b] below meth c H [] 600000 7302250 (lw_Z below #[Value.ref b] s) (F0 m pc ls [.int 1]) := by
  intro T hT X
  obtain ⟨fs, hret, hrun, hended, hW, hframe⟩ := X.leave (v := some (.int 1)) (hlocks := hlocks) (fun h => by rw [hr] at h; cases h)
  have hmeth' : T.vm.method? m = some meth := X.method'
  refine ⟨T.setFrames fs, ?_, .returned (some (.int 1)), hrun, hended, rfl, ⟨_, rfl⟩, hW, hframe⟩
  jvm_step X.here [X.here.top, hx, hb, hdg, hmeth', hr, ret, narrow_b1]
  (try refine ⟨rfl, ?_⟩); (try refine ⟨rfl, ?_⟩)
  first | (intro acts; rw [hret _ acts rfl rfl rfl]) | rw [hret _ _ rfl rfl rfl]
  exact Steps.refl _
/-- what holds at the law's entry: the machine, the code, the tables' words (any of lw_tbl by 'hts w (by decide +kernel)'), the script of L ints xs at the cell b, what the Statement gives of the start (any of its parts by flat_of_before) -/
def lw_At (p : Program) (s : State) (m : MethodId) (meth : Method) (c : Code) (b L : Nat) (xs : Nat → Int32) : Prop :=
  p.tables.exec = Jvm.exec ∧ c.code = code ∧ meth.sig.returnType = ret ∧ c.maxLocals = 4 ∧ s.vm.findClass R_law = some m.cls ∧ (∀ w ∈ lw_tbl, w.before #[Value.ref b] s = true) ∧ va_X b L xs s s.heap ∧ b < s.heap.size ∧ meth.locks = false ∧ (Jvm.Cond.and given_1 narrow_1).before #[Value.ref b] s = true
/-! THE LAW: rows with its own room -/
def ZL (X : Cx) (p : Program) (l : Launch) (e : Env) (R : Room) (s : State) (m : MethodId) (args : Array Value) (below : List Frame) (meth : Method) (c : Code) (nL : Nat) (Q : State → Prop) (pc : Nat) (lv : List (Nat × Value)) (stk : List Value) (st : St) : Prop :=
  ∀ (H : Heap) (locs : List Loc) (ls : Array Slot), va_P X.1 classes (wW X st) H → va_S (cA X) s.heap H locs → lv_has ls nL lv → W p l e R s m args below meth c H locs 600000 7302250 Q (F0 m pc ls stk)
section XL
variable {X : Cx} {p : Program} {l : Launch} {e : Env} {R : Room} {s : State} {m : MethodId} {args : Array Value} {below : List Frame} {meth : Method} {c : Code} {cc : ByteArray} {nL : Nat} {own : String} {Q : State → Prop} {pc : Nat} {lv : List (Nat × Value)} {rest : List Value} {st : St}
theorem xl_iconst (hh : Hy X p s m args meth c cc nL own) {n : Int} (hd : decode cc pc = .ok (.iconst n, 1)) (v : Int32) (hv : Int32.ofInt n = v) (pc' : Nat) (hp : pc + 1 = pc') (k : ZL X p l e R s m args below meth c nL Q pc' lv (.int v :: rest) st) : ZL X p l e R s m args below meth c nL Q pc lv (rest) st := by
  subst hp
  exact fun H locs ls hP hS hl => lv_iconst hh.1 hh.2.1 hd hv (k H locs ls hP hS hl)
theorem xl_bipush (hh : Hy X p s m args meth c cc nL own) {n : Int} (hd : decode cc pc = .ok (.bipush n, 2)) (v : Int32) (hv : (Int8.ofInt n).toInt32 = v) (pc' : Nat) (hp : pc + 2 = pc') (k : ZL X p l e R s m args below meth c nL Q pc' lv (.int v :: rest) st) : ZL X p l e R s m args below meth c nL Q pc lv (rest) st := by
  subst hp
  exact fun H locs ls hP hS hl => lv_bipush hh.1 hh.2.1 hd hv (k H locs ls hP hS hl)
theorem xl_iload_n (hh : Hy X p s m args meth c cc nL own) {n : Fin 4} {i : Nat} {x : Int32} (hd : decode cc pc = .ok (.iload_n n, 1)) (hi : (n : Nat) = i) (j : Nat) (hj : lv[j]? = some (i, .int x)) (pc' : Nat) (hp : pc + 1 = pc') (k : ZL X p l e R s m args below meth c nL Q pc' lv (.int x :: rest) st) : ZL X p l e R s m args below meth c nL Q pc lv (rest) st := by
  subst hp
  exact fun H locs ls hP hS hl => lv_iload_n hh.1 hh.2.1 hd hi (lv_at hl j hj) (k H locs ls hP hS hl)
theorem xl_istore_n (hh : Hy X p s m args meth c cc nL own) {n : Fin 4} {i : Nat} {x : Int32} (hd : decode cc pc = .ok (.istore_n n, 1)) (hi : (n : Nat) = i) (hn : i < nL) (lv' : List (Nat × Value)) (hl : (i, Value.int x) :: lv.filter (fun q => !(q.1 == i) && !(q.1 + 1 == i && q.2.category == 2)) = lv') (pc' : Nat) (hp : pc + 1 = pc') (k : ZL X p l e R s m args below meth c nL Q pc' lv' rest st) : ZL X p l e R s m args below meth c nL Q pc lv (.int x :: rest) st := by
  subst hp
  exact fun H locs ls hP hS hl0 => lv_istore_n hh.1 hh.2.1 hd hi hl0 hn hl (fun ls' hl' => k H locs ls' hP hS hl')
theorem xl_aload_n (hh : Hy X p s m args meth c cc nL own) {n : Fin 4} {i : Nat} {x : Nat} (hd : decode cc pc = .ok (.aload_n n, 1)) (hi : (n : Nat) = i) (j : Nat) (hj : lv[j]? = some (i, .ref x)) (pc' : Nat) (hp : pc + 1 = pc') (k : ZL X p l e R s m args below meth c nL Q pc' lv (.ref x :: rest) st) : ZL X p l e R s m args below meth c nL Q pc lv (rest) st := by
  subst hp
  exact fun H locs ls hP hS hl => lv_aload_n hh.1 hh.2.1 hd hi (lv_at hl j hj) (k H locs ls hP hS hl)
theorem xl_iinc (hh : Hy X p s m args meth c cc nL own) {i : Nat} {n : Int} {x : Int32} (hd : decode cc pc = .ok (.iinc i n, 3)) (j : Nat) (hj : lv[j]? = some (i, .int x)) (v : Int32) (hv : x + Int32.ofInt n = v) (hn : i < nL) (lv' : List (Nat × Value)) (hl : (i, Value.int v) :: lv.filter (fun q => !(q.1 == i) && !(q.1 + 1 == i && q.2.category == 2)) = lv') (pc' : Nat) (hp : pc + 3 = pc') (k : ZL X p l e R s m args below meth c nL Q pc' lv' rest st) : ZL X p l e R s m args below meth c nL Q pc lv rest st := by
  subst hp
  exact fun H locs ls hP hS hl0 => lv_iinc hh.1 hh.2.1 hd hl0 hj hv hn hl (fun ls' hl' => k H locs ls' hP hS hl')
theorem xl_iadd (hh : Hy X p s m args meth c cc nL own) {x y : Int32} (hd : decode cc pc = .ok (.iadd, 1))  (pc' : Nat) (hp : pc + 1 = pc') (k : ZL X p l e R s m args below meth c nL Q pc' lv (.int (x + y) :: rest) st) : ZL X p l e R s m args below meth c nL Q pc lv (.int y :: .int x :: rest) st := by
  subst hp
  exact fun H locs ls hP hS hl => lv_iadd hh.1 hh.2.1 hd  (k H locs ls hP hS hl)
theorem xl_isub (hh : Hy X p s m args meth c cc nL own) {x y : Int32} (hd : decode cc pc = .ok (.isub, 1))  (pc' : Nat) (hp : pc + 1 = pc') (k : ZL X p l e R s m args below meth c nL Q pc' lv (.int (x - y) :: rest) st) : ZL X p l e R s m args below meth c nL Q pc lv (.int y :: .int x :: rest) st := by
  subst hp
  exact fun H locs ls hP hS hl => lv_isub hh.1 hh.2.1 hd  (k H locs ls hP hS hl)
theorem xl_iand (hh : Hy X p s m args meth c cc nL own) {x y : Int32} (hd : decode cc pc = .ok (.iand, 1))  (pc' : Nat) (hp : pc + 1 = pc') (k : ZL X p l e R s m args below meth c nL Q pc' lv (.int (x &&& y) :: rest) st) : ZL X p l e R s m args below meth c nL Q pc lv (.int y :: .int x :: rest) st := by
  subst hp
  exact fun H locs ls hP hS hl => lv_iand hh.1 hh.2.1 hd  (k H locs ls hP hS hl)
theorem xl_land (hh : Hy X p s m args meth c cc nL own) {x y : Int64} (hd : decode cc pc = .ok (.land, 1))  (pc' : Nat) (hp : pc + 1 = pc') (k : ZL X p l e R s m args below meth c nL Q pc' lv (.long (x &&& y) :: rest) st) : ZL X p l e R s m args below meth c nL Q pc lv (.long y :: .long x :: rest) st := by
  subst hp
  exact fun H locs ls hP hS hl => lv_land hh.1 hh.2.1 hd  (k H locs ls hP hS hl)
theorem xl_lor (hh : Hy X p s m args meth c cc nL own) {x y : Int64} (hd : decode cc pc = .ok (.lor, 1))  (pc' : Nat) (hp : pc + 1 = pc') (k : ZL X p l e R s m args below meth c nL Q pc' lv (.long (x ||| y) :: rest) st) : ZL X p l e R s m args below meth c nL Q pc lv (.long y :: .long x :: rest) st := by
  subst hp
  exact fun H locs ls hP hS hl => lv_lor hh.1 hh.2.1 hd  (k H locs ls hP hS hl)
theorem xl_lshl (hh : Hy X p s m args meth c cc nL own) {x : Int64} {y : Int32} (hd : decode cc pc = .ok (.lshl, 1))  (pc' : Nat) (hp : pc + 1 = pc') (k : ZL X p l e R s m args below meth c nL Q pc' lv (.long (x <<< (y.toInt64 &&& 63)) :: rest) st) : ZL X p l e R s m args below meth c nL Q pc lv (.int y :: .long x :: rest) st := by
  subst hp
  exact fun H locs ls hP hS hl => lv_lshl hh.1 hh.2.1 hd rfl (k H locs ls hP hS hl)
theorem xl_i2l (hh : Hy X p s m args meth c cc nL own) {x : Int32} (hd : decode cc pc = .ok (.i2l, 1))  (pc' : Nat) (hp : pc + 1 = pc') (k : ZL X p l e R s m args below meth c nL Q pc' lv (.long x.toInt64 :: rest) st) : ZL X p l e R s m args below meth c nL Q pc lv (.int x :: rest) st := by
  subst hp
  exact fun H locs ls hP hS hl => lv_i2l hh.1 hh.2.1 hd rfl (k H locs ls hP hS hl)
theorem xl_ldc2_w (hh : Hy X p s m args meth c cc nL own) {i : Nat} {v : Int64} (hd : decode cc pc = .ok (.ldc2_w i, 3)) (hw : Cond.constantLong own i v ∈ gtbl) (pc' : Nat) (hp : pc + 3 = pc') (k : ZL X p l e R s m args below meth c nL Q pc' lv (.long v :: rest) st) : ZL X p l e R s m args below meth c nL Q pc lv (rest) st := by
  subst hp
  exact fun H locs ls hP hS hl => lv_ldc2 hh.1 hh.2.1 hh.2.2.2.1 (hh.2.2.2.2.1 _ hw) hd  (k H locs ls hP hS hl)
theorem xl_icmp_eq (hh : Hy X p s m args meth c cc nL own) {x y : Int32} {off : Int} (hd : decode cc pc = .ok (.if_icmp .eq off, 3)) (tgt : Nat) (ht : (pc : Int) + off = (tgt : Int)) (pc' : Nat) (hp : pc + 3 = pc') (kt : x = y → ZL X p l e R s m args below meth c nL Q tgt lv rest st) (kf : ¬ x = y → ZL X p l e R s m args below meth c nL Q pc' lv rest st) : ZL X p l e R s m args below meth c nL Q pc lv (.int y :: .int x :: rest) st := by
  subst hp
  exact fun H locs ls hP hS hl => lv_icmp_eq hh.1 hh.2.1 hd ht (fun q => kt q H locs ls hP hS hl) (fun q => kf q H locs ls hP hS hl)
theorem xl_icmp_gt (hh : Hy X p s m args meth c cc nL own) {x y : Int32} {off : Int} (hd : decode cc pc = .ok (.if_icmp .gt off, 3)) (tgt : Nat) (ht : (pc : Int) + off = (tgt : Int)) (pc' : Nat) (hp : pc + 3 = pc') (kt : y < x → ZL X p l e R s m args below meth c nL Q tgt lv rest st) (kf : ¬ y < x → ZL X p l e R s m args below meth c nL Q pc' lv rest st) : ZL X p l e R s m args below meth c nL Q pc lv (.int y :: .int x :: rest) st := by
  subst hp
  exact fun H locs ls hP hS hl => lv_icmp_gt hh.1 hh.2.1 hd ht (fun q => kt q H locs ls hP hS hl) (fun q => kf q H locs ls hP hS hl)
theorem xl_goto (hh : Hy X p s m args meth c cc nL own) {off : Int} (hd : decode cc pc = .ok (.goto off, 3)) (tgt : Nat) (ht : (pc : Int) + off = (tgt : Int)) (k : ZL X p l e R s m args below meth c nL Q tgt lv rest st) : ZL X p l e R s m args below meth c nL Q pc lv rest st := fun H locs ls hP hS hl => lv_goto hh.1 hh.2.1 hd ht (k H locs ls hP hS hl)
theorem xl_tableIn (hh : Hy X p s m args meth c cc nL own) {dflt lo hi : Int} {offs : Array Int} {len : Nat} {x : Int32} (hd : decode cc pc = .ok (.tableswitch dflt lo hi offs, len)) (h1 : ¬ x.toInt < lo) (h2 : ¬ hi < x.toInt) (off : Int) (ho : offs[(x.toInt - lo).toNat]? = some off) (tgt : Nat) (ht : (pc : Int) + off = (tgt : Int)) (k : ZL X p l e R s m args below meth c nL Q tgt lv rest st) : ZL X p l e R s m args below meth c nL Q pc lv (.int x :: rest) st := fun H locs ls hP hS hl => lv_tableIn hh.1 hh.2.1 hd h1 h2 ho ht (k H locs ls hP hS hl)
theorem xl_tableOut (hh : Hy X p s m args meth c cc nL own) {dflt lo hi : Int} {offs : Array Int} {len : Nat} {x : Int32} (hd : decode cc pc = .ok (.tableswitch dflt lo hi offs, len)) (h : x.toInt < lo ∨ hi < x.toInt) (tgt : Nat) (ht : (pc : Int) + dflt = (tgt : Int)) (k : ZL X p l e R s m args below meth c nL Q tgt lv rest st) : ZL X p l e R s m args below meth c nL Q pc lv (.int x :: rest) st := fun H locs ls hP hS hl => lv_tableOut hh.1 hh.2.1 hd h ht (k H locs ls hP hS hl)
theorem xl_sub {lv' : List (Nat × Value)} (js : List Nat) (h : lv_pick lv js = lv') (k : ZL X p l e R s m args below meth c nL Q pc lv' rest st) : ZL X p l e R s m args below meth c nL Q pc lv rest st := fun H locs ls hP hS hl => k H locs ls hP hS (lv_sub hl js h)
theorem xl_back {H : Heap} {locs : List Loc} {ls : Array Slot} {stk : List Value} {a : Array Value} {v : Option Value} {st' : St} (hr : va_Run p l e R s m args below meth c H locs 600000 7302250 0 0 (F0 m pc ls stk) rest (Qf X v st' a) (cA X)) (hS : va_S (cA X) s.heap H locs) (hl : lv_has ls nL lv) (k : ZL X p l e R s m args below meth c nL Q (pc + 3) lv (v.toList ++ rest) st') : W p l e R s m args below meth c H locs 600000 7302250 Q (F0 m pc ls stk) := by
  intro T hT X0
  obtain ⟨v1, st₀, t, T', L, h0, X', hL, e1, e2, ⟨⟨hv, hP1⟩, hz, hk⟩, go⟩ := hr T hT X0
  cases hv
  rw [h0] at hz hk
  obtain ⟨t2, a1, b1⟩ := k T'.heap (locs ++ L) ls (by rw [e1]; exact hP1) ⟨Nat.le_trans hS.1 (by rw [e1]; exact hz), fun q h1 h2 => by rw [e1, hk q (Nat.lt_of_lt_of_le h1 hS.1) h2]; exact hS.2.1 q h1 h2, fun q hq => by
      rcases List.mem_append.mp hq with h | h
      · exact hS.2.2 q h
      · exact hL q h⟩ hl T' rfl X'
  exact ⟨t2, go t2 a1, b1⟩
theorem xl_callV (hh : Hy X p s m args meth c cc nL own) {id ci n k idx maxL : Nat} {y : MethodName} {bytes : ByteArray} {ret : Option FieldType} {fk : List (Option (Option Nat))} {v : Option Value} {st' : St} {stk : List Value} (hM : Mi y bytes maxL ret n ci) (As : List Value) (hd : decode cc pc = .ok (.invokevirtual idx, 3)) (hs : shp[id]? = some (.inr (.inr (ci, fk)))) (hw : Cond.methodLink own idx y ∈ gtbl) (hC : Ct l X k y (.code y bytes maxL ret) (.ref (X.2.1 id) :: As) st v st') (hst : As.reverse ++ .ref (X.2.1 id) :: rest = stk) (hn : As.length = n) (hR : k + 1 ≤ R.frames ∧ 8 + (maxL + 11) + 40 * k ≤ R.locals) (hRc : 600000 ≤ R.cells ∧ 7302250 ≤ R.slots) (hrest : (rest.map fun v => v.category).sum ≤ 8) (pc' : Nat) (hp : pc + 3 = pc') (stk' : List Value) (hst' : v.toList ++ rest = stk') (kk : ZL X p l e R s m args below meth c nL Q pc' lv stk' st') : ZL X p l e R s m args below meth c nL Q pc lv stk st := by
  subst hp; subst hst; subst hst'
  intro H locs ls hP hS hl
  obtain ⟨m1, m2, m3, m4, m5, m6⟩ := hM
  have hts := hh.2.2.2.2.1
  obtain ⟨r, hr1, hr2⟩ : ∃ r : vw_C, classes[ci]? = some r ∧ r.1 = y.cls := by
    cases hq : classes[ci]? with
    | none => rw [hq] at m6; cases m6
    | some r => rw [hq] at m6; exact ⟨r, rfl, Option.some.inj m6⟩
  have hrec := va_recv hh.2.2.2.2.2.1 hP hr1 (wW_get (X := X) (st := st) hs)
  rw [hr2] at hrec
  refine xl_back (va_runV (C := y.cls) (Ts := gtbl) (cc := cc) (nL := nL) (As := As) (rest := rest) (n := n) ⟨hh.1, hh.2.1, hh.2.2.1, hh.2.2.2.1, hts⟩ hC ⟨callB_of n hts (gt_goodIn m4 (fun _ h => h)) rfl rfl rfl (hts _ m3) (hts _ hw) m5 hR, hts _ m1, hts _ m2⟩ ⟨Wd_blind hh.2.2.2.2.2.2.2.2.1 _ _, hrec, x_pre hh _ hP hS⟩ rfl hn hl.1 rfl (lv_room hrest) hd hRc) hS hl kk

/-- what the law has beside: its script -/
def Sx (X : Cx) (s : State) (b L : Nat) (xs : Nat → Int32) : Prop := va_X b L xs s s.heap ∧ b < s.heap.size ∧ X.2.2.2.1 = s.heap.size
theorem xl_sld (hh : Hy X p s m args meth c cc nL own) {b L : Nat} {xs : Nat → Int32} (hx : Sx X s b L xs) {i : Int32} (hd : decode cc pc = .ok (.iaload, 1)) (hi : vp_in i L) (pc' : Nat) (hp : pc + 1 = pc') (k : ZL X p l e R s m args below meth c nL Q pc' lv (.int (xs i.toNatClampNeg) :: rest) st) : ZL X p l e R s m args below meth c nL Q pc lv (.int i :: .ref b :: rest) st := by
  subst hp
  exact fun H locs ls hP hS hl => va_sld hh.1 hh.2.1 hx.1 hx.2.1 (show ¬ X.2.2.2.1 ≤ b by rw [hx.2.2]; exact Nat.not_le.mpr hx.2.1) hS hi hd (k H locs ls hP hS hl)
theorem xl_slen (hh : Hy X p s m args meth c cc nL own) {b L : Nat} {xs : Nat → Int32} (hx : Sx X s b L xs) (hd : decode cc pc = .ok (.arraylength, 1)) (pc' : Nat) (hp : pc + 1 = pc') (k : ZL X p l e R s m args below meth c nL Q pc' lv (.int (Int32.ofNat L) :: rest) st) : ZL X p l e R s m args below meth c nL Q pc lv (.ref b :: rest) st := by
  subst hp
  exact fun H locs ls hP hS hl => va_slen hh.1 hh.2.1 hx.1 hx.2.1 (show ¬ X.2.2.2.1 ≤ b by rw [hx.2.2]; exact Nat.not_le.mpr hx.2.1) hS hd (k H locs ls hP hS hl)
theorem xl_ret {b L : Nat} {xs : Nat → Int32} (hh : Hy X p s m #[Value.ref b] meth c code nL own) (hr : meth.sig.returnType = ret) (hx : Sx X s b L xs) (hd : decode code pc = .ok (.ireturn, 1)) : ZL X p l e room_1 s m #[Value.ref b] below meth c nL (lw_Z below #[Value.ref b] s) pc lv [.int 1] st := by
  intro H locs ls hP hS hl
  refine va_forget (fun q hq => ?_) ?_
  · have h := hS.2.2 q hq
    unfold cA at h
    rw [hx.2.2] at h
    exact h
  · exact lw_ret hh.1 hh.2.1 hr hh.2.2.2.2.2.2.2.2.2 hd
end XL
def F_L_law_964 (L : Nat) (xs : Nat → Int32) (k18 : Int32 → St → Option (Int32 × St)) (v3 : Int32) (st : St) : Option (Int32 × St) := k18 (v3 + 4) st
set_option maxRecDepth 100000 in
set_option maxHeartbeats 40000000 in
theorem Z_L_law_964 {l : Launch} {X : Cx} (hX : Ok X) {p : Program} {e : Env} {s : State} {m : MethodId} {b L : Nat} {xs : Nat → Int32} {below : List Frame} {meth : Method} {c : Code} {st' : St} (hh : Hy X p s m #[Value.ref b] meth c code 4 RL) (hr : meth.sig.returnType = ret) (hx : Sx X s b L xs) {k18 : Int32 → St → Option (Int32 × St)} (hk18 : ∀ (v3 : Int32) (st : St), k18 v3 st = some (1, st') → ZL X p l e room_1 s m #[Value.ref b] below meth c 4 (lw_Z below #[Value.ref b] s) 18 [(0, .ref b), (1, .ref (X.2.1 0)), (2, .ref (X.2.1 59)), (3, .int v3)] [] st) (v3 : Int32) (st : St) (hf : F_L_law_964 L xs k18 v3 st = some (1, st')) : ZL X p l e room_1 s m #[Value.ref b] below meth c 4 (lw_Z below #[Value.ref b] s) 964 [(0, .ref b), (1, .ref (X.2.1 0)), (2, .ref (X.2.1 59)), (3, .int v3)] [] st := by
  unfold F_L_law_964 at hf
  refine xl_iinc hh dL_law_964 3 rfl (v3 + 4) rfl (by decide) [(3, .int (v3 + 4)), (0, .ref b), (1, .ref (X.2.1 0)), (2, .ref (X.2.1 59))] rfl 967 rfl ?_
  refine xl_goto hh dL_law_967 18 rfl ?_
  refine xl_sub (lv' := [(0, .ref b), (1, .ref (X.2.1 0)), (2, .ref (X.2.1 59)), (3, .int (v3 + 4))]) [1, 2, 3, 0] rfl ?_
  exact hk18 (v3 + 4) st hf
def F_L_law_18 (L : Nat) (xs : Nat → Int32) : Nat → Int32 → St → Option (Int32 × St)
  | 0, _, _ => none
  | n + 1, v3, st => if ((Int32.ofNat L) - 4) < v3 then some (1, st) else gi v3 L (if ((xs v3.toNatClampNeg) &&& 31) = 0 then gi (v3 + 1) L (gi (v3 + 2) L (gi (v3 + 3) L ((F_X7_feed (xs (v3 + 1).toNatClampNeg) ((((xs (v3 + 2).toNatClampNeg).toInt64) <<< ((32 : Int32).toInt64 &&& 63)) ||| (((xs (v3 + 3).toNatClampNeg).toInt64) &&& 4294967295)) st).bind (fun q7 => gi (v3 + 1) L (gi (v3 + 2) L (gi (v3 + 3) L ((F_X8_feed (xs (v3 + 1).toNatClampNeg) ((((xs (v3 + 2).toNatClampNeg).toInt64) <<< ((32 : Int32).toInt64 &&& 63)) ||| (((xs (v3 + 3).toNatClampNeg).toInt64) &&& 4294967295)) q7.2).bind (fun q11 => if q7.1 = q11.1 then F_L_law_964 L xs (F_L_law_18 L xs n) v3 q11.2 else some (0, q11.2))))))))) else if ((xs v3.toNatClampNeg) &&& 31) = 1 then (F_X7_house st).bind (fun q14 => (F_X8_house q14.2).bind (fun q15 => if q14.1 = q15.1 then F_L_law_964 L xs (F_L_law_18 L xs n) v3 q15.2 else some (0, q15.2))) else if ((xs v3.toNatClampNeg) &&& 31) = 2 then (F_X7_fault st).bind (fun q18 => (F_X8_fault q18.2).bind (fun q19 => if q18.1 = q19.1 then F_L_law_964 L xs (F_L_law_18 L xs n) v3 q19.2 else some (0, q19.2))) else if ((xs v3.toNatClampNeg) &&& 31) = 3 then gi (v3 + 1) L ((F_X7_told (xs (v3 + 1).toNatClampNeg) st).bind (fun q23 => gi (v3 + 1) L ((F_X8_told (xs (v3 + 1).toNatClampNeg) q23.2).bind (fun q25 => if q23.1 = q25.1 then F_L_law_964 L xs (F_L_law_18 L xs n) v3 q25.2 else some (0, q25.2))))) else if ((xs v3.toNatClampNeg) &&& 31) = 4 then gi (v3 + 1) L (gi (v3 + 2) L (gi (v3 + 3) L ((F_X7_room (xs (v3 + 1).toNatClampNeg) (xs (v3 + 2).toNatClampNeg) (xs (v3 + 3).toNatClampNeg) st).bind (fun q31 => gi (v3 + 1) L (gi (v3 + 2) L (gi (v3 + 3) L ((F_X8_room (xs (v3 + 1).toNatClampNeg) (xs (v3 + 2).toNatClampNeg) (xs (v3 + 3).toNatClampNeg) q31.2).bind (fun q35 => if q31.1 = q35.1 then F_L_law_964 L xs (F_L_law_18 L xs n) v3 q35.2 else some (0, q35.2))))))))) else if ((xs v3.toNatClampNeg) &&& 31) = 5 then gi (v3 + 1) L (gi (v3 + 2) L ((F_X7_person (xs (v3 + 1).toNatClampNeg) (xs (v3 + 2).toNatClampNeg) st).bind (fun q40 => gi (v3 + 1) L (gi (v3 + 2) L ((F_X8_person (xs (v3 + 1).toNatClampNeg) (xs (v3 + 2).toNatClampNeg) q40.2).bind (fun q43 => if q40.1 = q43.1 then F_L_law_964 L xs (F_L_law_18 L xs n) v3 q43.2 else some (0, q43.2))))))) else if ((xs v3.toNatClampNeg) &&& 31) = 6 then gi (v3 + 1) L (gi (v3 + 2) L ((F_X7_friends (xs (v3 + 1).toNatClampNeg) (xs (v3 + 2).toNatClampNeg) st).bind (fun q48 => gi (v3 + 1) L (gi (v3 + 2) L ((F_X8_friends (xs (v3 + 1).toNatClampNeg) (xs (v3 + 2).toNatClampNeg) q48.2).bind (fun q51 => if q48.1 = q51.1 then F_L_law_964 L xs (F_L_law_18 L xs n) v3 q51.2 else some (0, q51.2))))))) else if ((xs v3.toNatClampNeg) &&& 31) = 7 then gi (v3 + 1) L ((F_X7_law (xs (v3 + 1).toNatClampNeg) st).bind (fun q55 => gi (v3 + 1) L ((F_X8_law (xs (v3 + 1).toNatClampNeg) q55.2).bind (fun q57 => if q55.1 = q57.1 then F_L_law_964 L xs (F_L_law_18 L xs n) v3 q57.2 else some (0, q57.2))))) else if ((xs v3.toNatClampNeg) &&& 31) = 8 then gi (v3 + 1) L (gi (v3 + 2) L (gi (v3 + 3) L ((F_X7_put (xs (v3 + 1).toNatClampNeg) (xs (v3 + 2).toNatClampNeg) (xs (v3 + 3).toNatClampNeg) st).bind (fun q63 => gi (v3 + 1) L (gi (v3 + 2) L (gi (v3 + 3) L ((F_X8_put (xs (v3 + 1).toNatClampNeg) (xs (v3 + 2).toNatClampNeg) (xs (v3 + 3).toNatClampNeg) q63.2).bind (fun q67 => if q63.1 = q67.1 then F_L_law_964 L xs (F_L_law_18 L xs n) v3 q67.2 else some (0, q67.2))))))))) else if ((xs v3.toNatClampNeg) &&& 31) = 9 then gi (v3 + 1) L ((F_X7_leave (xs (v3 + 1).toNatClampNeg) st).bind (fun q71 => gi (v3 + 1) L ((F_X8_leave (xs (v3 + 1).toNatClampNeg) q71.2).bind (fun q73 => if q71.1 = q73.1 then F_L_law_964 L xs (F_L_law_18 L xs n) v3 q73.2 else some (0, q73.2))))) else if ((xs v3.toNatClampNeg) &&& 31) = 10 then gi (v3 + 1) L (gi (v3 + 2) L ((F_X7_bend (xs (v3 + 1).toNatClampNeg) (xs (v3 + 2).toNatClampNeg) st).bind (fun q78 => gi (v3 + 1) L (gi (v3 + 2) L ((F_X8_bend (xs (v3 + 1).toNatClampNeg) (xs (v3 + 2).toNatClampNeg) q78.2).bind (fun q81 => if q78.1 = q81.1 then F_L_law_964 L xs (F_L_law_18 L xs n) v3 q81.2 else some (0, q81.2))))))) else if ((xs v3.toNatClampNeg) &&& 31) = 11 then gi (v3 + 1) L (gi (v3 + 2) L ((F_X7_first (xs (v3 + 1).toNatClampNeg) (xs (v3 + 2).toNatClampNeg) st).bind (fun q86 => gi (v3 + 1) L (gi (v3 + 2) L ((F_X8_first (xs (v3 + 1).toNatClampNeg) (xs (v3 + 2).toNatClampNeg) q86.2).bind (fun q89 => if q86.1 = q89.1 then F_L_law_964 L xs (F_L_law_18 L xs n) v3 q89.2 else some (0, q89.2))))))) else if ((xs v3.toNatClampNeg) &&& 31) = 12 then gi (v3 + 1) L ((F_X7_bow (xs (v3 + 1).toNatClampNeg) st).bind (fun q93 => gi (v3 + 1) L ((F_X8_bow (xs (v3 + 1).toNatClampNeg) q93.2).bind (fun q95 => if q93.1 = q95.1 then F_L_law_964 L xs (F_L_law_18 L xs n) v3 q95.2 else some (0, q95.2))))) else if ((xs v3.toNatClampNeg) &&& 31) = 13 then gi (v3 + 1) L ((F_X7_year (xs (v3 + 1).toNatClampNeg) st).bind (fun q99 => gi (v3 + 1) L ((F_X8_year (xs (v3 + 1).toNatClampNeg) q99.2).bind (fun q101 => if q99.1 = q101.1 then F_L_law_964 L xs (F_L_law_18 L xs n) v3 q101.2 else some (0, q101.2))))) else if ((xs v3.toNatClampNeg) &&& 31) = 14 then gi (v3 + 1) L (gi (v3 + 2) L (gi (v3 + 3) L ((F_X7_come (xs (v3 + 1).toNatClampNeg) (xs (v3 + 2).toNatClampNeg) (xs (v3 + 3).toNatClampNeg) st).bind (fun q107 => gi (v3 + 1) L (gi (v3 + 2) L (gi (v3 + 3) L ((F_X8_come (xs (v3 + 1).toNatClampNeg) (xs (v3 + 2).toNatClampNeg) (xs (v3 + 3).toNatClampNeg) q107.2).bind (fun q111 => if q107.1 = q111.1 then F_L_law_964 L xs (F_L_law_18 L xs n) v3 q111.2 else some (0, q111.2))))))))) else if ((xs v3.toNatClampNeg) &&& 31) = 15 then gi (v3 + 1) L (gi (v3 + 2) L (gi (v3 + 3) L ((F_X7_party (xs (v3 + 1).toNatClampNeg) (xs (v3 + 2).toNatClampNeg) (xs (v3 + 3).toNatClampNeg) st).bind (fun q117 => gi (v3 + 1) L (gi (v3 + 2) L (gi (v3 + 3) L ((F_X8_party (xs (v3 + 1).toNatClampNeg) (xs (v3 + 2).toNatClampNeg) (xs (v3 + 3).toNatClampNeg) q117.2).bind (fun q121 => if q117.1 = q121.1 then F_L_law_964 L xs (F_L_law_18 L xs n) v3 q121.2 else some (0, q121.2))))))))) else if ((xs v3.toNatClampNeg) &&& 31) = 16 then gi (v3 + 1) L (gi (v3 + 2) L ((F_X7_feast (xs (v3 + 1).toNatClampNeg) (xs (v3 + 2).toNatClampNeg) st).bind (fun q126 => gi (v3 + 1) L (gi (v3 + 2) L ((F_X8_feast (xs (v3 + 1).toNatClampNeg) (xs (v3 + 2).toNatClampNeg) q126.2).bind (fun q129 => if q126.1 = q129.1 then F_L_law_964 L xs (F_L_law_18 L xs n) v3 q129.2 else some (0, q129.2))))))) else if ((xs v3.toNatClampNeg) &&& 31) = 17 then gi (v3 + 1) L (gi (v3 + 2) L ((F_X7_cuts (xs (v3 + 1).toNatClampNeg) (xs (v3 + 2).toNatClampNeg) st).bind (fun q134 => gi (v3 + 1) L (gi (v3 + 2) L ((F_X8_cuts (xs (v3 + 1).toNatClampNeg) (xs (v3 + 2).toNatClampNeg) q134.2).bind (fun q137 => if q134.1 = q137.1 then F_L_law_964 L xs (F_L_law_18 L xs n) v3 q137.2 else some (0, q137.2))))))) else if ((xs v3.toNatClampNeg) &&& 31) = 18 then (F_X7_till st).bind (fun q140 => (F_X8_till q140.2).bind (fun q141 => if q140.1 = q141.1 then F_L_law_964 L xs (F_L_law_18 L xs n) v3 q141.2 else some (0, q141.2))) else if ((xs v3.toNatClampNeg) &&& 31) = 19 then gi (v3 + 1) L (gi (v3 + 2) L ((F_X7_seen (xs (v3 + 1).toNatClampNeg) (xs (v3 + 2).toNatClampNeg) st).bind (fun q146 => gi (v3 + 1) L (gi (v3 + 2) L ((F_X8_seen (xs (v3 + 1).toNatClampNeg) (xs (v3 + 2).toNatClampNeg) q146.2).bind (fun q149 => if q146.1 = q149.1 then F_L_law_964 L xs (F_L_law_18 L xs n) v3 q149.2 else some (0, q149.2))))))) else if ((xs v3.toNatClampNeg) &&& 31) = 20 then gi (v3 + 1) L (gi (v3 + 2) L (gi (v3 + 3) L ((F_X7_write (xs (v3 + 1).toNatClampNeg) (xs (v3 + 2).toNatClampNeg) (xs (v3 + 3).toNatClampNeg) st).bind (fun q155 => gi (v3 + 1) L (gi (v3 + 2) L (gi (v3 + 3) L ((F_X8_write (xs (v3 + 1).toNatClampNeg) (xs (v3 + 2).toNatClampNeg) (xs (v3 + 3).toNatClampNeg) q155.2).bind (fun q159 => if q155.1 = q159.1 then F_L_law_964 L xs (F_L_law_18 L xs n) v3 q159.2 else some (0, q159.2))))))))) else if ((xs v3.toNatClampNeg) &&& 31) = 21 then (F_X7_tear st).bind (fun q162 => (F_X8_tear q162.2).bind (fun q163 => if q162.1 = q163.1 then F_L_law_964 L xs (F_L_law_18 L xs n) v3 q163.2 else some (0, q163.2))) else if ((xs v3.toNatClampNeg) &&& 31) = 22 then gi (v3 + 1) L ((F_X7_judge (xs (v3 + 1).toNatClampNeg) st).bind (fun q167 => gi (v3 + 1) L ((F_X8_judge (xs (v3 + 1).toNatClampNeg) q167.2).bind (fun q169 => if q167.1 = q169.1 then F_L_law_964 L xs (F_L_law_18 L xs n) v3 q169.2 else some (0, q169.2))))) else if ((xs v3.toNatClampNeg) &&& 31) = 23 then gi (v3 + 1) L ((F_X7_drift (xs (v3 + 1).toNatClampNeg) st).bind (fun q173 => gi (v3 + 1) L ((F_X8_drift (xs (v3 + 1).toNatClampNeg) q173.2).bind (fun q175 => if q173.1 = q175.1 then F_L_law_964 L xs (F_L_law_18 L xs n) v3 q175.2 else some (0, q175.2))))) else if ((xs v3.toNatClampNeg) &&& 31) = 24 then (F_X7_empty st).bind (fun q178 => (F_X8_empty q178.2).bind (fun q179 => if q178.1 = q179.1 then F_L_law_964 L xs (F_L_law_18 L xs n) v3 q179.2 else some (0, q179.2))) else if ((xs v3.toNatClampNeg) &&& 31) = 25 then gi (v3 + 1) L ((F_X7_seed (xs (v3 + 1).toNatClampNeg) st).bind (fun q183 => gi (v3 + 1) L ((F_X8_seed (xs (v3 + 1).toNatClampNeg) q183.2).bind (fun q185 => if q183.1 = q185.1 then F_L_law_964 L xs (F_L_law_18 L xs n) v3 q185.2 else some (0, q185.2))))) else if ((xs v3.toNatClampNeg) &&& 31) = 26 then gi (v3 + 1) L ((F_X7_keep (xs (v3 + 1).toNatClampNeg) st).bind (fun q189 => gi (v3 + 1) L ((F_X8_keep (xs (v3 + 1).toNatClampNeg) q189.2).bind (fun q191 => if q189.1 = q191.1 then F_L_law_964 L xs (F_L_law_18 L xs n) v3 q191.2 else some (0, q191.2))))) else if ((xs v3.toNatClampNeg) &&& 31) = 27 then gi (v3 + 1) L ((F_X7_goBack (xs (v3 + 1).toNatClampNeg) st).bind (fun q195 => gi (v3 + 1) L ((F_X8_goBack (xs (v3 + 1).toNatClampNeg) q195.2).bind (fun q197 => if q195.1 = q197.1 then F_L_law_964 L xs (F_L_law_18 L xs n) v3 q197.2 else some (0, q197.2))))) else F_L_law_964 L xs (F_L_law_18 L xs n) v3 st)
set_option maxRecDepth 100000 in
set_option maxHeartbeats 40000000 in
theorem Z_L_law_18 {l : Launch} {X : Cx} (hX : Ok X) {p : Program} {e : Env} {s : State} {m : MethodId} {b L : Nat} {xs : Nat → Int32} {below : List Frame} {meth : Method} {c : Code} {st' : St} (hh : Hy X p s m #[Value.ref b] meth c code 4 RL) (hr : meth.sig.returnType = ret) (hx : Sx X s b L xs) : ∀ (n : Nat) (v3 : Int32) (st : St), F_L_law_18 L xs n v3 st = some (1, st') → ZL X p l e room_1 s m #[Value.ref b] below meth c 4 (lw_Z below #[Value.ref b] s) 18 [(0, .ref b), (1, .ref (X.2.1 0)), (2, .ref (X.2.1 59)), (3, .int v3)] [] st := by
  intro n
  induction n with
  | zero =>
    intro v3 st hf
    cases hf
  | succ n ih =>
    intro v3 st hf
    rw [F_L_law_18] at hf
    refine xl_iload_n hh dL_law_18 rfl 3 rfl 19 rfl ?_
    refine xl_aload_n hh dL_law_19 rfl 0 rfl 20 rfl ?_
    refine xl_slen hh hx dL_law_20 21 rfl ?_
    refine xl_iconst hh dL_law_21 4 rfl 22 rfl ?_
    refine xl_isub hh dL_law_22 23 rfl ?_
    refine xl_icmp_gt hh dL_law_23 970 rfl 26 rfl (fun hc1 => ?_) (fun hc1 => ?_)
    · have hf := t_pos hc1 hf
      refine xl_iconst hh dL_law_970 1 rfl 971 rfl ?_
      exact xl_ret hh hr hx dL_law_971
    · have hf := t_neg hc1 hf
      refine xl_aload_n hh dL_law_26 rfl 0 rfl 27 rfl ?_
      refine xl_iload_n hh dL_law_27 rfl 3 rfl 28 rfl ?_
      obtain ⟨hi2, hf⟩ := gi_some hf
      refine xl_sld hh hx dL_law_28 hi2 29 rfl ?_
      refine xl_bipush hh dL_law_29 31 rfl 31 rfl ?_
      refine xl_iand hh dL_law_31 32 rfl ?_
      by_cases hc3 : ((xs v3.toNatClampNeg) &&& 31) = 0
      · have hf := t_pos hc3 hf
        refine xl_tableIn hh dL_law_32 (by rw [hc3]; decide) (by rw [hc3]; decide) 128 (by rw [hc3]; rfl) 160 rfl ?_
        refine xl_aload_n hh dL_law_160 rfl 1 rfl 161 rfl ?_
        refine xl_aload_n hh dL_law_161 rfl 0 rfl 162 rfl ?_
        refine xl_iload_n hh dL_law_162 rfl 3 rfl 163 rfl ?_
        refine xl_iconst hh dL_law_163 1 rfl 164 rfl ?_
        refine xl_iadd hh dL_law_164 165 rfl ?_
        obtain ⟨hi4, hf⟩ := gi_some hf
        refine xl_sld hh hx dL_law_165 hi4 166 rfl ?_
        refine xl_aload_n hh dL_law_166 rfl 0 rfl 167 rfl ?_
        refine xl_iload_n hh dL_law_167 rfl 3 rfl 168 rfl ?_
        refine xl_iconst hh dL_law_168 2 rfl 169 rfl ?_
        refine xl_iadd hh dL_law_169 170 rfl ?_
        obtain ⟨hi5, hf⟩ := gi_some hf
        refine xl_sld hh hx dL_law_170 hi5 171 rfl ?_
        refine xl_i2l hh dL_law_171 172 rfl ?_
        refine xl_bipush hh dL_law_172 32 rfl 174 rfl ?_
        refine xl_lshl hh dL_law_174 175 rfl ?_
        refine xl_aload_n hh dL_law_175 rfl 0 rfl 176 rfl ?_
        refine xl_iload_n hh dL_law_176 rfl 3 rfl 177 rfl ?_
        refine xl_iconst hh dL_law_177 3 rfl 178 rfl ?_
        refine xl_iadd hh dL_law_178 179 rfl ?_
        obtain ⟨hi6, hf⟩ := gi_some hf
        refine xl_sld hh hx dL_law_179 hi6 180 rfl ?_
        refine xl_i2l hh dL_law_180 181 rfl ?_
        refine xl_ldc2_w hh dL_law_181 wd_1180 184 rfl ?_
        refine xl_land hh dL_law_184 185 rfl ?_
        refine xl_lor hh dL_law_185 186 rfl ?_
        obtain ⟨q7, hq7, hf⟩ := b_some hf
        refine xl_callV (rest := []) hh mi_X7_feed [.int (xs (v3 + 1).toNatClampNeg), .long ((((xs (v3 + 2).toNatClampNeg).toInt64) <<< ((32 : Int32).toInt64 &&& 63)) ||| (((xs (v3 + 3).toNatClampNeg).toInt64) &&& 4294967295))] dL_law_186 sh_0 wd_316 (C_X7_feed l hX  hq7) rfl rfl ⟨Nat.le_of_ble_eq_true rfl, Nat.le_of_ble_eq_true rfl⟩ ⟨Nat.le_of_ble_eq_true rfl, Nat.le_of_ble_eq_true rfl⟩ (Nat.le_of_ble_eq_true rfl) 189 rfl [.int q7.1] rfl ?_
        refine xl_aload_n hh dL_law_189 rfl 2 rfl 190 rfl ?_
        refine xl_aload_n hh dL_law_190 rfl 0 rfl 191 rfl ?_
        refine xl_iload_n hh dL_law_191 rfl 3 rfl 192 rfl ?_
        refine xl_iconst hh dL_law_192 1 rfl 193 rfl ?_
        refine xl_iadd hh dL_law_193 194 rfl ?_
        obtain ⟨hi8, hf⟩ := gi_some hf
        refine xl_sld hh hx dL_law_194 hi8 195 rfl ?_
        refine xl_aload_n hh dL_law_195 rfl 0 rfl 196 rfl ?_
        refine xl_iload_n hh dL_law_196 rfl 3 rfl 197 rfl ?_
        refine xl_iconst hh dL_law_197 2 rfl 198 rfl ?_
        refine xl_iadd hh dL_law_198 199 rfl ?_
        obtain ⟨hi9, hf⟩ := gi_some hf
        refine xl_sld hh hx dL_law_199 hi9 200 rfl ?_
        refine xl_i2l hh dL_law_200 201 rfl ?_
        refine xl_bipush hh dL_law_201 32 rfl 203 rfl ?_
        refine xl_lshl hh dL_law_203 204 rfl ?_
        refine xl_aload_n hh dL_law_204 rfl 0 rfl 205 rfl ?_
        refine xl_iload_n hh dL_law_205 rfl 3 rfl 206 rfl ?_
        refine xl_iconst hh dL_law_206 3 rfl 207 rfl ?_
        refine xl_iadd hh dL_law_207 208 rfl ?_
        obtain ⟨hi10, hf⟩ := gi_some hf
        refine xl_sld hh hx dL_law_208 hi10 209 rfl ?_
        refine xl_i2l hh dL_law_209 210 rfl ?_
        refine xl_ldc2_w hh dL_law_210 wd_1180 213 rfl ?_
        refine xl_land hh dL_law_213 214 rfl ?_
        refine xl_lor hh dL_law_214 215 rfl ?_
        obtain ⟨q11, hq11, hf⟩ := b_some hf
        refine xl_callV (rest := [.int q7.1]) hh mi_X8_feed [.int (xs (v3 + 1).toNatClampNeg), .long ((((xs (v3 + 2).toNatClampNeg).toInt64) <<< ((32 : Int32).toInt64 &&& 63)) ||| (((xs (v3 + 3).toNatClampNeg).toInt64) &&& 4294967295))] dL_law_215 sh_59 wd_902 (C_X8_feed l hX  hq11) rfl rfl ⟨Nat.le_of_ble_eq_true rfl, Nat.le_of_ble_eq_true rfl⟩ ⟨Nat.le_of_ble_eq_true rfl, Nat.le_of_ble_eq_true rfl⟩ (Nat.le_of_ble_eq_true rfl) 218 rfl [.int q11.1, .int q7.1] rfl ?_
        refine xl_icmp_eq hh dL_law_218 964 rfl 221 rfl (fun hc12 => ?_) (fun hc12 => ?_)
        · have hf := t_pos hc12 hf
          exact Z_L_law_964 hX hh hr hx ih  v3 q11.2 hf
        · have hf := t_neg hc12 hf
          refine xl_iconst hh dL_law_221 0 rfl 222 rfl ?_
          exact absurd (ret2 hf).1 (by decide)
      · have hf := t_neg hc3 hf
        by_cases hc13 : ((xs v3.toNatClampNeg) &&& 31) = 1
        · have hf := t_pos hc13 hf
          refine xl_tableIn hh dL_law_32 (by rw [hc13]; decide) (by rw [hc13]; decide) 191 (by rw [hc13]; rfl) 223 rfl ?_
          refine xl_aload_n hh dL_law_223 rfl 1 rfl 224 rfl ?_
          obtain ⟨q14, hq14, hf⟩ := b_some hf
          refine xl_callV (rest := []) hh mi_X7_house [] dL_law_224 sh_0 wd_326 (C_X7_house l hX  hq14) rfl rfl ⟨Nat.le_of_ble_eq_true rfl, Nat.le_of_ble_eq_true rfl⟩ ⟨Nat.le_of_ble_eq_true rfl, Nat.le_of_ble_eq_true rfl⟩ (Nat.le_of_ble_eq_true rfl) 227 rfl [.int q14.1] rfl ?_
          refine xl_aload_n hh dL_law_227 rfl 2 rfl 228 rfl ?_
          obtain ⟨q15, hq15, hf⟩ := b_some hf
          refine xl_callV (rest := [.int q14.1]) hh mi_X8_house [] dL_law_228 sh_59 wd_913 (C_X8_house l hX  hq15) rfl rfl ⟨Nat.le_of_ble_eq_true rfl, Nat.le_of_ble_eq_true rfl⟩ ⟨Nat.le_of_ble_eq_true rfl, Nat.le_of_ble_eq_true rfl⟩ (Nat.le_of_ble_eq_true rfl) 231 rfl [.int q15.1, .int q14.1] rfl ?_
          refine xl_icmp_eq hh dL_law_231 964 rfl 234 rfl (fun hc16 => ?_) (fun hc16 => ?_)
          · have hf := t_pos hc16 hf
            exact Z_L_law_964 hX hh hr hx ih  v3 q15.2 hf
          · have hf := t_neg hc16 hf
            refine xl_iconst hh dL_law_234 0 rfl 235 rfl ?_
            exact absurd (ret2 hf).1 (by decide)
        · have hf := t_neg hc13 hf
          by_cases hc17 : ((xs v3.toNatClampNeg) &&& 31) = 2
          · have hf := t_pos hc17 hf
            refine xl_tableIn hh dL_law_32 (by rw [hc17]; decide) (by rw [hc17]; decide) 204 (by rw [hc17]; rfl) 236 rfl ?_
            refine xl_aload_n hh dL_law_236 rfl 1 rfl 237 rfl ?_
            obtain ⟨q18, hq18, hf⟩ := b_some hf
            refine xl_callV (rest := []) hh mi_X7_fault [] dL_law_237 sh_0 wd_451 (C_X7_fault l hX  hq18) rfl rfl ⟨Nat.le_of_ble_eq_true rfl, Nat.le_of_ble_eq_true rfl⟩ ⟨Nat.le_of_ble_eq_true rfl, Nat.le_of_ble_eq_true rfl⟩ (Nat.le_of_ble_eq_true rfl) 240 rfl [.int q18.1] rfl ?_
            refine xl_aload_n hh dL_law_240 rfl 2 rfl 241 rfl ?_
            obtain ⟨q19, hq19, hf⟩ := b_some hf
            refine xl_callV (rest := [.int q18.1]) hh mi_X8_fault [] dL_law_241 sh_59 wd_959 (C_X8_fault l hX  hq19) rfl rfl ⟨Nat.le_of_ble_eq_true rfl, Nat.le_of_ble_eq_true rfl⟩ ⟨Nat.le_of_ble_eq_true rfl, Nat.le_of_ble_eq_true rfl⟩ (Nat.le_of_ble_eq_true rfl) 244 rfl [.int q19.1, .int q18.1] rfl ?_
            refine xl_icmp_eq hh dL_law_244 964 rfl 247 rfl (fun hc20 => ?_) (fun hc20 => ?_)
            · have hf := t_pos hc20 hf
              exact Z_L_law_964 hX hh hr hx ih  v3 q19.2 hf
            · have hf := t_neg hc20 hf
              refine xl_iconst hh dL_law_247 0 rfl 248 rfl ?_
              exact absurd (ret2 hf).1 (by decide)
          · have hf := t_neg hc17 hf
            by_cases hc21 : ((xs v3.toNatClampNeg) &&& 31) = 3
            · have hf := t_pos hc21 hf
              refine xl_tableIn hh dL_law_32 (by rw [hc21]; decide) (by rw [hc21]; decide) 217 (by rw [hc21]; rfl) 249 rfl ?_
              refine xl_aload_n hh dL_law_249 rfl 1 rfl 250 rfl ?_
              refine xl_aload_n hh dL_law_250 rfl 0 rfl 251 rfl ?_
              refine xl_iload_n hh dL_law_251 rfl 3 rfl 252 rfl ?_
              refine xl_iconst hh dL_law_252 1 rfl 253 rfl ?_
              refine xl_iadd hh dL_law_253 254 rfl ?_
              obtain ⟨hi22, hf⟩ := gi_some hf
              refine xl_sld hh hx dL_law_254 hi22 255 rfl ?_
              obtain ⟨q23, hq23, hf⟩ := b_some hf
              refine xl_callV (rest := []) hh mi_X7_told [.int (xs (v3 + 1).toNatClampNeg)] dL_law_255 sh_0 wd_455 (C_X7_told l hX  hq23) rfl rfl ⟨Nat.le_of_ble_eq_true rfl, Nat.le_of_ble_eq_true rfl⟩ ⟨Nat.le_of_ble_eq_true rfl, Nat.le_of_ble_eq_true rfl⟩ (Nat.le_of_ble_eq_true rfl) 258 rfl [.int q23.1] rfl ?_
              refine xl_aload_n hh dL_law_258 rfl 2 rfl 259 rfl ?_
              refine xl_aload_n hh dL_law_259 rfl 0 rfl 260 rfl ?_
              refine xl_iload_n hh dL_law_260 rfl 3 rfl 261 rfl ?_
              refine xl_iconst hh dL_law_261 1 rfl 262 rfl ?_
              refine xl_iadd hh dL_law_262 263 rfl ?_
              obtain ⟨hi24, hf⟩ := gi_some hf
              refine xl_sld hh hx dL_law_263 hi24 264 rfl ?_
              obtain ⟨q25, hq25, hf⟩ := b_some hf
              refine xl_callV (rest := [.int q23.1]) hh mi_X8_told [.int (xs (v3 + 1).toNatClampNeg)] dL_law_264 sh_59 wd_963 (C_X8_told l hX  hq25) rfl rfl ⟨Nat.le_of_ble_eq_true rfl, Nat.le_of_ble_eq_true rfl⟩ ⟨Nat.le_of_ble_eq_true rfl, Nat.le_of_ble_eq_true rfl⟩ (Nat.le_of_ble_eq_true rfl) 267 rfl [.int q25.1, .int q23.1] rfl ?_
              refine xl_icmp_eq hh dL_law_267 964 rfl 270 rfl (fun hc26 => ?_) (fun hc26 => ?_)
              · have hf := t_pos hc26 hf
                exact Z_L_law_964 hX hh hr hx ih  v3 q25.2 hf
              · have hf := t_neg hc26 hf
                refine xl_iconst hh dL_law_270 0 rfl 271 rfl ?_
                exact absurd (ret2 hf).1 (by decide)
            · have hf := t_neg hc21 hf
              by_cases hc27 : ((xs v3.toNatClampNeg) &&& 31) = 4
              · have hf := t_pos hc27 hf
                refine xl_tableIn hh dL_law_32 (by rw [hc27]; decide) (by rw [hc27]; decide) 240 (by rw [hc27]; rfl) 272 rfl ?_
                refine xl_aload_n hh dL_law_272 rfl 1 rfl 273 rfl ?_
                refine xl_aload_n hh dL_law_273 rfl 0 rfl 274 rfl ?_
                refine xl_iload_n hh dL_law_274 rfl 3 rfl 275 rfl ?_
                refine xl_iconst hh dL_law_275 1 rfl 276 rfl ?_
                refine xl_iadd hh dL_law_276 277 rfl ?_
                obtain ⟨hi28, hf⟩ := gi_some hf
                refine xl_sld hh hx dL_law_277 hi28 278 rfl ?_
                refine xl_aload_n hh dL_law_278 rfl 0 rfl 279 rfl ?_
                refine xl_iload_n hh dL_law_279 rfl 3 rfl 280 rfl ?_
                refine xl_iconst hh dL_law_280 2 rfl 281 rfl ?_
                refine xl_iadd hh dL_law_281 282 rfl ?_
                obtain ⟨hi29, hf⟩ := gi_some hf
                refine xl_sld hh hx dL_law_282 hi29 283 rfl ?_
                refine xl_aload_n hh dL_law_283 rfl 0 rfl 284 rfl ?_
                refine xl_iload_n hh dL_law_284 rfl 3 rfl 285 rfl ?_
                refine xl_iconst hh dL_law_285 3 rfl 286 rfl ?_
                refine xl_iadd hh dL_law_286 287 rfl ?_
                obtain ⟨hi30, hf⟩ := gi_some hf
                refine xl_sld hh hx dL_law_287 hi30 288 rfl ?_
                obtain ⟨q31, hq31, hf⟩ := b_some hf
                refine xl_callV (rest := []) hh mi_X7_room [.int (xs (v3 + 1).toNatClampNeg), .int (xs (v3 + 2).toNatClampNeg), .int (xs (v3 + 3).toNatClampNeg)] dL_law_288 sh_0 wd_467 (C_X7_room l hX  hq31) rfl rfl ⟨Nat.le_of_ble_eq_true rfl, Nat.le_of_ble_eq_true rfl⟩ ⟨Nat.le_of_ble_eq_true rfl, Nat.le_of_ble_eq_true rfl⟩ (Nat.le_of_ble_eq_true rfl) 291 rfl [.int q31.1] rfl ?_
                refine xl_aload_n hh dL_law_291 rfl 2 rfl 292 rfl ?_
                refine xl_aload_n hh dL_law_292 rfl 0 rfl 293 rfl ?_
                refine xl_iload_n hh dL_law_293 rfl 3 rfl 294 rfl ?_
                refine xl_iconst hh dL_law_294 1 rfl 295 rfl ?_
                refine xl_iadd hh dL_law_295 296 rfl ?_
                obtain ⟨hi32, hf⟩ := gi_some hf
                refine xl_sld hh hx dL_law_296 hi32 297 rfl ?_
                refine xl_aload_n hh dL_law_297 rfl 0 rfl 298 rfl ?_
                refine xl_iload_n hh dL_law_298 rfl 3 rfl 299 rfl ?_
                refine xl_iconst hh dL_law_299 2 rfl 300 rfl ?_
                refine xl_iadd hh dL_law_300 301 rfl ?_
                obtain ⟨hi33, hf⟩ := gi_some hf
                refine xl_sld hh hx dL_law_301 hi33 302 rfl ?_
                refine xl_aload_n hh dL_law_302 rfl 0 rfl 303 rfl ?_
                refine xl_iload_n hh dL_law_303 rfl 3 rfl 304 rfl ?_
                refine xl_iconst hh dL_law_304 3 rfl 305 rfl ?_
                refine xl_iadd hh dL_law_305 306 rfl ?_
                obtain ⟨hi34, hf⟩ := gi_some hf
                refine xl_sld hh hx dL_law_306 hi34 307 rfl ?_
                obtain ⟨q35, hq35, hf⟩ := b_some hf
                refine xl_callV (rest := [.int q31.1]) hh mi_X8_room [.int (xs (v3 + 1).toNatClampNeg), .int (xs (v3 + 2).toNatClampNeg), .int (xs (v3 + 3).toNatClampNeg)] dL_law_307 sh_59 wd_970 (C_X8_room l hX  hq35) rfl rfl ⟨Nat.le_of_ble_eq_true rfl, Nat.le_of_ble_eq_true rfl⟩ ⟨Nat.le_of_ble_eq_true rfl, Nat.le_of_ble_eq_true rfl⟩ (Nat.le_of_ble_eq_true rfl) 310 rfl [.int q35.1, .int q31.1] rfl ?_
                refine xl_icmp_eq hh dL_law_310 964 rfl 313 rfl (fun hc36 => ?_) (fun hc36 => ?_)
                · have hf := t_pos hc36 hf
                  exact Z_L_law_964 hX hh hr hx ih  v3 q35.2 hf
                · have hf := t_neg hc36 hf
                  refine xl_iconst hh dL_law_313 0 rfl 314 rfl ?_
                  exact absurd (ret2 hf).1 (by decide)
              · have hf := t_neg hc27 hf
                by_cases hc37 : ((xs v3.toNatClampNeg) &&& 31) = 5
                · have hf := t_pos hc37 hf
                  refine xl_tableIn hh dL_law_32 (by rw [hc37]; decide) (by rw [hc37]; decide) 283 (by rw [hc37]; rfl) 315 rfl ?_
                  refine xl_aload_n hh dL_law_315 rfl 1 rfl 316 rfl ?_
                  refine xl_aload_n hh dL_law_316 rfl 0 rfl 317 rfl ?_
                  refine xl_iload_n hh dL_law_317 rfl 3 rfl 318 rfl ?_
                  refine xl_iconst hh dL_law_318 1 rfl 319 rfl ?_
                  refine xl_iadd hh dL_law_319 320 rfl ?_
                  obtain ⟨hi38, hf⟩ := gi_some hf
                  refine xl_sld hh hx dL_law_320 hi38 321 rfl ?_
                  refine xl_aload_n hh dL_law_321 rfl 0 rfl 322 rfl ?_
                  refine xl_iload_n hh dL_law_322 rfl 3 rfl 323 rfl ?_
                  refine xl_iconst hh dL_law_323 2 rfl 324 rfl ?_
                  refine xl_iadd hh dL_law_324 325 rfl ?_
                  obtain ⟨hi39, hf⟩ := gi_some hf
                  refine xl_sld hh hx dL_law_325 hi39 326 rfl ?_
                  obtain ⟨q40, hq40, hf⟩ := b_some hf
                  refine xl_callV (rest := []) hh mi_X7_person [.int (xs (v3 + 1).toNatClampNeg), .int (xs (v3 + 2).toNatClampNeg)] dL_law_326 sh_0 wd_492 (C_X7_person l hX  hq40) rfl rfl ⟨Nat.le_of_ble_eq_true rfl, Nat.le_of_ble_eq_true rfl⟩ ⟨Nat.le_of_ble_eq_true rfl, Nat.le_of_ble_eq_true rfl⟩ (Nat.le_of_ble_eq_true rfl) 329 rfl [.int q40.1] rfl ?_
                  refine xl_aload_n hh dL_law_329 rfl 2 rfl 330 rfl ?_
                  refine xl_aload_n hh dL_law_330 rfl 0 rfl 331 rfl ?_
                  refine xl_iload_n hh dL_law_331 rfl 3 rfl 332 rfl ?_
                  refine xl_iconst hh dL_law_332 1 rfl 333 rfl ?_
                  refine xl_iadd hh dL_law_333 334 rfl ?_
                  obtain ⟨hi41, hf⟩ := gi_some hf
                  refine xl_sld hh hx dL_law_334 hi41 335 rfl ?_
                  refine xl_aload_n hh dL_law_335 rfl 0 rfl 336 rfl ?_
                  refine xl_iload_n hh dL_law_336 rfl 3 rfl 337 rfl ?_
                  refine xl_iconst hh dL_law_337 2 rfl 338 rfl ?_
                  refine xl_iadd hh dL_law_338 339 rfl ?_
                  obtain ⟨hi42, hf⟩ := gi_some hf
                  refine xl_sld hh hx dL_law_339 hi42 340 rfl ?_
                  obtain ⟨q43, hq43, hf⟩ := b_some hf
                  refine xl_callV (rest := [.int q40.1]) hh mi_X8_person [.int (xs (v3 + 1).toNatClampNeg), .int (xs (v3 + 2).toNatClampNeg)] dL_law_340 sh_59 wd_984 (C_X8_person l hX  hq43) rfl rfl ⟨Nat.le_of_ble_eq_true rfl, Nat.le_of_ble_eq_true rfl⟩ ⟨Nat.le_of_ble_eq_true rfl, Nat.le_of_ble_eq_true rfl⟩ (Nat.le_of_ble_eq_true rfl) 343 rfl [.int q43.1, .int q40.1] rfl ?_
                  refine xl_icmp_eq hh dL_law_343 964 rfl 346 rfl (fun hc44 => ?_) (fun hc44 => ?_)
                  · have hf := t_pos hc44 hf
                    exact Z_L_law_964 hX hh hr hx ih  v3 q43.2 hf
                  · have hf := t_neg hc44 hf
                    refine xl_iconst hh dL_law_346 0 rfl 347 rfl ?_
                    exact absurd (ret2 hf).1 (by decide)
                · have hf := t_neg hc37 hf
                  by_cases hc45 : ((xs v3.toNatClampNeg) &&& 31) = 6
                  · have hf := t_pos hc45 hf
                    refine xl_tableIn hh dL_law_32 (by rw [hc45]; decide) (by rw [hc45]; decide) 316 (by rw [hc45]; rfl) 348 rfl ?_
                    refine xl_aload_n hh dL_law_348 rfl 1 rfl 349 rfl ?_
                    refine xl_aload_n hh dL_law_349 rfl 0 rfl 350 rfl ?_
                    refine xl_iload_n hh dL_law_350 rfl 3 rfl 351 rfl ?_
                    refine xl_iconst hh dL_law_351 1 rfl 352 rfl ?_
                    refine xl_iadd hh dL_law_352 353 rfl ?_
                    obtain ⟨hi46, hf⟩ := gi_some hf
                    refine xl_sld hh hx dL_law_353 hi46 354 rfl ?_
                    refine xl_aload_n hh dL_law_354 rfl 0 rfl 355 rfl ?_
                    refine xl_iload_n hh dL_law_355 rfl 3 rfl 356 rfl ?_
                    refine xl_iconst hh dL_law_356 2 rfl 357 rfl ?_
                    refine xl_iadd hh dL_law_357 358 rfl ?_
                    obtain ⟨hi47, hf⟩ := gi_some hf
                    refine xl_sld hh hx dL_law_358 hi47 359 rfl ?_
                    obtain ⟨q48, hq48, hf⟩ := b_some hf
                    refine xl_callV (rest := []) hh mi_X7_friends [.int (xs (v3 + 1).toNatClampNeg), .int (xs (v3 + 2).toNatClampNeg)] dL_law_359 sh_0 wd_502 (C_X7_friends l hX  hq48) rfl rfl ⟨Nat.le_of_ble_eq_true rfl, Nat.le_of_ble_eq_true rfl⟩ ⟨Nat.le_of_ble_eq_true rfl, Nat.le_of_ble_eq_true rfl⟩ (Nat.le_of_ble_eq_true rfl) 362 rfl [.int q48.1] rfl ?_
                    refine xl_aload_n hh dL_law_362 rfl 2 rfl 363 rfl ?_
                    refine xl_aload_n hh dL_law_363 rfl 0 rfl 364 rfl ?_
                    refine xl_iload_n hh dL_law_364 rfl 3 rfl 365 rfl ?_
                    refine xl_iconst hh dL_law_365 1 rfl 366 rfl ?_
                    refine xl_iadd hh dL_law_366 367 rfl ?_
                    obtain ⟨hi49, hf⟩ := gi_some hf
                    refine xl_sld hh hx dL_law_367 hi49 368 rfl ?_
                    refine xl_aload_n hh dL_law_368 rfl 0 rfl 369 rfl ?_
                    refine xl_iload_n hh dL_law_369 rfl 3 rfl 370 rfl ?_
                    refine xl_iconst hh dL_law_370 2 rfl 371 rfl ?_
                    refine xl_iadd hh dL_law_371 372 rfl ?_
                    obtain ⟨hi50, hf⟩ := gi_some hf
                    refine xl_sld hh hx dL_law_372 hi50 373 rfl ?_
                    obtain ⟨q51, hq51, hf⟩ := b_some hf
                    refine xl_callV (rest := [.int q48.1]) hh mi_X8_friends [.int (xs (v3 + 1).toNatClampNeg), .int (xs (v3 + 2).toNatClampNeg)] dL_law_373 sh_59 wd_997 (C_X8_friends l hX  hq51) rfl rfl ⟨Nat.le_of_ble_eq_true rfl, Nat.le_of_ble_eq_true rfl⟩ ⟨Nat.le_of_ble_eq_true rfl, Nat.le_of_ble_eq_true rfl⟩ (Nat.le_of_ble_eq_true rfl) 376 rfl [.int q51.1, .int q48.1] rfl ?_
                    refine xl_icmp_eq hh dL_law_376 964 rfl 379 rfl (fun hc52 => ?_) (fun hc52 => ?_)
                    · have hf := t_pos hc52 hf
                      exact Z_L_law_964 hX hh hr hx ih  v3 q51.2 hf
                    · have hf := t_neg hc52 hf
                      refine xl_iconst hh dL_law_379 0 rfl 380 rfl ?_
                      exact absurd (ret2 hf).1 (by decide)
                  · have hf := t_neg hc45 hf
                    by_cases hc53 : ((xs v3.toNatClampNeg) &&& 31) = 7
                    · have hf := t_pos hc53 hf
                      refine xl_tableIn hh dL_law_32 (by rw [hc53]; decide) (by rw [hc53]; decide) 349 (by rw [hc53]; rfl) 381 rfl ?_
                      refine xl_aload_n hh dL_law_381 rfl 1 rfl 382 rfl ?_
                      refine xl_aload_n hh dL_law_382 rfl 0 rfl 383 rfl ?_
                      refine xl_iload_n hh dL_law_383 rfl 3 rfl 384 rfl ?_
                      refine xl_iconst hh dL_law_384 1 rfl 385 rfl ?_
                      refine xl_iadd hh dL_law_385 386 rfl ?_
                      obtain ⟨hi54, hf⟩ := gi_some hf
                      refine xl_sld hh hx dL_law_386 hi54 387 rfl ?_
                      obtain ⟨q55, hq55, hf⟩ := b_some hf
                      refine xl_callV (rest := []) hh mi_X7_law [.int (xs (v3 + 1).toNatClampNeg)] dL_law_387 sh_0 wd_507 (C_X7_law l hX  hq55) rfl rfl ⟨Nat.le_of_ble_eq_true rfl, Nat.le_of_ble_eq_true rfl⟩ ⟨Nat.le_of_ble_eq_true rfl, Nat.le_of_ble_eq_true rfl⟩ (Nat.le_of_ble_eq_true rfl) 390 rfl [.int q55.1] rfl ?_
                      refine xl_aload_n hh dL_law_390 rfl 2 rfl 391 rfl ?_
                      refine xl_aload_n hh dL_law_391 rfl 0 rfl 392 rfl ?_
                      refine xl_iload_n hh dL_law_392 rfl 3 rfl 393 rfl ?_
                      refine xl_iconst hh dL_law_393 1 rfl 394 rfl ?_
                      refine xl_iadd hh dL_law_394 395 rfl ?_
                      obtain ⟨hi56, hf⟩ := gi_some hf
                      refine xl_sld hh hx dL_law_395 hi56 396 rfl ?_
                      obtain ⟨q57, hq57, hf⟩ := b_some hf
                      refine xl_callV (rest := [.int q55.1]) hh mi_X8_law [.int (xs (v3 + 1).toNatClampNeg)] dL_law_396 sh_59 wd_1001 (C_X8_law l hX  hq57) rfl rfl ⟨Nat.le_of_ble_eq_true rfl, Nat.le_of_ble_eq_true rfl⟩ ⟨Nat.le_of_ble_eq_true rfl, Nat.le_of_ble_eq_true rfl⟩ (Nat.le_of_ble_eq_true rfl) 399 rfl [.int q57.1, .int q55.1] rfl ?_
                      refine xl_icmp_eq hh dL_law_399 964 rfl 402 rfl (fun hc58 => ?_) (fun hc58 => ?_)
                      · have hf := t_pos hc58 hf
                        exact Z_L_law_964 hX hh hr hx ih  v3 q57.2 hf
                      · have hf := t_neg hc58 hf
                        refine xl_iconst hh dL_law_402 0 rfl 403 rfl ?_
                        exact absurd (ret2 hf).1 (by decide)
                    · have hf := t_neg hc53 hf
                      by_cases hc59 : ((xs v3.toNatClampNeg) &&& 31) = 8
                      · have hf := t_pos hc59 hf
                        refine xl_tableIn hh dL_law_32 (by rw [hc59]; decide) (by rw [hc59]; decide) 372 (by rw [hc59]; rfl) 404 rfl ?_
                        refine xl_aload_n hh dL_law_404 rfl 1 rfl 405 rfl ?_
                        refine xl_aload_n hh dL_law_405 rfl 0 rfl 406 rfl ?_
                        refine xl_iload_n hh dL_law_406 rfl 3 rfl 407 rfl ?_
                        refine xl_iconst hh dL_law_407 1 rfl 408 rfl ?_
                        refine xl_iadd hh dL_law_408 409 rfl ?_
                        obtain ⟨hi60, hf⟩ := gi_some hf
                        refine xl_sld hh hx dL_law_409 hi60 410 rfl ?_
                        refine xl_aload_n hh dL_law_410 rfl 0 rfl 411 rfl ?_
                        refine xl_iload_n hh dL_law_411 rfl 3 rfl 412 rfl ?_
                        refine xl_iconst hh dL_law_412 2 rfl 413 rfl ?_
                        refine xl_iadd hh dL_law_413 414 rfl ?_
                        obtain ⟨hi61, hf⟩ := gi_some hf
                        refine xl_sld hh hx dL_law_414 hi61 415 rfl ?_
                        refine xl_aload_n hh dL_law_415 rfl 0 rfl 416 rfl ?_
                        refine xl_iload_n hh dL_law_416 rfl 3 rfl 417 rfl ?_
                        refine xl_iconst hh dL_law_417 3 rfl 418 rfl ?_
                        refine xl_iadd hh dL_law_418 419 rfl ?_
                        obtain ⟨hi62, hf⟩ := gi_some hf
                        refine xl_sld hh hx dL_law_419 hi62 420 rfl ?_
                        obtain ⟨q63, hq63, hf⟩ := b_some hf
                        refine xl_callV (rest := []) hh mi_X7_put [.int (xs (v3 + 1).toNatClampNeg), .int (xs (v3 + 2).toNatClampNeg), .int (xs (v3 + 3).toNatClampNeg)] dL_law_420 sh_0 wd_511 (C_X7_put l hX  hq63) rfl rfl ⟨Nat.le_of_ble_eq_true rfl, Nat.le_of_ble_eq_true rfl⟩ ⟨Nat.le_of_ble_eq_true rfl, Nat.le_of_ble_eq_true rfl⟩ (Nat.le_of_ble_eq_true rfl) 423 rfl [.int q63.1] rfl ?_
                        refine xl_aload_n hh dL_law_423 rfl 2 rfl 424 rfl ?_
                        refine xl_aload_n hh dL_law_424 rfl 0 rfl 425 rfl ?_
                        refine xl_iload_n hh dL_law_425 rfl 3 rfl 426 rfl ?_
                        refine xl_iconst hh dL_law_426 1 rfl 427 rfl ?_
                        refine xl_iadd hh dL_law_427 428 rfl ?_
                        obtain ⟨hi64, hf⟩ := gi_some hf
                        refine xl_sld hh hx dL_law_428 hi64 429 rfl ?_
                        refine xl_aload_n hh dL_law_429 rfl 0 rfl 430 rfl ?_
                        refine xl_iload_n hh dL_law_430 rfl 3 rfl 431 rfl ?_
                        refine xl_iconst hh dL_law_431 2 rfl 432 rfl ?_
                        refine xl_iadd hh dL_law_432 433 rfl ?_
                        obtain ⟨hi65, hf⟩ := gi_some hf
                        refine xl_sld hh hx dL_law_433 hi65 434 rfl ?_
                        refine xl_aload_n hh dL_law_434 rfl 0 rfl 435 rfl ?_
                        refine xl_iload_n hh dL_law_435 rfl 3 rfl 436 rfl ?_
                        refine xl_iconst hh dL_law_436 3 rfl 437 rfl ?_
                        refine xl_iadd hh dL_law_437 438 rfl ?_
                        obtain ⟨hi66, hf⟩ := gi_some hf
                        refine xl_sld hh hx dL_law_438 hi66 439 rfl ?_
                        obtain ⟨q67, hq67, hf⟩ := b_some hf
                        refine xl_callV (rest := [.int q63.1]) hh mi_X8_put [.int (xs (v3 + 1).toNatClampNeg), .int (xs (v3 + 2).toNatClampNeg), .int (xs (v3 + 3).toNatClampNeg)] dL_law_439 sh_59 wd_1005 (C_X8_put l hX  hq67) rfl rfl ⟨Nat.le_of_ble_eq_true rfl, Nat.le_of_ble_eq_true rfl⟩ ⟨Nat.le_of_ble_eq_true rfl, Nat.le_of_ble_eq_true rfl⟩ (Nat.le_of_ble_eq_true rfl) 442 rfl [.int q67.1, .int q63.1] rfl ?_
                        refine xl_icmp_eq hh dL_law_442 964 rfl 445 rfl (fun hc68 => ?_) (fun hc68 => ?_)
                        · have hf := t_pos hc68 hf
                          exact Z_L_law_964 hX hh hr hx ih  v3 q67.2 hf
                        · have hf := t_neg hc68 hf
                          refine xl_iconst hh dL_law_445 0 rfl 446 rfl ?_
                          exact absurd (ret2 hf).1 (by decide)
                      · have hf := t_neg hc59 hf
                        by_cases hc69 : ((xs v3.toNatClampNeg) &&& 31) = 9
                        · have hf := t_pos hc69 hf
                          refine xl_tableIn hh dL_law_32 (by rw [hc69]; decide) (by rw [hc69]; decide) 415 (by rw [hc69]; rfl) 447 rfl ?_
                          refine xl_aload_n hh dL_law_447 rfl 1 rfl 448 rfl ?_
                          refine xl_aload_n hh dL_law_448 rfl 0 rfl 449 rfl ?_
                          refine xl_iload_n hh dL_law_449 rfl 3 rfl 450 rfl ?_
                          refine xl_iconst hh dL_law_450 1 rfl 451 rfl ?_
                          refine xl_iadd hh dL_law_451 452 rfl ?_
                          obtain ⟨hi70, hf⟩ := gi_some hf
                          refine xl_sld hh hx dL_law_452 hi70 453 rfl ?_
                          obtain ⟨q71, hq71, hf⟩ := b_some hf
                          refine xl_callV (rest := []) hh mi_X7_leave [.int (xs (v3 + 1).toNatClampNeg)] dL_law_453 sh_0 wd_526 (C_X7_leave l hX  hq71) rfl rfl ⟨Nat.le_of_ble_eq_true rfl, Nat.le_of_ble_eq_true rfl⟩ ⟨Nat.le_of_ble_eq_true rfl, Nat.le_of_ble_eq_true rfl⟩ (Nat.le_of_ble_eq_true rfl) 456 rfl [.int q71.1] rfl ?_
                          refine xl_aload_n hh dL_law_456 rfl 2 rfl 457 rfl ?_
                          refine xl_aload_n hh dL_law_457 rfl 0 rfl 458 rfl ?_
                          refine xl_iload_n hh dL_law_458 rfl 3 rfl 459 rfl ?_
                          refine xl_iconst hh dL_law_459 1 rfl 460 rfl ?_
                          refine xl_iadd hh dL_law_460 461 rfl ?_
                          obtain ⟨hi72, hf⟩ := gi_some hf
                          refine xl_sld hh hx dL_law_461 hi72 462 rfl ?_
                          obtain ⟨q73, hq73, hf⟩ := b_some hf
                          refine xl_callV (rest := [.int q71.1]) hh mi_X8_leave [.int (xs (v3 + 1).toNatClampNeg)] dL_law_462 sh_59 wd_1016 (C_X8_leave l hX  hq73) rfl rfl ⟨Nat.le_of_ble_eq_true rfl, Nat.le_of_ble_eq_true rfl⟩ ⟨Nat.le_of_ble_eq_true rfl, Nat.le_of_ble_eq_true rfl⟩ (Nat.le_of_ble_eq_true rfl) 465 rfl [.int q73.1, .int q71.1] rfl ?_
                          refine xl_icmp_eq hh dL_law_465 964 rfl 468 rfl (fun hc74 => ?_) (fun hc74 => ?_)
                          · have hf := t_pos hc74 hf
                            exact Z_L_law_964 hX hh hr hx ih  v3 q73.2 hf
                          · have hf := t_neg hc74 hf
                            refine xl_iconst hh dL_law_468 0 rfl 469 rfl ?_
                            exact absurd (ret2 hf).1 (by decide)
                        · have hf := t_neg hc69 hf
                          by_cases hc75 : ((xs v3.toNatClampNeg) &&& 31) = 10
                          · have hf := t_pos hc75 hf
                            refine xl_tableIn hh dL_law_32 (by rw [hc75]; decide) (by rw [hc75]; decide) 438 (by rw [hc75]; rfl) 470 rfl ?_
                            refine xl_aload_n hh dL_law_470 rfl 1 rfl 471 rfl ?_
                            refine xl_aload_n hh dL_law_471 rfl 0 rfl 472 rfl ?_
                            refine xl_iload_n hh dL_law_472 rfl 3 rfl 473 rfl ?_
                            refine xl_iconst hh dL_law_473 1 rfl 474 rfl ?_
                            refine xl_iadd hh dL_law_474 475 rfl ?_
                            obtain ⟨hi76, hf⟩ := gi_some hf
                            refine xl_sld hh hx dL_law_475 hi76 476 rfl ?_
                            refine xl_aload_n hh dL_law_476 rfl 0 rfl 477 rfl ?_
                            refine xl_iload_n hh dL_law_477 rfl 3 rfl 478 rfl ?_
                            refine xl_iconst hh dL_law_478 2 rfl 479 rfl ?_
                            refine xl_iadd hh dL_law_479 480 rfl ?_
                            obtain ⟨hi77, hf⟩ := gi_some hf
                            refine xl_sld hh hx dL_law_480 hi77 481 rfl ?_
                            obtain ⟨q78, hq78, hf⟩ := b_some hf
                            refine xl_callV (rest := []) hh mi_X7_bend [.int (xs (v3 + 1).toNatClampNeg), .int (xs (v3 + 2).toNatClampNeg)] dL_law_481 sh_0 wd_531 (C_X7_bend l hX  hq78) rfl rfl ⟨Nat.le_of_ble_eq_true rfl, Nat.le_of_ble_eq_true rfl⟩ ⟨Nat.le_of_ble_eq_true rfl, Nat.le_of_ble_eq_true rfl⟩ (Nat.le_of_ble_eq_true rfl) 484 rfl [.int q78.1] rfl ?_
                            refine xl_aload_n hh dL_law_484 rfl 2 rfl 485 rfl ?_
                            refine xl_aload_n hh dL_law_485 rfl 0 rfl 486 rfl ?_
                            refine xl_iload_n hh dL_law_486 rfl 3 rfl 487 rfl ?_
                            refine xl_iconst hh dL_law_487 1 rfl 488 rfl ?_
                            refine xl_iadd hh dL_law_488 489 rfl ?_
                            obtain ⟨hi79, hf⟩ := gi_some hf
                            refine xl_sld hh hx dL_law_489 hi79 490 rfl ?_
                            refine xl_aload_n hh dL_law_490 rfl 0 rfl 491 rfl ?_
                            refine xl_iload_n hh dL_law_491 rfl 3 rfl 492 rfl ?_
                            refine xl_iconst hh dL_law_492 2 rfl 493 rfl ?_
                            refine xl_iadd hh dL_law_493 494 rfl ?_
                            obtain ⟨hi80, hf⟩ := gi_some hf
                            refine xl_sld hh hx dL_law_494 hi80 495 rfl ?_
                            obtain ⟨q81, hq81, hf⟩ := b_some hf
                            refine xl_callV (rest := [.int q78.1]) hh mi_X8_bend [.int (xs (v3 + 1).toNatClampNeg), .int (xs (v3 + 2).toNatClampNeg)] dL_law_495 sh_59 wd_1023 (C_X8_bend l hX  hq81) rfl rfl ⟨Nat.le_of_ble_eq_true rfl, Nat.le_of_ble_eq_true rfl⟩ ⟨Nat.le_of_ble_eq_true rfl, Nat.le_of_ble_eq_true rfl⟩ (Nat.le_of_ble_eq_true rfl) 498 rfl [.int q81.1, .int q78.1] rfl ?_
                            refine xl_icmp_eq hh dL_law_498 964 rfl 501 rfl (fun hc82 => ?_) (fun hc82 => ?_)
                            · have hf := t_pos hc82 hf
                              exact Z_L_law_964 hX hh hr hx ih  v3 q81.2 hf
                            · have hf := t_neg hc82 hf
                              refine xl_iconst hh dL_law_501 0 rfl 502 rfl ?_
                              exact absurd (ret2 hf).1 (by decide)
                          · have hf := t_neg hc75 hf
                            by_cases hc83 : ((xs v3.toNatClampNeg) &&& 31) = 11
                            · have hf := t_pos hc83 hf
                              refine xl_tableIn hh dL_law_32 (by rw [hc83]; decide) (by rw [hc83]; decide) 471 (by rw [hc83]; rfl) 503 rfl ?_
                              refine xl_aload_n hh dL_law_503 rfl 1 rfl 504 rfl ?_
                              refine xl_aload_n hh dL_law_504 rfl 0 rfl 505 rfl ?_
                              refine xl_iload_n hh dL_law_505 rfl 3 rfl 506 rfl ?_
                              refine xl_iconst hh dL_law_506 1 rfl 507 rfl ?_
                              refine xl_iadd hh dL_law_507 508 rfl ?_
                              obtain ⟨hi84, hf⟩ := gi_some hf
                              refine xl_sld hh hx dL_law_508 hi84 509 rfl ?_
                              refine xl_aload_n hh dL_law_509 rfl 0 rfl 510 rfl ?_
                              refine xl_iload_n hh dL_law_510 rfl 3 rfl 511 rfl ?_
                              refine xl_iconst hh dL_law_511 2 rfl 512 rfl ?_
                              refine xl_iadd hh dL_law_512 513 rfl ?_
                              obtain ⟨hi85, hf⟩ := gi_some hf
                              refine xl_sld hh hx dL_law_513 hi85 514 rfl ?_
                              obtain ⟨q86, hq86, hf⟩ := b_some hf
                              refine xl_callV (rest := []) hh mi_X7_first [.int (xs (v3 + 1).toNatClampNeg), .int (xs (v3 + 2).toNatClampNeg)] dL_law_514 sh_0 wd_535 (C_X7_first l hX  hq86) rfl rfl ⟨Nat.le_of_ble_eq_true rfl, Nat.le_of_ble_eq_true rfl⟩ ⟨Nat.le_of_ble_eq_true rfl, Nat.le_of_ble_eq_true rfl⟩ (Nat.le_of_ble_eq_true rfl) 517 rfl [.int q86.1] rfl ?_
                              refine xl_aload_n hh dL_law_517 rfl 2 rfl 518 rfl ?_
                              refine xl_aload_n hh dL_law_518 rfl 0 rfl 519 rfl ?_
                              refine xl_iload_n hh dL_law_519 rfl 3 rfl 520 rfl ?_
                              refine xl_iconst hh dL_law_520 1 rfl 521 rfl ?_
                              refine xl_iadd hh dL_law_521 522 rfl ?_
                              obtain ⟨hi87, hf⟩ := gi_some hf
                              refine xl_sld hh hx dL_law_522 hi87 523 rfl ?_
                              refine xl_aload_n hh dL_law_523 rfl 0 rfl 524 rfl ?_
                              refine xl_iload_n hh dL_law_524 rfl 3 rfl 525 rfl ?_
                              refine xl_iconst hh dL_law_525 2 rfl 526 rfl ?_
                              refine xl_iadd hh dL_law_526 527 rfl ?_
                              obtain ⟨hi88, hf⟩ := gi_some hf
                              refine xl_sld hh hx dL_law_527 hi88 528 rfl ?_
                              obtain ⟨q89, hq89, hf⟩ := b_some hf
                              refine xl_callV (rest := [.int q86.1]) hh mi_X8_first [.int (xs (v3 + 1).toNatClampNeg), .int (xs (v3 + 2).toNatClampNeg)] dL_law_528 sh_59 wd_1027 (C_X8_first l hX  hq89) rfl rfl ⟨Nat.le_of_ble_eq_true rfl, Nat.le_of_ble_eq_true rfl⟩ ⟨Nat.le_of_ble_eq_true rfl, Nat.le_of_ble_eq_true rfl⟩ (Nat.le_of_ble_eq_true rfl) 531 rfl [.int q89.1, .int q86.1] rfl ?_
                              refine xl_icmp_eq hh dL_law_531 964 rfl 534 rfl (fun hc90 => ?_) (fun hc90 => ?_)
                              · have hf := t_pos hc90 hf
                                exact Z_L_law_964 hX hh hr hx ih  v3 q89.2 hf
                              · have hf := t_neg hc90 hf
                                refine xl_iconst hh dL_law_534 0 rfl 535 rfl ?_
                                exact absurd (ret2 hf).1 (by decide)
                            · have hf := t_neg hc83 hf
                              by_cases hc91 : ((xs v3.toNatClampNeg) &&& 31) = 12
                              · have hf := t_pos hc91 hf
                                refine xl_tableIn hh dL_law_32 (by rw [hc91]; decide) (by rw [hc91]; decide) 504 (by rw [hc91]; rfl) 536 rfl ?_
                                refine xl_aload_n hh dL_law_536 rfl 1 rfl 537 rfl ?_
                                refine xl_aload_n hh dL_law_537 rfl 0 rfl 538 rfl ?_
                                refine xl_iload_n hh dL_law_538 rfl 3 rfl 539 rfl ?_
                                refine xl_iconst hh dL_law_539 1 rfl 540 rfl ?_
                                refine xl_iadd hh dL_law_540 541 rfl ?_
                                obtain ⟨hi92, hf⟩ := gi_some hf
                                refine xl_sld hh hx dL_law_541 hi92 542 rfl ?_
                                obtain ⟨q93, hq93, hf⟩ := b_some hf
                                refine xl_callV (rest := []) hh mi_X7_bow [.int (xs (v3 + 1).toNatClampNeg)] dL_law_542 sh_0 wd_560 (C_X7_bow l hX  hq93) rfl rfl ⟨Nat.le_of_ble_eq_true rfl, Nat.le_of_ble_eq_true rfl⟩ ⟨Nat.le_of_ble_eq_true rfl, Nat.le_of_ble_eq_true rfl⟩ (Nat.le_of_ble_eq_true rfl) 545 rfl [.int q93.1] rfl ?_
                                refine xl_aload_n hh dL_law_545 rfl 2 rfl 546 rfl ?_
                                refine xl_aload_n hh dL_law_546 rfl 0 rfl 547 rfl ?_
                                refine xl_iload_n hh dL_law_547 rfl 3 rfl 548 rfl ?_
                                refine xl_iconst hh dL_law_548 1 rfl 549 rfl ?_
                                refine xl_iadd hh dL_law_549 550 rfl ?_
                                obtain ⟨hi94, hf⟩ := gi_some hf
                                refine xl_sld hh hx dL_law_550 hi94 551 rfl ?_
                                obtain ⟨q95, hq95, hf⟩ := b_some hf
                                refine xl_callV (rest := [.int q93.1]) hh mi_X8_bow [.int (xs (v3 + 1).toNatClampNeg)] dL_law_551 sh_59 wd_1043 (C_X8_bow l hX  hq95) rfl rfl ⟨Nat.le_of_ble_eq_true rfl, Nat.le_of_ble_eq_true rfl⟩ ⟨Nat.le_of_ble_eq_true rfl, Nat.le_of_ble_eq_true rfl⟩ (Nat.le_of_ble_eq_true rfl) 554 rfl [.int q95.1, .int q93.1] rfl ?_
                                refine xl_icmp_eq hh dL_law_554 964 rfl 557 rfl (fun hc96 => ?_) (fun hc96 => ?_)
                                · have hf := t_pos hc96 hf
                                  exact Z_L_law_964 hX hh hr hx ih  v3 q95.2 hf
                                · have hf := t_neg hc96 hf
                                  refine xl_iconst hh dL_law_557 0 rfl 558 rfl ?_
                                  exact absurd (ret2 hf).1 (by decide)
                              · have hf := t_neg hc91 hf
                                by_cases hc97 : ((xs v3.toNatClampNeg) &&& 31) = 13
                                · have hf := t_pos hc97 hf
                                  refine xl_tableIn hh dL_law_32 (by rw [hc97]; decide) (by rw [hc97]; decide) 527 (by rw [hc97]; rfl) 559 rfl ?_
                                  refine xl_aload_n hh dL_law_559 rfl 1 rfl 560 rfl ?_
                                  refine xl_aload_n hh dL_law_560 rfl 0 rfl 561 rfl ?_
                                  refine xl_iload_n hh dL_law_561 rfl 3 rfl 562 rfl ?_
                                  refine xl_iconst hh dL_law_562 1 rfl 563 rfl ?_
                                  refine xl_iadd hh dL_law_563 564 rfl ?_
                                  obtain ⟨hi98, hf⟩ := gi_some hf
                                  refine xl_sld hh hx dL_law_564 hi98 565 rfl ?_
                                  obtain ⟨q99, hq99, hf⟩ := b_some hf
                                  refine xl_callV (rest := []) hh mi_X7_year [.int (xs (v3 + 1).toNatClampNeg)] dL_law_565 sh_0 wd_576 (C_X7_year l hX  hq99) rfl rfl ⟨Nat.le_of_ble_eq_true rfl, Nat.le_of_ble_eq_true rfl⟩ ⟨Nat.le_of_ble_eq_true rfl, Nat.le_of_ble_eq_true rfl⟩ (Nat.le_of_ble_eq_true rfl) 568 rfl [.int q99.1] rfl ?_
                                  refine xl_aload_n hh dL_law_568 rfl 2 rfl 569 rfl ?_
                                  refine xl_aload_n hh dL_law_569 rfl 0 rfl 570 rfl ?_
                                  refine xl_iload_n hh dL_law_570 rfl 3 rfl 571 rfl ?_
                                  refine xl_iconst hh dL_law_571 1 rfl 572 rfl ?_
                                  refine xl_iadd hh dL_law_572 573 rfl ?_
                                  obtain ⟨hi100, hf⟩ := gi_some hf
                                  refine xl_sld hh hx dL_law_573 hi100 574 rfl ?_
                                  obtain ⟨q101, hq101, hf⟩ := b_some hf
                                  refine xl_callV (rest := [.int q99.1]) hh mi_X8_year [.int (xs (v3 + 1).toNatClampNeg)] dL_law_574 sh_59 wd_1057 (C_X8_year l hX  hq101) rfl rfl ⟨Nat.le_of_ble_eq_true rfl, Nat.le_of_ble_eq_true rfl⟩ ⟨Nat.le_of_ble_eq_true rfl, Nat.le_of_ble_eq_true rfl⟩ (Nat.le_of_ble_eq_true rfl) 577 rfl [.int q101.1, .int q99.1] rfl ?_
                                  refine xl_icmp_eq hh dL_law_577 964 rfl 580 rfl (fun hc102 => ?_) (fun hc102 => ?_)
                                  · have hf := t_pos hc102 hf
                                    exact Z_L_law_964 hX hh hr hx ih  v3 q101.2 hf
                                  · have hf := t_neg hc102 hf
                                    refine xl_iconst hh dL_law_580 0 rfl 581 rfl ?_
                                    exact absurd (ret2 hf).1 (by decide)
                                · have hf := t_neg hc97 hf
                                  by_cases hc103 : ((xs v3.toNatClampNeg) &&& 31) = 14
                                  · have hf := t_pos hc103 hf
                                    refine xl_tableIn hh dL_law_32 (by rw [hc103]; decide) (by rw [hc103]; decide) 550 (by rw [hc103]; rfl) 582 rfl ?_
                                    refine xl_aload_n hh dL_law_582 rfl 1 rfl 583 rfl ?_
                                    refine xl_aload_n hh dL_law_583 rfl 0 rfl 584 rfl ?_
                                    refine xl_iload_n hh dL_law_584 rfl 3 rfl 585 rfl ?_
                                    refine xl_iconst hh dL_law_585 1 rfl 586 rfl ?_
                                    refine xl_iadd hh dL_law_586 587 rfl ?_
                                    obtain ⟨hi104, hf⟩ := gi_some hf
                                    refine xl_sld hh hx dL_law_587 hi104 588 rfl ?_
                                    refine xl_aload_n hh dL_law_588 rfl 0 rfl 589 rfl ?_
                                    refine xl_iload_n hh dL_law_589 rfl 3 rfl 590 rfl ?_
                                    refine xl_iconst hh dL_law_590 2 rfl 591 rfl ?_
                                    refine xl_iadd hh dL_law_591 592 rfl ?_
                                    obtain ⟨hi105, hf⟩ := gi_some hf
                                    refine xl_sld hh hx dL_law_592 hi105 593 rfl ?_
                                    refine xl_aload_n hh dL_law_593 rfl 0 rfl 594 rfl ?_
                                    refine xl_iload_n hh dL_law_594 rfl 3 rfl 595 rfl ?_
                                    refine xl_iconst hh dL_law_595 3 rfl 596 rfl ?_
                                    refine xl_iadd hh dL_law_596 597 rfl ?_
                                    obtain ⟨hi106, hf⟩ := gi_some hf
                                    refine xl_sld hh hx dL_law_597 hi106 598 rfl ?_
                                    obtain ⟨q107, hq107, hf⟩ := b_some hf
                                    refine xl_callV (rest := []) hh mi_X7_come [.int (xs (v3 + 1).toNatClampNeg), .int (xs (v3 + 2).toNatClampNeg), .int (xs (v3 + 3).toNatClampNeg)] dL_law_598 sh_0 wd_589 (C_X7_come l hX  hq107) rfl rfl ⟨Nat.le_of_ble_eq_true rfl, Nat.le_of_ble_eq_true rfl⟩ ⟨Nat.le_of_ble_eq_true rfl, Nat.le_of_ble_eq_true rfl⟩ (Nat.le_of_ble_eq_true rfl) 601 rfl [.int q107.1] rfl ?_
                                    refine xl_aload_n hh dL_law_601 rfl 2 rfl 602 rfl ?_
                                    refine xl_aload_n hh dL_law_602 rfl 0 rfl 603 rfl ?_
                                    refine xl_iload_n hh dL_law_603 rfl 3 rfl 604 rfl ?_
                                    refine xl_iconst hh dL_law_604 1 rfl 605 rfl ?_
                                    refine xl_iadd hh dL_law_605 606 rfl ?_
                                    obtain ⟨hi108, hf⟩ := gi_some hf
                                    refine xl_sld hh hx dL_law_606 hi108 607 rfl ?_
                                    refine xl_aload_n hh dL_law_607 rfl 0 rfl 608 rfl ?_
                                    refine xl_iload_n hh dL_law_608 rfl 3 rfl 609 rfl ?_
                                    refine xl_iconst hh dL_law_609 2 rfl 610 rfl ?_
                                    refine xl_iadd hh dL_law_610 611 rfl ?_
                                    obtain ⟨hi109, hf⟩ := gi_some hf
                                    refine xl_sld hh hx dL_law_611 hi109 612 rfl ?_
                                    refine xl_aload_n hh dL_law_612 rfl 0 rfl 613 rfl ?_
                                    refine xl_iload_n hh dL_law_613 rfl 3 rfl 614 rfl ?_
                                    refine xl_iconst hh dL_law_614 3 rfl 615 rfl ?_
                                    refine xl_iadd hh dL_law_615 616 rfl ?_
                                    obtain ⟨hi110, hf⟩ := gi_some hf
                                    refine xl_sld hh hx dL_law_616 hi110 617 rfl ?_
                                    obtain ⟨q111, hq111, hf⟩ := b_some hf
                                    refine xl_callV (rest := [.int q107.1]) hh mi_X8_come [.int (xs (v3 + 1).toNatClampNeg), .int (xs (v3 + 2).toNatClampNeg), .int (xs (v3 + 3).toNatClampNeg)] dL_law_617 sh_59 wd_1068 (C_X8_come l hX  hq111) rfl rfl ⟨Nat.le_of_ble_eq_true rfl, Nat.le_of_ble_eq_true rfl⟩ ⟨Nat.le_of_ble_eq_true rfl, Nat.le_of_ble_eq_true rfl⟩ (Nat.le_of_ble_eq_true rfl) 620 rfl [.int q111.1, .int q107.1] rfl ?_
                                    refine xl_icmp_eq hh dL_law_620 964 rfl 623 rfl (fun hc112 => ?_) (fun hc112 => ?_)
                                    · have hf := t_pos hc112 hf
                                      exact Z_L_law_964 hX hh hr hx ih  v3 q111.2 hf
                                    · have hf := t_neg hc112 hf
                                      refine xl_iconst hh dL_law_623 0 rfl 624 rfl ?_
                                      exact absurd (ret2 hf).1 (by decide)
                                  · have hf := t_neg hc103 hf
                                    by_cases hc113 : ((xs v3.toNatClampNeg) &&& 31) = 15
                                    · have hf := t_pos hc113 hf
                                      refine xl_tableIn hh dL_law_32 (by rw [hc113]; decide) (by rw [hc113]; decide) 593 (by rw [hc113]; rfl) 625 rfl ?_
                                      refine xl_aload_n hh dL_law_625 rfl 1 rfl 626 rfl ?_
                                      refine xl_aload_n hh dL_law_626 rfl 0 rfl 627 rfl ?_
                                      refine xl_iload_n hh dL_law_627 rfl 3 rfl 628 rfl ?_
                                      refine xl_iconst hh dL_law_628 1 rfl 629 rfl ?_
                                      refine xl_iadd hh dL_law_629 630 rfl ?_
                                      obtain ⟨hi114, hf⟩ := gi_some hf
                                      refine xl_sld hh hx dL_law_630 hi114 631 rfl ?_
                                      refine xl_aload_n hh dL_law_631 rfl 0 rfl 632 rfl ?_
                                      refine xl_iload_n hh dL_law_632 rfl 3 rfl 633 rfl ?_
                                      refine xl_iconst hh dL_law_633 2 rfl 634 rfl ?_
                                      refine xl_iadd hh dL_law_634 635 rfl ?_
                                      obtain ⟨hi115, hf⟩ := gi_some hf
                                      refine xl_sld hh hx dL_law_635 hi115 636 rfl ?_
                                      refine xl_aload_n hh dL_law_636 rfl 0 rfl 637 rfl ?_
                                      refine xl_iload_n hh dL_law_637 rfl 3 rfl 638 rfl ?_
                                      refine xl_iconst hh dL_law_638 3 rfl 639 rfl ?_
                                      refine xl_iadd hh dL_law_639 640 rfl ?_
                                      obtain ⟨hi116, hf⟩ := gi_some hf
                                      refine xl_sld hh hx dL_law_640 hi116 641 rfl ?_
                                      obtain ⟨q117, hq117, hf⟩ := b_some hf
                                      refine xl_callV (rest := []) hh mi_X7_party [.int (xs (v3 + 1).toNatClampNeg), .int (xs (v3 + 2).toNatClampNeg), .int (xs (v3 + 3).toNatClampNeg)] dL_law_641 sh_0 wd_608 (C_X7_party l hX  hq117) rfl rfl ⟨Nat.le_of_ble_eq_true rfl, Nat.le_of_ble_eq_true rfl⟩ ⟨Nat.le_of_ble_eq_true rfl, Nat.le_of_ble_eq_true rfl⟩ (Nat.le_of_ble_eq_true rfl) 644 rfl [.int q117.1] rfl ?_
                                      refine xl_aload_n hh dL_law_644 rfl 2 rfl 645 rfl ?_
                                      refine xl_aload_n hh dL_law_645 rfl 0 rfl 646 rfl ?_
                                      refine xl_iload_n hh dL_law_646 rfl 3 rfl 647 rfl ?_
                                      refine xl_iconst hh dL_law_647 1 rfl 648 rfl ?_
                                      refine xl_iadd hh dL_law_648 649 rfl ?_
                                      obtain ⟨hi118, hf⟩ := gi_some hf
                                      refine xl_sld hh hx dL_law_649 hi118 650 rfl ?_
                                      refine xl_aload_n hh dL_law_650 rfl 0 rfl 651 rfl ?_
                                      refine xl_iload_n hh dL_law_651 rfl 3 rfl 652 rfl ?_
                                      refine xl_iconst hh dL_law_652 2 rfl 653 rfl ?_
                                      refine xl_iadd hh dL_law_653 654 rfl ?_
                                      obtain ⟨hi119, hf⟩ := gi_some hf
                                      refine xl_sld hh hx dL_law_654 hi119 655 rfl ?_
                                      refine xl_aload_n hh dL_law_655 rfl 0 rfl 656 rfl ?_
                                      refine xl_iload_n hh dL_law_656 rfl 3 rfl 657 rfl ?_
                                      refine xl_iconst hh dL_law_657 3 rfl 658 rfl ?_
                                      refine xl_iadd hh dL_law_658 659 rfl ?_
                                      obtain ⟨hi120, hf⟩ := gi_some hf
                                      refine xl_sld hh hx dL_law_659 hi120 660 rfl ?_
                                      obtain ⟨q121, hq121, hf⟩ := b_some hf
                                      refine xl_callV (rest := [.int q117.1]) hh mi_X8_party [.int (xs (v3 + 1).toNatClampNeg), .int (xs (v3 + 2).toNatClampNeg), .int (xs (v3 + 3).toNatClampNeg)] dL_law_660 sh_59 wd_1078 (C_X8_party l hX  hq121) rfl rfl ⟨Nat.le_of_ble_eq_true rfl, Nat.le_of_ble_eq_true rfl⟩ ⟨Nat.le_of_ble_eq_true rfl, Nat.le_of_ble_eq_true rfl⟩ (Nat.le_of_ble_eq_true rfl) 663 rfl [.int q121.1, .int q117.1] rfl ?_
                                      refine xl_icmp_eq hh dL_law_663 964 rfl 666 rfl (fun hc122 => ?_) (fun hc122 => ?_)
                                      · have hf := t_pos hc122 hf
                                        exact Z_L_law_964 hX hh hr hx ih  v3 q121.2 hf
                                      · have hf := t_neg hc122 hf
                                        refine xl_iconst hh dL_law_666 0 rfl 667 rfl ?_
                                        exact absurd (ret2 hf).1 (by decide)
                                    · have hf := t_neg hc113 hf
                                      by_cases hc123 : ((xs v3.toNatClampNeg) &&& 31) = 16
                                      · have hf := t_pos hc123 hf
                                        refine xl_tableIn hh dL_law_32 (by rw [hc123]; decide) (by rw [hc123]; decide) 636 (by rw [hc123]; rfl) 668 rfl ?_
                                        refine xl_aload_n hh dL_law_668 rfl 1 rfl 669 rfl ?_
                                        refine xl_aload_n hh dL_law_669 rfl 0 rfl 670 rfl ?_
                                        refine xl_iload_n hh dL_law_670 rfl 3 rfl 671 rfl ?_
                                        refine xl_iconst hh dL_law_671 1 rfl 672 rfl ?_
                                        refine xl_iadd hh dL_law_672 673 rfl ?_
                                        obtain ⟨hi124, hf⟩ := gi_some hf
                                        refine xl_sld hh hx dL_law_673 hi124 674 rfl ?_
                                        refine xl_aload_n hh dL_law_674 rfl 0 rfl 675 rfl ?_
                                        refine xl_iload_n hh dL_law_675 rfl 3 rfl 676 rfl ?_
                                        refine xl_iconst hh dL_law_676 2 rfl 677 rfl ?_
                                        refine xl_iadd hh dL_law_677 678 rfl ?_
                                        obtain ⟨hi125, hf⟩ := gi_some hf
                                        refine xl_sld hh hx dL_law_678 hi125 679 rfl ?_
                                        obtain ⟨q126, hq126, hf⟩ := b_some hf
                                        refine xl_callV (rest := []) hh mi_X7_feast [.int (xs (v3 + 1).toNatClampNeg), .int (xs (v3 + 2).toNatClampNeg)] dL_law_679 sh_0 wd_655 (C_X7_feast l hX  hq126) rfl rfl ⟨Nat.le_of_ble_eq_true rfl, Nat.le_of_ble_eq_true rfl⟩ ⟨Nat.le_of_ble_eq_true rfl, Nat.le_of_ble_eq_true rfl⟩ (Nat.le_of_ble_eq_true rfl) 682 rfl [.int q126.1] rfl ?_
                                        refine xl_aload_n hh dL_law_682 rfl 2 rfl 683 rfl ?_
                                        refine xl_aload_n hh dL_law_683 rfl 0 rfl 684 rfl ?_
                                        refine xl_iload_n hh dL_law_684 rfl 3 rfl 685 rfl ?_
                                        refine xl_iconst hh dL_law_685 1 rfl 686 rfl ?_
                                        refine xl_iadd hh dL_law_686 687 rfl ?_
                                        obtain ⟨hi127, hf⟩ := gi_some hf
                                        refine xl_sld hh hx dL_law_687 hi127 688 rfl ?_
                                        refine xl_aload_n hh dL_law_688 rfl 0 rfl 689 rfl ?_
                                        refine xl_iload_n hh dL_law_689 rfl 3 rfl 690 rfl ?_
                                        refine xl_iconst hh dL_law_690 2 rfl 691 rfl ?_
                                        refine xl_iadd hh dL_law_691 692 rfl ?_
                                        obtain ⟨hi128, hf⟩ := gi_some hf
                                        refine xl_sld hh hx dL_law_692 hi128 693 rfl ?_
                                        obtain ⟨q129, hq129, hf⟩ := b_some hf
                                        refine xl_callV (rest := [.int q126.1]) hh mi_X8_feast [.int (xs (v3 + 1).toNatClampNeg), .int (xs (v3 + 2).toNatClampNeg)] dL_law_693 sh_59 wd_1097 (C_X8_feast l hX  hq129) rfl rfl ⟨Nat.le_of_ble_eq_true rfl, Nat.le_of_ble_eq_true rfl⟩ ⟨Nat.le_of_ble_eq_true rfl, Nat.le_of_ble_eq_true rfl⟩ (Nat.le_of_ble_eq_true rfl) 696 rfl [.int q129.1, .int q126.1] rfl ?_
                                        refine xl_icmp_eq hh dL_law_696 964 rfl 699 rfl (fun hc130 => ?_) (fun hc130 => ?_)
                                        · have hf := t_pos hc130 hf
                                          exact Z_L_law_964 hX hh hr hx ih  v3 q129.2 hf
                                        · have hf := t_neg hc130 hf
                                          refine xl_iconst hh dL_law_699 0 rfl 700 rfl ?_
                                          exact absurd (ret2 hf).1 (by decide)
                                      · have hf := t_neg hc123 hf
                                        by_cases hc131 : ((xs v3.toNatClampNeg) &&& 31) = 17
                                        · have hf := t_pos hc131 hf
                                          refine xl_tableIn hh dL_law_32 (by rw [hc131]; decide) (by rw [hc131]; decide) 669 (by rw [hc131]; rfl) 701 rfl ?_
                                          refine xl_aload_n hh dL_law_701 rfl 1 rfl 702 rfl ?_
                                          refine xl_aload_n hh dL_law_702 rfl 0 rfl 703 rfl ?_
                                          refine xl_iload_n hh dL_law_703 rfl 3 rfl 704 rfl ?_
                                          refine xl_iconst hh dL_law_704 1 rfl 705 rfl ?_
                                          refine xl_iadd hh dL_law_705 706 rfl ?_
                                          obtain ⟨hi132, hf⟩ := gi_some hf
                                          refine xl_sld hh hx dL_law_706 hi132 707 rfl ?_
                                          refine xl_aload_n hh dL_law_707 rfl 0 rfl 708 rfl ?_
                                          refine xl_iload_n hh dL_law_708 rfl 3 rfl 709 rfl ?_
                                          refine xl_iconst hh dL_law_709 2 rfl 710 rfl ?_
                                          refine xl_iadd hh dL_law_710 711 rfl ?_
                                          obtain ⟨hi133, hf⟩ := gi_some hf
                                          refine xl_sld hh hx dL_law_711 hi133 712 rfl ?_
                                          obtain ⟨q134, hq134, hf⟩ := b_some hf
                                          refine xl_callV (rest := []) hh mi_X7_cuts [.int (xs (v3 + 1).toNatClampNeg), .int (xs (v3 + 2).toNatClampNeg)] dL_law_712 sh_0 wd_696 (C_X7_cuts l hX  hq134) rfl rfl ⟨Nat.le_of_ble_eq_true rfl, Nat.le_of_ble_eq_true rfl⟩ ⟨Nat.le_of_ble_eq_true rfl, Nat.le_of_ble_eq_true rfl⟩ (Nat.le_of_ble_eq_true rfl) 715 rfl [.int q134.1] rfl ?_
                                          refine xl_aload_n hh dL_law_715 rfl 2 rfl 716 rfl ?_
                                          refine xl_aload_n hh dL_law_716 rfl 0 rfl 717 rfl ?_
                                          refine xl_iload_n hh dL_law_717 rfl 3 rfl 718 rfl ?_
                                          refine xl_iconst hh dL_law_718 1 rfl 719 rfl ?_
                                          refine xl_iadd hh dL_law_719 720 rfl ?_
                                          obtain ⟨hi135, hf⟩ := gi_some hf
                                          refine xl_sld hh hx dL_law_720 hi135 721 rfl ?_
                                          refine xl_aload_n hh dL_law_721 rfl 0 rfl 722 rfl ?_
                                          refine xl_iload_n hh dL_law_722 rfl 3 rfl 723 rfl ?_
                                          refine xl_iconst hh dL_law_723 2 rfl 724 rfl ?_
                                          refine xl_iadd hh dL_law_724 725 rfl ?_
                                          obtain ⟨hi136, hf⟩ := gi_some hf
                                          refine xl_sld hh hx dL_law_725 hi136 726 rfl ?_
                                          obtain ⟨q137, hq137, hf⟩ := b_some hf
                                          refine xl_callV (rest := [.int q134.1]) hh mi_X8_cuts [.int (xs (v3 + 1).toNatClampNeg), .int (xs (v3 + 2).toNatClampNeg)] dL_law_726 sh_59 wd_1113 (C_X8_cuts l hX  hq137) rfl rfl ⟨Nat.le_of_ble_eq_true rfl, Nat.le_of_ble_eq_true rfl⟩ ⟨Nat.le_of_ble_eq_true rfl, Nat.le_of_ble_eq_true rfl⟩ (Nat.le_of_ble_eq_true rfl) 729 rfl [.int q137.1, .int q134.1] rfl ?_
                                          refine xl_icmp_eq hh dL_law_729 964 rfl 732 rfl (fun hc138 => ?_) (fun hc138 => ?_)
                                          · have hf := t_pos hc138 hf
                                            exact Z_L_law_964 hX hh hr hx ih  v3 q137.2 hf
                                          · have hf := t_neg hc138 hf
                                            refine xl_iconst hh dL_law_732 0 rfl 733 rfl ?_
                                            exact absurd (ret2 hf).1 (by decide)
                                        · have hf := t_neg hc131 hf
                                          by_cases hc139 : ((xs v3.toNatClampNeg) &&& 31) = 18
                                          · have hf := t_pos hc139 hf
                                            refine xl_tableIn hh dL_law_32 (by rw [hc139]; decide) (by rw [hc139]; decide) 702 (by rw [hc139]; rfl) 734 rfl ?_
                                            refine xl_aload_n hh dL_law_734 rfl 1 rfl 735 rfl ?_
                                            obtain ⟨q140, hq140, hf⟩ := b_some hf
                                            refine xl_callV (rest := []) hh mi_X7_till [] dL_law_735 sh_0 wd_718 (C_X7_till l hX  hq140) rfl rfl ⟨Nat.le_of_ble_eq_true rfl, Nat.le_of_ble_eq_true rfl⟩ ⟨Nat.le_of_ble_eq_true rfl, Nat.le_of_ble_eq_true rfl⟩ (Nat.le_of_ble_eq_true rfl) 738 rfl [.int q140.1] rfl ?_
                                            refine xl_aload_n hh dL_law_738 rfl 2 rfl 739 rfl ?_
                                            obtain ⟨q141, hq141, hf⟩ := b_some hf
                                            refine xl_callV (rest := [.int q140.1]) hh mi_X8_till [] dL_law_739 sh_59 wd_1117 (C_X8_till l hX  hq141) rfl rfl ⟨Nat.le_of_ble_eq_true rfl, Nat.le_of_ble_eq_true rfl⟩ ⟨Nat.le_of_ble_eq_true rfl, Nat.le_of_ble_eq_true rfl⟩ (Nat.le_of_ble_eq_true rfl) 742 rfl [.int q141.1, .int q140.1] rfl ?_
                                            refine xl_icmp_eq hh dL_law_742 964 rfl 745 rfl (fun hc142 => ?_) (fun hc142 => ?_)
                                            · have hf := t_pos hc142 hf
                                              exact Z_L_law_964 hX hh hr hx ih  v3 q141.2 hf
                                            · have hf := t_neg hc142 hf
                                              refine xl_iconst hh dL_law_745 0 rfl 746 rfl ?_
                                              exact absurd (ret2 hf).1 (by decide)
                                          · have hf := t_neg hc139 hf
                                            by_cases hc143 : ((xs v3.toNatClampNeg) &&& 31) = 19
                                            · have hf := t_pos hc143 hf
                                              refine xl_tableIn hh dL_law_32 (by rw [hc143]; decide) (by rw [hc143]; decide) 715 (by rw [hc143]; rfl) 747 rfl ?_
                                              refine xl_aload_n hh dL_law_747 rfl 1 rfl 748 rfl ?_
                                              refine xl_aload_n hh dL_law_748 rfl 0 rfl 749 rfl ?_
                                              refine xl_iload_n hh dL_law_749 rfl 3 rfl 750 rfl ?_
                                              refine xl_iconst hh dL_law_750 1 rfl 751 rfl ?_
                                              refine xl_iadd hh dL_law_751 752 rfl ?_
                                              obtain ⟨hi144, hf⟩ := gi_some hf
                                              refine xl_sld hh hx dL_law_752 hi144 753 rfl ?_
                                              refine xl_aload_n hh dL_law_753 rfl 0 rfl 754 rfl ?_
                                              refine xl_iload_n hh dL_law_754 rfl 3 rfl 755 rfl ?_
                                              refine xl_iconst hh dL_law_755 2 rfl 756 rfl ?_
                                              refine xl_iadd hh dL_law_756 757 rfl ?_
                                              obtain ⟨hi145, hf⟩ := gi_some hf
                                              refine xl_sld hh hx dL_law_757 hi145 758 rfl ?_
                                              obtain ⟨q146, hq146, hf⟩ := b_some hf
                                              refine xl_callV (rest := []) hh mi_X7_seen [.int (xs (v3 + 1).toNatClampNeg), .int (xs (v3 + 2).toNatClampNeg)] dL_law_758 sh_0 wd_722 (C_X7_seen l hX  hq146) rfl rfl ⟨Nat.le_of_ble_eq_true rfl, Nat.le_of_ble_eq_true rfl⟩ ⟨Nat.le_of_ble_eq_true rfl, Nat.le_of_ble_eq_true rfl⟩ (Nat.le_of_ble_eq_true rfl) 761 rfl [.int q146.1] rfl ?_
                                              refine xl_aload_n hh dL_law_761 rfl 2 rfl 762 rfl ?_
                                              refine xl_aload_n hh dL_law_762 rfl 0 rfl 763 rfl ?_
                                              refine xl_iload_n hh dL_law_763 rfl 3 rfl 764 rfl ?_
                                              refine xl_iconst hh dL_law_764 1 rfl 765 rfl ?_
                                              refine xl_iadd hh dL_law_765 766 rfl ?_
                                              obtain ⟨hi147, hf⟩ := gi_some hf
                                              refine xl_sld hh hx dL_law_766 hi147 767 rfl ?_
                                              refine xl_aload_n hh dL_law_767 rfl 0 rfl 768 rfl ?_
                                              refine xl_iload_n hh dL_law_768 rfl 3 rfl 769 rfl ?_
                                              refine xl_iconst hh dL_law_769 2 rfl 770 rfl ?_
                                              refine xl_iadd hh dL_law_770 771 rfl ?_
                                              obtain ⟨hi148, hf⟩ := gi_some hf
                                              refine xl_sld hh hx dL_law_771 hi148 772 rfl ?_
                                              obtain ⟨q149, hq149, hf⟩ := b_some hf
                                              refine xl_callV (rest := [.int q146.1]) hh mi_X8_seen [.int (xs (v3 + 1).toNatClampNeg), .int (xs (v3 + 2).toNatClampNeg)] dL_law_772 sh_59 wd_1121 (C_X8_seen l hX  hq149) rfl rfl ⟨Nat.le_of_ble_eq_true rfl, Nat.le_of_ble_eq_true rfl⟩ ⟨Nat.le_of_ble_eq_true rfl, Nat.le_of_ble_eq_true rfl⟩ (Nat.le_of_ble_eq_true rfl) 775 rfl [.int q149.1, .int q146.1] rfl ?_
                                              refine xl_icmp_eq hh dL_law_775 964 rfl 778 rfl (fun hc150 => ?_) (fun hc150 => ?_)
                                              · have hf := t_pos hc150 hf
                                                exact Z_L_law_964 hX hh hr hx ih  v3 q149.2 hf
                                              · have hf := t_neg hc150 hf
                                                refine xl_iconst hh dL_law_778 0 rfl 779 rfl ?_
                                                exact absurd (ret2 hf).1 (by decide)
                                            · have hf := t_neg hc143 hf
                                              by_cases hc151 : ((xs v3.toNatClampNeg) &&& 31) = 20
                                              · have hf := t_pos hc151 hf
                                                refine xl_tableIn hh dL_law_32 (by rw [hc151]; decide) (by rw [hc151]; decide) 748 (by rw [hc151]; rfl) 780 rfl ?_
                                                refine xl_aload_n hh dL_law_780 rfl 1 rfl 781 rfl ?_
                                                refine xl_aload_n hh dL_law_781 rfl 0 rfl 782 rfl ?_
                                                refine xl_iload_n hh dL_law_782 rfl 3 rfl 783 rfl ?_
                                                refine xl_iconst hh dL_law_783 1 rfl 784 rfl ?_
                                                refine xl_iadd hh dL_law_784 785 rfl ?_
                                                obtain ⟨hi152, hf⟩ := gi_some hf
                                                refine xl_sld hh hx dL_law_785 hi152 786 rfl ?_
                                                refine xl_aload_n hh dL_law_786 rfl 0 rfl 787 rfl ?_
                                                refine xl_iload_n hh dL_law_787 rfl 3 rfl 788 rfl ?_
                                                refine xl_iconst hh dL_law_788 2 rfl 789 rfl ?_
                                                refine xl_iadd hh dL_law_789 790 rfl ?_
                                                obtain ⟨hi153, hf⟩ := gi_some hf
                                                refine xl_sld hh hx dL_law_790 hi153 791 rfl ?_
                                                refine xl_aload_n hh dL_law_791 rfl 0 rfl 792 rfl ?_
                                                refine xl_iload_n hh dL_law_792 rfl 3 rfl 793 rfl ?_
                                                refine xl_iconst hh dL_law_793 3 rfl 794 rfl ?_
                                                refine xl_iadd hh dL_law_794 795 rfl ?_
                                                obtain ⟨hi154, hf⟩ := gi_some hf
                                                refine xl_sld hh hx dL_law_795 hi154 796 rfl ?_
                                                obtain ⟨q155, hq155, hf⟩ := b_some hf
                                                refine xl_callV (rest := []) hh mi_X7_write [.int (xs (v3 + 1).toNatClampNeg), .int (xs (v3 + 2).toNatClampNeg), .int (xs (v3 + 3).toNatClampNeg)] dL_law_796 sh_0 wd_739 (C_X7_write l hX  hq155) rfl rfl ⟨Nat.le_of_ble_eq_true rfl, Nat.le_of_ble_eq_true rfl⟩ ⟨Nat.le_of_ble_eq_true rfl, Nat.le_of_ble_eq_true rfl⟩ (Nat.le_of_ble_eq_true rfl) 799 rfl [.int q155.1] rfl ?_
                                                refine xl_aload_n hh dL_law_799 rfl 2 rfl 800 rfl ?_
                                                refine xl_aload_n hh dL_law_800 rfl 0 rfl 801 rfl ?_
                                                refine xl_iload_n hh dL_law_801 rfl 3 rfl 802 rfl ?_
                                                refine xl_iconst hh dL_law_802 1 rfl 803 rfl ?_
                                                refine xl_iadd hh dL_law_803 804 rfl ?_
                                                obtain ⟨hi156, hf⟩ := gi_some hf
                                                refine xl_sld hh hx dL_law_804 hi156 805 rfl ?_
                                                refine xl_aload_n hh dL_law_805 rfl 0 rfl 806 rfl ?_
                                                refine xl_iload_n hh dL_law_806 rfl 3 rfl 807 rfl ?_
                                                refine xl_iconst hh dL_law_807 2 rfl 808 rfl ?_
                                                refine xl_iadd hh dL_law_808 809 rfl ?_
                                                obtain ⟨hi157, hf⟩ := gi_some hf
                                                refine xl_sld hh hx dL_law_809 hi157 810 rfl ?_
                                                refine xl_aload_n hh dL_law_810 rfl 0 rfl 811 rfl ?_
                                                refine xl_iload_n hh dL_law_811 rfl 3 rfl 812 rfl ?_
                                                refine xl_iconst hh dL_law_812 3 rfl 813 rfl ?_
                                                refine xl_iadd hh dL_law_813 814 rfl ?_
                                                obtain ⟨hi158, hf⟩ := gi_some hf
                                                refine xl_sld hh hx dL_law_814 hi158 815 rfl ?_
                                                obtain ⟨q159, hq159, hf⟩ := b_some hf
                                                refine xl_callV (rest := [.int q155.1]) hh mi_X8_write [.int (xs (v3 + 1).toNatClampNeg), .int (xs (v3 + 2).toNatClampNeg), .int (xs (v3 + 3).toNatClampNeg)] dL_law_815 sh_59 wd_1134 (C_X8_write l hX  hq159) rfl rfl ⟨Nat.le_of_ble_eq_true rfl, Nat.le_of_ble_eq_true rfl⟩ ⟨Nat.le_of_ble_eq_true rfl, Nat.le_of_ble_eq_true rfl⟩ (Nat.le_of_ble_eq_true rfl) 818 rfl [.int q159.1, .int q155.1] rfl ?_
                                                refine xl_icmp_eq hh dL_law_818 964 rfl 821 rfl (fun hc160 => ?_) (fun hc160 => ?_)
                                                · have hf := t_pos hc160 hf
                                                  exact Z_L_law_964 hX hh hr hx ih  v3 q159.2 hf
                                                · have hf := t_neg hc160 hf
                                                  refine xl_iconst hh dL_law_821 0 rfl 822 rfl ?_
                                                  exact absurd (ret2 hf).1 (by decide)
                                              · have hf := t_neg hc151 hf
                                                by_cases hc161 : ((xs v3.toNatClampNeg) &&& 31) = 21
                                                · have hf := t_pos hc161 hf
                                                  refine xl_tableIn hh dL_law_32 (by rw [hc161]; decide) (by rw [hc161]; decide) 791 (by rw [hc161]; rfl) 823 rfl ?_
                                                  refine xl_aload_n hh dL_law_823 rfl 1 rfl 824 rfl ?_
                                                  obtain ⟨q162, hq162, hf⟩ := b_some hf
                                                  refine xl_callV (rest := []) hh mi_X7_tear [] dL_law_824 sh_0 wd_747 (C_X7_tear l hX  hq162) rfl rfl ⟨Nat.le_of_ble_eq_true rfl, Nat.le_of_ble_eq_true rfl⟩ ⟨Nat.le_of_ble_eq_true rfl, Nat.le_of_ble_eq_true rfl⟩ (Nat.le_of_ble_eq_true rfl) 827 rfl [.int q162.1] rfl ?_
                                                  refine xl_aload_n hh dL_law_827 rfl 2 rfl 828 rfl ?_
                                                  obtain ⟨q163, hq163, hf⟩ := b_some hf
                                                  refine xl_callV (rest := [.int q162.1]) hh mi_X8_tear [] dL_law_828 sh_59 wd_1138 (C_X8_tear l hX  hq163) rfl rfl ⟨Nat.le_of_ble_eq_true rfl, Nat.le_of_ble_eq_true rfl⟩ ⟨Nat.le_of_ble_eq_true rfl, Nat.le_of_ble_eq_true rfl⟩ (Nat.le_of_ble_eq_true rfl) 831 rfl [.int q163.1, .int q162.1] rfl ?_
                                                  refine xl_icmp_eq hh dL_law_831 964 rfl 834 rfl (fun hc164 => ?_) (fun hc164 => ?_)
                                                  · have hf := t_pos hc164 hf
                                                    exact Z_L_law_964 hX hh hr hx ih  v3 q163.2 hf
                                                  · have hf := t_neg hc164 hf
                                                    refine xl_iconst hh dL_law_834 0 rfl 835 rfl ?_
                                                    exact absurd (ret2 hf).1 (by decide)
                                                · have hf := t_neg hc161 hf
                                                  by_cases hc165 : ((xs v3.toNatClampNeg) &&& 31) = 22
                                                  · have hf := t_pos hc165 hf
                                                    refine xl_tableIn hh dL_law_32 (by rw [hc165]; decide) (by rw [hc165]; decide) 804 (by rw [hc165]; rfl) 836 rfl ?_
                                                    refine xl_aload_n hh dL_law_836 rfl 1 rfl 837 rfl ?_
                                                    refine xl_aload_n hh dL_law_837 rfl 0 rfl 838 rfl ?_
                                                    refine xl_iload_n hh dL_law_838 rfl 3 rfl 839 rfl ?_
                                                    refine xl_iconst hh dL_law_839 1 rfl 840 rfl ?_
                                                    refine xl_iadd hh dL_law_840 841 rfl ?_
                                                    obtain ⟨hi166, hf⟩ := gi_some hf
                                                    refine xl_sld hh hx dL_law_841 hi166 842 rfl ?_
                                                    obtain ⟨q167, hq167, hf⟩ := b_some hf
                                                    refine xl_callV (rest := []) hh mi_X7_judge [.int (xs (v3 + 1).toNatClampNeg)] dL_law_842 sh_0 wd_751 (C_X7_judge l hX  hq167) rfl rfl ⟨Nat.le_of_ble_eq_true rfl, Nat.le_of_ble_eq_true rfl⟩ ⟨Nat.le_of_ble_eq_true rfl, Nat.le_of_ble_eq_true rfl⟩ (Nat.le_of_ble_eq_true rfl) 845 rfl [.int q167.1] rfl ?_
                                                    refine xl_aload_n hh dL_law_845 rfl 2 rfl 846 rfl ?_
                                                    refine xl_aload_n hh dL_law_846 rfl 0 rfl 847 rfl ?_
                                                    refine xl_iload_n hh dL_law_847 rfl 3 rfl 848 rfl ?_
                                                    refine xl_iconst hh dL_law_848 1 rfl 849 rfl ?_
                                                    refine xl_iadd hh dL_law_849 850 rfl ?_
                                                    obtain ⟨hi168, hf⟩ := gi_some hf
                                                    refine xl_sld hh hx dL_law_850 hi168 851 rfl ?_
                                                    obtain ⟨q169, hq169, hf⟩ := b_some hf
                                                    refine xl_callV (rest := [.int q167.1]) hh mi_X8_judge [.int (xs (v3 + 1).toNatClampNeg)] dL_law_851 sh_59 wd_1142 (C_X8_judge l hX  hq169) rfl rfl ⟨Nat.le_of_ble_eq_true rfl, Nat.le_of_ble_eq_true rfl⟩ ⟨Nat.le_of_ble_eq_true rfl, Nat.le_of_ble_eq_true rfl⟩ (Nat.le_of_ble_eq_true rfl) 854 rfl [.int q169.1, .int q167.1] rfl ?_
                                                    refine xl_icmp_eq hh dL_law_854 964 rfl 857 rfl (fun hc170 => ?_) (fun hc170 => ?_)
                                                    · have hf := t_pos hc170 hf
                                                      exact Z_L_law_964 hX hh hr hx ih  v3 q169.2 hf
                                                    · have hf := t_neg hc170 hf
                                                      refine xl_iconst hh dL_law_857 0 rfl 858 rfl ?_
                                                      exact absurd (ret2 hf).1 (by decide)
                                                  · have hf := t_neg hc165 hf
                                                    by_cases hc171 : ((xs v3.toNatClampNeg) &&& 31) = 23
                                                    · have hf := t_pos hc171 hf
                                                      refine xl_tableIn hh dL_law_32 (by rw [hc171]; decide) (by rw [hc171]; decide) 827 (by rw [hc171]; rfl) 859 rfl ?_
                                                      refine xl_aload_n hh dL_law_859 rfl 1 rfl 860 rfl ?_
                                                      refine xl_aload_n hh dL_law_860 rfl 0 rfl 861 rfl ?_
                                                      refine xl_iload_n hh dL_law_861 rfl 3 rfl 862 rfl ?_
                                                      refine xl_iconst hh dL_law_862 1 rfl 863 rfl ?_
                                                      refine xl_iadd hh dL_law_863 864 rfl ?_
                                                      obtain ⟨hi172, hf⟩ := gi_some hf
                                                      refine xl_sld hh hx dL_law_864 hi172 865 rfl ?_
                                                      obtain ⟨q173, hq173, hf⟩ := b_some hf
                                                      refine xl_callV (rest := []) hh mi_X7_drift [.int (xs (v3 + 1).toNatClampNeg)] dL_law_865 sh_0 wd_755 (C_X7_drift l hX  hq173) rfl rfl ⟨Nat.le_of_ble_eq_true rfl, Nat.le_of_ble_eq_true rfl⟩ ⟨Nat.le_of_ble_eq_true rfl, Nat.le_of_ble_eq_true rfl⟩ (Nat.le_of_ble_eq_true rfl) 868 rfl [.int q173.1] rfl ?_
                                                      refine xl_aload_n hh dL_law_868 rfl 2 rfl 869 rfl ?_
                                                      refine xl_aload_n hh dL_law_869 rfl 0 rfl 870 rfl ?_
                                                      refine xl_iload_n hh dL_law_870 rfl 3 rfl 871 rfl ?_
                                                      refine xl_iconst hh dL_law_871 1 rfl 872 rfl ?_
                                                      refine xl_iadd hh dL_law_872 873 rfl ?_
                                                      obtain ⟨hi174, hf⟩ := gi_some hf
                                                      refine xl_sld hh hx dL_law_873 hi174 874 rfl ?_
                                                      obtain ⟨q175, hq175, hf⟩ := b_some hf
                                                      refine xl_callV (rest := [.int q173.1]) hh mi_X8_drift [.int (xs (v3 + 1).toNatClampNeg)] dL_law_874 sh_59 wd_1152 (C_X8_drift l hX  hq175) rfl rfl ⟨Nat.le_of_ble_eq_true rfl, Nat.le_of_ble_eq_true rfl⟩ ⟨Nat.le_of_ble_eq_true rfl, Nat.le_of_ble_eq_true rfl⟩ (Nat.le_of_ble_eq_true rfl) 877 rfl [.int q175.1, .int q173.1] rfl ?_
                                                      refine xl_icmp_eq hh dL_law_877 964 rfl 880 rfl (fun hc176 => ?_) (fun hc176 => ?_)
                                                      · have hf := t_pos hc176 hf
                                                        exact Z_L_law_964 hX hh hr hx ih  v3 q175.2 hf
                                                      · have hf := t_neg hc176 hf
                                                        refine xl_iconst hh dL_law_880 0 rfl 881 rfl ?_
                                                        exact absurd (ret2 hf).1 (by decide)
                                                    · have hf := t_neg hc171 hf
                                                      by_cases hc177 : ((xs v3.toNatClampNeg) &&& 31) = 24
                                                      · have hf := t_pos hc177 hf
                                                        refine xl_tableIn hh dL_law_32 (by rw [hc177]; decide) (by rw [hc177]; decide) 850 (by rw [hc177]; rfl) 882 rfl ?_
                                                        refine xl_aload_n hh dL_law_882 rfl 1 rfl 883 rfl ?_
                                                        obtain ⟨q178, hq178, hf⟩ := b_some hf
                                                        refine xl_callV (rest := []) hh mi_X7_empty [] dL_law_883 sh_0 wd_772 (C_X7_empty l hX  hq178) rfl rfl ⟨Nat.le_of_ble_eq_true rfl, Nat.le_of_ble_eq_true rfl⟩ ⟨Nat.le_of_ble_eq_true rfl, Nat.le_of_ble_eq_true rfl⟩ (Nat.le_of_ble_eq_true rfl) 886 rfl [.int q178.1] rfl ?_
                                                        refine xl_aload_n hh dL_law_886 rfl 2 rfl 887 rfl ?_
                                                        obtain ⟨q179, hq179, hf⟩ := b_some hf
                                                        refine xl_callV (rest := [.int q178.1]) hh mi_X8_empty [] dL_law_887 sh_59 wd_1164 (C_X8_empty l hX  hq179) rfl rfl ⟨Nat.le_of_ble_eq_true rfl, Nat.le_of_ble_eq_true rfl⟩ ⟨Nat.le_of_ble_eq_true rfl, Nat.le_of_ble_eq_true rfl⟩ (Nat.le_of_ble_eq_true rfl) 890 rfl [.int q179.1, .int q178.1] rfl ?_
                                                        refine xl_icmp_eq hh dL_law_890 964 rfl 893 rfl (fun hc180 => ?_) (fun hc180 => ?_)
                                                        · have hf := t_pos hc180 hf
                                                          exact Z_L_law_964 hX hh hr hx ih  v3 q179.2 hf
                                                        · have hf := t_neg hc180 hf
                                                          refine xl_iconst hh dL_law_893 0 rfl 894 rfl ?_
                                                          exact absurd (ret2 hf).1 (by decide)
                                                      · have hf := t_neg hc177 hf
                                                        by_cases hc181 : ((xs v3.toNatClampNeg) &&& 31) = 25
                                                        · have hf := t_pos hc181 hf
                                                          refine xl_tableIn hh dL_law_32 (by rw [hc181]; decide) (by rw [hc181]; decide) 863 (by rw [hc181]; rfl) 895 rfl ?_
                                                          refine xl_aload_n hh dL_law_895 rfl 1 rfl 896 rfl ?_
                                                          refine xl_aload_n hh dL_law_896 rfl 0 rfl 897 rfl ?_
                                                          refine xl_iload_n hh dL_law_897 rfl 3 rfl 898 rfl ?_
                                                          refine xl_iconst hh dL_law_898 1 rfl 899 rfl ?_
                                                          refine xl_iadd hh dL_law_899 900 rfl ?_
                                                          obtain ⟨hi182, hf⟩ := gi_some hf
                                                          refine xl_sld hh hx dL_law_900 hi182 901 rfl ?_
                                                          obtain ⟨q183, hq183, hf⟩ := b_some hf
                                                          refine xl_callV (rest := []) hh mi_X7_seed [.int (xs (v3 + 1).toNatClampNeg)] dL_law_901 sh_0 wd_776 (C_X7_seed l hX  hq183) rfl rfl ⟨Nat.le_of_ble_eq_true rfl, Nat.le_of_ble_eq_true rfl⟩ ⟨Nat.le_of_ble_eq_true rfl, Nat.le_of_ble_eq_true rfl⟩ (Nat.le_of_ble_eq_true rfl) 904 rfl [.int q183.1] rfl ?_
                                                          refine xl_aload_n hh dL_law_904 rfl 2 rfl 905 rfl ?_
                                                          refine xl_aload_n hh dL_law_905 rfl 0 rfl 906 rfl ?_
                                                          refine xl_iload_n hh dL_law_906 rfl 3 rfl 907 rfl ?_
                                                          refine xl_iconst hh dL_law_907 1 rfl 908 rfl ?_
                                                          refine xl_iadd hh dL_law_908 909 rfl ?_
                                                          obtain ⟨hi184, hf⟩ := gi_some hf
                                                          refine xl_sld hh hx dL_law_909 hi184 910 rfl ?_
                                                          obtain ⟨q185, hq185, hf⟩ := b_some hf
                                                          refine xl_callV (rest := [.int q183.1]) hh mi_X8_seed [.int (xs (v3 + 1).toNatClampNeg)] dL_law_910 sh_59 wd_1168 (C_X8_seed l hX  hq185) rfl rfl ⟨Nat.le_of_ble_eq_true rfl, Nat.le_of_ble_eq_true rfl⟩ ⟨Nat.le_of_ble_eq_true rfl, Nat.le_of_ble_eq_true rfl⟩ (Nat.le_of_ble_eq_true rfl) 913 rfl [.int q185.1, .int q183.1] rfl ?_
                                                          refine xl_icmp_eq hh dL_law_913 964 rfl 916 rfl (fun hc186 => ?_) (fun hc186 => ?_)
                                                          · have hf := t_pos hc186 hf
                                                            exact Z_L_law_964 hX hh hr hx ih  v3 q185.2 hf
                                                          · have hf := t_neg hc186 hf
                                                            refine xl_iconst hh dL_law_916 0 rfl 917 rfl ?_
                                                            exact absurd (ret2 hf).1 (by decide)
                                                        · have hf := t_neg hc181 hf
                                                          by_cases hc187 : ((xs v3.toNatClampNeg) &&& 31) = 26
                                                          · have hf := t_pos hc187 hf
                                                            refine xl_tableIn hh dL_law_32 (by rw [hc187]; decide) (by rw [hc187]; decide) 886 (by rw [hc187]; rfl) 918 rfl ?_
                                                            refine xl_aload_n hh dL_law_918 rfl 1 rfl 919 rfl ?_
                                                            refine xl_aload_n hh dL_law_919 rfl 0 rfl 920 rfl ?_
                                                            refine xl_iload_n hh dL_law_920 rfl 3 rfl 921 rfl ?_
                                                            refine xl_iconst hh dL_law_921 1 rfl 922 rfl ?_
                                                            refine xl_iadd hh dL_law_922 923 rfl ?_
                                                            obtain ⟨hi188, hf⟩ := gi_some hf
                                                            refine xl_sld hh hx dL_law_923 hi188 924 rfl ?_
                                                            obtain ⟨q189, hq189, hf⟩ := b_some hf
                                                            refine xl_callV (rest := []) hh mi_X7_keep [.int (xs (v3 + 1).toNatClampNeg)] dL_law_924 sh_0 wd_780 (C_X7_keep l hX  hq189) rfl rfl ⟨Nat.le_of_ble_eq_true rfl, Nat.le_of_ble_eq_true rfl⟩ ⟨Nat.le_of_ble_eq_true rfl, Nat.le_of_ble_eq_true rfl⟩ (Nat.le_of_ble_eq_true rfl) 927 rfl [.int q189.1] rfl ?_
                                                            refine xl_aload_n hh dL_law_927 rfl 2 rfl 928 rfl ?_
                                                            refine xl_aload_n hh dL_law_928 rfl 0 rfl 929 rfl ?_
                                                            refine xl_iload_n hh dL_law_929 rfl 3 rfl 930 rfl ?_
                                                            refine xl_iconst hh dL_law_930 1 rfl 931 rfl ?_
                                                            refine xl_iadd hh dL_law_931 932 rfl ?_
                                                            obtain ⟨hi190, hf⟩ := gi_some hf
                                                            refine xl_sld hh hx dL_law_932 hi190 933 rfl ?_
                                                            obtain ⟨q191, hq191, hf⟩ := b_some hf
                                                            refine xl_callV (rest := [.int q189.1]) hh mi_X8_keep [.int (xs (v3 + 1).toNatClampNeg)] dL_law_933 sh_59 wd_1172 (C_X8_keep l hX  hq191) rfl rfl ⟨Nat.le_of_ble_eq_true rfl, Nat.le_of_ble_eq_true rfl⟩ ⟨Nat.le_of_ble_eq_true rfl, Nat.le_of_ble_eq_true rfl⟩ (Nat.le_of_ble_eq_true rfl) 936 rfl [.int q191.1, .int q189.1] rfl ?_
                                                            refine xl_icmp_eq hh dL_law_936 964 rfl 939 rfl (fun hc192 => ?_) (fun hc192 => ?_)
                                                            · have hf := t_pos hc192 hf
                                                              exact Z_L_law_964 hX hh hr hx ih  v3 q191.2 hf
                                                            · have hf := t_neg hc192 hf
                                                              refine xl_iconst hh dL_law_939 0 rfl 940 rfl ?_
                                                              exact absurd (ret2 hf).1 (by decide)
                                                          · have hf := t_neg hc187 hf
                                                            by_cases hc193 : ((xs v3.toNatClampNeg) &&& 31) = 27
                                                            · have hf := t_pos hc193 hf
                                                              refine xl_tableIn hh dL_law_32 (by rw [hc193]; decide) (by rw [hc193]; decide) 909 (by rw [hc193]; rfl) 941 rfl ?_
                                                              refine xl_aload_n hh dL_law_941 rfl 1 rfl 942 rfl ?_
                                                              refine xl_aload_n hh dL_law_942 rfl 0 rfl 943 rfl ?_
                                                              refine xl_iload_n hh dL_law_943 rfl 3 rfl 944 rfl ?_
                                                              refine xl_iconst hh dL_law_944 1 rfl 945 rfl ?_
                                                              refine xl_iadd hh dL_law_945 946 rfl ?_
                                                              obtain ⟨hi194, hf⟩ := gi_some hf
                                                              refine xl_sld hh hx dL_law_946 hi194 947 rfl ?_
                                                              obtain ⟨q195, hq195, hf⟩ := b_some hf
                                                              refine xl_callV (rest := []) hh mi_X7_goBack [.int (xs (v3 + 1).toNatClampNeg)] dL_law_947 sh_0 wd_787 (C_X7_goBack l hX  hq195) rfl rfl ⟨Nat.le_of_ble_eq_true rfl, Nat.le_of_ble_eq_true rfl⟩ ⟨Nat.le_of_ble_eq_true rfl, Nat.le_of_ble_eq_true rfl⟩ (Nat.le_of_ble_eq_true rfl) 950 rfl [.int q195.1] rfl ?_
                                                              refine xl_aload_n hh dL_law_950 rfl 2 rfl 951 rfl ?_
                                                              refine xl_aload_n hh dL_law_951 rfl 0 rfl 952 rfl ?_
                                                              refine xl_iload_n hh dL_law_952 rfl 3 rfl 953 rfl ?_
                                                              refine xl_iconst hh dL_law_953 1 rfl 954 rfl ?_
                                                              refine xl_iadd hh dL_law_954 955 rfl ?_
                                                              obtain ⟨hi196, hf⟩ := gi_some hf
                                                              refine xl_sld hh hx dL_law_955 hi196 956 rfl ?_
                                                              obtain ⟨q197, hq197, hf⟩ := b_some hf
                                                              refine xl_callV (rest := [.int q195.1]) hh mi_X8_goBack [.int (xs (v3 + 1).toNatClampNeg)] dL_law_956 sh_59 wd_1176 (C_X8_goBack l hX  hq197) rfl rfl ⟨Nat.le_of_ble_eq_true rfl, Nat.le_of_ble_eq_true rfl⟩ ⟨Nat.le_of_ble_eq_true rfl, Nat.le_of_ble_eq_true rfl⟩ (Nat.le_of_ble_eq_true rfl) 959 rfl [.int q197.1, .int q195.1] rfl ?_
                                                              refine xl_icmp_eq hh dL_law_959 964 rfl 962 rfl (fun hc198 => ?_) (fun hc198 => ?_)
                                                              · have hf := t_pos hc198 hf
                                                                exact Z_L_law_964 hX hh hr hx ih  v3 q197.2 hf
                                                              · have hf := t_neg hc198 hf
                                                                refine xl_iconst hh dL_law_962 0 rfl 963 rfl ?_
                                                                exact absurd (ret2 hf).1 (by decide)
                                                            · have hf := t_neg hc193 hf
                                                              refine xl_tableOut hh dL_law_32 (by have a0 := lv_neT (a := 0) hc3 rfl; have a1 := lv_neT (a := 1) hc13 rfl; have a2 := lv_neT (a := 2) hc17 rfl; have a3 := lv_neT (a := 3) hc21 rfl; have a4 := lv_neT (a := 4) hc27 rfl; have a5 := lv_neT (a := 5) hc37 rfl; have a6 := lv_neT (a := 6) hc45 rfl; have a7 := lv_neT (a := 7) hc53 rfl; have a8 := lv_neT (a := 8) hc59 rfl; have a9 := lv_neT (a := 9) hc69 rfl; have a10 := lv_neT (a := 10) hc75 rfl; have a11 := lv_neT (a := 11) hc83 rfl; have a12 := lv_neT (a := 12) hc91 rfl; have a13 := lv_neT (a := 13) hc97 rfl; have a14 := lv_neT (a := 14) hc103 rfl; have a15 := lv_neT (a := 15) hc113 rfl; have a16 := lv_neT (a := 16) hc123 rfl; have a17 := lv_neT (a := 17) hc131 rfl; have a18 := lv_neT (a := 18) hc139 rfl; have a19 := lv_neT (a := 19) hc143 rfl; have a20 := lv_neT (a := 20) hc151 rfl; have a21 := lv_neT (a := 21) hc161 rfl; have a22 := lv_neT (a := 22) hc165 rfl; have a23 := lv_neT (a := 23) hc171 rfl; have a24 := lv_neT (a := 24) hc177 rfl; have a25 := lv_neT (a := 25) hc181 rfl; have a26 := lv_neT (a := 26) hc187 rfl; have a27 := lv_neT (a := 27) hc193 rfl; omega) 964 rfl ?_
                                                              exact Z_L_law_964 hX hh hr hx ih  v3 st hf

def F_X3_clearAll_17 (ho : Nat) : Nat → Int32 → St → Option (St)
  | 0, _, _ => none
  | n + 1, v1, st => if (36 : Int32) ≤ v1 then some st else gi v1 36 (bs (sV st (ho + 7) v1.toNatClampNeg 0) (fun st6 => F_X3_clearAll_17 ho n (v1 + 1) st6))
set_option maxRecDepth 100000 in
set_option maxHeartbeats 4000000 in
theorem Z_X3_clearAll_17 {l : Launch} {X : Cx} (hX : Ok X) {ho : Nat} (hho : Ho ho) {p : Program} {e : Env} {s : State} {m : MethodId} {args : Array Value} {below : List Frame} {meth : Method} {c : Code} {st' : St} (hh : Hy X p s m args meth c cX3_clearAll 2 RX3) (hr : meth.sig.returnType = none) : ∀ (n : Nat) (v1 : Int32) (st : St), F_X3_clearAll_17 ho n v1 st = some st' → Z X p l e (rmk 0) s m args below meth c 2 (MQ below (Qf X none st') args s 0 0 (cA X)) 17 [(0, .ref (X.2.1 ho)), (1, .int v1)] [] st := by
  intro n
  induction n with
  | zero =>
    intro v1 st hf
    cases hf
  | succ n ih =>
    intro v1 st hf
    rw [F_X3_clearAll_17] at hf
    refine x_iload_n hh dX3_clearAll_17 rfl 1 rfl 18 rfl ?_
    refine x_aload_n hh dX3_clearAll_18 rfl 0 rfl 19 rfl ?_
    refine x_getR hh cl_3 dX3_clearAll_19 hho.1 9 (ho + 7) rfl (Nat.le_of_ble_eq_true rfl) wd_138 22 rfl ?_
    refine x_alen hh dX3_clearAll_22 hho.2.2.2.2.2.2.2 ⟨_, rfl⟩ 36 rfl 23 rfl ?_
    refine x_icmp_ge hh dX3_clearAll_23 39 rfl 26 rfl (fun hc4 => ?_) (fun hc4 => ?_)
    · have hf := t_pos hc4 hf
      obtain rfl := ret1 hf
      exact x_vret hh hr dX3_clearAll_39
    · have hf := t_neg hc4 hf
      refine x_aload_n hh dX3_clearAll_26 rfl 0 rfl 27 rfl ?_
      refine x_getR hh cl_3 dX3_clearAll_27 hho.1 9 (ho + 7) rfl (Nat.le_of_ble_eq_true rfl) wd_138 30 rfl ?_
      refine x_iload_n hh dX3_clearAll_30 rfl 1 rfl 31 rfl ?_
      refine x_iconst hh dX3_clearAll_31 0 rfl 32 rfl ?_
      obtain ⟨hi5, hf⟩ := gi_some hf
      obtain ⟨st6, est6, hf⟩ := bs_some hf
      refine x_iastore hh dX3_clearAll_32 hho.2.2.2.2.2.2.2 hi5 33 rfl st6 est6 ?_
      refine x_iinc hh dX3_clearAll_33 1 rfl (v1 + 1) rfl (by decide) [(1, .int (v1 + 1)), (0, .ref (X.2.1 ho))] rfl 36 rfl ?_
      refine x_goto hh dX3_clearAll_36 17 rfl ?_
      refine x_sub (lv' := [(0, .ref (X.2.1 ho)), (1, .int (v1 + 1))]) [1, 0] rfl ?_
      exact ih (v1 + 1) st6 hf
def F_X3_clearAll_0 (ho : Nat) (st : St) : Option (St) := bs (sV st ho 0 0) (fun st1 => bs (sV st1 ho 1 0) (fun st2 => bs (sV st2 ho 2 0) (fun st3 => F_X3_clearAll_17 ho fN 0 st3)))
set_option maxRecDepth 100000 in
set_option maxHeartbeats 4000000 in
theorem Z_X3_clearAll_0 {l : Launch} {X : Cx} (hX : Ok X) {ho : Nat} (hho : Ho ho) {p : Program} {e : Env} {s : State} {m : MethodId} {args : Array Value} {below : List Frame} {meth : Method} {c : Code} {st' : St} (hh : Hy X p s m args meth c cX3_clearAll 2 RX3) (hr : meth.sig.returnType = none) (st : St) (hf : F_X3_clearAll_0 ho st = some st') : Z X p l e (rmk 0) s m args below meth c 2 (MQ below (Qf X none st') args s 0 0 (cA X)) 0 [(0, .ref (X.2.1 ho))] [] st := by
  unfold F_X3_clearAll_0 at hf
  refine x_aload_n hh dX3_clearAll_0 rfl 0 rfl 1 rfl ?_
  refine x_iconst hh dX3_clearAll_1 0 rfl 2 rfl ?_
  obtain ⟨st1, est1, hf⟩ := bs_some hf
  refine x_putI hh cl_3 dX3_clearAll_2 hho.1 0 rfl (Nat.le_of_ble_eq_true rfl) wd_105 rfl rfl rfl 5 rfl st1 est1 ?_
  refine x_aload_n hh dX3_clearAll_5 rfl 0 rfl 6 rfl ?_
  refine x_iconst hh dX3_clearAll_6 0 rfl 7 rfl ?_
  obtain ⟨st2, est2, hf⟩ := bs_some hf
  refine x_putI hh cl_3 dX3_clearAll_7 hho.1 1 rfl (Nat.le_of_ble_eq_true rfl) wd_111 rfl rfl rfl 10 rfl st2 est2 ?_
  refine x_aload_n hh dX3_clearAll_10 rfl 0 rfl 11 rfl ?_
  refine x_iconst hh dX3_clearAll_11 0 rfl 12 rfl ?_
  obtain ⟨st3, est3, hf⟩ := bs_some hf
  refine x_putI hh cl_3 dX3_clearAll_12 hho.1 2 rfl (Nat.le_of_ble_eq_true rfl) wd_116 rfl rfl rfl 15 rfl st3 est3 ?_
  refine x_iconst hh dX3_clearAll_15 0 rfl 16 rfl ?_
  refine x_istore_n hh dX3_clearAll_16 rfl (by decide) [(1, .int 0), (0, .ref (X.2.1 ho))] rfl 17 rfl ?_
  refine x_sub (lv' := [(0, .ref (X.2.1 ho)), (1, .int 0)]) [1, 0] rfl ?_
  exact Z_X3_clearAll_17 hX hho hh hr fN 0 st3 hf
def F_X3_clearAll (ho : Nat) (st : St) : Option (St) := F_X3_clearAll_0 ho st
set_option maxRecDepth 100000 in
theorem C_X3_clearAll (l : Launch) {X : Cx} (hX : Ok X) {ho : Nat} (hho : Ho ho) {st : St} {q : St} (hf : F_X3_clearAll ho st = some q) : Ct l X 0 yX3_clearAll (.code yX3_clearAll cX3_clearAll 2 (none)) [.ref (X.2.1 ho)] st none q := by
  refine Ct.of hX (by decide) (Nat.le_of_ble_eq_true rfl) ?_
  intro p e s m args below meth c hh hr
  exact Z_X3_clearAll_0 hX hho hh hr st hf

def F_X3_hasPerson_17 (ho : Nat) (t0 : Int32) (st : St) : Option (Int32 × St) := gb t0 (some (t0, st))
set_option maxRecDepth 100000 in
set_option maxHeartbeats 4000000 in
theorem Z_X3_hasPerson_17 {l : Launch} {X : Cx} (hX : Ok X) {ho : Nat} (hho : Ho ho) {p : Program} {e : Env} {s : State} {m : MethodId} {args : Array Value} {below : List Frame} {meth : Method} {c : Code} {rr : Int32} {st' : St} (hh : Hy X p s m args meth c cX3_hasPerson 2 RX3) (hr : meth.sig.returnType = some .boolean) (t0 : Int32) (st : St) (hf : F_X3_hasPerson_17 ho t0 st = some (rr, st')) : Z X p l e (rmk 0) s m args below meth c 2 (MQ below (Qf X (some (.int rr)) st') args s 0 0 (cA X)) 17 [(0, .ref (X.2.1 ho))] [.int t0] st := by
  unfold F_X3_hasPerson_17 at hf
  obtain ⟨hb3, hf⟩ := gb_some hf
  obtain ⟨rfl, rfl⟩ := ret2 hf
  exact x_zret hh hr (nb_n hb3) dX3_hasPerson_17
def F_X3_hasPerson_16 (ho : Nat) (st : St) : Option (Int32 × St) := F_X3_hasPerson_17 ho 0 st
set_option maxRecDepth 100000 in
set_option maxHeartbeats 4000000 in
theorem Z_X3_hasPerson_16 {l : Launch} {X : Cx} (hX : Ok X) {ho : Nat} (hho : Ho ho) {p : Program} {e : Env} {s : State} {m : MethodId} {args : Array Value} {below : List Frame} {meth : Method} {c : Code} {rr : Int32} {st' : St} (hh : Hy X p s m args meth c cX3_hasPerson 2 RX3) (hr : meth.sig.returnType = some .boolean) (st : St) (hf : F_X3_hasPerson_16 ho st = some (rr, st')) : Z X p l e (rmk 0) s m args below meth c 2 (MQ below (Qf X (some (.int rr)) st') args s 0 0 (cA X)) 16 [(0, .ref (X.2.1 ho))] [] st := by
  unfold F_X3_hasPerson_16 at hf
  refine x_iconst hh dX3_hasPerson_16 0 rfl 17 rfl ?_
  exact Z_X3_hasPerson_17 hX hho hh hr  0 st hf
def F_X3_hasPerson_0 (ho : Nat) (v1 : Int32) (st : St) : Option (Int32 × St) := if v1 < 0 then F_X3_hasPerson_16 ho st else if (st.1 ho 1) ≤ v1 then F_X3_hasPerson_16 ho st else F_X3_hasPerson_17 ho 1 st
set_option maxRecDepth 100000 in
set_option maxHeartbeats 4000000 in
theorem Z_X3_hasPerson_0 {l : Launch} {X : Cx} (hX : Ok X) {ho : Nat} (hho : Ho ho) {p : Program} {e : Env} {s : State} {m : MethodId} {args : Array Value} {below : List Frame} {meth : Method} {c : Code} {rr : Int32} {st' : St} (hh : Hy X p s m args meth c cX3_hasPerson 2 RX3) (hr : meth.sig.returnType = some .boolean) (v1 : Int32) (st : St) (hf : F_X3_hasPerson_0 ho v1 st = some (rr, st')) : Z X p l e (rmk 0) s m args below meth c 2 (MQ below (Qf X (some (.int rr)) st') args s 0 0 (cA X)) 0 [(0, .ref (X.2.1 ho)), (1, .int v1)] [] st := by
  unfold F_X3_hasPerson_0 at hf
  refine x_iload_n hh dX3_hasPerson_0 rfl 1 rfl 1 rfl ?_
  refine x_if_lt hh dX3_hasPerson_1 16 rfl 4 rfl (fun hc1 => ?_) (fun hc1 => ?_)
  · have hf := t_pos hc1 hf
    refine x_sub (lv' := [(0, .ref (X.2.1 ho))]) [0] rfl ?_
    exact Z_X3_hasPerson_16 hX hho hh hr  st hf
  · have hf := t_neg hc1 hf
    refine x_iload_n hh dX3_hasPerson_4 rfl 1 rfl 5 rfl ?_
    refine x_aload_n hh dX3_hasPerson_5 rfl 0 rfl 6 rfl ?_
    refine x_getI hh cl_3 dX3_hasPerson_6 hho.1 1 rfl (Nat.le_of_ble_eq_true rfl) wd_111 9 rfl ?_
    refine x_icmp_ge hh dX3_hasPerson_9 16 rfl 12 rfl (fun hc2 => ?_) (fun hc2 => ?_)
    · have hf := t_pos hc2 hf
      refine x_sub (lv' := [(0, .ref (X.2.1 ho))]) [0] rfl ?_
      exact Z_X3_hasPerson_16 hX hho hh hr  st hf
    · have hf := t_neg hc2 hf
      refine x_iconst hh dX3_hasPerson_12 1 rfl 13 rfl ?_
      refine x_goto hh dX3_hasPerson_13 17 rfl ?_
      refine x_sub (lv' := [(0, .ref (X.2.1 ho))]) [0] rfl ?_
      exact Z_X3_hasPerson_17 hX hho hh hr  1 st hf
def F_X3_hasPerson (ho : Nat) (v1 : Int32) (st : St) : Option (Int32 × St) := F_X3_hasPerson_0 ho v1 st
set_option maxRecDepth 100000 in
theorem C_X3_hasPerson (l : Launch) {X : Cx} (hX : Ok X) {ho : Nat} (hho : Ho ho) {v1 : Int32} {st : St} {q : Int32 × St} (hf : F_X3_hasPerson ho v1 st = some q) : Ct l X 0 yX3_hasPerson (.code yX3_hasPerson cX3_hasPerson 2 (some .boolean)) [.ref (X.2.1 ho), .int v1] st (some (.int q.1)) q.2 := by
  refine Ct.of hX (by decide) (Nat.le_of_ble_eq_true rfl) ?_
  intro p e s m args below meth c hh hr
  exact Z_X3_hasPerson_0 hX hho hh hr v1 st hf

def F_X3_friendship_31 (ho : Nat) (t0 : Int32) (st : St) : Option (Int32 × St) := some (t0, st)
set_option maxRecDepth 100000 in
set_option maxHeartbeats 4000000 in
theorem Z_X3_friendship_31 {l : Launch} {X : Cx} (hX : Ok X) {ho : Nat} (hho : Ho ho) {p : Program} {e : Env} {s : State} {m : MethodId} {args : Array Value} {below : List Frame} {meth : Method} {c : Code} {rr : Int32} {st' : St} (hh : Hy X p s m args meth c cX3_friendship 3 RX3) (hr : meth.sig.returnType = some .int) (t0 : Int32) (st : St) (hf : F_X3_friendship_31 ho t0 st = some (rr, st')) : Z X p l e (rmk 1) s m args below meth c 3 (MQ below (Qf X (some (.int rr)) st') args s 0 0 (cA X)) 31 [(0, .ref (X.2.1 ho))] [.int t0] st := by
  unfold F_X3_friendship_31 at hf
  obtain ⟨rfl, rfl⟩ := ret2 hf
  exact x_iret hh hr dX3_friendship_31
def F_X3_friendship_30 (ho : Nat) (st : St) : Option (Int32 × St) := F_X3_friendship_31 ho 0 st
set_option maxRecDepth 100000 in
set_option maxHeartbeats 4000000 in
theorem Z_X3_friendship_30 {l : Launch} {X : Cx} (hX : Ok X) {ho : Nat} (hho : Ho ho) {p : Program} {e : Env} {s : State} {m : MethodId} {args : Array Value} {below : List Frame} {meth : Method} {c : Code} {rr : Int32} {st' : St} (hh : Hy X p s m args meth c cX3_friendship 3 RX3) (hr : meth.sig.returnType = some .int) (st : St) (hf : F_X3_friendship_30 ho st = some (rr, st')) : Z X p l e (rmk 1) s m args below meth c 3 (MQ below (Qf X (some (.int rr)) st') args s 0 0 (cA X)) 30 [(0, .ref (X.2.1 ho))] [] st := by
  unfold F_X3_friendship_30 at hf
  refine x_iconst hh dX3_friendship_30 0 rfl 31 rfl ?_
  exact Z_X3_friendship_31 hX hho hh hr  0 st hf
def F_X3_friendship_0 (ho : Nat) (v1 : Int32) (v2 : Int32) (st : St) : Option (Int32 × St) := (F_X3_hasPerson ho v1 st).bind (fun q1 => if q1.1 = 0 then F_X3_friendship_30 ho q1.2 else (F_X3_hasPerson ho v2 q1.2).bind (fun q3 => if q3.1 = 0 then F_X3_friendship_30 ho q3.2 else gi ((v1 * 6) + v2) 36 (F_X3_friendship_31 ho (q3.2.1 (ho + 7) ((v1 * 6) + v2).toNatClampNeg) q3.2)))
set_option maxRecDepth 100000 in
set_option maxHeartbeats 4000000 in
theorem Z_X3_friendship_0 {l : Launch} {X : Cx} (hX : Ok X) {ho : Nat} (hho : Ho ho) {p : Program} {e : Env} {s : State} {m : MethodId} {args : Array Value} {below : List Frame} {meth : Method} {c : Code} {rr : Int32} {st' : St} (hh : Hy X p s m args meth c cX3_friendship 3 RX3) (hr : meth.sig.returnType = some .int) (v1 : Int32) (v2 : Int32) (st : St) (hf : F_X3_friendship_0 ho v1 v2 st = some (rr, st')) : Z X p l e (rmk 1) s m args below meth c 3 (MQ below (Qf X (some (.int rr)) st') args s 0 0 (cA X)) 0 [(0, .ref (X.2.1 ho)), (1, .int v1), (2, .int v2)] [] st := by
  unfold F_X3_friendship_0 at hf
  refine x_aload_n hh dX3_friendship_0 rfl 0 rfl 1 rfl ?_
  refine x_iload_n hh dX3_friendship_1 rfl 1 rfl 2 rfl ?_
  obtain ⟨q1, hq1, hf⟩ := b_some hf
  refine x_callV (rest := []) hh mi_X3_hasPerson [.int v1] dX3_friendship_2 hho.1 wd_415 (C_X3_hasPerson l hX hho hq1) rfl rfl ⟨Nat.le_of_ble_eq_true rfl, Nat.le_of_ble_eq_true rfl⟩ (Nat.le_of_ble_eq_true rfl) 5 rfl [.int q1.1] rfl ?_
  refine x_if_eq hh dX3_friendship_5 30 rfl 8 rfl (fun hc2 => ?_) (fun hc2 => ?_)
  · have hf := t_pos hc2 hf
    refine x_sub (lv' := [(0, .ref (X.2.1 ho))]) [0] rfl ?_
    exact Z_X3_friendship_30 hX hho hh hr  q1.2 hf
  · have hf := t_neg hc2 hf
    refine x_aload_n hh dX3_friendship_8 rfl 0 rfl 9 rfl ?_
    refine x_iload_n hh dX3_friendship_9 rfl 2 rfl 10 rfl ?_
    obtain ⟨q3, hq3, hf⟩ := b_some hf
    refine x_callV (rest := []) hh mi_X3_hasPerson [.int v2] dX3_friendship_10 hho.1 wd_415 (C_X3_hasPerson l hX hho hq3) rfl rfl ⟨Nat.le_of_ble_eq_true rfl, Nat.le_of_ble_eq_true rfl⟩ (Nat.le_of_ble_eq_true rfl) 13 rfl [.int q3.1] rfl ?_
    refine x_if_eq hh dX3_friendship_13 30 rfl 16 rfl (fun hc4 => ?_) (fun hc4 => ?_)
    · have hf := t_pos hc4 hf
      refine x_sub (lv' := [(0, .ref (X.2.1 ho))]) [0] rfl ?_
      exact Z_X3_friendship_30 hX hho hh hr  q3.2 hf
    · have hf := t_neg hc4 hf
      refine x_aload_n hh dX3_friendship_16 rfl 0 rfl 17 rfl ?_
      refine x_getR hh cl_3 dX3_friendship_17 hho.1 9 (ho + 7) rfl (Nat.le_of_ble_eq_true rfl) wd_138 20 rfl ?_
      refine x_iload_n hh dX3_friendship_20 rfl 1 rfl 21 rfl ?_
      refine x_bipush hh dX3_friendship_21 6 rfl 23 rfl ?_
      refine x_imul hh dX3_friendship_23 24 rfl ?_
      refine x_iload_n hh dX3_friendship_24 rfl 2 rfl 25 rfl ?_
      refine x_iadd hh dX3_friendship_25 26 rfl ?_
      obtain ⟨hi5, hf⟩ := gi_some hf
      refine x_iaload hh dX3_friendship_26 hho.2.2.2.2.2.2.2 hi5 27 rfl ?_
      refine x_goto hh dX3_friendship_27 31 rfl ?_
      refine x_sub (lv' := [(0, .ref (X.2.1 ho))]) [0] rfl ?_
      exact Z_X3_friendship_31 hX hho hh hr  (q3.2.1 (ho + 7) ((v1 * 6) + v2).toNatClampNeg) q3.2 hf
def F_X3_friendship (ho : Nat) (v1 : Int32) (v2 : Int32) (st : St) : Option (Int32 × St) := F_X3_friendship_0 ho v1 v2 st
set_option maxRecDepth 100000 in
theorem C_X3_friendship (l : Launch) {X : Cx} (hX : Ok X) {ho : Nat} (hho : Ho ho) {v1 : Int32} {v2 : Int32} {st : St} {q : Int32 × St} (hf : F_X3_friendship ho v1 v2 st = some q) : Ct l X 1 yX3_friendship (.code yX3_friendship cX3_friendship 3 (some .int)) [.ref (X.2.1 ho), .int v1, .int v2] st (some (.int q.1)) q.2 := by
  refine Ct.of hX (by decide) (Nat.le_of_ble_eq_true rfl) ?_
  intro p e s m args below meth c hh hr
  exact Z_X3_friendship_0 hX hho hh hr v1 v2 st hf

def F_X3_copyFrom_0 (ho : Nat) (ho0 : Nat) (st : St) : Option (St) := bs (sV st ho 0 (st.1 ho0 0)) (fun st1 => bs (sV st1 ho 1 (st1.1 ho0 1)) (fun st2 => bs (sV st2 ho 2 (st2.1 ho0 2)) (fun st3 => (F_X7_copyRow (ho0 + 1) (ho + 1) st3).bind (fun q4 => (F_X7_copyRow (ho0 + 2) (ho + 2) q4).bind (fun q5 => (F_X7_copyRow (ho0 + 3) (ho + 3) q5).bind (fun q6 => (F_X7_copyRow (ho0 + 4) (ho + 4) q6).bind (fun q7 => (F_X7_copyRow (ho0 + 5) (ho + 5) q7).bind (fun q8 => (F_X7_copyRow (ho0 + 6) (ho + 6) q8).bind (fun q9 => (F_X7_copyRow (ho0 + 7) (ho + 7) q9).bind (fun q10 => some q10))))))))))
set_option maxRecDepth 100000 in
set_option maxHeartbeats 4000000 in
theorem Z_X3_copyFrom_0 {l : Launch} {X : Cx} (hX : Ok X) {ho : Nat} {ho0 : Nat} (hho : Ho ho) (hho0 : Ho ho0) {p : Program} {e : Env} {s : State} {m : MethodId} {args : Array Value} {below : List Frame} {meth : Method} {c : Code} {st' : St} (hh : Hy X p s m args meth c cX3_copyFrom 2 RX3) (hr : meth.sig.returnType = none) (st : St) (hf : F_X3_copyFrom_0 ho ho0 st = some st') : Z X p l e (rmk 3) s m args below meth c 2 (MQ below (Qf X none st') args s 0 0 (cA X)) 0 [(0, .ref (X.2.1 ho)), (1, .ref (X.2.1 ho0))] [] st := by
  unfold F_X3_copyFrom_0 at hf
  refine x_aload_n hh dX3_copyFrom_0 rfl 0 rfl 1 rfl ?_
  refine x_aload_n hh dX3_copyFrom_1 rfl 1 rfl 2 rfl ?_
  refine x_getI hh cl_3 dX3_copyFrom_2 hho0.1 0 rfl (Nat.le_of_ble_eq_true rfl) wd_105 5 rfl ?_
  obtain ⟨st1, est1, hf⟩ := bs_some hf
  refine x_putI hh cl_3 dX3_copyFrom_5 hho.1 0 rfl (Nat.le_of_ble_eq_true rfl) wd_105 rfl rfl rfl 8 rfl st1 est1 ?_
  refine x_aload_n hh dX3_copyFrom_8 rfl 0 rfl 9 rfl ?_
  refine x_aload_n hh dX3_copyFrom_9 rfl 1 rfl 10 rfl ?_
  refine x_getI hh cl_3 dX3_copyFrom_10 hho0.1 1 rfl (Nat.le_of_ble_eq_true rfl) wd_111 13 rfl ?_
  obtain ⟨st2, est2, hf⟩ := bs_some hf
  refine x_putI hh cl_3 dX3_copyFrom_13 hho.1 1 rfl (Nat.le_of_ble_eq_true rfl) wd_111 rfl rfl rfl 16 rfl st2 est2 ?_
  refine x_aload_n hh dX3_copyFrom_16 rfl 0 rfl 17 rfl ?_
  refine x_aload_n hh dX3_copyFrom_17 rfl 1 rfl 18 rfl ?_
  refine x_getI hh cl_3 dX3_copyFrom_18 hho0.1 2 rfl (Nat.le_of_ble_eq_true rfl) wd_116 21 rfl ?_
  obtain ⟨st3, est3, hf⟩ := bs_some hf
  refine x_putI hh cl_3 dX3_copyFrom_21 hho.1 2 rfl (Nat.le_of_ble_eq_true rfl) wd_116 rfl rfl rfl 24 rfl st3 est3 ?_
  refine x_aload_n hh dX3_copyFrom_24 rfl 1 rfl 25 rfl ?_
  refine x_getR hh cl_3 dX3_copyFrom_25 hho0.1 3 (ho0 + 1) rfl (Nat.le_of_ble_eq_true rfl) wd_119 28 rfl ?_
  refine x_aload_n hh dX3_copyFrom_28 rfl 0 rfl 29 rfl ?_
  refine x_getR hh cl_3 dX3_copyFrom_29 hho.1 3 (ho + 1) rfl (Nat.le_of_ble_eq_true rfl) wd_119 32 rfl ?_
  obtain ⟨q4, hq4, hf⟩ := b_some hf
  refine x_callSN (rest := []) hh ms_X7_copyRow [.ref (X.2.1 (ho0 + 1)), .ref (X.2.1 (ho + 1))] dX3_copyFrom_32 (by decide) (C_X7_copyRow l hX hho0.2.1 hho.2.1 hq4) rfl rfl ⟨Nat.le_of_ble_eq_true rfl, Nat.le_of_ble_eq_true rfl⟩ (Nat.le_of_ble_eq_true rfl) 35 rfl [] rfl ?_
  refine x_aload_n hh dX3_copyFrom_35 rfl 1 rfl 36 rfl ?_
  refine x_getR hh cl_3 dX3_copyFrom_36 hho0.1 4 (ho0 + 2) rfl (Nat.le_of_ble_eq_true rfl) wd_121 39 rfl ?_
  refine x_aload_n hh dX3_copyFrom_39 rfl 0 rfl 40 rfl ?_
  refine x_getR hh cl_3 dX3_copyFrom_40 hho.1 4 (ho + 2) rfl (Nat.le_of_ble_eq_true rfl) wd_121 43 rfl ?_
  obtain ⟨q5, hq5, hf⟩ := b_some hf
  refine x_callSN (rest := []) hh ms_X7_copyRow [.ref (X.2.1 (ho0 + 2)), .ref (X.2.1 (ho + 2))] dX3_copyFrom_43 (by decide) (C_X7_copyRow l hX hho0.2.2.1 hho.2.2.1 hq5) rfl rfl ⟨Nat.le_of_ble_eq_true rfl, Nat.le_of_ble_eq_true rfl⟩ (Nat.le_of_ble_eq_true rfl) 46 rfl [] rfl ?_
  refine x_aload_n hh dX3_copyFrom_46 rfl 1 rfl 47 rfl ?_
  refine x_getR hh cl_3 dX3_copyFrom_47 hho0.1 5 (ho0 + 3) rfl (Nat.le_of_ble_eq_true rfl) wd_123 50 rfl ?_
  refine x_aload_n hh dX3_copyFrom_50 rfl 0 rfl 51 rfl ?_
  refine x_getR hh cl_3 dX3_copyFrom_51 hho.1 5 (ho + 3) rfl (Nat.le_of_ble_eq_true rfl) wd_123 54 rfl ?_
  obtain ⟨q6, hq6, hf⟩ := b_some hf
  refine x_callSN (rest := []) hh ms_X7_copyRow [.ref (X.2.1 (ho0 + 3)), .ref (X.2.1 (ho + 3))] dX3_copyFrom_54 (by decide) (C_X7_copyRow l hX hho0.2.2.2.1 hho.2.2.2.1 hq6) rfl rfl ⟨Nat.le_of_ble_eq_true rfl, Nat.le_of_ble_eq_true rfl⟩ (Nat.le_of_ble_eq_true rfl) 57 rfl [] rfl ?_
  refine x_aload_n hh dX3_copyFrom_57 rfl 1 rfl 58 rfl ?_
  refine x_getR hh cl_3 dX3_copyFrom_58 hho0.1 6 (ho0 + 4) rfl (Nat.le_of_ble_eq_true rfl) wd_126 61 rfl ?_
  refine x_aload_n hh dX3_copyFrom_61 rfl 0 rfl 62 rfl ?_
  refine x_getR hh cl_3 dX3_copyFrom_62 hho.1 6 (ho + 4) rfl (Nat.le_of_ble_eq_true rfl) wd_126 65 rfl ?_
  obtain ⟨q7, hq7, hf⟩ := b_some hf
  refine x_callSN (rest := []) hh ms_X7_copyRow [.ref (X.2.1 (ho0 + 4)), .ref (X.2.1 (ho + 4))] dX3_copyFrom_65 (by decide) (C_X7_copyRow l hX hho0.2.2.2.2.1 hho.2.2.2.2.1 hq7) rfl rfl ⟨Nat.le_of_ble_eq_true rfl, Nat.le_of_ble_eq_true rfl⟩ (Nat.le_of_ble_eq_true rfl) 68 rfl [] rfl ?_
  refine x_aload_n hh dX3_copyFrom_68 rfl 1 rfl 69 rfl ?_
  refine x_getR hh cl_3 dX3_copyFrom_69 hho0.1 7 (ho0 + 5) rfl (Nat.le_of_ble_eq_true rfl) wd_129 72 rfl ?_
  refine x_aload_n hh dX3_copyFrom_72 rfl 0 rfl 73 rfl ?_
  refine x_getR hh cl_3 dX3_copyFrom_73 hho.1 7 (ho + 5) rfl (Nat.le_of_ble_eq_true rfl) wd_129 76 rfl ?_
  obtain ⟨q8, hq8, hf⟩ := b_some hf
  refine x_callSN (rest := []) hh ms_X7_copyRow [.ref (X.2.1 (ho0 + 5)), .ref (X.2.1 (ho + 5))] dX3_copyFrom_76 (by decide) (C_X7_copyRow l hX hho0.2.2.2.2.2.1 hho.2.2.2.2.2.1 hq8) rfl rfl ⟨Nat.le_of_ble_eq_true rfl, Nat.le_of_ble_eq_true rfl⟩ (Nat.le_of_ble_eq_true rfl) 79 rfl [] rfl ?_
  refine x_aload_n hh dX3_copyFrom_79 rfl 1 rfl 80 rfl ?_
  refine x_getR hh cl_3 dX3_copyFrom_80 hho0.1 8 (ho0 + 6) rfl (Nat.le_of_ble_eq_true rfl) wd_134 83 rfl ?_
  refine x_aload_n hh dX3_copyFrom_83 rfl 0 rfl 84 rfl ?_
  refine x_getR hh cl_3 dX3_copyFrom_84 hho.1 8 (ho + 6) rfl (Nat.le_of_ble_eq_true rfl) wd_134 87 rfl ?_
  obtain ⟨q9, hq9, hf⟩ := b_some hf
  refine x_callSN (rest := []) hh ms_X7_copyRow [.ref (X.2.1 (ho0 + 6)), .ref (X.2.1 (ho + 6))] dX3_copyFrom_87 (by decide) (C_X7_copyRow l hX hho0.2.2.2.2.2.2.1 hho.2.2.2.2.2.2.1 hq9) rfl rfl ⟨Nat.le_of_ble_eq_true rfl, Nat.le_of_ble_eq_true rfl⟩ (Nat.le_of_ble_eq_true rfl) 90 rfl [] rfl ?_
  refine x_aload_n hh dX3_copyFrom_90 rfl 1 rfl 91 rfl ?_
  refine x_getR hh cl_3 dX3_copyFrom_91 hho0.1 9 (ho0 + 7) rfl (Nat.le_of_ble_eq_true rfl) wd_138 94 rfl ?_
  refine x_aload_n hh dX3_copyFrom_94 rfl 0 rfl 95 rfl ?_
  refine x_getR hh cl_3 dX3_copyFrom_95 hho.1 9 (ho + 7) rfl (Nat.le_of_ble_eq_true rfl) wd_138 98 rfl ?_
  obtain ⟨q10, hq10, hf⟩ := b_some hf
  refine x_callSN (rest := []) hh ms_X7_copyRow [.ref (X.2.1 (ho0 + 7)), .ref (X.2.1 (ho + 7))] dX3_copyFrom_98 (by decide) (C_X7_copyRow l hX hho0.2.2.2.2.2.2.2 hho.2.2.2.2.2.2.2 hq10) rfl rfl ⟨Nat.le_of_ble_eq_true rfl, Nat.le_of_ble_eq_true rfl⟩ (Nat.le_of_ble_eq_true rfl) 101 rfl [] rfl ?_
  obtain rfl := ret1 hf
  exact x_vret hh hr dX3_copyFrom_101
def F_X3_copyFrom (ho : Nat) (ho0 : Nat) (st : St) : Option (St) := F_X3_copyFrom_0 ho ho0 st
set_option maxRecDepth 100000 in
theorem C_X3_copyFrom (l : Launch) {X : Cx} (hX : Ok X) {ho : Nat} (hho : Ho ho) {ho0 : Nat} (hho0 : Ho ho0) {st : St} {q : St} (hf : F_X3_copyFrom ho ho0 st = some q) : Ct l X 3 yX3_copyFrom (.code yX3_copyFrom cX3_copyFrom 2 (none)) [.ref (X.2.1 ho), .ref (X.2.1 ho0)] st none q := by
  refine Ct.of hX (by decide) (Nat.le_of_ble_eq_true rfl) ?_
  intro p e s m args below meth c hh hr
  exact Z_X3_copyFrom_0 hX hho hho0 hh hr st hf

def F_X3_hasRoom_17 (ho : Nat) (t0 : Int32) (st : St) : Option (Int32 × St) := gb t0 (some (t0, st))
set_option maxRecDepth 100000 in
set_option maxHeartbeats 4000000 in
theorem Z_X3_hasRoom_17 {l : Launch} {X : Cx} (hX : Ok X) {ho : Nat} (hho : Ho ho) {p : Program} {e : Env} {s : State} {m : MethodId} {args : Array Value} {below : List Frame} {meth : Method} {c : Code} {rr : Int32} {st' : St} (hh : Hy X p s m args meth c cX3_hasRoom 2 RX3) (hr : meth.sig.returnType = some .boolean) (t0 : Int32) (st : St) (hf : F_X3_hasRoom_17 ho t0 st = some (rr, st')) : Z X p l e (rmk 0) s m args below meth c 2 (MQ below (Qf X (some (.int rr)) st') args s 0 0 (cA X)) 17 [(0, .ref (X.2.1 ho))] [.int t0] st := by
  unfold F_X3_hasRoom_17 at hf
  obtain ⟨hb3, hf⟩ := gb_some hf
  obtain ⟨rfl, rfl⟩ := ret2 hf
  exact x_zret hh hr (nb_n hb3) dX3_hasRoom_17
def F_X3_hasRoom_16 (ho : Nat) (st : St) : Option (Int32 × St) := F_X3_hasRoom_17 ho 0 st
set_option maxRecDepth 100000 in
set_option maxHeartbeats 4000000 in
theorem Z_X3_hasRoom_16 {l : Launch} {X : Cx} (hX : Ok X) {ho : Nat} (hho : Ho ho) {p : Program} {e : Env} {s : State} {m : MethodId} {args : Array Value} {below : List Frame} {meth : Method} {c : Code} {rr : Int32} {st' : St} (hh : Hy X p s m args meth c cX3_hasRoom 2 RX3) (hr : meth.sig.returnType = some .boolean) (st : St) (hf : F_X3_hasRoom_16 ho st = some (rr, st')) : Z X p l e (rmk 0) s m args below meth c 2 (MQ below (Qf X (some (.int rr)) st') args s 0 0 (cA X)) 16 [(0, .ref (X.2.1 ho))] [] st := by
  unfold F_X3_hasRoom_16 at hf
  refine x_iconst hh dX3_hasRoom_16 0 rfl 17 rfl ?_
  exact Z_X3_hasRoom_17 hX hho hh hr  0 st hf
def F_X3_hasRoom_0 (ho : Nat) (v1 : Int32) (st : St) : Option (Int32 × St) := if v1 < 0 then F_X3_hasRoom_16 ho st else if (st.1 ho 0) ≤ v1 then F_X3_hasRoom_16 ho st else F_X3_hasRoom_17 ho 1 st
set_option maxRecDepth 100000 in
set_option maxHeartbeats 4000000 in
theorem Z_X3_hasRoom_0 {l : Launch} {X : Cx} (hX : Ok X) {ho : Nat} (hho : Ho ho) {p : Program} {e : Env} {s : State} {m : MethodId} {args : Array Value} {below : List Frame} {meth : Method} {c : Code} {rr : Int32} {st' : St} (hh : Hy X p s m args meth c cX3_hasRoom 2 RX3) (hr : meth.sig.returnType = some .boolean) (v1 : Int32) (st : St) (hf : F_X3_hasRoom_0 ho v1 st = some (rr, st')) : Z X p l e (rmk 0) s m args below meth c 2 (MQ below (Qf X (some (.int rr)) st') args s 0 0 (cA X)) 0 [(0, .ref (X.2.1 ho)), (1, .int v1)] [] st := by
  unfold F_X3_hasRoom_0 at hf
  refine x_iload_n hh dX3_hasRoom_0 rfl 1 rfl 1 rfl ?_
  refine x_if_lt hh dX3_hasRoom_1 16 rfl 4 rfl (fun hc1 => ?_) (fun hc1 => ?_)
  · have hf := t_pos hc1 hf
    refine x_sub (lv' := [(0, .ref (X.2.1 ho))]) [0] rfl ?_
    exact Z_X3_hasRoom_16 hX hho hh hr  st hf
  · have hf := t_neg hc1 hf
    refine x_iload_n hh dX3_hasRoom_4 rfl 1 rfl 5 rfl ?_
    refine x_aload_n hh dX3_hasRoom_5 rfl 0 rfl 6 rfl ?_
    refine x_getI hh cl_3 dX3_hasRoom_6 hho.1 0 rfl (Nat.le_of_ble_eq_true rfl) wd_105 9 rfl ?_
    refine x_icmp_ge hh dX3_hasRoom_9 16 rfl 12 rfl (fun hc2 => ?_) (fun hc2 => ?_)
    · have hf := t_pos hc2 hf
      refine x_sub (lv' := [(0, .ref (X.2.1 ho))]) [0] rfl ?_
      exact Z_X3_hasRoom_16 hX hho hh hr  st hf
    · have hf := t_neg hc2 hf
      refine x_iconst hh dX3_hasRoom_12 1 rfl 13 rfl ?_
      refine x_goto hh dX3_hasRoom_13 17 rfl ?_
      refine x_sub (lv' := [(0, .ref (X.2.1 ho))]) [0] rfl ?_
      exact Z_X3_hasRoom_17 hX hho hh hr  1 st hf
def F_X3_hasRoom (ho : Nat) (v1 : Int32) (st : St) : Option (Int32 × St) := F_X3_hasRoom_0 ho v1 st
set_option maxRecDepth 100000 in
theorem C_X3_hasRoom (l : Launch) {X : Cx} (hX : Ok X) {ho : Nat} (hho : Ho ho) {v1 : Int32} {st : St} {q : Int32 × St} (hf : F_X3_hasRoom ho v1 st = some q) : Ct l X 0 yX3_hasRoom (.code yX3_hasRoom cX3_hasRoom 2 (some .boolean)) [.ref (X.2.1 ho), .int v1] st (some (.int q.1)) q.2 := by
  refine Ct.of hX (by decide) (Nat.le_of_ble_eq_true rfl) ?_
  intro p e s m args below meth c hh hr
  exact Z_X3_hasRoom_0 hX hho hh hr v1 st hf

def F_X3_placesOf_22 (ho : Nat) (t0 : Int32) (st : St) : Option (Int32 × St) := some (t0, st)
set_option maxRecDepth 100000 in
set_option maxHeartbeats 4000000 in
theorem Z_X3_placesOf_22 {l : Launch} {X : Cx} (hX : Ok X) {ho : Nat} (hho : Ho ho) {p : Program} {e : Env} {s : State} {m : MethodId} {args : Array Value} {below : List Frame} {meth : Method} {c : Code} {rr : Int32} {st' : St} (hh : Hy X p s m args meth c cX3_placesOf 2 RX3) (hr : meth.sig.returnType = some .int) (t0 : Int32) (st : St) (hf : F_X3_placesOf_22 ho t0 st = some (rr, st')) : Z X p l e (rmk 0) s m args below meth c 2 (MQ below (Qf X (some (.int rr)) st') args s 0 0 (cA X)) 22 [(0, .ref (X.2.1 ho))] [.int t0] st := by
  unfold F_X3_placesOf_22 at hf
  obtain ⟨rfl, rfl⟩ := ret2 hf
  exact x_iret hh hr dX3_placesOf_22
def F_X3_placesOf_21 (ho : Nat) (st : St) : Option (Int32 × St) := F_X3_placesOf_22 ho 0 st
set_option maxRecDepth 100000 in
set_option maxHeartbeats 4000000 in
theorem Z_X3_placesOf_21 {l : Launch} {X : Cx} (hX : Ok X) {ho : Nat} (hho : Ho ho) {p : Program} {e : Env} {s : State} {m : MethodId} {args : Array Value} {below : List Frame} {meth : Method} {c : Code} {rr : Int32} {st' : St} (hh : Hy X p s m args meth c cX3_placesOf 2 RX3) (hr : meth.sig.returnType = some .int) (st : St) (hf : F_X3_placesOf_21 ho st = some (rr, st')) : Z X p l e (rmk 0) s m args below meth c 2 (MQ below (Qf X (some (.int rr)) st') args s 0 0 (cA X)) 21 [(0, .ref (X.2.1 ho))] [] st := by
  unfold F_X3_placesOf_21 at hf
  refine x_iconst hh dX3_placesOf_21 0 rfl 22 rfl ?_
  exact Z_X3_placesOf_22 hX hho hh hr  0 st hf
def F_X3_placesOf_0 (ho : Nat) (v1 : Int32) (st : St) : Option (Int32 × St) := if v1 < 0 then F_X3_placesOf_21 ho st else if (st.1 ho 0) ≤ v1 then F_X3_placesOf_21 ho st else gi v1 3 (F_X3_placesOf_22 ho (st.1 (ho + 1) v1.toNatClampNeg) st)
set_option maxRecDepth 100000 in
set_option maxHeartbeats 4000000 in
theorem Z_X3_placesOf_0 {l : Launch} {X : Cx} (hX : Ok X) {ho : Nat} (hho : Ho ho) {p : Program} {e : Env} {s : State} {m : MethodId} {args : Array Value} {below : List Frame} {meth : Method} {c : Code} {rr : Int32} {st' : St} (hh : Hy X p s m args meth c cX3_placesOf 2 RX3) (hr : meth.sig.returnType = some .int) (v1 : Int32) (st : St) (hf : F_X3_placesOf_0 ho v1 st = some (rr, st')) : Z X p l e (rmk 0) s m args below meth c 2 (MQ below (Qf X (some (.int rr)) st') args s 0 0 (cA X)) 0 [(0, .ref (X.2.1 ho)), (1, .int v1)] [] st := by
  unfold F_X3_placesOf_0 at hf
  refine x_iload_n hh dX3_placesOf_0 rfl 1 rfl 1 rfl ?_
  refine x_if_lt hh dX3_placesOf_1 21 rfl 4 rfl (fun hc1 => ?_) (fun hc1 => ?_)
  · have hf := t_pos hc1 hf
    refine x_sub (lv' := [(0, .ref (X.2.1 ho))]) [0] rfl ?_
    exact Z_X3_placesOf_21 hX hho hh hr  st hf
  · have hf := t_neg hc1 hf
    refine x_iload_n hh dX3_placesOf_4 rfl 1 rfl 5 rfl ?_
    refine x_aload_n hh dX3_placesOf_5 rfl 0 rfl 6 rfl ?_
    refine x_getI hh cl_3 dX3_placesOf_6 hho.1 0 rfl (Nat.le_of_ble_eq_true rfl) wd_105 9 rfl ?_
    refine x_icmp_ge hh dX3_placesOf_9 21 rfl 12 rfl (fun hc2 => ?_) (fun hc2 => ?_)
    · have hf := t_pos hc2 hf
      refine x_sub (lv' := [(0, .ref (X.2.1 ho))]) [0] rfl ?_
      exact Z_X3_placesOf_21 hX hho hh hr  st hf
    · have hf := t_neg hc2 hf
      refine x_aload_n hh dX3_placesOf_12 rfl 0 rfl 13 rfl ?_
      refine x_getR hh cl_3 dX3_placesOf_13 hho.1 3 (ho + 1) rfl (Nat.le_of_ble_eq_true rfl) wd_119 16 rfl ?_
      refine x_iload_n hh dX3_placesOf_16 rfl 1 rfl 17 rfl ?_
      obtain ⟨hi3, hf⟩ := gi_some hf
      refine x_iaload hh dX3_placesOf_17 hho.2.1 hi3 18 rfl ?_
      refine x_goto hh dX3_placesOf_18 22 rfl ?_
      refine x_sub (lv' := [(0, .ref (X.2.1 ho))]) [0] rfl ?_
      exact Z_X3_placesOf_22 hX hho hh hr  (st.1 (ho + 1) v1.toNatClampNeg) st hf
def F_X3_placesOf (ho : Nat) (v1 : Int32) (st : St) : Option (Int32 × St) := F_X3_placesOf_0 ho v1 st
set_option maxRecDepth 100000 in
theorem C_X3_placesOf (l : Launch) {X : Cx} (hX : Ok X) {ho : Nat} (hho : Ho ho) {v1 : Int32} {st : St} {q : Int32 × St} (hf : F_X3_placesOf ho v1 st = some q) : Ct l X 0 yX3_placesOf (.code yX3_placesOf cX3_placesOf 2 (some .int)) [.ref (X.2.1 ho), .int v1] st (some (.int q.1)) q.2 := by
  refine Ct.of hX (by decide) (Nat.le_of_ble_eq_true rfl) ?_
  intro p e s m args below meth c hh hr
  exact Z_X3_placesOf_0 hX hho hh hr v1 st hf

def F_X3_hasPlace_31 (ho : Nat) (t0 : Int32) (st : St) : Option (Int32 × St) := gb t0 (some (t0, st))
set_option maxRecDepth 100000 in
set_option maxHeartbeats 4000000 in
theorem Z_X3_hasPlace_31 {l : Launch} {X : Cx} (hX : Ok X) {ho : Nat} (hho : Ho ho) {p : Program} {e : Env} {s : State} {m : MethodId} {args : Array Value} {below : List Frame} {meth : Method} {c : Code} {rr : Int32} {st' : St} (hh : Hy X p s m args meth c cX3_hasPlace 3 RX3) (hr : meth.sig.returnType = some .boolean) (t0 : Int32) (st : St) (hf : F_X3_hasPlace_31 ho t0 st = some (rr, st')) : Z X p l e (rmk 0) s m args below meth c 3 (MQ below (Qf X (some (.int rr)) st') args s 0 0 (cA X)) 31 [(0, .ref (X.2.1 ho))] [.int t0] st := by
  unfold F_X3_hasPlace_31 at hf
  obtain ⟨hb6, hf⟩ := gb_some hf
  obtain ⟨rfl, rfl⟩ := ret2 hf
  exact x_zret hh hr (nb_n hb6) dX3_hasPlace_31
def F_X3_hasPlace_30 (ho : Nat) (st : St) : Option (Int32 × St) := F_X3_hasPlace_31 ho 0 st
set_option maxRecDepth 100000 in
set_option maxHeartbeats 4000000 in
theorem Z_X3_hasPlace_30 {l : Launch} {X : Cx} (hX : Ok X) {ho : Nat} (hho : Ho ho) {p : Program} {e : Env} {s : State} {m : MethodId} {args : Array Value} {below : List Frame} {meth : Method} {c : Code} {rr : Int32} {st' : St} (hh : Hy X p s m args meth c cX3_hasPlace 3 RX3) (hr : meth.sig.returnType = some .boolean) (st : St) (hf : F_X3_hasPlace_30 ho st = some (rr, st')) : Z X p l e (rmk 0) s m args below meth c 3 (MQ below (Qf X (some (.int rr)) st') args s 0 0 (cA X)) 30 [(0, .ref (X.2.1 ho))] [] st := by
  unfold F_X3_hasPlace_30 at hf
  refine x_iconst hh dX3_hasPlace_30 0 rfl 31 rfl ?_
  exact Z_X3_hasPlace_31 hX hho hh hr  0 st hf
def F_X3_hasPlace_0 (ho : Nat) (v1 : Int32) (v2 : Int32) (st : St) : Option (Int32 × St) := if v1 < 0 then F_X3_hasPlace_30 ho st else if (st.1 ho 0) ≤ v1 then F_X3_hasPlace_30 ho st else if v2 < 0 then F_X3_hasPlace_30 ho st else gi v1 3 (if (st.1 (ho + 1) v1.toNatClampNeg) ≤ v2 then F_X3_hasPlace_30 ho st else F_X3_hasPlace_31 ho 1 st)
set_option maxRecDepth 100000 in
set_option maxHeartbeats 4000000 in
theorem Z_X3_hasPlace_0 {l : Launch} {X : Cx} (hX : Ok X) {ho : Nat} (hho : Ho ho) {p : Program} {e : Env} {s : State} {m : MethodId} {args : Array Value} {below : List Frame} {meth : Method} {c : Code} {rr : Int32} {st' : St} (hh : Hy X p s m args meth c cX3_hasPlace 3 RX3) (hr : meth.sig.returnType = some .boolean) (v1 : Int32) (v2 : Int32) (st : St) (hf : F_X3_hasPlace_0 ho v1 v2 st = some (rr, st')) : Z X p l e (rmk 0) s m args below meth c 3 (MQ below (Qf X (some (.int rr)) st') args s 0 0 (cA X)) 0 [(0, .ref (X.2.1 ho)), (1, .int v1), (2, .int v2)] [] st := by
  unfold F_X3_hasPlace_0 at hf
  refine x_iload_n hh dX3_hasPlace_0 rfl 1 rfl 1 rfl ?_
  refine x_if_lt hh dX3_hasPlace_1 30 rfl 4 rfl (fun hc1 => ?_) (fun hc1 => ?_)
  · have hf := t_pos hc1 hf
    refine x_sub (lv' := [(0, .ref (X.2.1 ho))]) [0] rfl ?_
    exact Z_X3_hasPlace_30 hX hho hh hr  st hf
  · have hf := t_neg hc1 hf
    refine x_iload_n hh dX3_hasPlace_4 rfl 1 rfl 5 rfl ?_
    refine x_aload_n hh dX3_hasPlace_5 rfl 0 rfl 6 rfl ?_
    refine x_getI hh cl_3 dX3_hasPlace_6 hho.1 0 rfl (Nat.le_of_ble_eq_true rfl) wd_105 9 rfl ?_
    refine x_icmp_ge hh dX3_hasPlace_9 30 rfl 12 rfl (fun hc2 => ?_) (fun hc2 => ?_)
    · have hf := t_pos hc2 hf
      refine x_sub (lv' := [(0, .ref (X.2.1 ho))]) [0] rfl ?_
      exact Z_X3_hasPlace_30 hX hho hh hr  st hf
    · have hf := t_neg hc2 hf
      refine x_iload_n hh dX3_hasPlace_12 rfl 2 rfl 13 rfl ?_
      refine x_if_lt hh dX3_hasPlace_13 30 rfl 16 rfl (fun hc3 => ?_) (fun hc3 => ?_)
      · have hf := t_pos hc3 hf
        refine x_sub (lv' := [(0, .ref (X.2.1 ho))]) [0] rfl ?_
        exact Z_X3_hasPlace_30 hX hho hh hr  st hf
      · have hf := t_neg hc3 hf
        refine x_iload_n hh dX3_hasPlace_16 rfl 2 rfl 17 rfl ?_
        refine x_aload_n hh dX3_hasPlace_17 rfl 0 rfl 18 rfl ?_
        refine x_getR hh cl_3 dX3_hasPlace_18 hho.1 3 (ho + 1) rfl (Nat.le_of_ble_eq_true rfl) wd_119 21 rfl ?_
        refine x_iload_n hh dX3_hasPlace_21 rfl 1 rfl 22 rfl ?_
        obtain ⟨hi4, hf⟩ := gi_some hf
        refine x_iaload hh dX3_hasPlace_22 hho.2.1 hi4 23 rfl ?_
        refine x_icmp_ge hh dX3_hasPlace_23 30 rfl 26 rfl (fun hc5 => ?_) (fun hc5 => ?_)
        · have hf := t_pos hc5 hf
          refine x_sub (lv' := [(0, .ref (X.2.1 ho))]) [0] rfl ?_
          exact Z_X3_hasPlace_30 hX hho hh hr  st hf
        · have hf := t_neg hc5 hf
          refine x_iconst hh dX3_hasPlace_26 1 rfl 27 rfl ?_
          refine x_goto hh dX3_hasPlace_27 31 rfl ?_
          refine x_sub (lv' := [(0, .ref (X.2.1 ho))]) [0] rfl ?_
          exact Z_X3_hasPlace_31 hX hho hh hr  1 st hf
def F_X3_hasPlace (ho : Nat) (v1 : Int32) (v2 : Int32) (st : St) : Option (Int32 × St) := F_X3_hasPlace_0 ho v1 v2 st
set_option maxRecDepth 100000 in
theorem C_X3_hasPlace (l : Launch) {X : Cx} (hX : Ok X) {ho : Nat} (hho : Ho ho) {v1 : Int32} {v2 : Int32} {st : St} {q : Int32 × St} (hf : F_X3_hasPlace ho v1 v2 st = some q) : Ct l X 0 yX3_hasPlace (.code yX3_hasPlace cX3_hasPlace 3 (some .boolean)) [.ref (X.2.1 ho), .int v1, .int v2] st (some (.int q.1)) q.2 := by
  refine Ct.of hX (by decide) (Nat.le_of_ble_eq_true rfl) ?_
  intro p e s m args below meth c hh hr
  exact Z_X3_hasPlace_0 hX hho hh hr v1 v2 st hf

def F_X3_floorAt_51 (ho : Nat) (t0 : Int32) (st : St) : Option (Int32 × St) := some (t0, st)
set_option maxRecDepth 100000 in
set_option maxHeartbeats 4000000 in
theorem Z_X3_floorAt_51 {l : Launch} {X : Cx} (hX : Ok X) {ho : Nat} (hho : Ho ho) {p : Program} {e : Env} {s : State} {m : MethodId} {args : Array Value} {below : List Frame} {meth : Method} {c : Code} {rr : Int32} {st' : St} (hh : Hy X p s m args meth c cX3_floorAt 4 RX3) (hr : meth.sig.returnType = some .int) (t0 : Int32) (st : St) (hf : F_X3_floorAt_51 ho t0 st = some (rr, st')) : Z X p l e (rmk 0) s m args below meth c 4 (MQ below (Qf X (some (.int rr)) st') args s 0 0 (cA X)) 51 [(0, .ref (X.2.1 ho))] [.int t0] st := by
  unfold F_X3_floorAt_51 at hf
  obtain ⟨rfl, rfl⟩ := ret2 hf
  exact x_iret hh hr dX3_floorAt_51
def F_X3_floorAt_31 (ho : Nat) (v1 : Int32) (v2 : Int32) (t0 : Int32) (st : St) : Option (Int32 × St) := if t0 = 0 then F_X3_floorAt_51 ho 0 st else gi ((v1 * 6) + v2) 18 (F_X3_floorAt_51 ho (st.1 (ho + 2) ((v1 * 6) + v2).toNatClampNeg) st)
set_option maxRecDepth 100000 in
set_option maxHeartbeats 4000000 in
theorem Z_X3_floorAt_31 {l : Launch} {X : Cx} (hX : Ok X) {ho : Nat} (hho : Ho ho) {p : Program} {e : Env} {s : State} {m : MethodId} {args : Array Value} {below : List Frame} {meth : Method} {c : Code} {rr : Int32} {st' : St} (hh : Hy X p s m args meth c cX3_floorAt 4 RX3) (hr : meth.sig.returnType = some .int) (v1 : Int32) (v2 : Int32) (t0 : Int32) (st : St) (hf : F_X3_floorAt_31 ho v1 v2 t0 st = some (rr, st')) : Z X p l e (rmk 0) s m args below meth c 4 (MQ below (Qf X (some (.int rr)) st') args s 0 0 (cA X)) 31 [(0, .ref (X.2.1 ho)), (1, .int v1), (2, .int v2)] [.int t0] st := by
  unfold F_X3_floorAt_31 at hf
  refine x_istore_n hh dX3_floorAt_31 rfl (by decide) [(3, .int t0), (0, .ref (X.2.1 ho)), (1, .int v1), (2, .int v2)] rfl 32 rfl ?_
  refine x_iload_n hh dX3_floorAt_32 rfl 0 rfl 33 rfl ?_
  refine x_if_eq hh dX3_floorAt_33 50 rfl 36 rfl (fun hc6 => ?_) (fun hc6 => ?_)
  · have hf := t_pos hc6 hf
    refine x_iconst hh dX3_floorAt_50 0 rfl 51 rfl ?_
    refine x_sub (lv' := [(0, .ref (X.2.1 ho))]) [1] rfl ?_
    exact Z_X3_floorAt_51 hX hho hh hr  0 st hf
  · have hf := t_neg hc6 hf
    refine x_aload_n hh dX3_floorAt_36 rfl 1 rfl 37 rfl ?_
    refine x_getR hh cl_3 dX3_floorAt_37 hho.1 4 (ho + 2) rfl (Nat.le_of_ble_eq_true rfl) wd_121 40 rfl ?_
    refine x_iload_n hh dX3_floorAt_40 rfl 2 rfl 41 rfl ?_
    refine x_bipush hh dX3_floorAt_41 6 rfl 43 rfl ?_
    refine x_imul hh dX3_floorAt_43 44 rfl ?_
    refine x_iload_n hh dX3_floorAt_44 rfl 3 rfl 45 rfl ?_
    refine x_iadd hh dX3_floorAt_45 46 rfl ?_
    obtain ⟨hi7, hf⟩ := gi_some hf
    refine x_iaload hh dX3_floorAt_46 hho.2.2.1 hi7 47 rfl ?_
    refine x_goto hh dX3_floorAt_47 51 rfl ?_
    refine x_sub (lv' := [(0, .ref (X.2.1 ho))]) [1] rfl ?_
    exact Z_X3_floorAt_51 hX hho hh hr  (st.1 (ho + 2) ((v1 * 6) + v2).toNatClampNeg) st hf
def F_X3_floorAt_30 (ho : Nat) (v1 : Int32) (v2 : Int32) (st : St) : Option (Int32 × St) := F_X3_floorAt_31 ho v1 v2 0 st
set_option maxRecDepth 100000 in
set_option maxHeartbeats 4000000 in
theorem Z_X3_floorAt_30 {l : Launch} {X : Cx} (hX : Ok X) {ho : Nat} (hho : Ho ho) {p : Program} {e : Env} {s : State} {m : MethodId} {args : Array Value} {below : List Frame} {meth : Method} {c : Code} {rr : Int32} {st' : St} (hh : Hy X p s m args meth c cX3_floorAt 4 RX3) (hr : meth.sig.returnType = some .int) (v1 : Int32) (v2 : Int32) (st : St) (hf : F_X3_floorAt_30 ho v1 v2 st = some (rr, st')) : Z X p l e (rmk 0) s m args below meth c 4 (MQ below (Qf X (some (.int rr)) st') args s 0 0 (cA X)) 30 [(0, .ref (X.2.1 ho)), (1, .int v1), (2, .int v2)] [] st := by
  unfold F_X3_floorAt_30 at hf
  refine x_iconst hh dX3_floorAt_30 0 rfl 31 rfl ?_
  exact Z_X3_floorAt_31 hX hho hh hr  v1 v2 0 st hf
def F_X3_floorAt_0 (ho : Nat) (v1 : Int32) (v2 : Int32) (st : St) : Option (Int32 × St) := if v1 < 0 then F_X3_floorAt_30 ho v1 v2 st else if (st.1 ho 0) ≤ v1 then F_X3_floorAt_30 ho v1 v2 st else if v2 < 0 then F_X3_floorAt_30 ho v1 v2 st else gi v1 3 (if (st.1 (ho + 1) v1.toNatClampNeg) ≤ v2 then F_X3_floorAt_30 ho v1 v2 st else F_X3_floorAt_31 ho v1 v2 1 st)
set_option maxRecDepth 100000 in
set_option maxHeartbeats 4000000 in
theorem Z_X3_floorAt_0 {l : Launch} {X : Cx} (hX : Ok X) {ho : Nat} (hho : Ho ho) {p : Program} {e : Env} {s : State} {m : MethodId} {args : Array Value} {below : List Frame} {meth : Method} {c : Code} {rr : Int32} {st' : St} (hh : Hy X p s m args meth c cX3_floorAt 4 RX3) (hr : meth.sig.returnType = some .int) (v1 : Int32) (v2 : Int32) (st : St) (hf : F_X3_floorAt_0 ho v1 v2 st = some (rr, st')) : Z X p l e (rmk 0) s m args below meth c 4 (MQ below (Qf X (some (.int rr)) st') args s 0 0 (cA X)) 0 [(0, .ref (X.2.1 ho)), (1, .int v1), (2, .int v2)] [] st := by
  unfold F_X3_floorAt_0 at hf
  refine x_iload_n hh dX3_floorAt_0 rfl 1 rfl 1 rfl ?_
  refine x_if_lt hh dX3_floorAt_1 30 rfl 4 rfl (fun hc1 => ?_) (fun hc1 => ?_)
  · have hf := t_pos hc1 hf
    exact Z_X3_floorAt_30 hX hho hh hr  v1 v2 st hf
  · have hf := t_neg hc1 hf
    refine x_iload_n hh dX3_floorAt_4 rfl 1 rfl 5 rfl ?_
    refine x_aload_n hh dX3_floorAt_5 rfl 0 rfl 6 rfl ?_
    refine x_getI hh cl_3 dX3_floorAt_6 hho.1 0 rfl (Nat.le_of_ble_eq_true rfl) wd_105 9 rfl ?_
    refine x_icmp_ge hh dX3_floorAt_9 30 rfl 12 rfl (fun hc2 => ?_) (fun hc2 => ?_)
    · have hf := t_pos hc2 hf
      exact Z_X3_floorAt_30 hX hho hh hr  v1 v2 st hf
    · have hf := t_neg hc2 hf
      refine x_iload_n hh dX3_floorAt_12 rfl 2 rfl 13 rfl ?_
      refine x_if_lt hh dX3_floorAt_13 30 rfl 16 rfl (fun hc3 => ?_) (fun hc3 => ?_)
      · have hf := t_pos hc3 hf
        exact Z_X3_floorAt_30 hX hho hh hr  v1 v2 st hf
      · have hf := t_neg hc3 hf
        refine x_iload_n hh dX3_floorAt_16 rfl 2 rfl 17 rfl ?_
        refine x_aload_n hh dX3_floorAt_17 rfl 0 rfl 18 rfl ?_
        refine x_getR hh cl_3 dX3_floorAt_18 hho.1 3 (ho + 1) rfl (Nat.le_of_ble_eq_true rfl) wd_119 21 rfl ?_
        refine x_iload_n hh dX3_floorAt_21 rfl 1 rfl 22 rfl ?_
        obtain ⟨hi4, hf⟩ := gi_some hf
        refine x_iaload hh dX3_floorAt_22 hho.2.1 hi4 23 rfl ?_
        refine x_icmp_ge hh dX3_floorAt_23 30 rfl 26 rfl (fun hc5 => ?_) (fun hc5 => ?_)
        · have hf := t_pos hc5 hf
          exact Z_X3_floorAt_30 hX hho hh hr  v1 v2 st hf
        · have hf := t_neg hc5 hf
          refine x_iconst hh dX3_floorAt_26 1 rfl 27 rfl ?_
          refine x_goto hh dX3_floorAt_27 31 rfl ?_
          exact Z_X3_floorAt_31 hX hho hh hr  v1 v2 1 st hf
def F_X3_floorAt (ho : Nat) (v1 : Int32) (v2 : Int32) (st : St) : Option (Int32 × St) := F_X3_floorAt_0 ho v1 v2 st
set_option maxRecDepth 100000 in
theorem C_X3_floorAt (l : Launch) {X : Cx} (hX : Ok X) {ho : Nat} (hho : Ho ho) {v1 : Int32} {v2 : Int32} {st : St} {q : Int32 × St} (hf : F_X3_floorAt ho v1 v2 st = some q) : Ct l X 0 yX3_floorAt (.code yX3_floorAt cX3_floorAt 4 (some .int)) [.ref (X.2.1 ho), .int v1, .int v2] st (some (.int q.1)) q.2 := by
  refine Ct.of hX (by decide) (Nat.le_of_ble_eq_true rfl) ?_
  intro p e s m args below meth c hh hr
  exact Z_X3_floorAt_0 hX hho hh hr v1 v2 st hf

def F_X3_hasAll_14 (ho : Nat) (t0 : Int32) (st : St) : Option (Int32 × St) := gb t0 (some (t0, st))
set_option maxRecDepth 100000 in
set_option maxHeartbeats 4000000 in
theorem Z_X3_hasAll_14 {l : Launch} {X : Cx} (hX : Ok X) {ho : Nat} (hho : Ho ho) {p : Program} {e : Env} {s : State} {m : MethodId} {args : Array Value} {below : List Frame} {meth : Method} {c : Code} {rr : Int32} {st' : St} (hh : Hy X p s m args meth c cX3_hasAll 2 RX3) (hr : meth.sig.returnType = some .boolean) (t0 : Int32) (st : St) (hf : F_X3_hasAll_14 ho t0 st = some (rr, st')) : Z X p l e (rmk 0) s m args below meth c 2 (MQ below (Qf X (some (.int rr)) st') args s 0 0 (cA X)) 14 [(0, .ref (X.2.1 ho))] [.int t0] st := by
  unfold F_X3_hasAll_14 at hf
  obtain ⟨hb2, hf⟩ := gb_some hf
  obtain ⟨rfl, rfl⟩ := ret2 hf
  exact x_zret hh hr (nb_n hb2) dX3_hasAll_14
def F_X3_hasAll_0 (ho : Nat) (v1 : Int32) (st : St) : Option (Int32 × St) := if ((v1.toUInt32 >>> ((st.1 ho 1).toUInt32 &&& Int32.toUInt32 31)).toInt32) = 0 then F_X3_hasAll_14 ho 1 st else F_X3_hasAll_14 ho 0 st
set_option maxRecDepth 100000 in
set_option maxHeartbeats 4000000 in
theorem Z_X3_hasAll_0 {l : Launch} {X : Cx} (hX : Ok X) {ho : Nat} (hho : Ho ho) {p : Program} {e : Env} {s : State} {m : MethodId} {args : Array Value} {below : List Frame} {meth : Method} {c : Code} {rr : Int32} {st' : St} (hh : Hy X p s m args meth c cX3_hasAll 2 RX3) (hr : meth.sig.returnType = some .boolean) (v1 : Int32) (st : St) (hf : F_X3_hasAll_0 ho v1 st = some (rr, st')) : Z X p l e (rmk 0) s m args below meth c 2 (MQ below (Qf X (some (.int rr)) st') args s 0 0 (cA X)) 0 [(0, .ref (X.2.1 ho)), (1, .int v1)] [] st := by
  unfold F_X3_hasAll_0 at hf
  refine x_iload_n hh dX3_hasAll_0 rfl 1 rfl 1 rfl ?_
  refine x_aload_n hh dX3_hasAll_1 rfl 0 rfl 2 rfl ?_
  refine x_getI hh cl_3 dX3_hasAll_2 hho.1 1 rfl (Nat.le_of_ble_eq_true rfl) wd_111 5 rfl ?_
  refine x_iushr hh dX3_hasAll_5 6 rfl ?_
  refine x_if_ne hh dX3_hasAll_6 13 rfl 9 rfl (fun hc1 => ?_) (fun hc1 => ?_)
  · have hf := t_neg hc1 hf
    refine x_iconst hh dX3_hasAll_13 0 rfl 14 rfl ?_
    refine x_sub (lv' := [(0, .ref (X.2.1 ho))]) [0] rfl ?_
    exact Z_X3_hasAll_14 hX hho hh hr  0 st hf
  · have hf := t_pos hc1 hf
    refine x_iconst hh dX3_hasAll_9 1 rfl 10 rfl ?_
    refine x_goto hh dX3_hasAll_10 14 rfl ?_
    refine x_sub (lv' := [(0, .ref (X.2.1 ho))]) [0] rfl ?_
    exact Z_X3_hasAll_14 hX hho hh hr  1 st hf
def F_X3_hasAll (ho : Nat) (v1 : Int32) (st : St) : Option (Int32 × St) := F_X3_hasAll_0 ho v1 st
set_option maxRecDepth 100000 in
theorem C_X3_hasAll (l : Launch) {X : Cx} (hX : Ok X) {ho : Nat} (hho : Ho ho) {v1 : Int32} {st : St} {q : Int32 × St} (hf : F_X3_hasAll ho v1 st = some q) : Ct l X 0 yX3_hasAll (.code yX3_hasAll cX3_hasAll 2 (some .boolean)) [.ref (X.2.1 ho), .int v1] st (some (.int q.1)) q.2 := by
  refine Ct.of hX (by decide) (Nat.le_of_ble_eq_true rfl) ?_
  intro p e s m args below meth c hh hr
  exact Z_X3_hasAll_0 hX hho hh hr v1 st hf

def F_X3_friendshipWithAll_33 (ho : Nat) (k5 : Int32 → Int32 → Int32 → Int32 → St → Option (Int32 × St)) (v1 : Int32) (v2 : Int32) (v3 : Int32) (v4 : Int32) (st : St) : Option (Int32 × St) := k5 v1 v2 v3 (v4 + 1) st
set_option maxRecDepth 100000 in
set_option maxHeartbeats 4000000 in
theorem Z_X3_friendshipWithAll_33 {l : Launch} {X : Cx} (hX : Ok X) {ho : Nat} (hho : Ho ho) {p : Program} {e : Env} {s : State} {m : MethodId} {args : Array Value} {below : List Frame} {meth : Method} {c : Code} {rr : Int32} {st' : St} (hh : Hy X p s m args meth c cX3_friendshipWithAll 5 RX3) (hr : meth.sig.returnType = some .int) {k5 : Int32 → Int32 → Int32 → Int32 → St → Option (Int32 × St)} (hk5 : ∀ (v1 : Int32) (v2 : Int32) (v3 : Int32) (v4 : Int32) (st : St), k5 v1 v2 v3 v4 st = some (rr, st') → Z X p l e (rmk 2) s m args below meth c 5 (MQ below (Qf X (some (.int rr)) st') args s 0 0 (cA X)) 5 [(0, .ref (X.2.1 ho)), (1, .int v1), (2, .int v2), (3, .int v3), (4, .int v4)] [] st) (v1 : Int32) (v2 : Int32) (v3 : Int32) (v4 : Int32) (st : St) (hf : F_X3_friendshipWithAll_33 ho k5 v1 v2 v3 v4 st = some (rr, st')) : Z X p l e (rmk 2) s m args below meth c 5 (MQ below (Qf X (some (.int rr)) st') args s 0 0 (cA X)) 33 [(0, .ref (X.2.1 ho)), (1, .int v1), (2, .int v2), (3, .int v3), (4, .int v4)] [] st := by
  unfold F_X3_friendshipWithAll_33 at hf
  refine x_iinc hh dX3_friendshipWithAll_33 4 rfl (v4 + 1) rfl (by decide) [(4, .int (v4 + 1)), (0, .ref (X.2.1 ho)), (1, .int v1), (2, .int v2), (3, .int v3)] rfl 36 rfl ?_
  refine x_goto hh dX3_friendshipWithAll_36 5 rfl ?_
  refine x_sub (lv' := [(0, .ref (X.2.1 ho)), (1, .int v1), (2, .int v2), (3, .int v3), (4, .int (v4 + 1))]) [1, 2, 3, 4, 0] rfl ?_
  exact hk5 v1 v2 v3 (v4 + 1) st hf
def F_X3_friendshipWithAll_5 (ho : Nat) : Nat → Int32 → Int32 → Int32 → Int32 → St → Option (Int32 × St)
  | 0, _, _, _, _, _ => none
  | n + 1, v1, v2, v3, v4, st => if (st.1 ho 1) ≤ v4 then some (v3, st) else if ((v2 >>> (v4 &&& 31)) &&& 1) = 0 then F_X3_friendshipWithAll_33 ho (F_X3_friendshipWithAll_5 ho n) v1 v2 v3 v4 st else (F_X3_friendship ho v1 v4 st).bind (fun q3 => F_X3_friendshipWithAll_33 ho (F_X3_friendshipWithAll_5 ho n) v1 v2 (v3 + q3.1) v4 q3.2)
set_option maxRecDepth 100000 in
set_option maxHeartbeats 4000000 in
theorem Z_X3_friendshipWithAll_5 {l : Launch} {X : Cx} (hX : Ok X) {ho : Nat} (hho : Ho ho) {p : Program} {e : Env} {s : State} {m : MethodId} {args : Array Value} {below : List Frame} {meth : Method} {c : Code} {rr : Int32} {st' : St} (hh : Hy X p s m args meth c cX3_friendshipWithAll 5 RX3) (hr : meth.sig.returnType = some .int) : ∀ (n : Nat) (v1 : Int32) (v2 : Int32) (v3 : Int32) (v4 : Int32) (st : St), F_X3_friendshipWithAll_5 ho n v1 v2 v3 v4 st = some (rr, st') → Z X p l e (rmk 2) s m args below meth c 5 (MQ below (Qf X (some (.int rr)) st') args s 0 0 (cA X)) 5 [(0, .ref (X.2.1 ho)), (1, .int v1), (2, .int v2), (3, .int v3), (4, .int v4)] [] st := by
  intro n
  induction n with
  | zero =>
    intro v1 v2 v3 v4 st hf
    cases hf
  | succ n ih =>
    intro v1 v2 v3 v4 st hf
    rw [F_X3_friendshipWithAll_5] at hf
    refine x_iload hh dX3_friendshipWithAll_5 4 rfl 7 rfl ?_
    refine x_aload_n hh dX3_friendshipWithAll_7 rfl 0 rfl 8 rfl ?_
    refine x_getI hh cl_3 dX3_friendshipWithAll_8 hho.1 1 rfl (Nat.le_of_ble_eq_true rfl) wd_111 11 rfl ?_
    refine x_icmp_ge hh dX3_friendshipWithAll_11 39 rfl 14 rfl (fun hc1 => ?_) (fun hc1 => ?_)
    · have hf := t_pos hc1 hf
      refine x_iload_n hh dX3_friendshipWithAll_39 rfl 3 rfl 40 rfl ?_
      obtain ⟨rfl, rfl⟩ := ret2 hf
      exact x_iret hh hr dX3_friendshipWithAll_40
    · have hf := t_neg hc1 hf
      refine x_iload_n hh dX3_friendshipWithAll_14 rfl 2 rfl 15 rfl ?_
      refine x_iload hh dX3_friendshipWithAll_15 4 rfl 17 rfl ?_
      refine x_ishr hh dX3_friendshipWithAll_17 18 rfl ?_
      refine x_iconst hh dX3_friendshipWithAll_18 1 rfl 19 rfl ?_
      refine x_iand hh dX3_friendshipWithAll_19 20 rfl ?_
      refine x_if_eq hh dX3_friendshipWithAll_20 33 rfl 23 rfl (fun hc2 => ?_) (fun hc2 => ?_)
      · have hf := t_pos hc2 hf
        exact Z_X3_friendshipWithAll_33 hX hho hh hr ih  v1 v2 v3 v4 st hf
      · have hf := t_neg hc2 hf
        refine x_iload_n hh dX3_friendshipWithAll_23 rfl 3 rfl 24 rfl ?_
        refine x_aload_n hh dX3_friendshipWithAll_24 rfl 0 rfl 25 rfl ?_
        refine x_iload_n hh dX3_friendshipWithAll_25 rfl 1 rfl 26 rfl ?_
        refine x_iload hh dX3_friendshipWithAll_26 4 rfl 28 rfl ?_
        obtain ⟨q3, hq3, hf⟩ := b_some hf
        refine x_callV (rest := [.int v3]) hh mi_X3_friendship [.int v1, .int v4] dX3_friendshipWithAll_28 hho.1 wd_691 (C_X3_friendship l hX hho hq3) rfl rfl ⟨Nat.le_of_ble_eq_true rfl, Nat.le_of_ble_eq_true rfl⟩ (Nat.le_of_ble_eq_true rfl) 31 rfl [.int q3.1, .int v3] rfl ?_
        refine x_iadd hh dX3_friendshipWithAll_31 32 rfl ?_
        refine x_istore_n hh dX3_friendshipWithAll_32 rfl (by decide) [(3, .int (v3 + q3.1)), (0, .ref (X.2.1 ho)), (1, .int v1), (2, .int v2), (4, .int v4)] rfl 33 rfl ?_
        refine x_sub (lv' := [(0, .ref (X.2.1 ho)), (1, .int v1), (2, .int v2), (3, .int (v3 + q3.1)), (4, .int v4)]) [1, 2, 3, 0, 4] rfl ?_
        exact Z_X3_friendshipWithAll_33 hX hho hh hr ih  v1 v2 (v3 + q3.1) v4 q3.2 hf
def F_X3_friendshipWithAll_0 (ho : Nat) (v1 : Int32) (v2 : Int32) (st : St) : Option (Int32 × St) := F_X3_friendshipWithAll_5 ho fN v1 v2 0 0 st
set_option maxRecDepth 100000 in
set_option maxHeartbeats 4000000 in
theorem Z_X3_friendshipWithAll_0 {l : Launch} {X : Cx} (hX : Ok X) {ho : Nat} (hho : Ho ho) {p : Program} {e : Env} {s : State} {m : MethodId} {args : Array Value} {below : List Frame} {meth : Method} {c : Code} {rr : Int32} {st' : St} (hh : Hy X p s m args meth c cX3_friendshipWithAll 5 RX3) (hr : meth.sig.returnType = some .int) (v1 : Int32) (v2 : Int32) (st : St) (hf : F_X3_friendshipWithAll_0 ho v1 v2 st = some (rr, st')) : Z X p l e (rmk 2) s m args below meth c 5 (MQ below (Qf X (some (.int rr)) st') args s 0 0 (cA X)) 0 [(0, .ref (X.2.1 ho)), (1, .int v1), (2, .int v2)] [] st := by
  unfold F_X3_friendshipWithAll_0 at hf
  refine x_iconst hh dX3_friendshipWithAll_0 0 rfl 1 rfl ?_
  refine x_istore_n hh dX3_friendshipWithAll_1 rfl (by decide) [(3, .int 0), (0, .ref (X.2.1 ho)), (1, .int v1), (2, .int v2)] rfl 2 rfl ?_
  refine x_iconst hh dX3_friendshipWithAll_2 0 rfl 3 rfl ?_
  refine x_istore hh dX3_friendshipWithAll_3 (by decide) [(4, .int 0), (3, .int 0), (0, .ref (X.2.1 ho)), (1, .int v1), (2, .int v2)] rfl 5 rfl ?_
  refine x_sub (lv' := [(0, .ref (X.2.1 ho)), (1, .int v1), (2, .int v2), (3, .int 0), (4, .int 0)]) [2, 3, 4, 1, 0] rfl ?_
  exact Z_X3_friendshipWithAll_5 hX hho hh hr fN v1 v2 0 0 st hf
def F_X3_friendshipWithAll (ho : Nat) (v1 : Int32) (v2 : Int32) (st : St) : Option (Int32 × St) := F_X3_friendshipWithAll_0 ho v1 v2 st
set_option maxRecDepth 100000 in
theorem C_X3_friendshipWithAll (l : Launch) {X : Cx} (hX : Ok X) {ho : Nat} (hho : Ho ho) {v1 : Int32} {v2 : Int32} {st : St} {q : Int32 × St} (hf : F_X3_friendshipWithAll ho v1 v2 st = some q) : Ct l X 2 yX3_friendshipWithAll (.code yX3_friendshipWithAll cX3_friendshipWithAll 5 (some .int)) [.ref (X.2.1 ho), .int v1, .int v2] st (some (.int q.1)) q.2 := by
  refine Ct.of hX (by decide) (Nat.le_of_ble_eq_true rfl) ?_
  intro p e s m args below meth c hh hr
  exact Z_X3_friendshipWithAll_0 hX hho hh hr v1 v2 st hf

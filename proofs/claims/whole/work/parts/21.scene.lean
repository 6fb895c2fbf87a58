def F_X6_standAt_0 (sc : Nat) (v1 : Int32) (v2 : Int32) (v3 : Int32) (st : St) : Option (St) := gi v1 6 (bs (sV st (sc + 1) v1.toNatClampNeg v2) (fun st2 => gi v1 6 (bs (sV st2 (sc + 2) v1.toNatClampNeg v3) (fun st4 => gi v1 6 (bs (sV st4 (sc + 3) v1.toNatClampNeg 0) (fun st6 => some st6))))))
set_option maxRecDepth 100000 in
set_option maxHeartbeats 4000000 in
theorem Z_X6_standAt_0 {l : Launch} {X : Cx} (hX : Ok X) {sc : Nat} (hsc : Sc sc) {p : Program} {e : Env} {s : State} {m : MethodId} {args : Array Value} {below : List Frame} {meth : Method} {c : Code} {st' : St} (hh : Hy X p s m args meth c cX6_standAt 4 RX6) (hr : meth.sig.returnType = none) (v1 : Int32) (v2 : Int32) (v3 : Int32) (st : St) (hf : F_X6_standAt_0 sc v1 v2 v3 st = some st') : Z X p l e (rmk 0) s m args below meth c 4 (MQ below (Qf X none st') args s 0 0 (cA X)) 0 [(0, .ref (X.2.1 sc)), (1, .int v1), (2, .int v2), (3, .int v3)] [] st := by
  unfold F_X6_standAt_0 at hf
  refine x_aload_n hh dX6_standAt_0 rfl 0 rfl 1 rfl ?_
  refine x_getR hh cl_6 dX6_standAt_1 hsc.1 0 (sc + 1) rfl (Nat.le_of_ble_eq_true rfl) wd_157 4 rfl ?_
  refine x_iload_n hh dX6_standAt_4 rfl 1 rfl 5 rfl ?_
  refine x_iload_n hh dX6_standAt_5 rfl 2 rfl 6 rfl ?_
  obtain ⟨hi1, hf⟩ := gi_some hf
  obtain ⟨st2, est2, hf⟩ := bs_some hf
  refine x_iastore hh dX6_standAt_6 hsc.2.1 hi1 7 rfl st2 est2 ?_
  refine x_aload_n hh dX6_standAt_7 rfl 0 rfl 8 rfl ?_
  refine x_getR hh cl_6 dX6_standAt_8 hsc.1 1 (sc + 2) rfl (Nat.le_of_ble_eq_true rfl) wd_160 11 rfl ?_
  refine x_iload_n hh dX6_standAt_11 rfl 1 rfl 12 rfl ?_
  refine x_iload_n hh dX6_standAt_12 rfl 3 rfl 13 rfl ?_
  obtain ⟨hi3, hf⟩ := gi_some hf
  obtain ⟨st4, est4, hf⟩ := bs_some hf
  refine x_iastore hh dX6_standAt_13 hsc.2.2.1 hi3 14 rfl st4 est4 ?_
  refine x_aload_n hh dX6_standAt_14 rfl 0 rfl 15 rfl ?_
  refine x_getR hh cl_6 dX6_standAt_15 hsc.1 2 (sc + 3) rfl (Nat.le_of_ble_eq_true rfl) wd_163 18 rfl ?_
  refine x_iload_n hh dX6_standAt_18 rfl 1 rfl 19 rfl ?_
  refine x_iconst hh dX6_standAt_19 0 rfl 20 rfl ?_
  obtain ⟨hi5, hf⟩ := gi_some hf
  obtain ⟨st6, est6, hf⟩ := bs_some hf
  refine x_iastore hh dX6_standAt_20 hsc.2.2.2.1 hi5 21 rfl st6 est6 ?_
  obtain rfl := ret1 hf
  exact x_vret hh hr dX6_standAt_21
def F_X6_standAt (sc : Nat) (v1 : Int32) (v2 : Int32) (v3 : Int32) (st : St) : Option (St) := F_X6_standAt_0 sc v1 v2 v3 st
set_option maxRecDepth 100000 in
theorem C_X6_standAt (l : Launch) {X : Cx} (hX : Ok X) {sc : Nat} (hsc : Sc sc) {v1 : Int32} {v2 : Int32} {v3 : Int32} {st : St} {q : St} (hf : F_X6_standAt sc v1 v2 v3 st = some q) : Ct l X 0 yX6_standAt (.code yX6_standAt cX6_standAt 4 (none)) [.ref (X.2.1 sc), .int v1, .int v2, .int v3] st none q := by
  refine Ct.of hX (by decide) (Nat.le_of_ble_eq_true rfl) ?_
  intro p e s m args below meth c hh hr
  exact Z_X6_standAt_0 hX hsc hh hr v1 v2 v3 st hf

def F_X6_goOut_0 (sc : Nat) (v1 : Int32) (st : St) : Option (St) := (F_X6_standAt sc v1 ((-1)) ((-1)) st).bind (fun q1 => some q1)
set_option maxRecDepth 100000 in
set_option maxHeartbeats 4000000 in
theorem Z_X6_goOut_0 {l : Launch} {X : Cx} (hX : Ok X) {sc : Nat} (hsc : Sc sc) {p : Program} {e : Env} {s : State} {m : MethodId} {args : Array Value} {below : List Frame} {meth : Method} {c : Code} {st' : St} (hh : Hy X p s m args meth c cX6_goOut 2 RX6) (hr : meth.sig.returnType = none) (v1 : Int32) (st : St) (hf : F_X6_goOut_0 sc v1 st = some st') : Z X p l e (rmk 1) s m args below meth c 2 (MQ below (Qf X none st') args s 0 0 (cA X)) 0 [(0, .ref (X.2.1 sc)), (1, .int v1)] [] st := by
  unfold F_X6_goOut_0 at hf
  refine x_aload_n hh dX6_goOut_0 rfl 0 rfl 1 rfl ?_
  refine x_iload_n hh dX6_goOut_1 rfl 1 rfl 2 rfl ?_
  refine x_iconst hh dX6_goOut_2 (-1) rfl 3 rfl ?_
  refine x_iconst hh dX6_goOut_3 (-1) rfl 4 rfl ?_
  obtain ⟨q1, hq1, hf⟩ := b_some hf
  refine x_callV (rest := []) hh mi_X6_standAt [.int v1, .int ((-1)), .int ((-1))] dX6_goOut_4 hsc.1 wd_443 (C_X6_standAt l hX hsc hq1) rfl rfl ⟨Nat.le_of_ble_eq_true rfl, Nat.le_of_ble_eq_true rfl⟩ (Nat.le_of_ble_eq_true rfl) 7 rfl [] rfl ?_
  obtain rfl := ret1 hf
  exact x_vret hh hr dX6_goOut_7
def F_X6_goOut (sc : Nat) (v1 : Int32) (st : St) : Option (St) := F_X6_goOut_0 sc v1 st
set_option maxRecDepth 100000 in
theorem C_X6_goOut (l : Launch) {X : Cx} (hX : Ok X) {sc : Nat} (hsc : Sc sc) {v1 : Int32} {st : St} {q : St} (hf : F_X6_goOut sc v1 st = some q) : Ct l X 1 yX6_goOut (.code yX6_goOut cX6_goOut 2 (none)) [.ref (X.2.1 sc), .int v1] st none q := by
  refine Ct.of hX (by decide) (Nat.le_of_ble_eq_true rfl) ?_
  intro p e s m args below meth c hh hr
  exact Z_X6_goOut_0 hX hsc hh hr v1 st hf

def F_X6_sendAllOut_2 (sc : Nat) : Nat → Int32 → St → Option (St)
  | 0, _, _ => none
  | n + 1, v1, st => if (6 : Int32) ≤ v1 then some st else (F_X6_goOut sc v1 st).bind (fun q2 => F_X6_sendAllOut_2 sc n (v1 + 1) q2)
set_option maxRecDepth 100000 in
set_option maxHeartbeats 4000000 in
theorem Z_X6_sendAllOut_2 {l : Launch} {X : Cx} (hX : Ok X) {sc : Nat} (hsc : Sc sc) {p : Program} {e : Env} {s : State} {m : MethodId} {args : Array Value} {below : List Frame} {meth : Method} {c : Code} {st' : St} (hh : Hy X p s m args meth c cX6_sendAllOut 2 RX6) (hr : meth.sig.returnType = none) : ∀ (n : Nat) (v1 : Int32) (st : St), F_X6_sendAllOut_2 sc n v1 st = some st' → Z X p l e (rmk 2) s m args below meth c 2 (MQ below (Qf X none st') args s 0 0 (cA X)) 2 [(0, .ref (X.2.1 sc)), (1, .int v1)] [] st := by
  intro n
  induction n with
  | zero =>
    intro v1 st hf
    cases hf
  | succ n ih =>
    intro v1 st hf
    rw [F_X6_sendAllOut_2] at hf
    refine x_iload_n hh dX6_sendAllOut_2 rfl 1 rfl 3 rfl ?_
    refine x_bipush hh dX6_sendAllOut_3 6 rfl 5 rfl ?_
    refine x_icmp_ge hh dX6_sendAllOut_5 19 rfl 8 rfl (fun hc1 => ?_) (fun hc1 => ?_)
    · have hf := t_pos hc1 hf
      obtain rfl := ret1 hf
      exact x_vret hh hr dX6_sendAllOut_19
    · have hf := t_neg hc1 hf
      refine x_aload_n hh dX6_sendAllOut_8 rfl 0 rfl 9 rfl ?_
      refine x_iload_n hh dX6_sendAllOut_9 rfl 1 rfl 10 rfl ?_
      obtain ⟨q2, hq2, hf⟩ := b_some hf
      refine x_callV (rest := []) hh mi_X6_goOut [.int v1] dX6_sendAllOut_10 hsc.1 wd_439 (C_X6_goOut l hX hsc hq2) rfl rfl ⟨Nat.le_of_ble_eq_true rfl, Nat.le_of_ble_eq_true rfl⟩ (Nat.le_of_ble_eq_true rfl) 13 rfl [] rfl ?_
      refine x_iinc hh dX6_sendAllOut_13 1 rfl (v1 + 1) rfl (by decide) [(1, .int (v1 + 1)), (0, .ref (X.2.1 sc))] rfl 16 rfl ?_
      refine x_goto hh dX6_sendAllOut_16 2 rfl ?_
      refine x_sub (lv' := [(0, .ref (X.2.1 sc)), (1, .int (v1 + 1))]) [1, 0] rfl ?_
      exact ih (v1 + 1) q2 hf
def F_X6_sendAllOut_0 (sc : Nat) (st : St) : Option (St) := F_X6_sendAllOut_2 sc fN 0 st
set_option maxRecDepth 100000 in
set_option maxHeartbeats 4000000 in
theorem Z_X6_sendAllOut_0 {l : Launch} {X : Cx} (hX : Ok X) {sc : Nat} (hsc : Sc sc) {p : Program} {e : Env} {s : State} {m : MethodId} {args : Array Value} {below : List Frame} {meth : Method} {c : Code} {st' : St} (hh : Hy X p s m args meth c cX6_sendAllOut 2 RX6) (hr : meth.sig.returnType = none) (st : St) (hf : F_X6_sendAllOut_0 sc st = some st') : Z X p l e (rmk 2) s m args below meth c 2 (MQ below (Qf X none st') args s 0 0 (cA X)) 0 [(0, .ref (X.2.1 sc))] [] st := by
  unfold F_X6_sendAllOut_0 at hf
  refine x_iconst hh dX6_sendAllOut_0 0 rfl 1 rfl ?_
  refine x_istore_n hh dX6_sendAllOut_1 rfl (by decide) [(1, .int 0), (0, .ref (X.2.1 sc))] rfl 2 rfl ?_
  refine x_sub (lv' := [(0, .ref (X.2.1 sc)), (1, .int 0)]) [1, 0] rfl ?_
  exact Z_X6_sendAllOut_2 hX hsc hh hr fN 0 st hf
def F_X6_sendAllOut (sc : Nat) (st : St) : Option (St) := F_X6_sendAllOut_0 sc st
set_option maxRecDepth 100000 in
theorem C_X6_sendAllOut (l : Launch) {X : Cx} (hX : Ok X) {sc : Nat} (hsc : Sc sc) {st : St} {q : St} (hf : F_X6_sendAllOut sc st = some q) : Ct l X 2 yX6_sendAllOut (.code yX6_sendAllOut cX6_sendAllOut 2 (none)) [.ref (X.2.1 sc)] st none q := by
  refine Ct.of hX (by decide) (Nat.le_of_ble_eq_true rfl) ?_
  intro p e s m args below meth c hh hr
  exact Z_X6_sendAllOut_0 hX hsc hh hr st hf

def F_X6_begin_0 (sc : Nat) (ho0 : Nat) (st : St) : Option (St) := (F_X6_sendAllOut sc st).bind (fun q1 => (F_X7_copyRow (ho0 + 3) (sc + 4) q1).bind (fun q2 => (F_X7_copyRow (ho0 + 4) (sc + 5) q2).bind (fun q3 => some q3)))
set_option maxRecDepth 100000 in
set_option maxHeartbeats 4000000 in
theorem Z_X6_begin_0 {l : Launch} {X : Cx} (hX : Ok X) {sc : Nat} {ho0 : Nat} (hsc : Sc sc) (hho0 : Ho ho0) {p : Program} {e : Env} {s : State} {m : MethodId} {args : Array Value} {below : List Frame} {meth : Method} {c : Code} {st' : St} (hh : Hy X p s m args meth c cX6_begin 2 RX6) (hr : meth.sig.returnType = none) (st : St) (hf : F_X6_begin_0 sc ho0 st = some st') : Z X p l e (rmk 3) s m args below meth c 2 (MQ below (Qf X none st') args s 0 0 (cA X)) 0 [(0, .ref (X.2.1 sc)), (1, .ref (X.2.1 ho0))] [] st := by
  unfold F_X6_begin_0 at hf
  refine x_aload_n hh dX6_begin_0 rfl 0 rfl 1 rfl ?_
  obtain ⟨q1, hq1, hf⟩ := b_some hf
  refine x_callV (rest := []) hh mi_X6_sendAllOut [] dX6_begin_1 hsc.1 wd_435 (C_X6_sendAllOut l hX hsc hq1) rfl rfl ⟨Nat.le_of_ble_eq_true rfl, Nat.le_of_ble_eq_true rfl⟩ (Nat.le_of_ble_eq_true rfl) 4 rfl [] rfl ?_
  refine x_aload_n hh dX6_begin_4 rfl 1 rfl 5 rfl ?_
  refine x_getR hh cl_3 dX6_begin_5 hho0.1 5 (ho0 + 3) rfl (Nat.le_of_ble_eq_true rfl) wd_124 8 rfl ?_
  refine x_aload_n hh dX6_begin_8 rfl 0 rfl 9 rfl ?_
  refine x_getR hh cl_6 dX6_begin_9 hsc.1 3 (sc + 4) rfl (Nat.le_of_ble_eq_true rfl) wd_166 12 rfl ?_
  obtain ⟨q2, hq2, hf⟩ := b_some hf
  refine x_callSN (rest := []) hh ms_X7_copyRow [.ref (X.2.1 (ho0 + 3)), .ref (X.2.1 (sc + 4))] dX6_begin_12 (by decide) (C_X7_copyRow l hX hho0.2.2.2.1 hsc.2.2.2.2.1 hq2) rfl rfl ⟨Nat.le_of_ble_eq_true rfl, Nat.le_of_ble_eq_true rfl⟩ (Nat.le_of_ble_eq_true rfl) 15 rfl [] rfl ?_
  refine x_aload_n hh dX6_begin_15 rfl 1 rfl 16 rfl ?_
  refine x_getR hh cl_3 dX6_begin_16 hho0.1 6 (ho0 + 4) rfl (Nat.le_of_ble_eq_true rfl) wd_127 19 rfl ?_
  refine x_aload_n hh dX6_begin_19 rfl 0 rfl 20 rfl ?_
  refine x_getR hh cl_6 dX6_begin_20 hsc.1 4 (sc + 5) rfl (Nat.le_of_ble_eq_true rfl) wd_169 23 rfl ?_
  obtain ⟨q3, hq3, hf⟩ := b_some hf
  refine x_callSN (rest := []) hh ms_X7_copyRow [.ref (X.2.1 (ho0 + 4)), .ref (X.2.1 (sc + 5))] dX6_begin_23 (by decide) (C_X7_copyRow l hX hho0.2.2.2.2.1 hsc.2.2.2.2.2 hq3) rfl rfl ⟨Nat.le_of_ble_eq_true rfl, Nat.le_of_ble_eq_true rfl⟩ (Nat.le_of_ble_eq_true rfl) 26 rfl [] rfl ?_
  obtain rfl := ret1 hf
  exact x_vret hh hr dX6_begin_26
def F_X6_begin (sc : Nat) (ho0 : Nat) (st : St) : Option (St) := F_X6_begin_0 sc ho0 st
set_option maxRecDepth 100000 in
theorem C_X6_begin (l : Launch) {X : Cx} (hX : Ok X) {sc : Nat} (hsc : Sc sc) {ho0 : Nat} (hho0 : Ho ho0) {st : St} {q : St} (hf : F_X6_begin sc ho0 st = some q) : Ct l X 3 yX6_begin (.code yX6_begin cX6_begin 2 (none)) [.ref (X.2.1 sc), .ref (X.2.1 ho0)] st none q := by
  refine Ct.of hX (by decide) (Nat.le_of_ble_eq_true rfl) ?_
  intro p e s m args below meth c hh hr
  exact Z_X6_begin_0 hX hsc hho0 hh hr st hf

def F_X6_whoIsIn_26 (sc : Nat) (k4 : Int32 → Int32 → Int32 → St → Option (Int32 × St)) (v1 : Int32) (v2 : Int32) (v3 : Int32) (st : St) : Option (Int32 × St) := k4 v1 v2 (v3 + 1) st
set_option maxRecDepth 100000 in
set_option maxHeartbeats 4000000 in
theorem Z_X6_whoIsIn_26 {l : Launch} {X : Cx} (hX : Ok X) {sc : Nat} (hsc : Sc sc) {p : Program} {e : Env} {s : State} {m : MethodId} {args : Array Value} {below : List Frame} {meth : Method} {c : Code} {rr : Int32} {st' : St} (hh : Hy X p s m args meth c cX6_whoIsIn 4 RX6) (hr : meth.sig.returnType = some .int) {k4 : Int32 → Int32 → Int32 → St → Option (Int32 × St)} (hk4 : ∀ (v1 : Int32) (v2 : Int32) (v3 : Int32) (st : St), k4 v1 v2 v3 st = some (rr, st') → Z X p l e (rmk 0) s m args below meth c 4 (MQ below (Qf X (some (.int rr)) st') args s 0 0 (cA X)) 4 [(0, .ref (X.2.1 sc)), (1, .int v1), (2, .int v2), (3, .int v3)] [] st) (v1 : Int32) (v2 : Int32) (v3 : Int32) (st : St) (hf : F_X6_whoIsIn_26 sc k4 v1 v2 v3 st = some (rr, st')) : Z X p l e (rmk 0) s m args below meth c 4 (MQ below (Qf X (some (.int rr)) st') args s 0 0 (cA X)) 26 [(0, .ref (X.2.1 sc)), (1, .int v1), (2, .int v2), (3, .int v3)] [] st := by
  unfold F_X6_whoIsIn_26 at hf
  refine x_iinc hh dX6_whoIsIn_26 3 rfl (v3 + 1) rfl (by decide) [(3, .int (v3 + 1)), (0, .ref (X.2.1 sc)), (1, .int v1), (2, .int v2)] rfl 29 rfl ?_
  refine x_goto hh dX6_whoIsIn_29 4 rfl ?_
  refine x_sub (lv' := [(0, .ref (X.2.1 sc)), (1, .int v1), (2, .int v2), (3, .int (v3 + 1))]) [1, 2, 3, 0] rfl ?_
  exact hk4 v1 v2 (v3 + 1) st hf
def F_X6_whoIsIn_4 (sc : Nat) : Nat → Int32 → Int32 → Int32 → St → Option (Int32 × St)
  | 0, _, _, _, _ => none
  | n + 1, v1, v2, v3, st => if (6 : Int32) ≤ v3 then some (v2, st) else gi v3 6 (if (st.1 (sc + 1) v3.toNatClampNeg) = v1 then F_X6_whoIsIn_26 sc (F_X6_whoIsIn_4 sc n) v1 (v2 ||| (1 <<< (v3 &&& 31))) v3 st else F_X6_whoIsIn_26 sc (F_X6_whoIsIn_4 sc n) v1 v2 v3 st)
set_option maxRecDepth 100000 in
set_option maxHeartbeats 4000000 in
theorem Z_X6_whoIsIn_4 {l : Launch} {X : Cx} (hX : Ok X) {sc : Nat} (hsc : Sc sc) {p : Program} {e : Env} {s : State} {m : MethodId} {args : Array Value} {below : List Frame} {meth : Method} {c : Code} {rr : Int32} {st' : St} (hh : Hy X p s m args meth c cX6_whoIsIn 4 RX6) (hr : meth.sig.returnType = some .int) : ∀ (n : Nat) (v1 : Int32) (v2 : Int32) (v3 : Int32) (st : St), F_X6_whoIsIn_4 sc n v1 v2 v3 st = some (rr, st') → Z X p l e (rmk 0) s m args below meth c 4 (MQ below (Qf X (some (.int rr)) st') args s 0 0 (cA X)) 4 [(0, .ref (X.2.1 sc)), (1, .int v1), (2, .int v2), (3, .int v3)] [] st := by
  intro n
  induction n with
  | zero =>
    intro v1 v2 v3 st hf
    cases hf
  | succ n ih =>
    intro v1 v2 v3 st hf
    rw [F_X6_whoIsIn_4] at hf
    refine x_iload_n hh dX6_whoIsIn_4 rfl 3 rfl 5 rfl ?_
    refine x_bipush hh dX6_whoIsIn_5 6 rfl 7 rfl ?_
    refine x_icmp_ge hh dX6_whoIsIn_7 32 rfl 10 rfl (fun hc1 => ?_) (fun hc1 => ?_)
    · have hf := t_pos hc1 hf
      refine x_iload_n hh dX6_whoIsIn_32 rfl 2 rfl 33 rfl ?_
      obtain ⟨rfl, rfl⟩ := ret2 hf
      exact x_iret hh hr dX6_whoIsIn_33
    · have hf := t_neg hc1 hf
      refine x_aload_n hh dX6_whoIsIn_10 rfl 0 rfl 11 rfl ?_
      refine x_getR hh cl_6 dX6_whoIsIn_11 hsc.1 0 (sc + 1) rfl (Nat.le_of_ble_eq_true rfl) wd_157 14 rfl ?_
      refine x_iload_n hh dX6_whoIsIn_14 rfl 3 rfl 15 rfl ?_
      obtain ⟨hi2, hf⟩ := gi_some hf
      refine x_iaload hh dX6_whoIsIn_15 hsc.2.1 hi2 16 rfl ?_
      refine x_iload_n hh dX6_whoIsIn_16 rfl 1 rfl 17 rfl ?_
      refine x_icmp_ne hh dX6_whoIsIn_17 26 rfl 20 rfl (fun hc3 => ?_) (fun hc3 => ?_)
      · have hf := t_neg hc3 hf
        exact Z_X6_whoIsIn_26 hX hsc hh hr ih  v1 v2 v3 st hf
      · have hf := t_pos hc3 hf
        refine x_iload_n hh dX6_whoIsIn_20 rfl 2 rfl 21 rfl ?_
        refine x_iconst hh dX6_whoIsIn_21 1 rfl 22 rfl ?_
        refine x_iload_n hh dX6_whoIsIn_22 rfl 3 rfl 23 rfl ?_
        refine x_ishl hh dX6_whoIsIn_23 24 rfl ?_
        refine x_ior hh dX6_whoIsIn_24 25 rfl ?_
        refine x_istore_n hh dX6_whoIsIn_25 rfl (by decide) [(2, .int (v2 ||| (1 <<< (v3 &&& 31)))), (0, .ref (X.2.1 sc)), (1, .int v1), (3, .int v3)] rfl 26 rfl ?_
        refine x_sub (lv' := [(0, .ref (X.2.1 sc)), (1, .int v1), (2, .int (v2 ||| (1 <<< (v3 &&& 31)))), (3, .int v3)]) [1, 2, 0, 3] rfl ?_
        exact Z_X6_whoIsIn_26 hX hsc hh hr ih  v1 (v2 ||| (1 <<< (v3 &&& 31))) v3 st hf
def F_X6_whoIsIn_0 (sc : Nat) (v1 : Int32) (st : St) : Option (Int32 × St) := F_X6_whoIsIn_4 sc fN v1 0 0 st
set_option maxRecDepth 100000 in
set_option maxHeartbeats 4000000 in
theorem Z_X6_whoIsIn_0 {l : Launch} {X : Cx} (hX : Ok X) {sc : Nat} (hsc : Sc sc) {p : Program} {e : Env} {s : State} {m : MethodId} {args : Array Value} {below : List Frame} {meth : Method} {c : Code} {rr : Int32} {st' : St} (hh : Hy X p s m args meth c cX6_whoIsIn 4 RX6) (hr : meth.sig.returnType = some .int) (v1 : Int32) (st : St) (hf : F_X6_whoIsIn_0 sc v1 st = some (rr, st')) : Z X p l e (rmk 0) s m args below meth c 4 (MQ below (Qf X (some (.int rr)) st') args s 0 0 (cA X)) 0 [(0, .ref (X.2.1 sc)), (1, .int v1)] [] st := by
  unfold F_X6_whoIsIn_0 at hf
  refine x_iconst hh dX6_whoIsIn_0 0 rfl 1 rfl ?_
  refine x_istore_n hh dX6_whoIsIn_1 rfl (by decide) [(2, .int 0), (0, .ref (X.2.1 sc)), (1, .int v1)] rfl 2 rfl ?_
  refine x_iconst hh dX6_whoIsIn_2 0 rfl 3 rfl ?_
  refine x_istore_n hh dX6_whoIsIn_3 rfl (by decide) [(3, .int 0), (2, .int 0), (0, .ref (X.2.1 sc)), (1, .int v1)] rfl 4 rfl ?_
  refine x_sub (lv' := [(0, .ref (X.2.1 sc)), (1, .int v1), (2, .int 0), (3, .int 0)]) [2, 3, 1, 0] rfl ?_
  exact Z_X6_whoIsIn_4 hX hsc hh hr fN v1 0 0 st hf
def F_X6_whoIsIn (sc : Nat) (v1 : Int32) (st : St) : Option (Int32 × St) := F_X6_whoIsIn_0 sc v1 st
set_option maxRecDepth 100000 in
theorem C_X6_whoIsIn (l : Launch) {X : Cx} (hX : Ok X) {sc : Nat} (hsc : Sc sc) {v1 : Int32} {st : St} {q : Int32 × St} (hf : F_X6_whoIsIn sc v1 st = some q) : Ct l X 0 yX6_whoIsIn (.code yX6_whoIsIn cX6_whoIsIn 4 (some .int)) [.ref (X.2.1 sc), .int v1] st (some (.int q.1)) q.2 := by
  refine Ct.of hX (by decide) (Nat.le_of_ble_eq_true rfl) ?_
  intro p e s m args below meth c hh hr
  exact Z_X6_whoIsIn_0 hX hsc hh hr v1 st hf

def F_X6_somewhere_0 (sc : Nat) (st : St) : Option (Int32 × St) := (F_X6_whoIsIn sc ((-1)) st).bind (fun q1 => some (63 &&& (q1.1 ^^^ ((-1))), q1.2))
set_option maxRecDepth 100000 in
set_option maxHeartbeats 4000000 in
theorem Z_X6_somewhere_0 {l : Launch} {X : Cx} (hX : Ok X) {sc : Nat} (hsc : Sc sc) {p : Program} {e : Env} {s : State} {m : MethodId} {args : Array Value} {below : List Frame} {meth : Method} {c : Code} {rr : Int32} {st' : St} (hh : Hy X p s m args meth c cX6_somewhere 1 RX6) (hr : meth.sig.returnType = some .int) (st : St) (hf : F_X6_somewhere_0 sc st = some (rr, st')) : Z X p l e (rmk 1) s m args below meth c 1 (MQ below (Qf X (some (.int rr)) st') args s 0 0 (cA X)) 0 [(0, .ref (X.2.1 sc))] [] st := by
  unfold F_X6_somewhere_0 at hf
  refine x_bipush hh dX6_somewhere_0 63 rfl 2 rfl ?_
  refine x_aload_n hh dX6_somewhere_2 rfl 0 rfl 3 rfl ?_
  refine x_iconst hh dX6_somewhere_3 (-1) rfl 4 rfl ?_
  obtain ⟨q1, hq1, hf⟩ := b_some hf
  refine x_callV (rest := [.int 63]) hh mi_X6_whoIsIn [.int ((-1))] dX6_somewhere_4 hsc.1 wd_463 (C_X6_whoIsIn l hX hsc hq1) rfl rfl ⟨Nat.le_of_ble_eq_true rfl, Nat.le_of_ble_eq_true rfl⟩ (Nat.le_of_ble_eq_true rfl) 7 rfl [.int q1.1, .int 63] rfl ?_
  refine x_iconst hh dX6_somewhere_7 (-1) rfl 8 rfl ?_
  refine x_ixor hh dX6_somewhere_8 9 rfl ?_
  refine x_iand hh dX6_somewhere_9 10 rfl ?_
  obtain ⟨rfl, rfl⟩ := ret2 hf
  exact x_iret hh hr dX6_somewhere_10
def F_X6_somewhere (sc : Nat) (st : St) : Option (Int32 × St) := F_X6_somewhere_0 sc st
set_option maxRecDepth 100000 in
theorem C_X6_somewhere (l : Launch) {X : Cx} (hX : Ok X) {sc : Nat} (hsc : Sc sc) {st : St} {q : Int32 × St} (hf : F_X6_somewhere sc st = some q) : Ct l X 1 yX6_somewhere (.code yX6_somewhere cX6_somewhere 1 (some .int)) [.ref (X.2.1 sc)] st (some (.int q.1)) q.2 := by
  refine Ct.of hX (by decide) (Nat.le_of_ble_eq_true rfl) ?_
  intro p e s m args below meth c hh hr
  exact Z_X6_somewhere_0 hX hsc hh hr st hf

def F_X6_whoIsAt_30 (sc : Nat) (k2 : Int32 → Int32 → Int32 → St → Option (Int32 × St)) (v1 : Int32) (v2 : Int32) (v3 : Int32) (st : St) : Option (Int32 × St) := k2 v1 v2 (v3 + 1) st
set_option maxRecDepth 100000 in
set_option maxHeartbeats 4000000 in
theorem Z_X6_whoIsAt_30 {l : Launch} {X : Cx} (hX : Ok X) {sc : Nat} (hsc : Sc sc) {p : Program} {e : Env} {s : State} {m : MethodId} {args : Array Value} {below : List Frame} {meth : Method} {c : Code} {rr : Int32} {st' : St} (hh : Hy X p s m args meth c cX6_whoIsAt 4 RX6) (hr : meth.sig.returnType = some .int) {k2 : Int32 → Int32 → Int32 → St → Option (Int32 × St)} (hk2 : ∀ (v1 : Int32) (v2 : Int32) (v3 : Int32) (st : St), k2 v1 v2 v3 st = some (rr, st') → Z X p l e (rmk 0) s m args below meth c 4 (MQ below (Qf X (some (.int rr)) st') args s 0 0 (cA X)) 2 [(0, .ref (X.2.1 sc)), (1, .int v1), (2, .int v2), (3, .int v3)] [] st) (v1 : Int32) (v2 : Int32) (v3 : Int32) (st : St) (hf : F_X6_whoIsAt_30 sc k2 v1 v2 v3 st = some (rr, st')) : Z X p l e (rmk 0) s m args below meth c 4 (MQ below (Qf X (some (.int rr)) st') args s 0 0 (cA X)) 30 [(0, .ref (X.2.1 sc)), (1, .int v1), (2, .int v2), (3, .int v3)] [] st := by
  unfold F_X6_whoIsAt_30 at hf
  refine x_iinc hh dX6_whoIsAt_30 3 rfl (v3 + 1) rfl (by decide) [(3, .int (v3 + 1)), (0, .ref (X.2.1 sc)), (1, .int v1), (2, .int v2)] rfl 33 rfl ?_
  refine x_goto hh dX6_whoIsAt_33 2 rfl ?_
  refine x_sub (lv' := [(0, .ref (X.2.1 sc)), (1, .int v1), (2, .int v2), (3, .int (v3 + 1))]) [1, 2, 3, 0] rfl ?_
  exact hk2 v1 v2 (v3 + 1) st hf
def F_X6_whoIsAt_2 (sc : Nat) : Nat → Int32 → Int32 → Int32 → St → Option (Int32 × St)
  | 0, _, _, _, _ => none
  | n + 1, v1, v2, v3, st => if (6 : Int32) ≤ v3 then some ((-1), st) else gi v3 6 (if (st.1 (sc + 1) v3.toNatClampNeg) = v1 then gi v3 6 (if (st.1 (sc + 2) v3.toNatClampNeg) = v2 then some (v3, st) else F_X6_whoIsAt_30 sc (F_X6_whoIsAt_2 sc n) v1 v2 v3 st) else F_X6_whoIsAt_30 sc (F_X6_whoIsAt_2 sc n) v1 v2 v3 st)
set_option maxRecDepth 100000 in
set_option maxHeartbeats 4000000 in
theorem Z_X6_whoIsAt_2 {l : Launch} {X : Cx} (hX : Ok X) {sc : Nat} (hsc : Sc sc) {p : Program} {e : Env} {s : State} {m : MethodId} {args : Array Value} {below : List Frame} {meth : Method} {c : Code} {rr : Int32} {st' : St} (hh : Hy X p s m args meth c cX6_whoIsAt 4 RX6) (hr : meth.sig.returnType = some .int) : ∀ (n : Nat) (v1 : Int32) (v2 : Int32) (v3 : Int32) (st : St), F_X6_whoIsAt_2 sc n v1 v2 v3 st = some (rr, st') → Z X p l e (rmk 0) s m args below meth c 4 (MQ below (Qf X (some (.int rr)) st') args s 0 0 (cA X)) 2 [(0, .ref (X.2.1 sc)), (1, .int v1), (2, .int v2), (3, .int v3)] [] st := by
  intro n
  induction n with
  | zero =>
    intro v1 v2 v3 st hf
    cases hf
  | succ n ih =>
    intro v1 v2 v3 st hf
    rw [F_X6_whoIsAt_2] at hf
    refine x_iload_n hh dX6_whoIsAt_2 rfl 3 rfl 3 rfl ?_
    refine x_bipush hh dX6_whoIsAt_3 6 rfl 5 rfl ?_
    refine x_icmp_ge hh dX6_whoIsAt_5 36 rfl 8 rfl (fun hc1 => ?_) (fun hc1 => ?_)
    · have hf := t_pos hc1 hf
      refine x_iconst hh dX6_whoIsAt_36 (-1) rfl 37 rfl ?_
      obtain ⟨rfl, rfl⟩ := ret2 hf
      exact x_iret hh hr dX6_whoIsAt_37
    · have hf := t_neg hc1 hf
      refine x_aload_n hh dX6_whoIsAt_8 rfl 0 rfl 9 rfl ?_
      refine x_getR hh cl_6 dX6_whoIsAt_9 hsc.1 0 (sc + 1) rfl (Nat.le_of_ble_eq_true rfl) wd_157 12 rfl ?_
      refine x_iload_n hh dX6_whoIsAt_12 rfl 3 rfl 13 rfl ?_
      obtain ⟨hi2, hf⟩ := gi_some hf
      refine x_iaload hh dX6_whoIsAt_13 hsc.2.1 hi2 14 rfl ?_
      refine x_iload_n hh dX6_whoIsAt_14 rfl 1 rfl 15 rfl ?_
      refine x_icmp_ne hh dX6_whoIsAt_15 30 rfl 18 rfl (fun hc3 => ?_) (fun hc3 => ?_)
      · have hf := t_neg hc3 hf
        exact Z_X6_whoIsAt_30 hX hsc hh hr ih  v1 v2 v3 st hf
      · have hf := t_pos hc3 hf
        refine x_aload_n hh dX6_whoIsAt_18 rfl 0 rfl 19 rfl ?_
        refine x_getR hh cl_6 dX6_whoIsAt_19 hsc.1 1 (sc + 2) rfl (Nat.le_of_ble_eq_true rfl) wd_160 22 rfl ?_
        refine x_iload_n hh dX6_whoIsAt_22 rfl 3 rfl 23 rfl ?_
        obtain ⟨hi4, hf⟩ := gi_some hf
        refine x_iaload hh dX6_whoIsAt_23 hsc.2.2.1 hi4 24 rfl ?_
        refine x_iload_n hh dX6_whoIsAt_24 rfl 2 rfl 25 rfl ?_
        refine x_icmp_ne hh dX6_whoIsAt_25 30 rfl 28 rfl (fun hc5 => ?_) (fun hc5 => ?_)
        · have hf := t_neg hc5 hf
          exact Z_X6_whoIsAt_30 hX hsc hh hr ih  v1 v2 v3 st hf
        · have hf := t_pos hc5 hf
          refine x_iload_n hh dX6_whoIsAt_28 rfl 3 rfl 29 rfl ?_
          obtain ⟨rfl, rfl⟩ := ret2 hf
          exact x_iret hh hr dX6_whoIsAt_29
def F_X6_whoIsAt_0 (sc : Nat) (v1 : Int32) (v2 : Int32) (st : St) : Option (Int32 × St) := F_X6_whoIsAt_2 sc fN v1 v2 0 st
set_option maxRecDepth 100000 in
set_option maxHeartbeats 4000000 in
theorem Z_X6_whoIsAt_0 {l : Launch} {X : Cx} (hX : Ok X) {sc : Nat} (hsc : Sc sc) {p : Program} {e : Env} {s : State} {m : MethodId} {args : Array Value} {below : List Frame} {meth : Method} {c : Code} {rr : Int32} {st' : St} (hh : Hy X p s m args meth c cX6_whoIsAt 4 RX6) (hr : meth.sig.returnType = some .int) (v1 : Int32) (v2 : Int32) (st : St) (hf : F_X6_whoIsAt_0 sc v1 v2 st = some (rr, st')) : Z X p l e (rmk 0) s m args below meth c 4 (MQ below (Qf X (some (.int rr)) st') args s 0 0 (cA X)) 0 [(0, .ref (X.2.1 sc)), (1, .int v1), (2, .int v2)] [] st := by
  unfold F_X6_whoIsAt_0 at hf
  refine x_iconst hh dX6_whoIsAt_0 0 rfl 1 rfl ?_
  refine x_istore_n hh dX6_whoIsAt_1 rfl (by decide) [(3, .int 0), (0, .ref (X.2.1 sc)), (1, .int v1), (2, .int v2)] rfl 2 rfl ?_
  refine x_sub (lv' := [(0, .ref (X.2.1 sc)), (1, .int v1), (2, .int v2), (3, .int 0)]) [1, 2, 3, 0] rfl ?_
  exact Z_X6_whoIsAt_2 hX hsc hh hr fN v1 v2 0 st hf
def F_X6_whoIsAt (sc : Nat) (v1 : Int32) (v2 : Int32) (st : St) : Option (Int32 × St) := F_X6_whoIsAt_0 sc v1 v2 st
set_option maxRecDepth 100000 in
theorem C_X6_whoIsAt (l : Launch) {X : Cx} (hX : Ok X) {sc : Nat} (hsc : Sc sc) {v1 : Int32} {v2 : Int32} {st : St} {q : Int32 × St} (hf : F_X6_whoIsAt sc v1 v2 st = some q) : Ct l X 0 yX6_whoIsAt (.code yX6_whoIsAt cX6_whoIsAt 4 (some .int)) [.ref (X.2.1 sc), .int v1, .int v2] st (some (.int q.1)) q.2 := by
  refine Ct.of hX (by decide) (Nat.le_of_ble_eq_true rfl) ?_
  intro p e s m args below meth c hh hr
  exact Z_X6_whoIsAt_0 hX hsc hh hr v1 v2 st hf

def F_X6_canStandAt_25 (sc : Nat) (t0 : Int32) (st : St) : Option (Int32 × St) := gb t0 (some (t0, st))
set_option maxRecDepth 100000 in
set_option maxHeartbeats 4000000 in
theorem Z_X6_canStandAt_25 {l : Launch} {X : Cx} (hX : Ok X) {sc : Nat} (hsc : Sc sc) {p : Program} {e : Env} {s : State} {m : MethodId} {args : Array Value} {below : List Frame} {meth : Method} {c : Code} {rr : Int32} {st' : St} (hh : Hy X p s m args meth c cX6_canStandAt 4 RX6) (hr : meth.sig.returnType = some .boolean) (t0 : Int32) (st : St) (hf : F_X6_canStandAt_25 sc t0 st = some (rr, st')) : Z X p l e (rmk 1) s m args below meth c 4 (MQ below (Qf X (some (.int rr)) st') args s 0 0 (cA X)) 25 [(0, .ref (X.2.1 sc))] [.int t0] st := by
  unfold F_X6_canStandAt_25 at hf
  obtain ⟨hb5, hf⟩ := gb_some hf
  obtain ⟨rfl, rfl⟩ := ret2 hf
  exact x_zret hh hr (nb_n hb5) dX6_canStandAt_25
def F_X6_canStandAt_24 (sc : Nat) (st : St) : Option (Int32 × St) := F_X6_canStandAt_25 sc 0 st
set_option maxRecDepth 100000 in
set_option maxHeartbeats 4000000 in
theorem Z_X6_canStandAt_24 {l : Launch} {X : Cx} (hX : Ok X) {sc : Nat} (hsc : Sc sc) {p : Program} {e : Env} {s : State} {m : MethodId} {args : Array Value} {below : List Frame} {meth : Method} {c : Code} {rr : Int32} {st' : St} (hh : Hy X p s m args meth c cX6_canStandAt 4 RX6) (hr : meth.sig.returnType = some .boolean) (st : St) (hf : F_X6_canStandAt_24 sc st = some (rr, st')) : Z X p l e (rmk 1) s m args below meth c 4 (MQ below (Qf X (some (.int rr)) st') args s 0 0 (cA X)) 24 [(0, .ref (X.2.1 sc))] [] st := by
  unfold F_X6_canStandAt_24 at hf
  refine x_iconst hh dX6_canStandAt_24 0 rfl 25 rfl ?_
  exact Z_X6_canStandAt_25 hX hsc hh hr  0 st hf
def F_X6_canStandAt_0 (sc : Nat) (v1 : Int32) (v2 : Int32) (v3 : Int32) (st : St) : Option (Int32 × St) := gi v1 6 (if (st.1 (sc + 1) v1.toNatClampNeg) = ((-1)) then (F_X6_whoIsAt sc v2 v3 st).bind (fun q3 => if q3.1 = ((-1)) then F_X6_canStandAt_25 sc 1 q3.2 else F_X6_canStandAt_24 sc q3.2) else F_X6_canStandAt_24 sc st)
set_option maxRecDepth 100000 in
set_option maxHeartbeats 4000000 in
theorem Z_X6_canStandAt_0 {l : Launch} {X : Cx} (hX : Ok X) {sc : Nat} (hsc : Sc sc) {p : Program} {e : Env} {s : State} {m : MethodId} {args : Array Value} {below : List Frame} {meth : Method} {c : Code} {rr : Int32} {st' : St} (hh : Hy X p s m args meth c cX6_canStandAt 4 RX6) (hr : meth.sig.returnType = some .boolean) (v1 : Int32) (v2 : Int32) (v3 : Int32) (st : St) (hf : F_X6_canStandAt_0 sc v1 v2 v3 st = some (rr, st')) : Z X p l e (rmk 1) s m args below meth c 4 (MQ below (Qf X (some (.int rr)) st') args s 0 0 (cA X)) 0 [(0, .ref (X.2.1 sc)), (1, .int v1), (2, .int v2), (3, .int v3)] [] st := by
  unfold F_X6_canStandAt_0 at hf
  refine x_aload_n hh dX6_canStandAt_0 rfl 0 rfl 1 rfl ?_
  refine x_getR hh cl_6 dX6_canStandAt_1 hsc.1 0 (sc + 1) rfl (Nat.le_of_ble_eq_true rfl) wd_157 4 rfl ?_
  refine x_iload_n hh dX6_canStandAt_4 rfl 1 rfl 5 rfl ?_
  obtain ⟨hi1, hf⟩ := gi_some hf
  refine x_iaload hh dX6_canStandAt_5 hsc.2.1 hi1 6 rfl ?_
  refine x_iconst hh dX6_canStandAt_6 (-1) rfl 7 rfl ?_
  refine x_icmp_ne hh dX6_canStandAt_7 24 rfl 10 rfl (fun hc2 => ?_) (fun hc2 => ?_)
  · have hf := t_neg hc2 hf
    refine x_sub (lv' := [(0, .ref (X.2.1 sc))]) [0] rfl ?_
    exact Z_X6_canStandAt_24 hX hsc hh hr  st hf
  · have hf := t_pos hc2 hf
    refine x_aload_n hh dX6_canStandAt_10 rfl 0 rfl 11 rfl ?_
    refine x_iload_n hh dX6_canStandAt_11 rfl 2 rfl 12 rfl ?_
    refine x_iload_n hh dX6_canStandAt_12 rfl 3 rfl 13 rfl ?_
    obtain ⟨q3, hq3, hf⟩ := b_some hf
    refine x_callV (rest := []) hh mi_X6_whoIsAt [.int v2, .int v3] dX6_canStandAt_13 hsc.1 wd_522 (C_X6_whoIsAt l hX hsc hq3) rfl rfl ⟨Nat.le_of_ble_eq_true rfl, Nat.le_of_ble_eq_true rfl⟩ (Nat.le_of_ble_eq_true rfl) 16 rfl [.int q3.1] rfl ?_
    refine x_iconst hh dX6_canStandAt_16 (-1) rfl 17 rfl ?_
    refine x_icmp_ne hh dX6_canStandAt_17 24 rfl 20 rfl (fun hc4 => ?_) (fun hc4 => ?_)
    · have hf := t_neg hc4 hf
      refine x_sub (lv' := [(0, .ref (X.2.1 sc))]) [0] rfl ?_
      exact Z_X6_canStandAt_24 hX hsc hh hr  q3.2 hf
    · have hf := t_pos hc4 hf
      refine x_iconst hh dX6_canStandAt_20 1 rfl 21 rfl ?_
      refine x_goto hh dX6_canStandAt_21 25 rfl ?_
      refine x_sub (lv' := [(0, .ref (X.2.1 sc))]) [0] rfl ?_
      exact Z_X6_canStandAt_25 hX hsc hh hr  1 q3.2 hf
def F_X6_canStandAt (sc : Nat) (v1 : Int32) (v2 : Int32) (v3 : Int32) (st : St) : Option (Int32 × St) := F_X6_canStandAt_0 sc v1 v2 v3 st
set_option maxRecDepth 100000 in
theorem C_X6_canStandAt (l : Launch) {X : Cx} (hX : Ok X) {sc : Nat} (hsc : Sc sc) {v1 : Int32} {v2 : Int32} {v3 : Int32} {st : St} {q : Int32 × St} (hf : F_X6_canStandAt sc v1 v2 v3 st = some q) : Ct l X 1 yX6_canStandAt (.code yX6_canStandAt cX6_canStandAt 4 (some .boolean)) [.ref (X.2.1 sc), .int v1, .int v2, .int v3] st (some (.int q.1)) q.2 := by
  refine Ct.of hX (by decide) (Nat.le_of_ble_eq_true rfl) ?_
  intro p e s m args below meth c hh hr
  exact Z_X6_canStandAt_0 hX hsc hh hr v1 v2 v3 st hf

def F_X6_whoIsOlderIn_41 (sc : Nat) (k5 : Int32 → Int32 → Int32 → Int32 → St → Option (Int32 × St)) (v1 : Int32) (v2 : Int32) (v3 : Int32) (v4 : Int32) (st : St) : Option (Int32 × St) := k5 v1 v2 v3 (v4 + 1) st
set_option maxRecDepth 100000 in
set_option maxHeartbeats 4000000 in
theorem Z_X6_whoIsOlderIn_41 {l : Launch} {X : Cx} (hX : Ok X) {sc : Nat} (hsc : Sc sc) {p : Program} {e : Env} {s : State} {m : MethodId} {args : Array Value} {below : List Frame} {meth : Method} {c : Code} {rr : Int32} {st' : St} (hh : Hy X p s m args meth c cX6_whoIsOlderIn 5 RX6) (hr : meth.sig.returnType = some .int) {k5 : Int32 → Int32 → Int32 → Int32 → St → Option (Int32 × St)} (hk5 : ∀ (v1 : Int32) (v2 : Int32) (v3 : Int32) (v4 : Int32) (st : St), k5 v1 v2 v3 v4 st = some (rr, st') → Z X p l e (rmk 0) s m args below meth c 5 (MQ below (Qf X (some (.int rr)) st') args s 0 0 (cA X)) 5 [(0, .ref (X.2.1 sc)), (1, .int v1), (2, .int v2), (3, .int v3), (4, .int v4)] [] st) (v1 : Int32) (v2 : Int32) (v3 : Int32) (v4 : Int32) (st : St) (hf : F_X6_whoIsOlderIn_41 sc k5 v1 v2 v3 v4 st = some (rr, st')) : Z X p l e (rmk 0) s m args below meth c 5 (MQ below (Qf X (some (.int rr)) st') args s 0 0 (cA X)) 41 [(0, .ref (X.2.1 sc)), (1, .int v1), (2, .int v2), (3, .int v3), (4, .int v4)] [] st := by
  unfold F_X6_whoIsOlderIn_41 at hf
  refine x_iinc hh dX6_whoIsOlderIn_41 4 rfl (v4 + 1) rfl (by decide) [(4, .int (v4 + 1)), (0, .ref (X.2.1 sc)), (1, .int v1), (2, .int v2), (3, .int v3)] rfl 44 rfl ?_
  refine x_goto hh dX6_whoIsOlderIn_44 5 rfl ?_
  refine x_sub (lv' := [(0, .ref (X.2.1 sc)), (1, .int v1), (2, .int v2), (3, .int v3), (4, .int (v4 + 1))]) [1, 2, 3, 4, 0] rfl ?_
  exact hk5 v1 v2 v3 (v4 + 1) st hf
def F_X6_whoIsOlderIn_5 (sc : Nat) : Nat → Int32 → Int32 → Int32 → Int32 → St → Option (Int32 × St)
  | 0, _, _, _, _, _ => none
  | n + 1, v1, v2, v3, v4, st => if (6 : Int32) ≤ v4 then some (v3, st) else gi v4 6 (if (st.1 (sc + 1) v4.toNatClampNeg) = v1 then gi v4 6 (if (st.1 (sc + 4) v4.toNatClampNeg) ≤ v2 then F_X6_whoIsOlderIn_41 sc (F_X6_whoIsOlderIn_5 sc n) v1 v2 v3 v4 st else F_X6_whoIsOlderIn_41 sc (F_X6_whoIsOlderIn_5 sc n) v1 v2 (v3 ||| (1 <<< (v4 &&& 31))) v4 st) else F_X6_whoIsOlderIn_41 sc (F_X6_whoIsOlderIn_5 sc n) v1 v2 v3 v4 st)
set_option maxRecDepth 100000 in
set_option maxHeartbeats 4000000 in
theorem Z_X6_whoIsOlderIn_5 {l : Launch} {X : Cx} (hX : Ok X) {sc : Nat} (hsc : Sc sc) {p : Program} {e : Env} {s : State} {m : MethodId} {args : Array Value} {below : List Frame} {meth : Method} {c : Code} {rr : Int32} {st' : St} (hh : Hy X p s m args meth c cX6_whoIsOlderIn 5 RX6) (hr : meth.sig.returnType = some .int) : ∀ (n : Nat) (v1 : Int32) (v2 : Int32) (v3 : Int32) (v4 : Int32) (st : St), F_X6_whoIsOlderIn_5 sc n v1 v2 v3 v4 st = some (rr, st') → Z X p l e (rmk 0) s m args below meth c 5 (MQ below (Qf X (some (.int rr)) st') args s 0 0 (cA X)) 5 [(0, .ref (X.2.1 sc)), (1, .int v1), (2, .int v2), (3, .int v3), (4, .int v4)] [] st := by
  intro n
  induction n with
  | zero =>
    intro v1 v2 v3 v4 st hf
    cases hf
  | succ n ih =>
    intro v1 v2 v3 v4 st hf
    rw [F_X6_whoIsOlderIn_5] at hf
    refine x_iload hh dX6_whoIsOlderIn_5 4 rfl 7 rfl ?_
    refine x_bipush hh dX6_whoIsOlderIn_7 6 rfl 9 rfl ?_
    refine x_icmp_ge hh dX6_whoIsOlderIn_9 47 rfl 12 rfl (fun hc1 => ?_) (fun hc1 => ?_)
    · have hf := t_pos hc1 hf
      refine x_iload_n hh dX6_whoIsOlderIn_47 rfl 3 rfl 48 rfl ?_
      obtain ⟨rfl, rfl⟩ := ret2 hf
      exact x_iret hh hr dX6_whoIsOlderIn_48
    · have hf := t_neg hc1 hf
      refine x_aload_n hh dX6_whoIsOlderIn_12 rfl 0 rfl 13 rfl ?_
      refine x_getR hh cl_6 dX6_whoIsOlderIn_13 hsc.1 0 (sc + 1) rfl (Nat.le_of_ble_eq_true rfl) wd_157 16 rfl ?_
      refine x_iload hh dX6_whoIsOlderIn_16 4 rfl 18 rfl ?_
      obtain ⟨hi2, hf⟩ := gi_some hf
      refine x_iaload hh dX6_whoIsOlderIn_18 hsc.2.1 hi2 19 rfl ?_
      refine x_iload_n hh dX6_whoIsOlderIn_19 rfl 1 rfl 20 rfl ?_
      refine x_icmp_ne hh dX6_whoIsOlderIn_20 41 rfl 23 rfl (fun hc3 => ?_) (fun hc3 => ?_)
      · have hf := t_neg hc3 hf
        exact Z_X6_whoIsOlderIn_41 hX hsc hh hr ih  v1 v2 v3 v4 st hf
      · have hf := t_pos hc3 hf
        refine x_aload_n hh dX6_whoIsOlderIn_23 rfl 0 rfl 24 rfl ?_
        refine x_getR hh cl_6 dX6_whoIsOlderIn_24 hsc.1 3 (sc + 4) rfl (Nat.le_of_ble_eq_true rfl) wd_166 27 rfl ?_
        refine x_iload hh dX6_whoIsOlderIn_27 4 rfl 29 rfl ?_
        obtain ⟨hi4, hf⟩ := gi_some hf
        refine x_iaload hh dX6_whoIsOlderIn_29 hsc.2.2.2.2.1 hi4 30 rfl ?_
        refine x_iload_n hh dX6_whoIsOlderIn_30 rfl 2 rfl 31 rfl ?_
        refine x_icmp_le hh dX6_whoIsOlderIn_31 41 rfl 34 rfl (fun hc5 => ?_) (fun hc5 => ?_)
        · have hf := t_pos hc5 hf
          exact Z_X6_whoIsOlderIn_41 hX hsc hh hr ih  v1 v2 v3 v4 st hf
        · have hf := t_neg hc5 hf
          refine x_iload_n hh dX6_whoIsOlderIn_34 rfl 3 rfl 35 rfl ?_
          refine x_iconst hh dX6_whoIsOlderIn_35 1 rfl 36 rfl ?_
          refine x_iload hh dX6_whoIsOlderIn_36 4 rfl 38 rfl ?_
          refine x_ishl hh dX6_whoIsOlderIn_38 39 rfl ?_
          refine x_ior hh dX6_whoIsOlderIn_39 40 rfl ?_
          refine x_istore_n hh dX6_whoIsOlderIn_40 rfl (by decide) [(3, .int (v3 ||| (1 <<< (v4 &&& 31)))), (0, .ref (X.2.1 sc)), (1, .int v1), (2, .int v2), (4, .int v4)] rfl 41 rfl ?_
          refine x_sub (lv' := [(0, .ref (X.2.1 sc)), (1, .int v1), (2, .int v2), (3, .int (v3 ||| (1 <<< (v4 &&& 31)))), (4, .int v4)]) [1, 2, 3, 0, 4] rfl ?_
          exact Z_X6_whoIsOlderIn_41 hX hsc hh hr ih  v1 v2 (v3 ||| (1 <<< (v4 &&& 31))) v4 st hf
def F_X6_whoIsOlderIn_0 (sc : Nat) (v1 : Int32) (v2 : Int32) (st : St) : Option (Int32 × St) := F_X6_whoIsOlderIn_5 sc fN v1 v2 0 0 st
set_option maxRecDepth 100000 in
set_option maxHeartbeats 4000000 in
theorem Z_X6_whoIsOlderIn_0 {l : Launch} {X : Cx} (hX : Ok X) {sc : Nat} (hsc : Sc sc) {p : Program} {e : Env} {s : State} {m : MethodId} {args : Array Value} {below : List Frame} {meth : Method} {c : Code} {rr : Int32} {st' : St} (hh : Hy X p s m args meth c cX6_whoIsOlderIn 5 RX6) (hr : meth.sig.returnType = some .int) (v1 : Int32) (v2 : Int32) (st : St) (hf : F_X6_whoIsOlderIn_0 sc v1 v2 st = some (rr, st')) : Z X p l e (rmk 0) s m args below meth c 5 (MQ below (Qf X (some (.int rr)) st') args s 0 0 (cA X)) 0 [(0, .ref (X.2.1 sc)), (1, .int v1), (2, .int v2)] [] st := by
  unfold F_X6_whoIsOlderIn_0 at hf
  refine x_iconst hh dX6_whoIsOlderIn_0 0 rfl 1 rfl ?_
  refine x_istore_n hh dX6_whoIsOlderIn_1 rfl (by decide) [(3, .int 0), (0, .ref (X.2.1 sc)), (1, .int v1), (2, .int v2)] rfl 2 rfl ?_
  refine x_iconst hh dX6_whoIsOlderIn_2 0 rfl 3 rfl ?_
  refine x_istore hh dX6_whoIsOlderIn_3 (by decide) [(4, .int 0), (3, .int 0), (0, .ref (X.2.1 sc)), (1, .int v1), (2, .int v2)] rfl 5 rfl ?_
  refine x_sub (lv' := [(0, .ref (X.2.1 sc)), (1, .int v1), (2, .int v2), (3, .int 0), (4, .int 0)]) [2, 3, 4, 1, 0] rfl ?_
  exact Z_X6_whoIsOlderIn_5 hX hsc hh hr fN v1 v2 0 0 st hf
def F_X6_whoIsOlderIn (sc : Nat) (v1 : Int32) (v2 : Int32) (st : St) : Option (Int32 × St) := F_X6_whoIsOlderIn_0 sc v1 v2 st
set_option maxRecDepth 100000 in
theorem C_X6_whoIsOlderIn (l : Launch) {X : Cx} (hX : Ok X) {sc : Nat} (hsc : Sc sc) {v1 : Int32} {v2 : Int32} {st : St} {q : Int32 × St} (hf : F_X6_whoIsOlderIn sc v1 v2 st = some q) : Ct l X 0 yX6_whoIsOlderIn (.code yX6_whoIsOlderIn cX6_whoIsOlderIn 5 (some .int)) [.ref (X.2.1 sc), .int v1, .int v2] st (some (.int q.1)) q.2 := by
  refine Ct.of hX (by decide) (Nat.le_of_ble_eq_true rfl) ?_
  intro p e s m args below meth c hh hr
  exact Z_X6_whoIsOlderIn_0 hX hsc hh hr v1 v2 st hf

def F_X6_eldestOf_40 (sc : Nat) (k4 : Int32 → Int32 → Int32 → St → Option (Int32 × St)) (v1 : Int32) (v2 : Int32) (v3 : Int32) (st : St) : Option (Int32 × St) := k4 v1 v2 (v3 + 1) st
set_option maxRecDepth 100000 in
set_option maxHeartbeats 4000000 in
theorem Z_X6_eldestOf_40 {l : Launch} {X : Cx} (hX : Ok X) {sc : Nat} (hsc : Sc sc) {p : Program} {e : Env} {s : State} {m : MethodId} {args : Array Value} {below : List Frame} {meth : Method} {c : Code} {rr : Int32} {st' : St} (hh : Hy X p s m args meth c cX6_eldestOf 4 RX6) (hr : meth.sig.returnType = some .int) {k4 : Int32 → Int32 → Int32 → St → Option (Int32 × St)} (hk4 : ∀ (v1 : Int32) (v2 : Int32) (v3 : Int32) (st : St), k4 v1 v2 v3 st = some (rr, st') → Z X p l e (rmk 0) s m args below meth c 4 (MQ below (Qf X (some (.int rr)) st') args s 0 0 (cA X)) 4 [(0, .ref (X.2.1 sc)), (1, .int v1), (2, .int v2), (3, .int v3)] [] st) (v1 : Int32) (v2 : Int32) (v3 : Int32) (st : St) (hf : F_X6_eldestOf_40 sc k4 v1 v2 v3 st = some (rr, st')) : Z X p l e (rmk 0) s m args below meth c 4 (MQ below (Qf X (some (.int rr)) st') args s 0 0 (cA X)) 40 [(0, .ref (X.2.1 sc)), (1, .int v1), (2, .int v2), (3, .int v3)] [] st := by
  unfold F_X6_eldestOf_40 at hf
  refine x_iinc hh dX6_eldestOf_40 3 rfl (v3 + 1) rfl (by decide) [(3, .int (v3 + 1)), (0, .ref (X.2.1 sc)), (1, .int v1), (2, .int v2)] rfl 43 rfl ?_
  refine x_goto hh dX6_eldestOf_43 4 rfl ?_
  refine x_sub (lv' := [(0, .ref (X.2.1 sc)), (1, .int v1), (2, .int v2), (3, .int (v3 + 1))]) [1, 2, 3, 0] rfl ?_
  exact hk4 v1 v2 (v3 + 1) st hf
def F_X6_eldestOf_38 (sc : Nat) (k4 : Int32 → Int32 → Int32 → St → Option (Int32 × St)) (v1 : Int32) (v3 : Int32) (st : St) : Option (Int32 × St) := F_X6_eldestOf_40 sc k4 v1 v3 v3 st
set_option maxRecDepth 100000 in
set_option maxHeartbeats 4000000 in
theorem Z_X6_eldestOf_38 {l : Launch} {X : Cx} (hX : Ok X) {sc : Nat} (hsc : Sc sc) {p : Program} {e : Env} {s : State} {m : MethodId} {args : Array Value} {below : List Frame} {meth : Method} {c : Code} {rr : Int32} {st' : St} (hh : Hy X p s m args meth c cX6_eldestOf 4 RX6) (hr : meth.sig.returnType = some .int) {k4 : Int32 → Int32 → Int32 → St → Option (Int32 × St)} (hk4 : ∀ (v1 : Int32) (v2 : Int32) (v3 : Int32) (st : St), k4 v1 v2 v3 st = some (rr, st') → Z X p l e (rmk 0) s m args below meth c 4 (MQ below (Qf X (some (.int rr)) st') args s 0 0 (cA X)) 4 [(0, .ref (X.2.1 sc)), (1, .int v1), (2, .int v2), (3, .int v3)] [] st) (v1 : Int32) (v3 : Int32) (st : St) (hf : F_X6_eldestOf_38 sc k4 v1 v3 st = some (rr, st')) : Z X p l e (rmk 0) s m args below meth c 4 (MQ below (Qf X (some (.int rr)) st') args s 0 0 (cA X)) 38 [(0, .ref (X.2.1 sc)), (1, .int v1), (3, .int v3)] [] st := by
  unfold F_X6_eldestOf_38 at hf
  refine x_iload_n hh dX6_eldestOf_38 rfl 2 rfl 39 rfl ?_
  refine x_istore_n hh dX6_eldestOf_39 rfl (by decide) [(2, .int v3), (0, .ref (X.2.1 sc)), (1, .int v1), (3, .int v3)] rfl 40 rfl ?_
  refine x_sub (lv' := [(0, .ref (X.2.1 sc)), (1, .int v1), (2, .int v3), (3, .int v3)]) [1, 2, 0, 3] rfl ?_
  exact Z_X6_eldestOf_40 hX hsc hh hr hk4  v1 v3 v3 st hf
def F_X6_eldestOf_4 (sc : Nat) : Nat → Int32 → Int32 → Int32 → St → Option (Int32 × St)
  | 0, _, _, _, _ => none
  | n + 1, v1, v2, v3, st => if (6 : Int32) ≤ v3 then some (v2, st) else if ((v1 >>> (v3 &&& 31)) &&& 1) = 0 then F_X6_eldestOf_40 sc (F_X6_eldestOf_4 sc n) v1 v2 v3 st else if v2 = ((-1)) then F_X6_eldestOf_38 sc (F_X6_eldestOf_4 sc n) v1 v3 st else gi v3 6 (gi v2 6 (if (st.1 (sc + 4) v3.toNatClampNeg) ≤ (st.1 (sc + 4) v2.toNatClampNeg) then F_X6_eldestOf_40 sc (F_X6_eldestOf_4 sc n) v1 v2 v3 st else F_X6_eldestOf_38 sc (F_X6_eldestOf_4 sc n) v1 v3 st))
set_option maxRecDepth 100000 in
set_option maxHeartbeats 4000000 in
theorem Z_X6_eldestOf_4 {l : Launch} {X : Cx} (hX : Ok X) {sc : Nat} (hsc : Sc sc) {p : Program} {e : Env} {s : State} {m : MethodId} {args : Array Value} {below : List Frame} {meth : Method} {c : Code} {rr : Int32} {st' : St} (hh : Hy X p s m args meth c cX6_eldestOf 4 RX6) (hr : meth.sig.returnType = some .int) : ∀ (n : Nat) (v1 : Int32) (v2 : Int32) (v3 : Int32) (st : St), F_X6_eldestOf_4 sc n v1 v2 v3 st = some (rr, st') → Z X p l e (rmk 0) s m args below meth c 4 (MQ below (Qf X (some (.int rr)) st') args s 0 0 (cA X)) 4 [(0, .ref (X.2.1 sc)), (1, .int v1), (2, .int v2), (3, .int v3)] [] st := by
  intro n
  induction n with
  | zero =>
    intro v1 v2 v3 st hf
    cases hf
  | succ n ih =>
    intro v1 v2 v3 st hf
    rw [F_X6_eldestOf_4] at hf
    refine x_iload_n hh dX6_eldestOf_4 rfl 3 rfl 5 rfl ?_
    refine x_bipush hh dX6_eldestOf_5 6 rfl 7 rfl ?_
    refine x_icmp_ge hh dX6_eldestOf_7 46 rfl 10 rfl (fun hc1 => ?_) (fun hc1 => ?_)
    · have hf := t_pos hc1 hf
      refine x_iload_n hh dX6_eldestOf_46 rfl 2 rfl 47 rfl ?_
      obtain ⟨rfl, rfl⟩ := ret2 hf
      exact x_iret hh hr dX6_eldestOf_47
    · have hf := t_neg hc1 hf
      refine x_iload_n hh dX6_eldestOf_10 rfl 1 rfl 11 rfl ?_
      refine x_iload_n hh dX6_eldestOf_11 rfl 3 rfl 12 rfl ?_
      refine x_ishr hh dX6_eldestOf_12 13 rfl ?_
      refine x_iconst hh dX6_eldestOf_13 1 rfl 14 rfl ?_
      refine x_iand hh dX6_eldestOf_14 15 rfl ?_
      refine x_if_eq hh dX6_eldestOf_15 40 rfl 18 rfl (fun hc2 => ?_) (fun hc2 => ?_)
      · have hf := t_pos hc2 hf
        exact Z_X6_eldestOf_40 hX hsc hh hr ih  v1 v2 v3 st hf
      · have hf := t_neg hc2 hf
        refine x_iload_n hh dX6_eldestOf_18 rfl 2 rfl 19 rfl ?_
        refine x_iconst hh dX6_eldestOf_19 (-1) rfl 20 rfl ?_
        refine x_icmp_eq hh dX6_eldestOf_20 38 rfl 23 rfl (fun hc3 => ?_) (fun hc3 => ?_)
        · have hf := t_pos hc3 hf
          refine x_sub (lv' := [(0, .ref (X.2.1 sc)), (1, .int v1), (3, .int v3)]) [0, 1, 3] rfl ?_
          exact Z_X6_eldestOf_38 hX hsc hh hr ih  v1 v3 st hf
        · have hf := t_neg hc3 hf
          refine x_aload_n hh dX6_eldestOf_23 rfl 0 rfl 24 rfl ?_
          refine x_getR hh cl_6 dX6_eldestOf_24 hsc.1 3 (sc + 4) rfl (Nat.le_of_ble_eq_true rfl) wd_166 27 rfl ?_
          refine x_iload_n hh dX6_eldestOf_27 rfl 3 rfl 28 rfl ?_
          obtain ⟨hi4, hf⟩ := gi_some hf
          refine x_iaload hh dX6_eldestOf_28 hsc.2.2.2.2.1 hi4 29 rfl ?_
          refine x_aload_n hh dX6_eldestOf_29 rfl 0 rfl 30 rfl ?_
          refine x_getR hh cl_6 dX6_eldestOf_30 hsc.1 3 (sc + 4) rfl (Nat.le_of_ble_eq_true rfl) wd_166 33 rfl ?_
          refine x_iload_n hh dX6_eldestOf_33 rfl 2 rfl 34 rfl ?_
          obtain ⟨hi5, hf⟩ := gi_some hf
          refine x_iaload hh dX6_eldestOf_34 hsc.2.2.2.2.1 hi5 35 rfl ?_
          refine x_icmp_le hh dX6_eldestOf_35 40 rfl 38 rfl (fun hc6 => ?_) (fun hc6 => ?_)
          · have hf := t_pos hc6 hf
            exact Z_X6_eldestOf_40 hX hsc hh hr ih  v1 v2 v3 st hf
          · have hf := t_neg hc6 hf
            refine x_sub (lv' := [(0, .ref (X.2.1 sc)), (1, .int v1), (3, .int v3)]) [0, 1, 3] rfl ?_
            exact Z_X6_eldestOf_38 hX hsc hh hr ih  v1 v3 st hf
def F_X6_eldestOf_0 (sc : Nat) (v1 : Int32) (st : St) : Option (Int32 × St) := F_X6_eldestOf_4 sc fN v1 ((-1)) 0 st
set_option maxRecDepth 100000 in
set_option maxHeartbeats 4000000 in
theorem Z_X6_eldestOf_0 {l : Launch} {X : Cx} (hX : Ok X) {sc : Nat} (hsc : Sc sc) {p : Program} {e : Env} {s : State} {m : MethodId} {args : Array Value} {below : List Frame} {meth : Method} {c : Code} {rr : Int32} {st' : St} (hh : Hy X p s m args meth c cX6_eldestOf 4 RX6) (hr : meth.sig.returnType = some .int) (v1 : Int32) (st : St) (hf : F_X6_eldestOf_0 sc v1 st = some (rr, st')) : Z X p l e (rmk 0) s m args below meth c 4 (MQ below (Qf X (some (.int rr)) st') args s 0 0 (cA X)) 0 [(0, .ref (X.2.1 sc)), (1, .int v1)] [] st := by
  unfold F_X6_eldestOf_0 at hf
  refine x_iconst hh dX6_eldestOf_0 (-1) rfl 1 rfl ?_
  refine x_istore_n hh dX6_eldestOf_1 rfl (by decide) [(2, .int ((-1))), (0, .ref (X.2.1 sc)), (1, .int v1)] rfl 2 rfl ?_
  refine x_iconst hh dX6_eldestOf_2 0 rfl 3 rfl ?_
  refine x_istore_n hh dX6_eldestOf_3 rfl (by decide) [(3, .int 0), (2, .int ((-1))), (0, .ref (X.2.1 sc)), (1, .int v1)] rfl 4 rfl ?_
  refine x_sub (lv' := [(0, .ref (X.2.1 sc)), (1, .int v1), (2, .int ((-1))), (3, .int 0)]) [2, 3, 1, 0] rfl ?_
  exact Z_X6_eldestOf_4 hX hsc hh hr fN v1 ((-1)) 0 st hf
def F_X6_eldestOf (sc : Nat) (v1 : Int32) (st : St) : Option (Int32 × St) := F_X6_eldestOf_0 sc v1 st
set_option maxRecDepth 100000 in
theorem C_X6_eldestOf (l : Launch) {X : Cx} (hX : Ok X) {sc : Nat} (hsc : Sc sc) {v1 : Int32} {st : St} {q : Int32 × St} (hf : F_X6_eldestOf sc v1 st = some q) : Ct l X 0 yX6_eldestOf (.code yX6_eldestOf cX6_eldestOf 4 (some .int)) [.ref (X.2.1 sc), .int v1] st (some (.int q.1)) q.2 := by
  refine Ct.of hX (by decide) (Nat.le_of_ble_eq_true rfl) ?_
  intro p e s m args below meth c hh hr
  exact Z_X6_eldestOf_0 hX hsc hh hr v1 st hf

def F_X6_copyFrom_0 (sc : Nat) (sc0 : Nat) (st : St) : Option (St) := (F_X7_copyRow (sc0 + 1) (sc + 1) st).bind (fun q1 => (F_X7_copyRow (sc0 + 2) (sc + 2) q1).bind (fun q2 => (F_X7_copyRow (sc0 + 3) (sc + 3) q2).bind (fun q3 => (F_X7_copyRow (sc0 + 4) (sc + 4) q3).bind (fun q4 => (F_X7_copyRow (sc0 + 5) (sc + 5) q4).bind (fun q5 => bs (sV q5 sc 5 (q5.1 sc0 5)) (fun st6 => bs (sV st6 sc 6 (st6.1 sc0 6)) (fun st7 => some st7)))))))
set_option maxRecDepth 100000 in
set_option maxHeartbeats 4000000 in
theorem Z_X6_copyFrom_0 {l : Launch} {X : Cx} (hX : Ok X) {sc : Nat} {sc0 : Nat} (hsc : Sc sc) (hsc0 : Sc sc0) {p : Program} {e : Env} {s : State} {m : MethodId} {args : Array Value} {below : List Frame} {meth : Method} {c : Code} {st' : St} (hh : Hy X p s m args meth c cX6_copyFrom 2 RX6) (hr : meth.sig.returnType = none) (st : St) (hf : F_X6_copyFrom_0 sc sc0 st = some st') : Z X p l e (rmk 3) s m args below meth c 2 (MQ below (Qf X none st') args s 0 0 (cA X)) 0 [(0, .ref (X.2.1 sc)), (1, .ref (X.2.1 sc0))] [] st := by
  unfold F_X6_copyFrom_0 at hf
  refine x_aload_n hh dX6_copyFrom_0 rfl 1 rfl 1 rfl ?_
  refine x_getR hh cl_6 dX6_copyFrom_1 hsc0.1 0 (sc0 + 1) rfl (Nat.le_of_ble_eq_true rfl) wd_157 4 rfl ?_
  refine x_aload_n hh dX6_copyFrom_4 rfl 0 rfl 5 rfl ?_
  refine x_getR hh cl_6 dX6_copyFrom_5 hsc.1 0 (sc + 1) rfl (Nat.le_of_ble_eq_true rfl) wd_157 8 rfl ?_
  obtain ⟨q1, hq1, hf⟩ := b_some hf
  refine x_callSN (rest := []) hh ms_X7_copyRow [.ref (X.2.1 (sc0 + 1)), .ref (X.2.1 (sc + 1))] dX6_copyFrom_8 (by decide) (C_X7_copyRow l hX hsc0.2.1 hsc.2.1 hq1) rfl rfl ⟨Nat.le_of_ble_eq_true rfl, Nat.le_of_ble_eq_true rfl⟩ (Nat.le_of_ble_eq_true rfl) 11 rfl [] rfl ?_
  refine x_aload_n hh dX6_copyFrom_11 rfl 1 rfl 12 rfl ?_
  refine x_getR hh cl_6 dX6_copyFrom_12 hsc0.1 1 (sc0 + 2) rfl (Nat.le_of_ble_eq_true rfl) wd_160 15 rfl ?_
  refine x_aload_n hh dX6_copyFrom_15 rfl 0 rfl 16 rfl ?_
  refine x_getR hh cl_6 dX6_copyFrom_16 hsc.1 1 (sc + 2) rfl (Nat.le_of_ble_eq_true rfl) wd_160 19 rfl ?_
  obtain ⟨q2, hq2, hf⟩ := b_some hf
  refine x_callSN (rest := []) hh ms_X7_copyRow [.ref (X.2.1 (sc0 + 2)), .ref (X.2.1 (sc + 2))] dX6_copyFrom_19 (by decide) (C_X7_copyRow l hX hsc0.2.2.1 hsc.2.2.1 hq2) rfl rfl ⟨Nat.le_of_ble_eq_true rfl, Nat.le_of_ble_eq_true rfl⟩ (Nat.le_of_ble_eq_true rfl) 22 rfl [] rfl ?_
  refine x_aload_n hh dX6_copyFrom_22 rfl 1 rfl 23 rfl ?_
  refine x_getR hh cl_6 dX6_copyFrom_23 hsc0.1 2 (sc0 + 3) rfl (Nat.le_of_ble_eq_true rfl) wd_163 26 rfl ?_
  refine x_aload_n hh dX6_copyFrom_26 rfl 0 rfl 27 rfl ?_
  refine x_getR hh cl_6 dX6_copyFrom_27 hsc.1 2 (sc + 3) rfl (Nat.le_of_ble_eq_true rfl) wd_163 30 rfl ?_
  obtain ⟨q3, hq3, hf⟩ := b_some hf
  refine x_callSN (rest := []) hh ms_X7_copyRow [.ref (X.2.1 (sc0 + 3)), .ref (X.2.1 (sc + 3))] dX6_copyFrom_30 (by decide) (C_X7_copyRow l hX hsc0.2.2.2.1 hsc.2.2.2.1 hq3) rfl rfl ⟨Nat.le_of_ble_eq_true rfl, Nat.le_of_ble_eq_true rfl⟩ (Nat.le_of_ble_eq_true rfl) 33 rfl [] rfl ?_
  refine x_aload_n hh dX6_copyFrom_33 rfl 1 rfl 34 rfl ?_
  refine x_getR hh cl_6 dX6_copyFrom_34 hsc0.1 3 (sc0 + 4) rfl (Nat.le_of_ble_eq_true rfl) wd_166 37 rfl ?_
  refine x_aload_n hh dX6_copyFrom_37 rfl 0 rfl 38 rfl ?_
  refine x_getR hh cl_6 dX6_copyFrom_38 hsc.1 3 (sc + 4) rfl (Nat.le_of_ble_eq_true rfl) wd_166 41 rfl ?_
  obtain ⟨q4, hq4, hf⟩ := b_some hf
  refine x_callSN (rest := []) hh ms_X7_copyRow [.ref (X.2.1 (sc0 + 4)), .ref (X.2.1 (sc + 4))] dX6_copyFrom_41 (by decide) (C_X7_copyRow l hX hsc0.2.2.2.2.1 hsc.2.2.2.2.1 hq4) rfl rfl ⟨Nat.le_of_ble_eq_true rfl, Nat.le_of_ble_eq_true rfl⟩ (Nat.le_of_ble_eq_true rfl) 44 rfl [] rfl ?_
  refine x_aload_n hh dX6_copyFrom_44 rfl 1 rfl 45 rfl ?_
  refine x_getR hh cl_6 dX6_copyFrom_45 hsc0.1 4 (sc0 + 5) rfl (Nat.le_of_ble_eq_true rfl) wd_169 48 rfl ?_
  refine x_aload_n hh dX6_copyFrom_48 rfl 0 rfl 49 rfl ?_
  refine x_getR hh cl_6 dX6_copyFrom_49 hsc.1 4 (sc + 5) rfl (Nat.le_of_ble_eq_true rfl) wd_169 52 rfl ?_
  obtain ⟨q5, hq5, hf⟩ := b_some hf
  refine x_callSN (rest := []) hh ms_X7_copyRow [.ref (X.2.1 (sc0 + 5)), .ref (X.2.1 (sc + 5))] dX6_copyFrom_52 (by decide) (C_X7_copyRow l hX hsc0.2.2.2.2.2 hsc.2.2.2.2.2 hq5) rfl rfl ⟨Nat.le_of_ble_eq_true rfl, Nat.le_of_ble_eq_true rfl⟩ (Nat.le_of_ble_eq_true rfl) 55 rfl [] rfl ?_
  refine x_aload_n hh dX6_copyFrom_55 rfl 0 rfl 56 rfl ?_
  refine x_aload_n hh dX6_copyFrom_56 rfl 1 rfl 57 rfl ?_
  refine x_getI hh cl_6 dX6_copyFrom_57 hsc0.1 5 rfl (Nat.le_of_ble_eq_true rfl) wd_173 60 rfl ?_
  obtain ⟨st6, est6, hf⟩ := bs_some hf
  refine x_putI hh cl_6 dX6_copyFrom_60 hsc.1 5 rfl (Nat.le_of_ble_eq_true rfl) wd_173 rfl rfl rfl 63 rfl st6 est6 ?_
  refine x_aload_n hh dX6_copyFrom_63 rfl 0 rfl 64 rfl ?_
  refine x_aload_n hh dX6_copyFrom_64 rfl 1 rfl 65 rfl ?_
  refine x_getI hh cl_6 dX6_copyFrom_65 hsc0.1 6 rfl (Nat.le_of_ble_eq_true rfl) wd_177 68 rfl ?_
  obtain ⟨st7, est7, hf⟩ := bs_some hf
  refine x_putI hh cl_6 dX6_copyFrom_68 hsc.1 6 rfl (Nat.le_of_ble_eq_true rfl) wd_177 rfl rfl rfl 71 rfl st7 est7 ?_
  obtain rfl := ret1 hf
  exact x_vret hh hr dX6_copyFrom_71
def F_X6_copyFrom (sc : Nat) (sc0 : Nat) (st : St) : Option (St) := F_X6_copyFrom_0 sc sc0 st
set_option maxRecDepth 100000 in
theorem C_X6_copyFrom (l : Launch) {X : Cx} (hX : Ok X) {sc : Nat} (hsc : Sc sc) {sc0 : Nat} (hsc0 : Sc sc0) {st : St} {q : St} (hf : F_X6_copyFrom sc sc0 st = some q) : Ct l X 3 yX6_copyFrom (.code yX6_copyFrom cX6_copyFrom 2 (none)) [.ref (X.2.1 sc), .ref (X.2.1 sc0)] st none q := by
  refine Ct.of hX (by decide) (Nat.le_of_ble_eq_true rfl) ?_
  intro p e s m args below meth c hh hr
  exact Z_X6_copyFrom_0 hX hsc hsc0 hh hr st hf

def F_X6_someoneHasAge_28 (sc : Nat) (k2 : Int32 → Int32 → Int32 → St → Option (Int32 × St)) (v1 : Int32) (v2 : Int32) (v3 : Int32) (st : St) : Option (Int32 × St) := k2 v1 v2 (v3 + 1) st
set_option maxRecDepth 100000 in
set_option maxHeartbeats 4000000 in
theorem Z_X6_someoneHasAge_28 {l : Launch} {X : Cx} (hX : Ok X) {sc : Nat} (hsc : Sc sc) {p : Program} {e : Env} {s : State} {m : MethodId} {args : Array Value} {below : List Frame} {meth : Method} {c : Code} {rr : Int32} {st' : St} (hh : Hy X p s m args meth c cX6_someoneHasAge 4 RX6) (hr : meth.sig.returnType = some .boolean) {k2 : Int32 → Int32 → Int32 → St → Option (Int32 × St)} (hk2 : ∀ (v1 : Int32) (v2 : Int32) (v3 : Int32) (st : St), k2 v1 v2 v3 st = some (rr, st') → Z X p l e (rmk 0) s m args below meth c 4 (MQ below (Qf X (some (.int rr)) st') args s 0 0 (cA X)) 2 [(0, .ref (X.2.1 sc)), (1, .int v1), (2, .int v2), (3, .int v3)] [] st) (v1 : Int32) (v2 : Int32) (v3 : Int32) (st : St) (hf : F_X6_someoneHasAge_28 sc k2 v1 v2 v3 st = some (rr, st')) : Z X p l e (rmk 0) s m args below meth c 4 (MQ below (Qf X (some (.int rr)) st') args s 0 0 (cA X)) 28 [(0, .ref (X.2.1 sc)), (1, .int v1), (2, .int v2), (3, .int v3)] [] st := by
  unfold F_X6_someoneHasAge_28 at hf
  refine x_iinc hh dX6_someoneHasAge_28 3 rfl (v3 + 1) rfl (by decide) [(3, .int (v3 + 1)), (0, .ref (X.2.1 sc)), (1, .int v1), (2, .int v2)] rfl 31 rfl ?_
  refine x_goto hh dX6_someoneHasAge_31 2 rfl ?_
  refine x_sub (lv' := [(0, .ref (X.2.1 sc)), (1, .int v1), (2, .int v2), (3, .int (v3 + 1))]) [1, 2, 3, 0] rfl ?_
  exact hk2 v1 v2 (v3 + 1) st hf
def F_X6_someoneHasAge_2 (sc : Nat) : Nat → Int32 → Int32 → Int32 → St → Option (Int32 × St)
  | 0, _, _, _, _ => none
  | n + 1, v1, v2, v3, st => if (6 : Int32) ≤ v3 then some (0, st) else if ((v1 >>> (v3 &&& 31)) &&& 1) = 0 then F_X6_someoneHasAge_28 sc (F_X6_someoneHasAge_2 sc n) v1 v2 v3 st else gi v3 6 (if (st.1 (sc + 4) v3.toNatClampNeg) = v2 then some (1, st) else F_X6_someoneHasAge_28 sc (F_X6_someoneHasAge_2 sc n) v1 v2 v3 st)
set_option maxRecDepth 100000 in
set_option maxHeartbeats 4000000 in
theorem Z_X6_someoneHasAge_2 {l : Launch} {X : Cx} (hX : Ok X) {sc : Nat} (hsc : Sc sc) {p : Program} {e : Env} {s : State} {m : MethodId} {args : Array Value} {below : List Frame} {meth : Method} {c : Code} {rr : Int32} {st' : St} (hh : Hy X p s m args meth c cX6_someoneHasAge 4 RX6) (hr : meth.sig.returnType = some .boolean) : ∀ (n : Nat) (v1 : Int32) (v2 : Int32) (v3 : Int32) (st : St), F_X6_someoneHasAge_2 sc n v1 v2 v3 st = some (rr, st') → Z X p l e (rmk 0) s m args below meth c 4 (MQ below (Qf X (some (.int rr)) st') args s 0 0 (cA X)) 2 [(0, .ref (X.2.1 sc)), (1, .int v1), (2, .int v2), (3, .int v3)] [] st := by
  intro n
  induction n with
  | zero =>
    intro v1 v2 v3 st hf
    cases hf
  | succ n ih =>
    intro v1 v2 v3 st hf
    rw [F_X6_someoneHasAge_2] at hf
    refine x_iload_n hh dX6_someoneHasAge_2 rfl 3 rfl 3 rfl ?_
    refine x_bipush hh dX6_someoneHasAge_3 6 rfl 5 rfl ?_
    refine x_icmp_ge hh dX6_someoneHasAge_5 34 rfl 8 rfl (fun hc1 => ?_) (fun hc1 => ?_)
    · have hf := t_pos hc1 hf
      refine x_iconst hh dX6_someoneHasAge_34 0 rfl 35 rfl ?_
      obtain ⟨rfl, rfl⟩ := ret2 hf
      exact x_zret hh hr rfl dX6_someoneHasAge_35
    · have hf := t_neg hc1 hf
      refine x_iload_n hh dX6_someoneHasAge_8 rfl 1 rfl 9 rfl ?_
      refine x_iload_n hh dX6_someoneHasAge_9 rfl 3 rfl 10 rfl ?_
      refine x_ishr hh dX6_someoneHasAge_10 11 rfl ?_
      refine x_iconst hh dX6_someoneHasAge_11 1 rfl 12 rfl ?_
      refine x_iand hh dX6_someoneHasAge_12 13 rfl ?_
      refine x_if_eq hh dX6_someoneHasAge_13 28 rfl 16 rfl (fun hc2 => ?_) (fun hc2 => ?_)
      · have hf := t_pos hc2 hf
        exact Z_X6_someoneHasAge_28 hX hsc hh hr ih  v1 v2 v3 st hf
      · have hf := t_neg hc2 hf
        refine x_aload_n hh dX6_someoneHasAge_16 rfl 0 rfl 17 rfl ?_
        refine x_getR hh cl_6 dX6_someoneHasAge_17 hsc.1 3 (sc + 4) rfl (Nat.le_of_ble_eq_true rfl) wd_166 20 rfl ?_
        refine x_iload_n hh dX6_someoneHasAge_20 rfl 3 rfl 21 rfl ?_
        obtain ⟨hi3, hf⟩ := gi_some hf
        refine x_iaload hh dX6_someoneHasAge_21 hsc.2.2.2.2.1 hi3 22 rfl ?_
        refine x_iload_n hh dX6_someoneHasAge_22 rfl 2 rfl 23 rfl ?_
        refine x_icmp_ne hh dX6_someoneHasAge_23 28 rfl 26 rfl (fun hc4 => ?_) (fun hc4 => ?_)
        · have hf := t_neg hc4 hf
          exact Z_X6_someoneHasAge_28 hX hsc hh hr ih  v1 v2 v3 st hf
        · have hf := t_pos hc4 hf
          refine x_iconst hh dX6_someoneHasAge_26 1 rfl 27 rfl ?_
          obtain ⟨rfl, rfl⟩ := ret2 hf
          exact x_zret hh hr rfl dX6_someoneHasAge_27
def F_X6_someoneHasAge_0 (sc : Nat) (v1 : Int32) (v2 : Int32) (st : St) : Option (Int32 × St) := F_X6_someoneHasAge_2 sc fN v1 v2 0 st
set_option maxRecDepth 100000 in
set_option maxHeartbeats 4000000 in
theorem Z_X6_someoneHasAge_0 {l : Launch} {X : Cx} (hX : Ok X) {sc : Nat} (hsc : Sc sc) {p : Program} {e : Env} {s : State} {m : MethodId} {args : Array Value} {below : List Frame} {meth : Method} {c : Code} {rr : Int32} {st' : St} (hh : Hy X p s m args meth c cX6_someoneHasAge 4 RX6) (hr : meth.sig.returnType = some .boolean) (v1 : Int32) (v2 : Int32) (st : St) (hf : F_X6_someoneHasAge_0 sc v1 v2 st = some (rr, st')) : Z X p l e (rmk 0) s m args below meth c 4 (MQ below (Qf X (some (.int rr)) st') args s 0 0 (cA X)) 0 [(0, .ref (X.2.1 sc)), (1, .int v1), (2, .int v2)] [] st := by
  unfold F_X6_someoneHasAge_0 at hf
  refine x_iconst hh dX6_someoneHasAge_0 0 rfl 1 rfl ?_
  refine x_istore_n hh dX6_someoneHasAge_1 rfl (by decide) [(3, .int 0), (0, .ref (X.2.1 sc)), (1, .int v1), (2, .int v2)] rfl 2 rfl ?_
  refine x_sub (lv' := [(0, .ref (X.2.1 sc)), (1, .int v1), (2, .int v2), (3, .int 0)]) [1, 2, 3, 0] rfl ?_
  exact Z_X6_someoneHasAge_2 hX hsc hh hr fN v1 v2 0 st hf
def F_X6_someoneHasAge (sc : Nat) (v1 : Int32) (v2 : Int32) (st : St) : Option (Int32 × St) := F_X6_someoneHasAge_0 sc v1 v2 st
set_option maxRecDepth 100000 in
theorem C_X6_someoneHasAge (l : Launch) {X : Cx} (hX : Ok X) {sc : Nat} (hsc : Sc sc) {v1 : Int32} {v2 : Int32} {st : St} {q : Int32 × St} (hf : F_X6_someoneHasAge sc v1 v2 st = some q) : Ct l X 0 yX6_someoneHasAge (.code yX6_someoneHasAge cX6_someoneHasAge 4 (some .boolean)) [.ref (X.2.1 sc), .int v1, .int v2] st (some (.int q.1)) q.2 := by
  refine Ct.of hX (by decide) (Nat.le_of_ble_eq_true rfl) ?_
  intro p e s m args below meth c hh hr
  exact Z_X6_someoneHasAge_0 hX hsc hh hr v1 v2 st hf

def F_X8_begin_2 : Nat → Int32 → St → Option (St)
  | 0, _, _ => none
  | n + 1, v1, st => if (6 : Int32) ≤ v1 then some st else gi v1 6 (gi v1 6 (bs (sV st 67 v1.toNatClampNeg (st.1 62 v1.toNatClampNeg)) (fun st4 => gi v1 6 (gi v1 6 (bs (sV st4 68 v1.toNatClampNeg (st4.1 63 v1.toNatClampNeg)) (fun st7 => gi v1 6 (bs (sV st7 69 v1.toNatClampNeg ((-1))) (fun st9 => gi v1 6 (bs (sV st9 70 v1.toNatClampNeg ((-1))) (fun st11 => gi v1 6 (bs (sV st11 71 v1.toNatClampNeg 0) (fun st13 => F_X8_begin_2 n (v1 + 1) st13))))))))))))
set_option maxRecDepth 100000 in
set_option maxHeartbeats 4000000 in
theorem Z_X8_begin_2 {l : Launch} {X : Cx} (hX : Ok X) {p : Program} {e : Env} {s : State} {m : MethodId} {args : Array Value} {below : List Frame} {meth : Method} {c : Code} {st' : St} (hh : Hy X p s m args meth c cX8_begin 2 RX8) (hr : meth.sig.returnType = none) : ∀ (n : Nat) (v1 : Int32) (st : St), F_X8_begin_2 n v1 st = some st' → Z X p l e (rmk 0) s m args below meth c 2 (MQ below (Qf X none st') args s 0 0 (cA X)) 2 [(0, .ref (X.2.1 59)), (1, .int v1)] [] st := by
  intro n
  induction n with
  | zero =>
    intro v1 st hf
    cases hf
  | succ n ih =>
    intro v1 st hf
    rw [F_X8_begin_2] at hf
    refine x_iload_n hh dX8_begin_2 rfl 1 rfl 3 rfl ?_
    refine x_bipush hh dX8_begin_3 6 rfl 5 rfl ?_
    refine x_icmp_ge hh dX8_begin_5 59 rfl 8 rfl (fun hc1 => ?_) (fun hc1 => ?_)
    · have hf := t_pos hc1 hf
      obtain rfl := ret1 hf
      exact x_vret hh hr dX8_begin_59
    · have hf := t_neg hc1 hf
      refine x_aload_n hh dX8_begin_8 rfl 0 rfl 9 rfl ?_
      refine x_getR hh cl_8 dX8_begin_9 sh_59 11 67 rfl (Nat.le_of_ble_eq_true rfl) wd_811 12 rfl ?_
      refine x_iload_n hh dX8_begin_12 rfl 1 rfl 13 rfl ?_
      refine x_aload_n hh dX8_begin_13 rfl 0 rfl 14 rfl ?_
      refine x_getR hh cl_8 dX8_begin_14 sh_59 4 62 rfl (Nat.le_of_ble_eq_true rfl) wd_804 17 rfl ?_
      refine x_iload_n hh dX8_begin_17 rfl 1 rfl 18 rfl ?_
      obtain ⟨hi2, hf⟩ := gi_some hf
      refine x_iaload hh dX8_begin_18 sh_62 hi2 19 rfl ?_
      obtain ⟨hi3, hf⟩ := gi_some hf
      obtain ⟨st4, est4, hf⟩ := bs_some hf
      refine x_iastore hh dX8_begin_19 sh_67 hi3 20 rfl st4 est4 ?_
      refine x_aload_n hh dX8_begin_20 rfl 0 rfl 21 rfl ?_
      refine x_getR hh cl_8 dX8_begin_21 sh_59 12 68 rfl (Nat.le_of_ble_eq_true rfl) wd_812 24 rfl ?_
      refine x_iload_n hh dX8_begin_24 rfl 1 rfl 25 rfl ?_
      refine x_aload_n hh dX8_begin_25 rfl 0 rfl 26 rfl ?_
      refine x_getR hh cl_8 dX8_begin_26 sh_59 5 63 rfl (Nat.le_of_ble_eq_true rfl) wd_805 29 rfl ?_
      refine x_iload_n hh dX8_begin_29 rfl 1 rfl 30 rfl ?_
      obtain ⟨hi5, hf⟩ := gi_some hf
      refine x_iaload hh dX8_begin_30 sh_63 hi5 31 rfl ?_
      obtain ⟨hi6, hf⟩ := gi_some hf
      obtain ⟨st7, est7, hf⟩ := bs_some hf
      refine x_iastore hh dX8_begin_31 sh_68 hi6 32 rfl st7 est7 ?_
      refine x_aload_n hh dX8_begin_32 rfl 0 rfl 33 rfl ?_
      refine x_getR hh cl_8 dX8_begin_33 sh_59 13 69 rfl (Nat.le_of_ble_eq_true rfl) wd_813 36 rfl ?_
      refine x_iload_n hh dX8_begin_36 rfl 1 rfl 37 rfl ?_
      refine x_iconst hh dX8_begin_37 (-1) rfl 38 rfl ?_
      obtain ⟨hi8, hf⟩ := gi_some hf
      obtain ⟨st9, est9, hf⟩ := bs_some hf
      refine x_iastore hh dX8_begin_38 sh_69 hi8 39 rfl st9 est9 ?_
      refine x_aload_n hh dX8_begin_39 rfl 0 rfl 40 rfl ?_
      refine x_getR hh cl_8 dX8_begin_40 sh_59 14 70 rfl (Nat.le_of_ble_eq_true rfl) wd_814 43 rfl ?_
      refine x_iload_n hh dX8_begin_43 rfl 1 rfl 44 rfl ?_
      refine x_iconst hh dX8_begin_44 (-1) rfl 45 rfl ?_
      obtain ⟨hi10, hf⟩ := gi_some hf
      obtain ⟨st11, est11, hf⟩ := bs_some hf
      refine x_iastore hh dX8_begin_45 sh_70 hi10 46 rfl st11 est11 ?_
      refine x_aload_n hh dX8_begin_46 rfl 0 rfl 47 rfl ?_
      refine x_getR hh cl_8 dX8_begin_47 sh_59 15 71 rfl (Nat.le_of_ble_eq_true rfl) wd_815 50 rfl ?_
      refine x_iload_n hh dX8_begin_50 rfl 1 rfl 51 rfl ?_
      refine x_iconst hh dX8_begin_51 0 rfl 52 rfl ?_
      obtain ⟨hi12, hf⟩ := gi_some hf
      obtain ⟨st13, est13, hf⟩ := bs_some hf
      refine x_iastore hh dX8_begin_52 sh_71 hi12 53 rfl st13 est13 ?_
      refine x_iinc hh dX8_begin_53 1 rfl (v1 + 1) rfl (by decide) [(1, .int (v1 + 1)), (0, .ref (X.2.1 59))] rfl 56 rfl ?_
      refine x_goto hh dX8_begin_56 2 rfl ?_
      refine x_sub (lv' := [(0, .ref (X.2.1 59)), (1, .int (v1 + 1))]) [1, 0] rfl ?_
      exact ih (v1 + 1) st13 hf
def F_X8_begin_0 (st : St) : Option (St) := F_X8_begin_2 fN 0 st
set_option maxRecDepth 100000 in
set_option maxHeartbeats 4000000 in
theorem Z_X8_begin_0 {l : Launch} {X : Cx} (hX : Ok X) {p : Program} {e : Env} {s : State} {m : MethodId} {args : Array Value} {below : List Frame} {meth : Method} {c : Code} {st' : St} (hh : Hy X p s m args meth c cX8_begin 2 RX8) (hr : meth.sig.returnType = none) (st : St) (hf : F_X8_begin_0 st = some st') : Z X p l e (rmk 0) s m args below meth c 2 (MQ below (Qf X none st') args s 0 0 (cA X)) 0 [(0, .ref (X.2.1 59))] [] st := by
  unfold F_X8_begin_0 at hf
  refine x_iconst hh dX8_begin_0 0 rfl 1 rfl ?_
  refine x_istore_n hh dX8_begin_1 rfl (by decide) [(1, .int 0), (0, .ref (X.2.1 59))] rfl 2 rfl ?_
  refine x_sub (lv' := [(0, .ref (X.2.1 59)), (1, .int 0)]) [1, 0] rfl ?_
  exact Z_X8_begin_2 hX hh hr fN 0 st hf
def F_X8_begin (st : St) : Option (St) := F_X8_begin_0  st
set_option maxRecDepth 100000 in
theorem C_X8_begin (l : Launch) {X : Cx} (hX : Ok X) {st : St} {q : St} (hf : F_X8_begin st = some q) : Ct l X 0 yX8_begin (.code yX8_begin cX8_begin 2 (none)) [.ref (X.2.1 59)] st none q := by
  refine Ct.of hX (by decide) (Nat.le_of_ble_eq_true rfl) ?_
  intro p e s m args below meth c hh hr
  exact Z_X8_begin_0 hX hh hr st hf

def F_X8_in_18 (t0 : Int32) (st : St) : Option (Int32 × St) := gb t0 (some (t0, st))
set_option maxRecDepth 100000 in
set_option maxHeartbeats 4000000 in
theorem Z_X8_in_18 {l : Launch} {X : Cx} (hX : Ok X) {p : Program} {e : Env} {s : State} {m : MethodId} {args : Array Value} {below : List Frame} {meth : Method} {c : Code} {rr : Int32} {st' : St} (hh : Hy X p s m args meth c cX8_in 6 RX8) (hr : meth.sig.returnType = some .boolean) (t0 : Int32) (st : St) (hf : F_X8_in_18 t0 st = some (rr, st')) : Z X p l e (rmk 0) s m args below meth c 6 (MQ below (Qf X (some (.int rr)) st') args s 0 0 (cA X)) 18 [] [.int t0] st := by
  unfold F_X8_in_18 at hf
  obtain ⟨hb3, hf⟩ := gb_some hf
  obtain ⟨rfl, rfl⟩ := ret2 hf
  exact x_zret hh hr (nb_n hb3) dX8_in_18
def F_X8_in_17 (st : St) : Option (Int32 × St) := F_X8_in_18 0 st
set_option maxRecDepth 100000 in
set_option maxHeartbeats 4000000 in
theorem Z_X8_in_17 {l : Launch} {X : Cx} (hX : Ok X) {p : Program} {e : Env} {s : State} {m : MethodId} {args : Array Value} {below : List Frame} {meth : Method} {c : Code} {rr : Int32} {st' : St} (hh : Hy X p s m args meth c cX8_in 6 RX8) (hr : meth.sig.returnType = some .boolean) (st : St) (hf : F_X8_in_17 st = some (rr, st')) : Z X p l e (rmk 0) s m args below meth c 6 (MQ below (Qf X (some (.int rr)) st') args s 0 0 (cA X)) 17 [] [] st := by
  unfold F_X8_in_17 at hf
  refine x_iconst hh dX8_in_17 0 rfl 18 rfl ?_
  exact Z_X8_in_18 hX hh hr  0 st hf
def F_X8_in_0 (v0 : Int64) (v2 : Int64) (v4 : Int64) (st : St) : Option (Int32 × St) := if (lg_cmp v0 v2) < 0 then F_X8_in_17 st else if (0 : Int32) < (lg_cmp v0 v4) then F_X8_in_17 st else F_X8_in_18 1 st
set_option maxRecDepth 100000 in
set_option maxHeartbeats 4000000 in
theorem Z_X8_in_0 {l : Launch} {X : Cx} (hX : Ok X) {p : Program} {e : Env} {s : State} {m : MethodId} {args : Array Value} {below : List Frame} {meth : Method} {c : Code} {rr : Int32} {st' : St} (hh : Hy X p s m args meth c cX8_in 6 RX8) (hr : meth.sig.returnType = some .boolean) (v0 : Int64) (v2 : Int64) (v4 : Int64) (st : St) (hf : F_X8_in_0 v0 v2 v4 st = some (rr, st')) : Z X p l e (rmk 0) s m args below meth c 6 (MQ below (Qf X (some (.int rr)) st') args s 0 0 (cA X)) 0 [(0, .long v0), (2, .long v2), (4, .long v4)] [] st := by
  unfold F_X8_in_0 at hf
  refine x_lload_n hh dX8_in_0 rfl 0 rfl 1 rfl ?_
  refine x_lload_n hh dX8_in_1 rfl 1 rfl 2 rfl ?_
  refine x_lcmp hh dX8_in_2 3 rfl ?_
  refine x_if_lt hh dX8_in_3 17 rfl 6 rfl (fun hc1 => ?_) (fun hc1 => ?_)
  · have hf := t_pos hc1 hf
    refine x_sub (lv' := []) [] rfl ?_
    exact Z_X8_in_17 hX hh hr  st hf
  · have hf := t_neg hc1 hf
    refine x_lload_n hh dX8_in_6 rfl 0 rfl 7 rfl ?_
    refine x_lload hh dX8_in_7 2 rfl 9 rfl ?_
    refine x_lcmp hh dX8_in_9 10 rfl ?_
    refine x_if_gt hh dX8_in_10 17 rfl 13 rfl (fun hc2 => ?_) (fun hc2 => ?_)
    · have hf := t_pos hc2 hf
      refine x_sub (lv' := []) [] rfl ?_
      exact Z_X8_in_17 hX hh hr  st hf
    · have hf := t_neg hc2 hf
      refine x_iconst hh dX8_in_13 1 rfl 14 rfl ?_
      refine x_goto hh dX8_in_14 18 rfl ?_
      refine x_sub (lv' := []) [] rfl ?_
      exact Z_X8_in_18 hX hh hr  1 st hf
def F_X8_in (v0 : Int64) (v2 : Int64) (v4 : Int64) (st : St) : Option (Int32 × St) := F_X8_in_0  v0 v2 v4 st
set_option maxRecDepth 100000 in
theorem C_X8_in (l : Launch) {X : Cx} (hX : Ok X) {v0 : Int64} {v2 : Int64} {v4 : Int64} {st : St} {q : Int32 × St} (hf : F_X8_in v0 v2 v4 st = some q) : Ct l X 0 yX8_in (.code yX8_in cX8_in 6 (some .boolean)) [.long v0, .long v2, .long v4] st (some (.int q.1)) q.2 := by
  refine Ct.of hX (by decide) (Nat.le_of_ble_eq_true rfl) ?_
  intro p e s m args below meth c hh hr
  exact Z_X8_in_0 hX hh hr v0 v2 v4 st hf

def F_X8_feed_35 : Nat → Int64 → Int32 → St → Option (Int32 × St)
  | 0, _, _, _ => none
  | n + 1, v2, v4, st => if v4 < 0 then some (st.1 59 18, st) else gi (st.1 59 18) 500 (bs (sV st 72 (st.1 59 18).toNatClampNeg (((v2 >>> ((8 * v4).toInt64 &&& 63)) &&& 255).toInt32)) (fun st6 => bs (sV st6 59 18 ((st6.1 59 18) + 1)) (fun st7 => F_X8_feed_35 n v2 (v4 + (-1)) st7)))
set_option maxRecDepth 100000 in
set_option maxHeartbeats 4000000 in
theorem Z_X8_feed_35 {l : Launch} {X : Cx} (hX : Ok X) {p : Program} {e : Env} {s : State} {m : MethodId} {args : Array Value} {below : List Frame} {meth : Method} {c : Code} {rr : Int32} {st' : St} (hh : Hy X p s m args meth c cX8_feed 5 RX8) (hr : meth.sig.returnType = some .int) : ∀ (n : Nat) (v2 : Int64) (v4 : Int32) (st : St), F_X8_feed_35 n v2 v4 st = some (rr, st') → Z X p l e (rmk 1) s m args below meth c 5 (MQ below (Qf X (some (.int rr)) st') args s 0 0 (cA X)) 35 [(0, .ref (X.2.1 59)), (2, .long v2), (4, .int v4)] [] st := by
  intro n
  induction n with
  | zero =>
    intro v2 v4 st hf
    cases hf
  | succ n ih =>
    intro v2 v4 st hf
    rw [F_X8_feed_35] at hf
    refine x_iload hh dX8_feed_35 2 rfl 37 rfl ?_
    refine x_if_lt hh dX8_feed_37 77 rfl 40 rfl (fun hc4 => ?_) (fun hc4 => ?_)
    · have hf := t_pos hc4 hf
      refine x_aload_n hh dX8_feed_77 rfl 0 rfl 78 rfl ?_
      refine x_getI hh cl_8 dX8_feed_78 sh_59 18 rfl (Nat.le_of_ble_eq_true rfl) wd_818 81 rfl ?_
      obtain ⟨rfl, rfl⟩ := ret2 hf
      exact x_iret hh hr dX8_feed_81
    · have hf := t_neg hc4 hf
      refine x_aload_n hh dX8_feed_40 rfl 0 rfl 41 rfl ?_
      refine x_getR hh cl_8 dX8_feed_41 sh_59 17 72 rfl (Nat.le_of_ble_eq_true rfl) wd_817 44 rfl ?_
      refine x_aload_n hh dX8_feed_44 rfl 0 rfl 45 rfl ?_
      refine x_getI hh cl_8 dX8_feed_45 sh_59 18 rfl (Nat.le_of_ble_eq_true rfl) wd_818 48 rfl ?_
      refine x_lload_n hh dX8_feed_48 rfl 1 rfl 49 rfl ?_
      refine x_bipush hh dX8_feed_49 8 rfl 51 rfl ?_
      refine x_iload hh dX8_feed_51 2 rfl 53 rfl ?_
      refine x_imul hh dX8_feed_53 54 rfl ?_
      refine x_lshr hh dX8_feed_54 55 rfl ?_
      refine x_ldc2_w hh dX8_feed_55 wd_912 58 rfl ?_
      refine x_land hh dX8_feed_58 59 rfl ?_
      refine x_l2i hh dX8_feed_59 60 rfl ?_
      obtain ⟨hi5, hf⟩ := gi_some hf
      obtain ⟨st6, est6, hf⟩ := bs_some hf
      refine x_iastore hh dX8_feed_60 sh_72 hi5 61 rfl st6 est6 ?_
      refine x_aload_n hh dX8_feed_61 rfl 0 rfl 62 rfl ?_
      refine x_dup hh dX8_feed_62 rfl 63 rfl ?_
      refine x_getI hh cl_8 dX8_feed_63 sh_59 18 rfl (Nat.le_of_ble_eq_true rfl) wd_818 66 rfl ?_
      refine x_iconst hh dX8_feed_66 1 rfl 67 rfl ?_
      refine x_iadd hh dX8_feed_67 68 rfl ?_
      obtain ⟨st7, est7, hf⟩ := bs_some hf
      refine x_putI hh cl_8 dX8_feed_68 sh_59 18 rfl (Nat.le_of_ble_eq_true rfl) wd_818 rfl rfl rfl 71 rfl st7 est7 ?_
      refine x_iinc hh dX8_feed_71 2 rfl (v4 + (-1)) rfl (by decide) [(4, .int (v4 + (-1))), (0, .ref (X.2.1 59)), (2, .long v2)] rfl 74 rfl ?_
      refine x_goto hh dX8_feed_74 35 rfl ?_
      refine x_sub (lv' := [(0, .ref (X.2.1 59)), (2, .long v2), (4, .int (v4 + (-1)))]) [1, 2, 0] rfl ?_
      exact ih v2 (v4 + (-1)) st7 hf
def F_X8_feed_0 (v1 : Int32) (v2 : Int64) (st : St) : Option (Int32 × St) := (F_X8_in v1.toInt64 1 8 st).bind (fun q1 => if q1.1 = 0 then some ((-1000000002), q1.2) else if ((q1.2.1 59 18) + v1) ≤ 500 then F_X8_feed_35 fN v2 (v1 - 1) q1.2 else some ((-1000000004), q1.2))
set_option maxRecDepth 100000 in
set_option maxHeartbeats 4000000 in
theorem Z_X8_feed_0 {l : Launch} {X : Cx} (hX : Ok X) {p : Program} {e : Env} {s : State} {m : MethodId} {args : Array Value} {below : List Frame} {meth : Method} {c : Code} {rr : Int32} {st' : St} (hh : Hy X p s m args meth c cX8_feed 5 RX8) (hr : meth.sig.returnType = some .int) (v1 : Int32) (v2 : Int64) (st : St) (hf : F_X8_feed_0 v1 v2 st = some (rr, st')) : Z X p l e (rmk 1) s m args below meth c 5 (MQ below (Qf X (some (.int rr)) st') args s 0 0 (cA X)) 0 [(0, .ref (X.2.1 59)), (1, .int v1), (2, .long v2)] [] st := by
  unfold F_X8_feed_0 at hf
  refine x_iload_n hh dX8_feed_0 rfl 1 rfl 1 rfl ?_
  refine x_i2l hh dX8_feed_1 2 rfl ?_
  refine x_lconst hh dX8_feed_2 1 rfl 3 rfl ?_
  refine x_ldc2_w hh dX8_feed_3 wd_906 6 rfl ?_
  obtain ⟨q1, hq1, hf⟩ := b_some hf
  refine x_callS (rest := []) hh ms_X8_in [.long v1.toInt64, .long 1, .long 8] dX8_feed_6 wd_907 (C_X8_in l hX  hq1) rfl rfl ⟨Nat.le_of_ble_eq_true rfl, Nat.le_of_ble_eq_true rfl⟩ (Nat.le_of_ble_eq_true rfl) 9 rfl [.int q1.1] rfl ?_
  refine x_if_ne hh dX8_feed_9 15 rfl 12 rfl (fun hc2 => ?_) (fun hc2 => ?_)
  · have hf := t_neg hc2 hf
    refine x_aload_n hh dX8_feed_15 rfl 0 rfl 16 rfl ?_
    refine x_getI hh cl_8 dX8_feed_16 sh_59 18 rfl (Nat.le_of_ble_eq_true rfl) wd_818 19 rfl ?_
    refine x_iload_n hh dX8_feed_19 rfl 1 rfl 20 rfl ?_
    refine x_iadd hh dX8_feed_20 21 rfl ?_
    refine x_sipush hh dX8_feed_21 500 rfl 24 rfl ?_
    refine x_icmp_le hh dX8_feed_24 30 rfl 27 rfl (fun hc3 => ?_) (fun hc3 => ?_)
    · have hf := t_pos hc3 hf
      refine x_iload_n hh dX8_feed_30 rfl 1 rfl 31 rfl ?_
      refine x_iconst hh dX8_feed_31 1 rfl 32 rfl ?_
      refine x_isub hh dX8_feed_32 33 rfl ?_
      refine x_istore hh dX8_feed_33 (by decide) [(4, .int (v1 - 1)), (0, .ref (X.2.1 59)), (1, .int v1), (2, .long v2)] rfl 35 rfl ?_
      refine x_sub (lv' := [(0, .ref (X.2.1 59)), (2, .long v2), (4, .int (v1 - 1))]) [1, 3, 0] rfl ?_
      exact Z_X8_feed_35 hX hh hr fN v2 (v1 - 1) q1.2 hf
    · have hf := t_neg hc3 hf
      refine x_ldc hh dX8_feed_27 wd_911 29 rfl ?_
      obtain ⟨rfl, rfl⟩ := ret2 hf
      exact x_iret hh hr dX8_feed_29
  · have hf := t_pos hc2 hf
    refine x_ldc hh dX8_feed_12 wd_910 14 rfl ?_
    obtain ⟨rfl, rfl⟩ := ret2 hf
    exact x_iret hh hr dX8_feed_14
def F_X8_feed (v1 : Int32) (v2 : Int64) (st : St) : Option (Int32 × St) := F_X8_feed_0  v1 v2 st
set_option maxRecDepth 100000 in
theorem C_X8_feed (l : Launch) {X : Cx} (hX : Ok X) {v1 : Int32} {v2 : Int64} {st : St} {q : Int32 × St} (hf : F_X8_feed v1 v2 st = some q) : Ct l X 1 yX8_feed (.code yX8_feed cX8_feed 5 (some .int)) [.ref (X.2.1 59), .int v1, .long v2] st (some (.int q.1)) q.2 := by
  refine Ct.of hX (by decide) (Nat.le_of_ble_eq_true rfl) ?_
  intro p e s m args below meth c hh hr
  exact Z_X8_feed_0 hX hh hr v1 v2 st hf

def F_X8_here_62 (t0 : Int32) (st : St) : Option (Int32 × St) := some (t0, st)
set_option maxRecDepth 100000 in
set_option maxHeartbeats 4000000 in
theorem Z_X8_here_62 {l : Launch} {X : Cx} (hX : Ok X) {p : Program} {e : Env} {s : State} {m : MethodId} {args : Array Value} {below : List Frame} {meth : Method} {c : Code} {rr : Int32} {st' : St} (hh : Hy X p s m args meth c cX8_here 1 RX8) (hr : meth.sig.returnType = some .int) (t0 : Int32) (st : St) (hf : F_X8_here_62 t0 st = some (rr, st')) : Z X p l e (rmk 0) s m args below meth c 1 (MQ below (Qf X (some (.int rr)) st') args s 0 0 (cA X)) 62 [(0, .ref (X.2.1 59))] [.int t0] st := by
  unfold F_X8_here_62 at hf
  obtain ⟨rfl, rfl⟩ := ret2 hf
  exact x_iret hh hr dX8_here_62
def F_X8_here_38 (st : St) : Option (Int32 × St) := if (st.1 59 18) ≤ (st.1 59 20) then F_X8_here_62 ((-1)) st else gi (st.1 59 20) 500 (F_X8_here_62 (st.1 72 (st.1 59 20).toNatClampNeg) st)
set_option maxRecDepth 100000 in
set_option maxHeartbeats 4000000 in
theorem Z_X8_here_38 {l : Launch} {X : Cx} (hX : Ok X) {p : Program} {e : Env} {s : State} {m : MethodId} {args : Array Value} {below : List Frame} {meth : Method} {c : Code} {rr : Int32} {st' : St} (hh : Hy X p s m args meth c cX8_here 1 RX8) (hr : meth.sig.returnType = some .int) (st : St) (hf : F_X8_here_38 st = some (rr, st')) : Z X p l e (rmk 0) s m args below meth c 1 (MQ below (Qf X (some (.int rr)) st') args s 0 0 (cA X)) 38 [(0, .ref (X.2.1 59))] [] st := by
  unfold F_X8_here_38 at hf
  refine x_aload_n hh dX8_here_38 rfl 0 rfl 39 rfl ?_
  refine x_getI hh cl_8 dX8_here_39 sh_59 20 rfl (Nat.le_of_ble_eq_true rfl) wd_820 42 rfl ?_
  refine x_aload_n hh dX8_here_42 rfl 0 rfl 43 rfl ?_
  refine x_getI hh cl_8 dX8_here_43 sh_59 18 rfl (Nat.le_of_ble_eq_true rfl) wd_818 46 rfl ?_
  refine x_icmp_ge hh dX8_here_46 61 rfl 49 rfl (fun hc5 => ?_) (fun hc5 => ?_)
  · have hf := t_pos hc5 hf
    refine x_iconst hh dX8_here_61 (-1) rfl 62 rfl ?_
    exact Z_X8_here_62 hX hh hr  ((-1)) st hf
  · have hf := t_neg hc5 hf
    refine x_aload_n hh dX8_here_49 rfl 0 rfl 50 rfl ?_
    refine x_getR hh cl_8 dX8_here_50 sh_59 17 72 rfl (Nat.le_of_ble_eq_true rfl) wd_817 53 rfl ?_
    refine x_aload_n hh dX8_here_53 rfl 0 rfl 54 rfl ?_
    refine x_getI hh cl_8 dX8_here_54 sh_59 20 rfl (Nat.le_of_ble_eq_true rfl) wd_820 57 rfl ?_
    obtain ⟨hi6, hf⟩ := gi_some hf
    refine x_iaload hh dX8_here_57 sh_72 hi6 58 rfl ?_
    refine x_goto hh dX8_here_58 62 rfl ?_
    exact Z_X8_here_62 hX hh hr  (st.1 72 (st.1 59 20).toNatClampNeg) st hf
def F_X8_here_0 : Nat → St → Option (Int32 × St)
  | 0, _ => none
  | n + 1, st => if (st.1 59 18) ≤ (st.1 59 20) then F_X8_here_38 st else gi (st.1 59 20) 500 (if (st.1 72 (st.1 59 20).toNatClampNeg) = 32 then bs (sV st 59 20 ((st.1 59 20) + 1)) (fun st4 => F_X8_here_0 n st4) else F_X8_here_38 st)
set_option maxRecDepth 100000 in
set_option maxHeartbeats 4000000 in
theorem Z_X8_here_0 {l : Launch} {X : Cx} (hX : Ok X) {p : Program} {e : Env} {s : State} {m : MethodId} {args : Array Value} {below : List Frame} {meth : Method} {c : Code} {rr : Int32} {st' : St} (hh : Hy X p s m args meth c cX8_here 1 RX8) (hr : meth.sig.returnType = some .int) : ∀ (n : Nat) (st : St), F_X8_here_0 n st = some (rr, st') → Z X p l e (rmk 0) s m args below meth c 1 (MQ below (Qf X (some (.int rr)) st') args s 0 0 (cA X)) 0 [(0, .ref (X.2.1 59))] [] st := by
  intro n
  induction n with
  | zero =>
    intro st hf
    cases hf
  | succ n ih =>
    intro st hf
    rw [F_X8_here_0] at hf
    refine x_aload_n hh dX8_here_0 rfl 0 rfl 1 rfl ?_
    refine x_getI hh cl_8 dX8_here_1 sh_59 20 rfl (Nat.le_of_ble_eq_true rfl) wd_820 4 rfl ?_
    refine x_aload_n hh dX8_here_4 rfl 0 rfl 5 rfl ?_
    refine x_getI hh cl_8 dX8_here_5 sh_59 18 rfl (Nat.le_of_ble_eq_true rfl) wd_818 8 rfl ?_
    refine x_icmp_ge hh dX8_here_8 38 rfl 11 rfl (fun hc1 => ?_) (fun hc1 => ?_)
    · have hf := t_pos hc1 hf
      exact Z_X8_here_38 hX hh hr  st hf
    · have hf := t_neg hc1 hf
      refine x_aload_n hh dX8_here_11 rfl 0 rfl 12 rfl ?_
      refine x_getR hh cl_8 dX8_here_12 sh_59 17 72 rfl (Nat.le_of_ble_eq_true rfl) wd_817 15 rfl ?_
      refine x_aload_n hh dX8_here_15 rfl 0 rfl 16 rfl ?_
      refine x_getI hh cl_8 dX8_here_16 sh_59 20 rfl (Nat.le_of_ble_eq_true rfl) wd_820 19 rfl ?_
      obtain ⟨hi2, hf⟩ := gi_some hf
      refine x_iaload hh dX8_here_19 sh_72 hi2 20 rfl ?_
      refine x_bipush hh dX8_here_20 32 rfl 22 rfl ?_
      refine x_icmp_ne hh dX8_here_22 38 rfl 25 rfl (fun hc3 => ?_) (fun hc3 => ?_)
      · have hf := t_neg hc3 hf
        exact Z_X8_here_38 hX hh hr  st hf
      · have hf := t_pos hc3 hf
        refine x_aload_n hh dX8_here_25 rfl 0 rfl 26 rfl ?_
        refine x_dup hh dX8_here_26 rfl 27 rfl ?_
        refine x_getI hh cl_8 dX8_here_27 sh_59 20 rfl (Nat.le_of_ble_eq_true rfl) wd_820 30 rfl ?_
        refine x_iconst hh dX8_here_30 1 rfl 31 rfl ?_
        refine x_iadd hh dX8_here_31 32 rfl ?_
        obtain ⟨st4, est4, hf⟩ := bs_some hf
        refine x_putI hh cl_8 dX8_here_32 sh_59 20 rfl (Nat.le_of_ble_eq_true rfl) wd_820 rfl rfl rfl 35 rfl st4 est4 ?_
        refine x_goto hh dX8_here_35 0 rfl ?_
        exact ih st4 hf
def F_X8_here (st : St) : Option (Int32 × St) := F_X8_here_0  fN st
set_option maxRecDepth 100000 in
theorem C_X8_here (l : Launch) {X : Cx} (hX : Ok X) {st : St} {q : Int32 × St} (hf : F_X8_here st = some q) : Ct l X 0 yX8_here (.code yX8_here cX8_here 1 (some .int)) [.ref (X.2.1 59)] st (some (.int q.1)) q.2 := by
  refine Ct.of hX (by decide) (Nat.le_of_ble_eq_true rfl) ?_
  intro p e s m args below meth c hh hr
  exact Z_X8_here_0 hX hh hr fN st hf

def F_X8_code_0 (v0 : Int32) (v1 : Int32) (v2 : Int32) (v3 : Int32) (st : St) : Option (Int64 × St) := some (((27 * (((27 * (((27 * (v0.toInt64 - 96)) + v1.toInt64) - 96)) + v2.toInt64) - 96)) + v3.toInt64) - 96, st)
set_option maxRecDepth 100000 in
set_option maxHeartbeats 4000000 in
theorem Z_X8_code_0 {l : Launch} {X : Cx} (hX : Ok X) {p : Program} {e : Env} {s : State} {m : MethodId} {args : Array Value} {below : List Frame} {meth : Method} {c : Code} {rr : Int64} {st' : St} (hh : Hy X p s m args meth c cX8_code 4 RX8) (hr : meth.sig.returnType = some .long) (v0 : Int32) (v1 : Int32) (v2 : Int32) (v3 : Int32) (st : St) (hf : F_X8_code_0 v0 v1 v2 v3 st = some (rr, st')) : Z X p l e (rmk 0) s m args below meth c 4 (MQ below (Qf X (some (.long rr)) st') args s 0 0 (cA X)) 0 [(0, .int v0), (1, .int v1), (2, .int v2), (3, .int v3)] [] st := by
  unfold F_X8_code_0 at hf
  refine x_ldc2_w hh dX8_code_0 wd_930 3 rfl ?_
  refine x_ldc2_w hh dX8_code_3 wd_930 6 rfl ?_
  refine x_ldc2_w hh dX8_code_6 wd_930 9 rfl ?_
  refine x_iload_n hh dX8_code_9 rfl 0 rfl 10 rfl ?_
  refine x_i2l hh dX8_code_10 11 rfl ?_
  refine x_ldc2_w hh dX8_code_11 wd_931 14 rfl ?_
  refine x_lsub hh dX8_code_14 15 rfl ?_
  refine x_lmul hh dX8_code_15 16 rfl ?_
  refine x_iload_n hh dX8_code_16 rfl 1 rfl 17 rfl ?_
  refine x_i2l hh dX8_code_17 18 rfl ?_
  refine x_ladd hh dX8_code_18 19 rfl ?_
  refine x_ldc2_w hh dX8_code_19 wd_931 22 rfl ?_
  refine x_lsub hh dX8_code_22 23 rfl ?_
  refine x_lmul hh dX8_code_23 24 rfl ?_
  refine x_iload_n hh dX8_code_24 rfl 2 rfl 25 rfl ?_
  refine x_i2l hh dX8_code_25 26 rfl ?_
  refine x_ladd hh dX8_code_26 27 rfl ?_
  refine x_ldc2_w hh dX8_code_27 wd_931 30 rfl ?_
  refine x_lsub hh dX8_code_30 31 rfl ?_
  refine x_lmul hh dX8_code_31 32 rfl ?_
  refine x_iload_n hh dX8_code_32 rfl 3 rfl 33 rfl ?_
  refine x_i2l hh dX8_code_33 34 rfl ?_
  refine x_ladd hh dX8_code_34 35 rfl ?_
  refine x_ldc2_w hh dX8_code_35 wd_931 38 rfl ?_
  refine x_lsub hh dX8_code_38 39 rfl ?_
  obtain ⟨rfl, rfl⟩ := ret2 hf
  exact x_lret hh hr dX8_code_39
def F_X8_code (v0 : Int32) (v1 : Int32) (v2 : Int32) (v3 : Int32) (st : St) : Option (Int64 × St) := F_X8_code_0  v0 v1 v2 v3 st
set_option maxRecDepth 100000 in
theorem C_X8_code (l : Launch) {X : Cx} (hX : Ok X) {v0 : Int32} {v1 : Int32} {v2 : Int32} {v3 : Int32} {st : St} {q : Int64 × St} (hf : F_X8_code v0 v1 v2 v3 st = some q) : Ct l X 0 yX8_code (.code yX8_code cX8_code 4 (some .long)) [.int v0, .int v1, .int v2, .int v3] st (some (.long q.1)) q.2 := by
  refine Ct.of hX (by decide) (Nat.le_of_ble_eq_true rfl) ?_
  intro p e s m args below meth c hh hr
  exact Z_X8_code_0 hX hh hr v0 v1 v2 v3 st hf

def F_X8_fails_0 (v1 : Int32) (v2 : Int32) (st : St) : Option (Int32 × St) := bs (sV st 59 19 v2) (fun st1 => some (v1, st1))
set_option maxRecDepth 100000 in
set_option maxHeartbeats 4000000 in
theorem Z_X8_fails_0 {l : Launch} {X : Cx} (hX : Ok X) {p : Program} {e : Env} {s : State} {m : MethodId} {args : Array Value} {below : List Frame} {meth : Method} {c : Code} {rr : Int32} {st' : St} (hh : Hy X p s m args meth c cX8_fails 3 RX8) (hr : meth.sig.returnType = some .int) (v1 : Int32) (v2 : Int32) (st : St) (hf : F_X8_fails_0 v1 v2 st = some (rr, st')) : Z X p l e (rmk 0) s m args below meth c 3 (MQ below (Qf X (some (.int rr)) st') args s 0 0 (cA X)) 0 [(0, .ref (X.2.1 59)), (1, .int v1), (2, .int v2)] [] st := by
  unfold F_X8_fails_0 at hf
  refine x_aload_n hh dX8_fails_0 rfl 0 rfl 1 rfl ?_
  refine x_iload_n hh dX8_fails_1 rfl 2 rfl 2 rfl ?_
  obtain ⟨st1, est1, hf⟩ := bs_some hf
  refine x_putI hh cl_8 dX8_fails_2 sh_59 19 rfl (Nat.le_of_ble_eq_true rfl) wd_819 rfl rfl rfl 5 rfl st1 est1 ?_
  refine x_iload_n hh dX8_fails_5 rfl 1 rfl 6 rfl ?_
  obtain ⟨rfl, rfl⟩ := ret2 hf
  exact x_iret hh hr dX8_fails_6
def F_X8_fails (v1 : Int32) (v2 : Int32) (st : St) : Option (Int32 × St) := F_X8_fails_0  v1 v2 st
set_option maxRecDepth 100000 in
theorem C_X8_fails (l : Launch) {X : Cx} (hX : Ok X) {v1 : Int32} {v2 : Int32} {st : St} {q : Int32 × St} (hf : F_X8_fails v1 v2 st = some q) : Ct l X 0 yX8_fails (.code yX8_fails cX8_fails 3 (some .int)) [.ref (X.2.1 59), .int v1, .int v2] st (some (.int q.1)) q.2 := by
  refine Ct.of hX (by decide) (Nat.le_of_ble_eq_true rfl) ?_
  intro p e s m args below meth c hh hr
  exact Z_X8_fails_0 hX hh hr v1 v2 st hf

def F_X8_longer_0 (v0 : Int64) (v2 : Int32) (v3 : Int32) (st : St) : Option (Int64 × St) := some (((27 * (((27 * v0) + v2.toInt64) - 96)) + v3.toInt64) - 96, st)
set_option maxRecDepth 100000 in
set_option maxHeartbeats 4000000 in
theorem Z_X8_longer_0 {l : Launch} {X : Cx} (hX : Ok X) {p : Program} {e : Env} {s : State} {m : MethodId} {args : Array Value} {below : List Frame} {meth : Method} {c : Code} {rr : Int64} {st' : St} (hh : Hy X p s m args meth c cX8_longer 4 RX8) (hr : meth.sig.returnType = some .long) (v0 : Int64) (v2 : Int32) (v3 : Int32) (st : St) (hf : F_X8_longer_0 v0 v2 v3 st = some (rr, st')) : Z X p l e (rmk 0) s m args below meth c 4 (MQ below (Qf X (some (.long rr)) st') args s 0 0 (cA X)) 0 [(0, .long v0), (2, .int v2), (3, .int v3)] [] st := by
  unfold F_X8_longer_0 at hf
  refine x_ldc2_w hh dX8_longer_0 wd_930 3 rfl ?_
  refine x_ldc2_w hh dX8_longer_3 wd_930 6 rfl ?_
  refine x_lload_n hh dX8_longer_6 rfl 0 rfl 7 rfl ?_
  refine x_lmul hh dX8_longer_7 8 rfl ?_
  refine x_iload_n hh dX8_longer_8 rfl 1 rfl 9 rfl ?_
  refine x_i2l hh dX8_longer_9 10 rfl ?_
  refine x_ladd hh dX8_longer_10 11 rfl ?_
  refine x_ldc2_w hh dX8_longer_11 wd_931 14 rfl ?_
  refine x_lsub hh dX8_longer_14 15 rfl ?_
  refine x_lmul hh dX8_longer_15 16 rfl ?_
  refine x_iload_n hh dX8_longer_16 rfl 2 rfl 17 rfl ?_
  refine x_i2l hh dX8_longer_17 18 rfl ?_
  refine x_ladd hh dX8_longer_18 19 rfl ?_
  refine x_ldc2_w hh dX8_longer_19 wd_931 22 rfl ?_
  refine x_lsub hh dX8_longer_22 23 rfl ?_
  obtain ⟨rfl, rfl⟩ := ret2 hf
  exact x_lret hh hr dX8_longer_23
def F_X8_longer (v0 : Int64) (v2 : Int32) (v3 : Int32) (st : St) : Option (Int64 × St) := F_X8_longer_0  v0 v2 v3 st
set_option maxRecDepth 100000 in
theorem C_X8_longer (l : Launch) {X : Cx} (hX : Ok X) {v0 : Int64} {v2 : Int32} {v3 : Int32} {st : St} {q : Int64 × St} (hf : F_X8_longer v0 v2 v3 st = some q) : Ct l X 0 yX8_longer (.code yX8_longer cX8_longer 4 (some .long)) [.long v0, .int v2, .int v3] st (some (.long q.1)) q.2 := by
  refine Ct.of hX (by decide) (Nat.le_of_ble_eq_true rfl) ?_
  intro p e s m args below meth c hh hr
  exact Z_X8_longer_0 hX hh hr v0 v2 v3 st hf

def F_X8_readWord_92 (k18 : St → Option (St)) (t0 : Int64) (st : St) : Option (St) := bs (sJ st 59 21 t0) (fun st10 => bs (sV st10 59 22 ((st10.1 59 22) + 1)) (fun st11 => k18 st11))
set_option maxRecDepth 100000 in
set_option maxHeartbeats 4000000 in
theorem Z_X8_readWord_92 {l : Launch} {X : Cx} (hX : Ok X) {p : Program} {e : Env} {s : State} {m : MethodId} {args : Array Value} {below : List Frame} {meth : Method} {c : Code} {st' : St} (hh : Hy X p s m args meth c cX8_readWord 2 RX8) (hr : meth.sig.returnType = none) {k18 : St → Option (St)} (hk18 : ∀ (st : St), k18 st = some st' → Z X p l e (rmk 1) s m args below meth c 2 (MQ below (Qf X none st') args s 0 0 (cA X)) 18 [(0, .ref (X.2.1 59))] [] st) (t0 : Int64) (st : St) (hf : F_X8_readWord_92 k18 t0 st = some st') : Z X p l e (rmk 1) s m args below meth c 2 (MQ below (Qf X none st') args s 0 0 (cA X)) 92 [(0, .ref (X.2.1 59))] [.long t0, .ref (X.2.1 59)] st := by
  unfold F_X8_readWord_92 at hf
  obtain ⟨st10, est10, hf⟩ := bs_some hf
  refine x_putJ hh cl_8 dX8_readWord_92 sh_59 21 rfl (Nat.le_of_ble_eq_true rfl) wd_821 rfl rfl rfl 95 rfl st10 est10 ?_
  refine x_aload_n hh dX8_readWord_95 rfl 0 rfl 96 rfl ?_
  refine x_dup hh dX8_readWord_96 rfl 97 rfl ?_
  refine x_getI hh cl_8 dX8_readWord_97 sh_59 22 rfl (Nat.le_of_ble_eq_true rfl) wd_822 100 rfl ?_
  refine x_iconst hh dX8_readWord_100 1 rfl 101 rfl ?_
  refine x_iadd hh dX8_readWord_101 102 rfl ?_
  obtain ⟨st11, est11, hf⟩ := bs_some hf
  refine x_putI hh cl_8 dX8_readWord_102 sh_59 22 rfl (Nat.le_of_ble_eq_true rfl) wd_822 rfl rfl rfl 105 rfl st11 est11 ?_
  refine x_goto hh dX8_readWord_105 18 rfl ?_
  exact hk18 st11 hf
def F_X8_readWord_108 (st : St) : Option (St) := some st
set_option maxRecDepth 100000 in
set_option maxHeartbeats 4000000 in
theorem Z_X8_readWord_108 {l : Launch} {X : Cx} (hX : Ok X) {p : Program} {e : Env} {s : State} {m : MethodId} {args : Array Value} {below : List Frame} {meth : Method} {c : Code} {st' : St} (hh : Hy X p s m args meth c cX8_readWord 2 RX8) (hr : meth.sig.returnType = none) (st : St) (hf : F_X8_readWord_108 st = some st') : Z X p l e (rmk 1) s m args below meth c 2 (MQ below (Qf X none st') args s 0 0 (cA X)) 108 [(0, .ref (X.2.1 59))] [] st := by
  unfold F_X8_readWord_108 at hf
  obtain rfl := ret1 hf
  exact x_vret hh hr dX8_readWord_108
def F_X8_readWord_18 : Nat → St → Option (St)
  | 0, _ => none
  | n + 1, st => if (st.1 59 18) ≤ (st.1 59 22) then F_X8_readWord_108 st else gi (st.1 59 22) 500 ((F_X8_in ((st.1 72 (st.1 59 22).toNatClampNeg).toInt64) 97 122 st).bind (fun q6 => if q6.1 = 0 then F_X8_readWord_108 q6.2 else if (lg_cmp (q6.2.2 59 21) 10000000000000) ≤ 0 then gi (q6.2.1 59 22) 500 (F_X8_readWord_92 (F_X8_readWord_18 n) (((27 * (q6.2.2 59 21)) + ((q6.2.1 72 (q6.2.1 59 22).toNatClampNeg).toInt64)) - 96) q6.2) else F_X8_readWord_92 (F_X8_readWord_18 n) 20000000000000 q6.2))
set_option maxRecDepth 100000 in
set_option maxHeartbeats 4000000 in
theorem Z_X8_readWord_18 {l : Launch} {X : Cx} (hX : Ok X) {p : Program} {e : Env} {s : State} {m : MethodId} {args : Array Value} {below : List Frame} {meth : Method} {c : Code} {st' : St} (hh : Hy X p s m args meth c cX8_readWord 2 RX8) (hr : meth.sig.returnType = none) : ∀ (n : Nat) (st : St), F_X8_readWord_18 n st = some st' → Z X p l e (rmk 1) s m args below meth c 2 (MQ below (Qf X none st') args s 0 0 (cA X)) 18 [(0, .ref (X.2.1 59))] [] st := by
  intro n
  induction n with
  | zero =>
    intro st hf
    cases hf
  | succ n ih =>
    intro st hf
    rw [F_X8_readWord_18] at hf
    refine x_aload_n hh dX8_readWord_18 rfl 0 rfl 19 rfl ?_
    refine x_getI hh cl_8 dX8_readWord_19 sh_59 22 rfl (Nat.le_of_ble_eq_true rfl) wd_822 22 rfl ?_
    refine x_aload_n hh dX8_readWord_22 rfl 0 rfl 23 rfl ?_
    refine x_getI hh cl_8 dX8_readWord_23 sh_59 18 rfl (Nat.le_of_ble_eq_true rfl) wd_818 26 rfl ?_
    refine x_icmp_ge hh dX8_readWord_26 108 rfl 29 rfl (fun hc4 => ?_) (fun hc4 => ?_)
    · have hf := t_pos hc4 hf
      exact Z_X8_readWord_108 hX hh hr  st hf
    · have hf := t_neg hc4 hf
      refine x_aload_n hh dX8_readWord_29 rfl 0 rfl 30 rfl ?_
      refine x_getR hh cl_8 dX8_readWord_30 sh_59 17 72 rfl (Nat.le_of_ble_eq_true rfl) wd_817 33 rfl ?_
      refine x_aload_n hh dX8_readWord_33 rfl 0 rfl 34 rfl ?_
      refine x_getI hh cl_8 dX8_readWord_34 sh_59 22 rfl (Nat.le_of_ble_eq_true rfl) wd_822 37 rfl ?_
      obtain ⟨hi5, hf⟩ := gi_some hf
      refine x_iaload hh dX8_readWord_37 sh_72 hi5 38 rfl ?_
      refine x_i2l hh dX8_readWord_38 39 rfl ?_
      refine x_ldc2_w hh dX8_readWord_39 wd_926 42 rfl ?_
      refine x_ldc2_w hh dX8_readWord_42 wd_927 45 rfl ?_
      obtain ⟨q6, hq6, hf⟩ := b_some hf
      refine x_callS (rest := []) hh ms_X8_in [.long ((st.1 72 (st.1 59 22).toNatClampNeg).toInt64), .long 97, .long 122] dX8_readWord_45 wd_907 (C_X8_in l hX  hq6) rfl rfl ⟨Nat.le_of_ble_eq_true rfl, Nat.le_of_ble_eq_true rfl⟩ (Nat.le_of_ble_eq_true rfl) 48 rfl [.int q6.1] rfl ?_
      refine x_if_eq hh dX8_readWord_48 108 rfl 51 rfl (fun hc7 => ?_) (fun hc7 => ?_)
      · have hf := t_pos hc7 hf
        exact Z_X8_readWord_108 hX hh hr  q6.2 hf
      · have hf := t_neg hc7 hf
        refine x_aload_n hh dX8_readWord_51 rfl 0 rfl 52 rfl ?_
        refine x_aload_n hh dX8_readWord_52 rfl 0 rfl 53 rfl ?_
        refine x_getJ hh cl_8 dX8_readWord_53 sh_59 21 rfl (Nat.le_of_ble_eq_true rfl) wd_821 56 rfl ?_
        refine x_ldc2_w hh dX8_readWord_56 wd_928 59 rfl ?_
        refine x_lcmp hh dX8_readWord_59 60 rfl ?_
        refine x_if_le hh dX8_readWord_60 69 rfl 63 rfl (fun hc8 => ?_) (fun hc8 => ?_)
        · have hf := t_pos hc8 hf
          refine x_ldc2_w hh dX8_readWord_69 wd_930 72 rfl ?_
          refine x_aload_n hh dX8_readWord_72 rfl 0 rfl 73 rfl ?_
          refine x_getJ hh cl_8 dX8_readWord_73 sh_59 21 rfl (Nat.le_of_ble_eq_true rfl) wd_821 76 rfl ?_
          refine x_lmul hh dX8_readWord_76 77 rfl ?_
          refine x_aload_n hh dX8_readWord_77 rfl 0 rfl 78 rfl ?_
          refine x_getR hh cl_8 dX8_readWord_78 sh_59 17 72 rfl (Nat.le_of_ble_eq_true rfl) wd_817 81 rfl ?_
          refine x_aload_n hh dX8_readWord_81 rfl 0 rfl 82 rfl ?_
          refine x_getI hh cl_8 dX8_readWord_82 sh_59 22 rfl (Nat.le_of_ble_eq_true rfl) wd_822 85 rfl ?_
          obtain ⟨hi9, hf⟩ := gi_some hf
          refine x_iaload hh dX8_readWord_85 sh_72 hi9 86 rfl ?_
          refine x_i2l hh dX8_readWord_86 87 rfl ?_
          refine x_ladd hh dX8_readWord_87 88 rfl ?_
          refine x_ldc2_w hh dX8_readWord_88 wd_931 91 rfl ?_
          refine x_lsub hh dX8_readWord_91 92 rfl ?_
          exact Z_X8_readWord_92 hX hh hr ih  (((27 * (q6.2.2 59 21)) + ((q6.2.1 72 (q6.2.1 59 22).toNatClampNeg).toInt64)) - 96) q6.2 hf
        · have hf := t_neg hc8 hf
          refine x_ldc2_w hh dX8_readWord_63 wd_929 66 rfl ?_
          refine x_goto hh dX8_readWord_66 92 rfl ?_
          exact Z_X8_readWord_92 hX hh hr ih  20000000000000 q6.2 hf
def F_X8_readWord_0 (st : St) : Option (St) := (F_X8_here st).bind (fun q1 => bs (sJ q1.2 59 21 0) (fun st2 => bs (sV st2 59 22 (st2.1 59 20)) (fun st3 => F_X8_readWord_18 fN st3)))
set_option maxRecDepth 100000 in
set_option maxHeartbeats 4000000 in
theorem Z_X8_readWord_0 {l : Launch} {X : Cx} (hX : Ok X) {p : Program} {e : Env} {s : State} {m : MethodId} {args : Array Value} {below : List Frame} {meth : Method} {c : Code} {st' : St} (hh : Hy X p s m args meth c cX8_readWord 2 RX8) (hr : meth.sig.returnType = none) (st : St) (hf : F_X8_readWord_0 st = some st') : Z X p l e (rmk 1) s m args below meth c 2 (MQ below (Qf X none st') args s 0 0 (cA X)) 0 [(0, .ref (X.2.1 59))] [] st := by
  unfold F_X8_readWord_0 at hf
  refine x_aload_n hh dX8_readWord_0 rfl 0 rfl 1 rfl ?_
  obtain ⟨q1, hq1, hf⟩ := b_some hf
  refine x_callV (rest := []) hh mi_X8_here [] dX8_readWord_1 sh_59 wd_917 (C_X8_here l hX  hq1) rfl rfl ⟨Nat.le_of_ble_eq_true rfl, Nat.le_of_ble_eq_true rfl⟩ (Nat.le_of_ble_eq_true rfl) 4 rfl [.int q1.1] rfl ?_
  refine x_istore_n hh dX8_readWord_4 rfl (by decide) [(1, .int q1.1), (0, .ref (X.2.1 59))] rfl 5 rfl ?_
  refine x_aload_n hh dX8_readWord_5 rfl 1 rfl 6 rfl ?_
  refine x_lconst hh dX8_readWord_6 0 rfl 7 rfl ?_
  obtain ⟨st2, est2, hf⟩ := bs_some hf
  refine x_putJ hh cl_8 dX8_readWord_7 sh_59 21 rfl (Nat.le_of_ble_eq_true rfl) wd_821 rfl rfl rfl 10 rfl st2 est2 ?_
  refine x_aload_n hh dX8_readWord_10 rfl 1 rfl 11 rfl ?_
  refine x_aload_n hh dX8_readWord_11 rfl 1 rfl 12 rfl ?_
  refine x_getI hh cl_8 dX8_readWord_12 sh_59 20 rfl (Nat.le_of_ble_eq_true rfl) wd_820 15 rfl ?_
  obtain ⟨st3, est3, hf⟩ := bs_some hf
  refine x_putI hh cl_8 dX8_readWord_15 sh_59 22 rfl (Nat.le_of_ble_eq_true rfl) wd_822 rfl rfl rfl 18 rfl st3 est3 ?_
  refine x_sub (lv' := [(0, .ref (X.2.1 59))]) [1] rfl ?_
  exact Z_X8_readWord_18 hX hh hr fN st3 hf
def F_X8_readWord (st : St) : Option (St) := F_X8_readWord_0  st
set_option maxRecDepth 100000 in
theorem C_X8_readWord (l : Launch) {X : Cx} (hX : Ok X) {st : St} {q : St} (hf : F_X8_readWord st = some q) : Ct l X 1 yX8_readWord (.code yX8_readWord cX8_readWord 2 (none)) [.ref (X.2.1 59)] st none q := by
  refine Ct.of hX (by decide) (Nat.le_of_ble_eq_true rfl) ?_
  intro p e s m args below meth c hh hr
  exact Z_X8_readWord_0 hX hh hr st hf

def F_X8_takeNumber_113 (k42 : Int32 → Int32 → St → Option (Int32 × St)) (v1 : Int32) (v2 : Int32) (t0 : Int32) (st : St) : Option (Int32 × St) := bs (sV st 59 23 t0) (fun st13 => bs (sV st13 59 20 ((st13.1 59 20) + 1)) (fun st14 => k42 v1 v2 st14))
set_option maxRecDepth 100000 in
set_option maxHeartbeats 4000000 in
theorem Z_X8_takeNumber_113 {l : Launch} {X : Cx} (hX : Ok X) {p : Program} {e : Env} {s : State} {m : MethodId} {args : Array Value} {below : List Frame} {meth : Method} {c : Code} {rr : Int32} {st' : St} (hh : Hy X p s m args meth c cX8_takeNumber 4 RX8) (hr : meth.sig.returnType = some .int) {k42 : Int32 → Int32 → St → Option (Int32 × St)} (hk42 : ∀ (v1 : Int32) (v2 : Int32) (st : St), k42 v1 v2 st = some (rr, st') → Z X p l e (rmk 1) s m args below meth c 4 (MQ below (Qf X (some (.int rr)) st') args s 0 0 (cA X)) 42 [(0, .ref (X.2.1 59)), (1, .int v1), (2, .int v2)] [] st) (v1 : Int32) (v2 : Int32) (t0 : Int32) (st : St) (hf : F_X8_takeNumber_113 k42 v1 v2 t0 st = some (rr, st')) : Z X p l e (rmk 1) s m args below meth c 4 (MQ below (Qf X (some (.int rr)) st') args s 0 0 (cA X)) 113 [(0, .ref (X.2.1 59)), (1, .int v1), (2, .int v2)] [.int t0, .ref (X.2.1 59)] st := by
  unfold F_X8_takeNumber_113 at hf
  obtain ⟨st13, est13, hf⟩ := bs_some hf
  refine x_putI hh cl_8 dX8_takeNumber_113 sh_59 23 rfl (Nat.le_of_ble_eq_true rfl) wd_823 rfl rfl rfl 116 rfl st13 est13 ?_
  refine x_aload_n hh dX8_takeNumber_116 rfl 0 rfl 117 rfl ?_
  refine x_dup hh dX8_takeNumber_117 rfl 118 rfl ?_
  refine x_getI hh cl_8 dX8_takeNumber_118 sh_59 20 rfl (Nat.le_of_ble_eq_true rfl) wd_820 121 rfl ?_
  refine x_iconst hh dX8_takeNumber_121 1 rfl 122 rfl ?_
  refine x_iadd hh dX8_takeNumber_122 123 rfl ?_
  obtain ⟨st14, est14, hf⟩ := bs_some hf
  refine x_putI hh cl_8 dX8_takeNumber_123 sh_59 20 rfl (Nat.le_of_ble_eq_true rfl) wd_820 rfl rfl rfl 126 rfl st14 est14 ?_
  refine x_goto hh dX8_takeNumber_126 42 rfl ?_
  exact hk42 v1 v2 st14 hf
def F_X8_takeNumber_170 (t0 : Int32) (st : St) : Option (Int32 × St) := some (t0, st)
set_option maxRecDepth 100000 in
set_option maxHeartbeats 4000000 in
theorem Z_X8_takeNumber_170 {l : Launch} {X : Cx} (hX : Ok X) {p : Program} {e : Env} {s : State} {m : MethodId} {args : Array Value} {below : List Frame} {meth : Method} {c : Code} {rr : Int32} {st' : St} (hh : Hy X p s m args meth c cX8_takeNumber 4 RX8) (hr : meth.sig.returnType = some .int) (t0 : Int32) (st : St) (hf : F_X8_takeNumber_170 t0 st = some (rr, st')) : Z X p l e (rmk 1) s m args below meth c 4 (MQ below (Qf X (some (.int rr)) st') args s 0 0 (cA X)) 170 [(0, .ref (X.2.1 59))] [.int t0] st := by
  unfold F_X8_takeNumber_170 at hf
  obtain ⟨rfl, rfl⟩ := ret2 hf
  exact x_iret hh hr dX8_takeNumber_170
def F_X8_takeNumber_157 (st : St) : Option (Int32 × St) := (F_X8_fails 2 (st.1 59 24) st).bind (fun q18 => F_X8_takeNumber_170 q18.1 q18.2)
set_option maxRecDepth 100000 in
set_option maxHeartbeats 4000000 in
theorem Z_X8_takeNumber_157 {l : Launch} {X : Cx} (hX : Ok X) {p : Program} {e : Env} {s : State} {m : MethodId} {args : Array Value} {below : List Frame} {meth : Method} {c : Code} {rr : Int32} {st' : St} (hh : Hy X p s m args meth c cX8_takeNumber 4 RX8) (hr : meth.sig.returnType = some .int) (st : St) (hf : F_X8_takeNumber_157 st = some (rr, st')) : Z X p l e (rmk 1) s m args below meth c 4 (MQ below (Qf X (some (.int rr)) st') args s 0 0 (cA X)) 157 [(0, .ref (X.2.1 59))] [] st := by
  unfold F_X8_takeNumber_157 at hf
  refine x_aload_n hh dX8_takeNumber_157 rfl 0 rfl 158 rfl ?_
  refine x_iconst hh dX8_takeNumber_158 2 rfl 159 rfl ?_
  refine x_aload_n hh dX8_takeNumber_159 rfl 0 rfl 160 rfl ?_
  refine x_getI hh cl_8 dX8_takeNumber_160 sh_59 24 rfl (Nat.le_of_ble_eq_true rfl) wd_824 163 rfl ?_
  obtain ⟨q18, hq18, hf⟩ := b_some hf
  refine x_callV (rest := []) hh mi_X8_fails [.int 2, .int (st.1 59 24)] dX8_takeNumber_163 sh_59 wd_939 (C_X8_fails l hX  hq18) rfl rfl ⟨Nat.le_of_ble_eq_true rfl, Nat.le_of_ble_eq_true rfl⟩ (Nat.le_of_ble_eq_true rfl) 166 rfl [.int q18.1] rfl ?_
  refine x_goto hh dX8_takeNumber_166 170 rfl ?_
  exact Z_X8_takeNumber_170 hX hh hr  q18.1 q18.2 hf
def F_X8_takeNumber_129 (v1 : Int32) (v2 : Int32) (st : St) : Option (Int32 × St) := if (3 : Int32) < ((st.1 59 20) - (st.1 59 24)) then F_X8_takeNumber_157 st else (F_X8_in ((st.1 59 23).toInt64) v1.toInt64 v2.toInt64 st).bind (fun q16 => if q16.1 = 0 then F_X8_takeNumber_157 q16.2 else F_X8_takeNumber_170 0 q16.2)
set_option maxRecDepth 100000 in
set_option maxHeartbeats 4000000 in
theorem Z_X8_takeNumber_129 {l : Launch} {X : Cx} (hX : Ok X) {p : Program} {e : Env} {s : State} {m : MethodId} {args : Array Value} {below : List Frame} {meth : Method} {c : Code} {rr : Int32} {st' : St} (hh : Hy X p s m args meth c cX8_takeNumber 4 RX8) (hr : meth.sig.returnType = some .int) (v1 : Int32) (v2 : Int32) (st : St) (hf : F_X8_takeNumber_129 v1 v2 st = some (rr, st')) : Z X p l e (rmk 1) s m args below meth c 4 (MQ below (Qf X (some (.int rr)) st') args s 0 0 (cA X)) 129 [(0, .ref (X.2.1 59)), (1, .int v1), (2, .int v2)] [] st := by
  unfold F_X8_takeNumber_129 at hf
  refine x_aload_n hh dX8_takeNumber_129 rfl 0 rfl 130 rfl ?_
  refine x_getI hh cl_8 dX8_takeNumber_130 sh_59 20 rfl (Nat.le_of_ble_eq_true rfl) wd_820 133 rfl ?_
  refine x_aload_n hh dX8_takeNumber_133 rfl 0 rfl 134 rfl ?_
  refine x_getI hh cl_8 dX8_takeNumber_134 sh_59 24 rfl (Nat.le_of_ble_eq_true rfl) wd_824 137 rfl ?_
  refine x_isub hh dX8_takeNumber_137 138 rfl ?_
  refine x_iconst hh dX8_takeNumber_138 3 rfl 139 rfl ?_
  refine x_icmp_gt hh dX8_takeNumber_139 157 rfl 142 rfl (fun hc15 => ?_) (fun hc15 => ?_)
  · have hf := t_pos hc15 hf
    refine x_sub (lv' := [(0, .ref (X.2.1 59))]) [0] rfl ?_
    exact Z_X8_takeNumber_157 hX hh hr  st hf
  · have hf := t_neg hc15 hf
    refine x_aload_n hh dX8_takeNumber_142 rfl 0 rfl 143 rfl ?_
    refine x_getI hh cl_8 dX8_takeNumber_143 sh_59 23 rfl (Nat.le_of_ble_eq_true rfl) wd_823 146 rfl ?_
    refine x_i2l hh dX8_takeNumber_146 147 rfl ?_
    refine x_iload_n hh dX8_takeNumber_147 rfl 1 rfl 148 rfl ?_
    refine x_i2l hh dX8_takeNumber_148 149 rfl ?_
    refine x_iload_n hh dX8_takeNumber_149 rfl 2 rfl 150 rfl ?_
    refine x_i2l hh dX8_takeNumber_150 151 rfl ?_
    obtain ⟨q16, hq16, hf⟩ := b_some hf
    refine x_callS (rest := []) hh ms_X8_in [.long ((st.1 59 23).toInt64), .long v1.toInt64, .long v2.toInt64] dX8_takeNumber_151 wd_907 (C_X8_in l hX  hq16) rfl rfl ⟨Nat.le_of_ble_eq_true rfl, Nat.le_of_ble_eq_true rfl⟩ (Nat.le_of_ble_eq_true rfl) 154 rfl [.int q16.1] rfl ?_
    refine x_if_ne hh dX8_takeNumber_154 169 rfl 157 rfl (fun hc17 => ?_) (fun hc17 => ?_)
    · have hf := t_neg hc17 hf
      refine x_iconst hh dX8_takeNumber_169 0 rfl 170 rfl ?_
      refine x_sub (lv' := [(0, .ref (X.2.1 59))]) [0] rfl ?_
      exact Z_X8_takeNumber_170 hX hh hr  0 q16.2 hf
    · have hf := t_pos hc17 hf
      refine x_sub (lv' := [(0, .ref (X.2.1 59))]) [0] rfl ?_
      exact Z_X8_takeNumber_157 hX hh hr  q16.2 hf
def F_X8_takeNumber_42 : Nat → Int32 → Int32 → St → Option (Int32 × St)
  | 0, _, _, _ => none
  | n + 1, v1, v2, st => if (st.1 59 18) ≤ (st.1 59 20) then F_X8_takeNumber_129 v1 v2 st else gi (st.1 59 20) 500 ((F_X8_in ((st.1 72 (st.1 59 20).toNatClampNeg).toInt64) 48 57 st).bind (fun q9 => if q9.1 = 0 then F_X8_takeNumber_129 v1 v2 q9.2 else if (q9.2.1 59 23) ≤ 10000 then gi (q9.2.1 59 20) 500 (F_X8_takeNumber_113 (F_X8_takeNumber_42 n) v1 v2 (((10 * (q9.2.1 59 23)) + (q9.2.1 72 (q9.2.1 59 20).toNatClampNeg)) - 48) q9.2) else F_X8_takeNumber_113 (F_X8_takeNumber_42 n) v1 v2 (q9.2.1 59 23) q9.2))
set_option maxRecDepth 100000 in
set_option maxHeartbeats 4000000 in
theorem Z_X8_takeNumber_42 {l : Launch} {X : Cx} (hX : Ok X) {p : Program} {e : Env} {s : State} {m : MethodId} {args : Array Value} {below : List Frame} {meth : Method} {c : Code} {rr : Int32} {st' : St} (hh : Hy X p s m args meth c cX8_takeNumber 4 RX8) (hr : meth.sig.returnType = some .int) : ∀ (n : Nat) (v1 : Int32) (v2 : Int32) (st : St), F_X8_takeNumber_42 n v1 v2 st = some (rr, st') → Z X p l e (rmk 1) s m args below meth c 4 (MQ below (Qf X (some (.int rr)) st') args s 0 0 (cA X)) 42 [(0, .ref (X.2.1 59)), (1, .int v1), (2, .int v2)] [] st := by
  intro n
  induction n with
  | zero =>
    intro v1 v2 st hf
    cases hf
  | succ n ih =>
    intro v1 v2 st hf
    rw [F_X8_takeNumber_42] at hf
    refine x_aload_n hh dX8_takeNumber_42 rfl 0 rfl 43 rfl ?_
    refine x_getI hh cl_8 dX8_takeNumber_43 sh_59 20 rfl (Nat.le_of_ble_eq_true rfl) wd_820 46 rfl ?_
    refine x_aload_n hh dX8_takeNumber_46 rfl 0 rfl 47 rfl ?_
    refine x_getI hh cl_8 dX8_takeNumber_47 sh_59 18 rfl (Nat.le_of_ble_eq_true rfl) wd_818 50 rfl ?_
    refine x_icmp_ge hh dX8_takeNumber_50 129 rfl 53 rfl (fun hc7 => ?_) (fun hc7 => ?_)
    · have hf := t_pos hc7 hf
      exact Z_X8_takeNumber_129 hX hh hr  v1 v2 st hf
    · have hf := t_neg hc7 hf
      refine x_aload_n hh dX8_takeNumber_53 rfl 0 rfl 54 rfl ?_
      refine x_getR hh cl_8 dX8_takeNumber_54 sh_59 17 72 rfl (Nat.le_of_ble_eq_true rfl) wd_817 57 rfl ?_
      refine x_aload_n hh dX8_takeNumber_57 rfl 0 rfl 58 rfl ?_
      refine x_getI hh cl_8 dX8_takeNumber_58 sh_59 20 rfl (Nat.le_of_ble_eq_true rfl) wd_820 61 rfl ?_
      obtain ⟨hi8, hf⟩ := gi_some hf
      refine x_iaload hh dX8_takeNumber_61 sh_72 hi8 62 rfl ?_
      refine x_i2l hh dX8_takeNumber_62 63 rfl ?_
      refine x_ldc2_w hh dX8_takeNumber_63 wd_948 66 rfl ?_
      refine x_ldc2_w hh dX8_takeNumber_66 wd_949 69 rfl ?_
      obtain ⟨q9, hq9, hf⟩ := b_some hf
      refine x_callS (rest := []) hh ms_X8_in [.long ((st.1 72 (st.1 59 20).toNatClampNeg).toInt64), .long 48, .long 57] dX8_takeNumber_69 wd_907 (C_X8_in l hX  hq9) rfl rfl ⟨Nat.le_of_ble_eq_true rfl, Nat.le_of_ble_eq_true rfl⟩ (Nat.le_of_ble_eq_true rfl) 72 rfl [.int q9.1] rfl ?_
      refine x_if_eq hh dX8_takeNumber_72 129 rfl 75 rfl (fun hc10 => ?_) (fun hc10 => ?_)
      · have hf := t_pos hc10 hf
        exact Z_X8_takeNumber_129 hX hh hr  v1 v2 q9.2 hf
      · have hf := t_neg hc10 hf
        refine x_aload_n hh dX8_takeNumber_75 rfl 0 rfl 76 rfl ?_
        refine x_aload_n hh dX8_takeNumber_76 rfl 0 rfl 77 rfl ?_
        refine x_getI hh cl_8 dX8_takeNumber_77 sh_59 23 rfl (Nat.le_of_ble_eq_true rfl) wd_823 80 rfl ?_
        refine x_sipush hh dX8_takeNumber_80 10000 rfl 83 rfl ?_
        refine x_icmp_le hh dX8_takeNumber_83 93 rfl 86 rfl (fun hc11 => ?_) (fun hc11 => ?_)
        · have hf := t_pos hc11 hf
          refine x_bipush hh dX8_takeNumber_93 10 rfl 95 rfl ?_
          refine x_aload_n hh dX8_takeNumber_95 rfl 0 rfl 96 rfl ?_
          refine x_getI hh cl_8 dX8_takeNumber_96 sh_59 23 rfl (Nat.le_of_ble_eq_true rfl) wd_823 99 rfl ?_
          refine x_imul hh dX8_takeNumber_99 100 rfl ?_
          refine x_aload_n hh dX8_takeNumber_100 rfl 0 rfl 101 rfl ?_
          refine x_getR hh cl_8 dX8_takeNumber_101 sh_59 17 72 rfl (Nat.le_of_ble_eq_true rfl) wd_817 104 rfl ?_
          refine x_aload_n hh dX8_takeNumber_104 rfl 0 rfl 105 rfl ?_
          refine x_getI hh cl_8 dX8_takeNumber_105 sh_59 20 rfl (Nat.le_of_ble_eq_true rfl) wd_820 108 rfl ?_
          obtain ⟨hi12, hf⟩ := gi_some hf
          refine x_iaload hh dX8_takeNumber_108 sh_72 hi12 109 rfl ?_
          refine x_iadd hh dX8_takeNumber_109 110 rfl ?_
          refine x_bipush hh dX8_takeNumber_110 48 rfl 112 rfl ?_
          refine x_isub hh dX8_takeNumber_112 113 rfl ?_
          exact Z_X8_takeNumber_113 hX hh hr ih  v1 v2 (((10 * (q9.2.1 59 23)) + (q9.2.1 72 (q9.2.1 59 20).toNatClampNeg)) - 48) q9.2 hf
        · have hf := t_neg hc11 hf
          refine x_aload_n hh dX8_takeNumber_86 rfl 0 rfl 87 rfl ?_
          refine x_getI hh cl_8 dX8_takeNumber_87 sh_59 23 rfl (Nat.le_of_ble_eq_true rfl) wd_823 90 rfl ?_
          refine x_goto hh dX8_takeNumber_90 113 rfl ?_
          exact Z_X8_takeNumber_113 hX hh hr ih  v1 v2 (q9.2.1 59 23) q9.2 hf
def F_X8_takeNumber_0 (v1 : Int32) (v2 : Int32) (st : St) : Option (Int32 × St) := (F_X8_here st).bind (fun q1 => (F_X8_in q1.1.toInt64 48 57 q1.2).bind (fun q2 => if q2.1 = 0 then (F_X8_fails 1 (q2.2.1 59 20) q2.2).bind (fun q6 => some (q6.1, q6.2)) else bs (sV q2.2 59 24 (q2.2.1 59 20)) (fun st4 => bs (sV st4 59 23 0) (fun st5 => F_X8_takeNumber_42 fN v1 v2 st5))))
set_option maxRecDepth 100000 in
set_option maxHeartbeats 4000000 in
theorem Z_X8_takeNumber_0 {l : Launch} {X : Cx} (hX : Ok X) {p : Program} {e : Env} {s : State} {m : MethodId} {args : Array Value} {below : List Frame} {meth : Method} {c : Code} {rr : Int32} {st' : St} (hh : Hy X p s m args meth c cX8_takeNumber 4 RX8) (hr : meth.sig.returnType = some .int) (v1 : Int32) (v2 : Int32) (st : St) (hf : F_X8_takeNumber_0 v1 v2 st = some (rr, st')) : Z X p l e (rmk 1) s m args below meth c 4 (MQ below (Qf X (some (.int rr)) st') args s 0 0 (cA X)) 0 [(0, .ref (X.2.1 59)), (1, .int v1), (2, .int v2)] [] st := by
  unfold F_X8_takeNumber_0 at hf
  refine x_aload_n hh dX8_takeNumber_0 rfl 0 rfl 1 rfl ?_
  obtain ⟨q1, hq1, hf⟩ := b_some hf
  refine x_callV (rest := []) hh mi_X8_here [] dX8_takeNumber_1 sh_59 wd_917 (C_X8_here l hX  hq1) rfl rfl ⟨Nat.le_of_ble_eq_true rfl, Nat.le_of_ble_eq_true rfl⟩ (Nat.le_of_ble_eq_true rfl) 4 rfl [.int q1.1] rfl ?_
  refine x_istore_n hh dX8_takeNumber_4 rfl (by decide) [(3, .int q1.1), (0, .ref (X.2.1 59)), (1, .int v1), (2, .int v2)] rfl 5 rfl ?_
  refine x_iload_n hh dX8_takeNumber_5 rfl 0 rfl 6 rfl ?_
  refine x_i2l hh dX8_takeNumber_6 7 rfl ?_
  refine x_ldc2_w hh dX8_takeNumber_7 wd_948 10 rfl ?_
  refine x_ldc2_w hh dX8_takeNumber_10 wd_949 13 rfl ?_
  obtain ⟨q2, hq2, hf⟩ := b_some hf
  refine x_callS (rest := []) hh ms_X8_in [.long q1.1.toInt64, .long 48, .long 57] dX8_takeNumber_13 wd_907 (C_X8_in l hX  hq2) rfl rfl ⟨Nat.le_of_ble_eq_true rfl, Nat.le_of_ble_eq_true rfl⟩ (Nat.le_of_ble_eq_true rfl) 16 rfl [.int q2.1] rfl ?_
  refine x_if_ne hh dX8_takeNumber_16 29 rfl 19 rfl (fun hc3 => ?_) (fun hc3 => ?_)
  · have hf := t_neg hc3 hf
    refine x_aload_n hh dX8_takeNumber_29 rfl 1 rfl 30 rfl ?_
    refine x_aload_n hh dX8_takeNumber_30 rfl 1 rfl 31 rfl ?_
    refine x_getI hh cl_8 dX8_takeNumber_31 sh_59 20 rfl (Nat.le_of_ble_eq_true rfl) wd_820 34 rfl ?_
    obtain ⟨st4, est4, hf⟩ := bs_some hf
    refine x_putI hh cl_8 dX8_takeNumber_34 sh_59 24 rfl (Nat.le_of_ble_eq_true rfl) wd_824 rfl rfl rfl 37 rfl st4 est4 ?_
    refine x_aload_n hh dX8_takeNumber_37 rfl 1 rfl 38 rfl ?_
    refine x_iconst hh dX8_takeNumber_38 0 rfl 39 rfl ?_
    obtain ⟨st5, est5, hf⟩ := bs_some hf
    refine x_putI hh cl_8 dX8_takeNumber_39 sh_59 23 rfl (Nat.le_of_ble_eq_true rfl) wd_823 rfl rfl rfl 42 rfl st5 est5 ?_
    refine x_sub (lv' := [(0, .ref (X.2.1 59)), (1, .int v1), (2, .int v2)]) [1, 2, 3] rfl ?_
    exact Z_X8_takeNumber_42 hX hh hr fN v1 v2 st5 hf
  · have hf := t_pos hc3 hf
    refine x_aload_n hh dX8_takeNumber_19 rfl 1 rfl 20 rfl ?_
    refine x_iconst hh dX8_takeNumber_20 1 rfl 21 rfl ?_
    refine x_aload_n hh dX8_takeNumber_21 rfl 1 rfl 22 rfl ?_
    refine x_getI hh cl_8 dX8_takeNumber_22 sh_59 20 rfl (Nat.le_of_ble_eq_true rfl) wd_820 25 rfl ?_
    obtain ⟨q6, hq6, hf⟩ := b_some hf
    refine x_callV (rest := []) hh mi_X8_fails [.int 1, .int (q2.2.1 59 20)] dX8_takeNumber_25 sh_59 wd_939 (C_X8_fails l hX  hq6) rfl rfl ⟨Nat.le_of_ble_eq_true rfl, Nat.le_of_ble_eq_true rfl⟩ (Nat.le_of_ble_eq_true rfl) 28 rfl [.int q6.1] rfl ?_
    obtain ⟨rfl, rfl⟩ := ret2 hf
    exact x_iret hh hr dX8_takeNumber_28
def F_X8_takeNumber (v1 : Int32) (v2 : Int32) (st : St) : Option (Int32 × St) := F_X8_takeNumber_0  v1 v2 st
set_option maxRecDepth 100000 in
theorem C_X8_takeNumber (l : Launch) {X : Cx} (hX : Ok X) {v1 : Int32} {v2 : Int32} {st : St} {q : Int32 × St} (hf : F_X8_takeNumber v1 v2 st = some q) : Ct l X 1 yX8_takeNumber (.code yX8_takeNumber cX8_takeNumber 4 (some .int)) [.ref (X.2.1 59), .int v1, .int v2] st (some (.int q.1)) q.2 := by
  refine Ct.of hX (by decide) (Nat.le_of_ble_eq_true rfl) ?_
  intro p e s m args below meth c hh hr
  exact Z_X8_takeNumber_0 hX hh hr v1 v2 st hf

def F_X8_into_0 (ar0 : Nat) (v2 : Int32) (v3 : Int32) (v4 : Int32) (st : St) : Option (Int32 × St) := (F_X8_takeNumber v3 v4 st).bind (fun q1 => gi v2 (lenOf ar0) (bs (sV q1.2 ar0 v2.toNatClampNeg (q1.2.1 59 23)) (fun st3 => some (q1.1, st3))))
set_option maxRecDepth 100000 in
set_option maxHeartbeats 4000000 in
theorem Z_X8_into_0 {l : Launch} {X : Cx} (hX : Ok X) {ar0 : Nat} (har0 : Ar ar0) {p : Program} {e : Env} {s : State} {m : MethodId} {args : Array Value} {below : List Frame} {meth : Method} {c : Code} {rr : Int32} {st' : St} (hh : Hy X p s m args meth c cX8_into 6 RX8) (hr : meth.sig.returnType = some .int) (v2 : Int32) (v3 : Int32) (v4 : Int32) (st : St) (hf : F_X8_into_0 ar0 v2 v3 v4 st = some (rr, st')) : Z X p l e (rmk 2) s m args below meth c 6 (MQ below (Qf X (some (.int rr)) st') args s 0 0 (cA X)) 0 [(0, .ref (X.2.1 59)), (1, .ref (X.2.1 ar0)), (2, .int v2), (3, .int v3), (4, .int v4)] [] st := by
  unfold F_X8_into_0 at hf
  refine x_aload_n hh dX8_into_0 rfl 0 rfl 1 rfl ?_
  refine x_iload_n hh dX8_into_1 rfl 3 rfl 2 rfl ?_
  refine x_iload hh dX8_into_2 4 rfl 4 rfl ?_
  obtain ⟨q1, hq1, hf⟩ := b_some hf
  refine x_callV (rest := []) hh mi_X8_takeNumber [.int v3, .int v4] dX8_into_4 sh_59 wd_945 (C_X8_takeNumber l hX  hq1) rfl rfl ⟨Nat.le_of_ble_eq_true rfl, Nat.le_of_ble_eq_true rfl⟩ (Nat.le_of_ble_eq_true rfl) 7 rfl [.int q1.1] rfl ?_
  refine x_istore hh dX8_into_7 (by decide) [(5, .int q1.1), (0, .ref (X.2.1 59)), (1, .ref (X.2.1 ar0)), (2, .int v2), (3, .int v3), (4, .int v4)] rfl 9 rfl ?_
  refine x_aload_n hh dX8_into_9 rfl 2 rfl 10 rfl ?_
  refine x_iload_n hh dX8_into_10 rfl 3 rfl 11 rfl ?_
  refine x_aload_n hh dX8_into_11 rfl 1 rfl 12 rfl ?_
  refine x_getI hh cl_8 dX8_into_12 sh_59 23 rfl (Nat.le_of_ble_eq_true rfl) wd_823 15 rfl ?_
  obtain ⟨hi2, hf⟩ := gi_some hf
  obtain ⟨st3, est3, hf⟩ := bs_some hf
  refine x_iastore hh dX8_into_15 har0 hi2 16 rfl st3 est3 ?_
  refine x_iload hh dX8_into_16 0 rfl 18 rfl ?_
  obtain ⟨rfl, rfl⟩ := ret2 hf
  exact x_iret hh hr dX8_into_18
def F_X8_into (ar0 : Nat) (v2 : Int32) (v3 : Int32) (v4 : Int32) (st : St) : Option (Int32 × St) := F_X8_into_0 ar0 v2 v3 v4 st
set_option maxRecDepth 100000 in
theorem C_X8_into (l : Launch) {X : Cx} (hX : Ok X) {ar0 : Nat} (har0 : Ar ar0) {v2 : Int32} {v3 : Int32} {v4 : Int32} {st : St} {q : Int32 × St} (hf : F_X8_into ar0 v2 v3 v4 st = some q) : Ct l X 2 yX8_into (.code yX8_into cX8_into 6 (some .int)) [.ref (X.2.1 59), .ref (X.2.1 ar0), .int v2, .int v3, .int v4] st (some (.int q.1)) q.2 := by
  refine Ct.of hX (by decide) (Nat.le_of_ble_eq_true rfl) ?_
  intro p e s m args below meth c hh hr
  exact Z_X8_into_0 hX har0 hh hr v2 v3 v4 st hf

def F_X8_takeFriends_67 (st : St) : Option (Int32 × St) := (F_X8_fails 4 (st.1 59 24) st).bind (fun q12 => some (q12.1, q12.2))
set_option maxRecDepth 100000 in
set_option maxHeartbeats 4000000 in
theorem Z_X8_takeFriends_67 {l : Launch} {X : Cx} (hX : Ok X) {p : Program} {e : Env} {s : State} {m : MethodId} {args : Array Value} {below : List Frame} {meth : Method} {c : Code} {rr : Int32} {st' : St} (hh : Hy X p s m args meth c cX8_takeFriends 4 RX8) (hr : meth.sig.returnType = some .int) (st : St) (hf : F_X8_takeFriends_67 st = some (rr, st')) : Z X p l e (rmk 3) s m args below meth c 4 (MQ below (Qf X (some (.int rr)) st') args s 0 0 (cA X)) 67 [(0, .ref (X.2.1 59))] [] st := by
  unfold F_X8_takeFriends_67 at hf
  refine x_aload_n hh dX8_takeFriends_67 rfl 0 rfl 68 rfl ?_
  refine x_iconst hh dX8_takeFriends_68 4 rfl 69 rfl ?_
  refine x_aload_n hh dX8_takeFriends_69 rfl 0 rfl 70 rfl ?_
  refine x_getI hh cl_8 dX8_takeFriends_70 sh_59 24 rfl (Nat.le_of_ble_eq_true rfl) wd_824 73 rfl ?_
  obtain ⟨q12, hq12, hf⟩ := b_some hf
  refine x_callV (rest := []) hh mi_X8_fails [.int 4, .int (st.1 59 24)] dX8_takeFriends_73 sh_59 wd_939 (C_X8_fails l hX  hq12) rfl rfl ⟨Nat.le_of_ble_eq_true rfl, Nat.le_of_ble_eq_true rfl⟩ (Nat.le_of_ble_eq_true rfl) 76 rfl [.int q12.1] rfl ?_
  obtain ⟨rfl, rfl⟩ := ret2 hf
  exact x_iret hh hr dX8_takeFriends_76
def F_X8_takeFriends_36 (v2 : Int32) (t0 : Int32) (st : St) : Option (Int32 × St) := if t0 ≤ 0 then if v2 = (st.1 59 23) then F_X8_takeFriends_67 st else gi ((6 * v2) + (st.1 59 23)) 36 (if (st.1 79 ((6 * v2) + (st.1 59 23)).toNatClampNeg) ≤ 0 then (F_X8_into 79 ((6 * v2) + (st.1 59 23)) 1 99 st).bind (fun q8 => gi ((6 * (st.1 59 23)) + v2) 36 (bs (sV q8.2 79 ((6 * (st.1 59 23)) + v2).toNatClampNeg (q8.2.1 59 23)) (fun st10 => bs (sV st10 59 33 ((st10.1 59 33) + 1)) (fun st11 => some (q8.1, st11))))) else F_X8_takeFriends_67 st) else some (t0, st)
set_option maxRecDepth 100000 in
set_option maxHeartbeats 4000000 in
theorem Z_X8_takeFriends_36 {l : Launch} {X : Cx} (hX : Ok X) {p : Program} {e : Env} {s : State} {m : MethodId} {args : Array Value} {below : List Frame} {meth : Method} {c : Code} {rr : Int32} {st' : St} (hh : Hy X p s m args meth c cX8_takeFriends 4 RX8) (hr : meth.sig.returnType = some .int) (v2 : Int32) (t0 : Int32) (st : St) (hf : F_X8_takeFriends_36 v2 t0 st = some (rr, st')) : Z X p l e (rmk 3) s m args below meth c 4 (MQ below (Qf X (some (.int rr)) st') args s 0 0 (cA X)) 36 [(0, .ref (X.2.1 59)), (2, .int v2)] [.int t0] st := by
  unfold F_X8_takeFriends_36 at hf
  refine x_istore_n hh dX8_takeFriends_36 rfl (by decide) [(1, .int t0), (0, .ref (X.2.1 59)), (2, .int v2)] rfl 37 rfl ?_
  refine x_iload_n hh dX8_takeFriends_37 rfl 0 rfl 38 rfl ?_
  refine x_if_le hh dX8_takeFriends_38 43 rfl 41 rfl (fun hc4 => ?_) (fun hc4 => ?_)
  · have hf := t_pos hc4 hf
    refine x_aload_n hh dX8_takeFriends_43 rfl 1 rfl 44 rfl ?_
    refine x_getI hh cl_8 dX8_takeFriends_44 sh_59 23 rfl (Nat.le_of_ble_eq_true rfl) wd_823 47 rfl ?_
    refine x_istore_n hh dX8_takeFriends_47 rfl (by decide) [(3, .int (st.1 59 23)), (1, .int t0), (0, .ref (X.2.1 59)), (2, .int v2)] rfl 48 rfl ?_
    refine x_iload_n hh dX8_takeFriends_48 rfl 3 rfl 49 rfl ?_
    refine x_iload_n hh dX8_takeFriends_49 rfl 0 rfl 50 rfl ?_
    refine x_icmp_eq hh dX8_takeFriends_50 67 rfl 53 rfl (fun hc5 => ?_) (fun hc5 => ?_)
    · have hf := t_pos hc5 hf
      refine x_sub (lv' := [(0, .ref (X.2.1 59))]) [2] rfl ?_
      exact Z_X8_takeFriends_67 hX hh hr  st hf
    · have hf := t_neg hc5 hf
      refine x_aload_n hh dX8_takeFriends_53 rfl 2 rfl 54 rfl ?_
      refine x_getR hh cl_8 dX8_takeFriends_54 sh_59 34 79 rfl (Nat.le_of_ble_eq_true rfl) wd_834 57 rfl ?_
      refine x_bipush hh dX8_takeFriends_57 6 rfl 59 rfl ?_
      refine x_iload_n hh dX8_takeFriends_59 rfl 3 rfl 60 rfl ?_
      refine x_imul hh dX8_takeFriends_60 61 rfl ?_
      refine x_iload_n hh dX8_takeFriends_61 rfl 0 rfl 62 rfl ?_
      refine x_iadd hh dX8_takeFriends_62 63 rfl ?_
      obtain ⟨hi6, hf⟩ := gi_some hf
      refine x_iaload hh dX8_takeFriends_63 sh_79 hi6 64 rfl ?_
      refine x_if_le hh dX8_takeFriends_64 77 rfl 67 rfl (fun hc7 => ?_) (fun hc7 => ?_)
      · have hf := t_pos hc7 hf
        refine x_aload_n hh dX8_takeFriends_77 rfl 2 rfl 78 rfl ?_
        refine x_aload_n hh dX8_takeFriends_78 rfl 2 rfl 79 rfl ?_
        refine x_getR hh cl_8 dX8_takeFriends_79 sh_59 34 79 rfl (Nat.le_of_ble_eq_true rfl) wd_834 82 rfl ?_
        refine x_bipush hh dX8_takeFriends_82 6 rfl 84 rfl ?_
        refine x_iload_n hh dX8_takeFriends_84 rfl 3 rfl 85 rfl ?_
        refine x_imul hh dX8_takeFriends_85 86 rfl ?_
        refine x_iload_n hh dX8_takeFriends_86 rfl 0 rfl 87 rfl ?_
        refine x_iadd hh dX8_takeFriends_87 88 rfl ?_
        refine x_iconst hh dX8_takeFriends_88 1 rfl 89 rfl ?_
        refine x_bipush hh dX8_takeFriends_89 99 rfl 91 rfl ?_
        obtain ⟨q8, hq8, hf⟩ := b_some hf
        refine x_callV (rest := []) hh mi_X8_into [.ref (X.2.1 79), .int ((6 * v2) + (st.1 59 23)), .int 1, .int 99] dX8_takeFriends_91 sh_59 wd_953 (C_X8_into l hX sh_79 hq8) rfl rfl ⟨Nat.le_of_ble_eq_true rfl, Nat.le_of_ble_eq_true rfl⟩ (Nat.le_of_ble_eq_true rfl) 94 rfl [.int q8.1] rfl ?_
        refine x_istore_n hh dX8_takeFriends_94 rfl (by decide) [(1, .int q8.1), (3, .int (st.1 59 23)), (0, .ref (X.2.1 59)), (2, .int v2)] rfl 95 rfl ?_
        refine x_aload_n hh dX8_takeFriends_95 rfl 2 rfl 96 rfl ?_
        refine x_getR hh cl_8 dX8_takeFriends_96 sh_59 34 79 rfl (Nat.le_of_ble_eq_true rfl) wd_834 99 rfl ?_
        refine x_bipush hh dX8_takeFriends_99 6 rfl 101 rfl ?_
        refine x_iload_n hh dX8_takeFriends_101 rfl 1 rfl 102 rfl ?_
        refine x_imul hh dX8_takeFriends_102 103 rfl ?_
        refine x_iload_n hh dX8_takeFriends_103 rfl 3 rfl 104 rfl ?_
        refine x_iadd hh dX8_takeFriends_104 105 rfl ?_
        refine x_aload_n hh dX8_takeFriends_105 rfl 2 rfl 106 rfl ?_
        refine x_getI hh cl_8 dX8_takeFriends_106 sh_59 23 rfl (Nat.le_of_ble_eq_true rfl) wd_823 109 rfl ?_
        obtain ⟨hi9, hf⟩ := gi_some hf
        obtain ⟨st10, est10, hf⟩ := bs_some hf
        refine x_iastore hh dX8_takeFriends_109 sh_79 hi9 110 rfl st10 est10 ?_
        refine x_aload_n hh dX8_takeFriends_110 rfl 2 rfl 111 rfl ?_
        refine x_dup hh dX8_takeFriends_111 rfl 112 rfl ?_
        refine x_getI hh cl_8 dX8_takeFriends_112 sh_59 33 rfl (Nat.le_of_ble_eq_true rfl) wd_833 115 rfl ?_
        refine x_iconst hh dX8_takeFriends_115 1 rfl 116 rfl ?_
        refine x_iadd hh dX8_takeFriends_116 117 rfl ?_
        obtain ⟨st11, est11, hf⟩ := bs_some hf
        refine x_putI hh cl_8 dX8_takeFriends_117 sh_59 33 rfl (Nat.le_of_ble_eq_true rfl) wd_833 rfl rfl rfl 120 rfl st11 est11 ?_
        refine x_iload_n hh dX8_takeFriends_120 rfl 0 rfl 121 rfl ?_
        obtain ⟨rfl, rfl⟩ := ret2 hf
        exact x_iret hh hr dX8_takeFriends_121
      · have hf := t_neg hc7 hf
        refine x_sub (lv' := [(0, .ref (X.2.1 59))]) [2] rfl ?_
        exact Z_X8_takeFriends_67 hX hh hr  st hf
  · have hf := t_neg hc4 hf
    refine x_iload_n hh dX8_takeFriends_41 rfl 0 rfl 42 rfl ?_
    obtain ⟨rfl, rfl⟩ := ret2 hf
    exact x_iret hh hr dX8_takeFriends_42
def F_X8_takeFriends_0 (st : St) : Option (Int32 × St) := (F_X8_takeNumber 0 ((st.1 59 28) - 1) st).bind (fun q1 => if q1.1 ≤ 0 then (F_X8_takeNumber 0 ((q1.2.1 59 28) - 1) q1.2).bind (fun q3 => F_X8_takeFriends_36 (q1.2.1 59 23) q3.1 q3.2) else F_X8_takeFriends_36 (q1.2.1 59 23) q1.1 q1.2)
set_option maxRecDepth 100000 in
set_option maxHeartbeats 4000000 in
theorem Z_X8_takeFriends_0 {l : Launch} {X : Cx} (hX : Ok X) {p : Program} {e : Env} {s : State} {m : MethodId} {args : Array Value} {below : List Frame} {meth : Method} {c : Code} {rr : Int32} {st' : St} (hh : Hy X p s m args meth c cX8_takeFriends 4 RX8) (hr : meth.sig.returnType = some .int) (st : St) (hf : F_X8_takeFriends_0 st = some (rr, st')) : Z X p l e (rmk 3) s m args below meth c 4 (MQ below (Qf X (some (.int rr)) st') args s 0 0 (cA X)) 0 [(0, .ref (X.2.1 59))] [] st := by
  unfold F_X8_takeFriends_0 at hf
  refine x_aload_n hh dX8_takeFriends_0 rfl 0 rfl 1 rfl ?_
  refine x_iconst hh dX8_takeFriends_1 0 rfl 2 rfl ?_
  refine x_aload_n hh dX8_takeFriends_2 rfl 0 rfl 3 rfl ?_
  refine x_getI hh cl_8 dX8_takeFriends_3 sh_59 28 rfl (Nat.le_of_ble_eq_true rfl) wd_828 6 rfl ?_
  refine x_iconst hh dX8_takeFriends_6 1 rfl 7 rfl ?_
  refine x_isub hh dX8_takeFriends_7 8 rfl ?_
  obtain ⟨q1, hq1, hf⟩ := b_some hf
  refine x_callV (rest := []) hh mi_X8_takeNumber [.int 0, .int ((st.1 59 28) - 1)] dX8_takeFriends_8 sh_59 wd_945 (C_X8_takeNumber l hX  hq1) rfl rfl ⟨Nat.le_of_ble_eq_true rfl, Nat.le_of_ble_eq_true rfl⟩ (Nat.le_of_ble_eq_true rfl) 11 rfl [.int q1.1] rfl ?_
  refine x_istore_n hh dX8_takeFriends_11 rfl (by decide) [(1, .int q1.1), (0, .ref (X.2.1 59))] rfl 12 rfl ?_
  refine x_aload_n hh dX8_takeFriends_12 rfl 1 rfl 13 rfl ?_
  refine x_getI hh cl_8 dX8_takeFriends_13 sh_59 23 rfl (Nat.le_of_ble_eq_true rfl) wd_823 16 rfl ?_
  refine x_istore_n hh dX8_takeFriends_16 rfl (by decide) [(2, .int (q1.2.1 59 23)), (1, .int q1.1), (0, .ref (X.2.1 59))] rfl 17 rfl ?_
  refine x_iload_n hh dX8_takeFriends_17 rfl 1 rfl 18 rfl ?_
  refine x_if_le hh dX8_takeFriends_18 25 rfl 21 rfl (fun hc2 => ?_) (fun hc2 => ?_)
  · have hf := t_pos hc2 hf
    refine x_aload_n hh dX8_takeFriends_25 rfl 2 rfl 26 rfl ?_
    refine x_iconst hh dX8_takeFriends_26 0 rfl 27 rfl ?_
    refine x_aload_n hh dX8_takeFriends_27 rfl 2 rfl 28 rfl ?_
    refine x_getI hh cl_8 dX8_takeFriends_28 sh_59 28 rfl (Nat.le_of_ble_eq_true rfl) wd_828 31 rfl ?_
    refine x_iconst hh dX8_takeFriends_31 1 rfl 32 rfl ?_
    refine x_isub hh dX8_takeFriends_32 33 rfl ?_
    obtain ⟨q3, hq3, hf⟩ := b_some hf
    refine x_callV (rest := []) hh mi_X8_takeNumber [.int 0, .int ((q1.2.1 59 28) - 1)] dX8_takeFriends_33 sh_59 wd_945 (C_X8_takeNumber l hX  hq3) rfl rfl ⟨Nat.le_of_ble_eq_true rfl, Nat.le_of_ble_eq_true rfl⟩ (Nat.le_of_ble_eq_true rfl) 36 rfl [.int q3.1] rfl ?_
    refine x_sub (lv' := [(0, .ref (X.2.1 59)), (2, .int (q1.2.1 59 23))]) [2, 0] rfl ?_
    exact Z_X8_takeFriends_36 hX hh hr  (q1.2.1 59 23) q3.1 q3.2 hf
  · have hf := t_neg hc2 hf
    refine x_iload_n hh dX8_takeFriends_21 rfl 1 rfl 22 rfl ?_
    refine x_goto hh dX8_takeFriends_22 36 rfl ?_
    refine x_sub (lv' := [(0, .ref (X.2.1 59)), (2, .int (q1.2.1 59 23))]) [2, 0] rfl ?_
    exact Z_X8_takeFriends_36 hX hh hr  (q1.2.1 59 23) q1.1 q1.2 hf
def F_X8_takeFriends (st : St) : Option (Int32 × St) := F_X8_takeFriends_0  st
set_option maxRecDepth 100000 in
theorem C_X8_takeFriends (l : Launch) {X : Cx} (hX : Ok X) {st : St} {q : Int32 × St} (hf : F_X8_takeFriends st = some q) : Ct l X 3 yX8_takeFriends (.code yX8_takeFriends cX8_takeFriends 4 (some .int)) [.ref (X.2.1 59)] st (some (.int q.1)) q.2 := by
  refine Ct.of hX (by decide) (Nat.le_of_ble_eq_true rfl) ?_
  intro p e s m args below meth c hh hr
  exact Z_X8_takeFriends_0 hX hh hr st hf

def F_X8_takePerson_55 (k20 : Int32 → Int32 → Int32 → St → Option (Int32 × St)) (v1 : Int32) (v3 : Int32) (t0 : Int32) (st : St) : Option (Int32 × St) := k20 v1 t0 (v3 + 1) st
set_option maxRecDepth 100000 in
set_option maxHeartbeats 4000000 in
theorem Z_X8_takePerson_55 {l : Launch} {X : Cx} (hX : Ok X) {p : Program} {e : Env} {s : State} {m : MethodId} {args : Array Value} {below : List Frame} {meth : Method} {c : Code} {rr : Int32} {st' : St} (hh : Hy X p s m args meth c cX8_takePerson 4 RX8) (hr : meth.sig.returnType = some .int) {k20 : Int32 → Int32 → Int32 → St → Option (Int32 × St)} (hk20 : ∀ (v1 : Int32) (v2 : Int32) (v3 : Int32) (st : St), k20 v1 v2 v3 st = some (rr, st') → Z X p l e (rmk 3) s m args below meth c 4 (MQ below (Qf X (some (.int rr)) st') args s 0 0 (cA X)) 20 [(0, .ref (X.2.1 59)), (1, .int v1), (2, .int v2), (3, .int v3)] [] st) (v1 : Int32) (v3 : Int32) (t0 : Int32) (st : St) (hf : F_X8_takePerson_55 k20 v1 v3 t0 st = some (rr, st')) : Z X p l e (rmk 3) s m args below meth c 4 (MQ below (Qf X (some (.int rr)) st') args s 0 0 (cA X)) 55 [(0, .ref (X.2.1 59)), (1, .int v1), (3, .int v3)] [.int t0] st := by
  unfold F_X8_takePerson_55 at hf
  refine x_istore_n hh dX8_takePerson_55 rfl (by decide) [(2, .int t0), (0, .ref (X.2.1 59)), (1, .int v1), (3, .int v3)] rfl 56 rfl ?_
  refine x_iinc hh dX8_takePerson_56 3 rfl (v3 + 1) rfl (by decide) [(3, .int (v3 + 1)), (2, .int t0), (0, .ref (X.2.1 59)), (1, .int v1)] rfl 59 rfl ?_
  refine x_goto hh dX8_takePerson_59 20 rfl ?_
  refine x_sub (lv' := [(0, .ref (X.2.1 59)), (1, .int v1), (2, .int t0), (3, .int (v3 + 1))]) [2, 3, 1, 0] rfl ?_
  exact hk20 v1 t0 (v3 + 1) st hf
def F_X8_takePerson_125 (t0 : Int32) (st : St) : Option (Int32 × St) := bs (sV st 59 28 ((st.1 59 28) + 1)) (fun st13 => some (t0, st13))
set_option maxRecDepth 100000 in
set_option maxHeartbeats 4000000 in
theorem Z_X8_takePerson_125 {l : Launch} {X : Cx} (hX : Ok X) {p : Program} {e : Env} {s : State} {m : MethodId} {args : Array Value} {below : List Frame} {meth : Method} {c : Code} {rr : Int32} {st' : St} (hh : Hy X p s m args meth c cX8_takePerson 4 RX8) (hr : meth.sig.returnType = some .int) (t0 : Int32) (st : St) (hf : F_X8_takePerson_125 t0 st = some (rr, st')) : Z X p l e (rmk 3) s m args below meth c 4 (MQ below (Qf X (some (.int rr)) st') args s 0 0 (cA X)) 125 [(0, .ref (X.2.1 59))] [.int t0] st := by
  unfold F_X8_takePerson_125 at hf
  refine x_istore_n hh dX8_takePerson_125 rfl (by decide) [(2, .int t0), (0, .ref (X.2.1 59))] rfl 126 rfl ?_
  refine x_aload_n hh dX8_takePerson_126 rfl 1 rfl 127 rfl ?_
  refine x_dup hh dX8_takePerson_127 rfl 128 rfl ?_
  refine x_getI hh cl_8 dX8_takePerson_128 sh_59 28 rfl (Nat.le_of_ble_eq_true rfl) wd_828 131 rfl ?_
  refine x_iconst hh dX8_takePerson_131 1 rfl 132 rfl ?_
  refine x_iadd hh dX8_takePerson_132 133 rfl ?_
  obtain ⟨st13, est13, hf⟩ := bs_some hf
  refine x_putI hh cl_8 dX8_takePerson_133 sh_59 28 rfl (Nat.le_of_ble_eq_true rfl) wd_828 rfl rfl rfl 136 rfl st13 est13 ?_
  refine x_iload_n hh dX8_takePerson_136 rfl 0 rfl 137 rfl ?_
  obtain ⟨rfl, rfl⟩ := ret2 hf
  exact x_iret hh hr dX8_takePerson_137
def F_X8_takePerson_104 (v1 : Int32) (t0 : Int32) (st : St) : Option (Int32 × St) := if t0 ≤ 0 then (F_X8_into 78 v1 0 9 st).bind (fun q12 => F_X8_takePerson_125 q12.1 q12.2) else F_X8_takePerson_125 t0 st
set_option maxRecDepth 100000 in
set_option maxHeartbeats 4000000 in
theorem Z_X8_takePerson_104 {l : Launch} {X : Cx} (hX : Ok X) {p : Program} {e : Env} {s : State} {m : MethodId} {args : Array Value} {below : List Frame} {meth : Method} {c : Code} {rr : Int32} {st' : St} (hh : Hy X p s m args meth c cX8_takePerson 4 RX8) (hr : meth.sig.returnType = some .int) (v1 : Int32) (t0 : Int32) (st : St) (hf : F_X8_takePerson_104 v1 t0 st = some (rr, st')) : Z X p l e (rmk 3) s m args below meth c 4 (MQ below (Qf X (some (.int rr)) st') args s 0 0 (cA X)) 104 [(0, .ref (X.2.1 59)), (1, .int v1)] [.int t0] st := by
  unfold F_X8_takePerson_104 at hf
  refine x_istore_n hh dX8_takePerson_104 rfl (by decide) [(2, .int t0), (0, .ref (X.2.1 59)), (1, .int v1)] rfl 105 rfl ?_
  refine x_iload_n hh dX8_takePerson_105 rfl 0 rfl 106 rfl ?_
  refine x_if_le hh dX8_takePerson_106 113 rfl 109 rfl (fun hc11 => ?_) (fun hc11 => ?_)
  · have hf := t_pos hc11 hf
    refine x_aload_n hh dX8_takePerson_113 rfl 1 rfl 114 rfl ?_
    refine x_aload_n hh dX8_takePerson_114 rfl 1 rfl 115 rfl ?_
    refine x_getR hh cl_8 dX8_takePerson_115 sh_59 32 78 rfl (Nat.le_of_ble_eq_true rfl) wd_832 118 rfl ?_
    refine x_iload_n hh dX8_takePerson_118 rfl 2 rfl 119 rfl ?_
    refine x_iconst hh dX8_takePerson_119 0 rfl 120 rfl ?_
    refine x_bipush hh dX8_takePerson_120 9 rfl 122 rfl ?_
    obtain ⟨q12, hq12, hf⟩ := b_some hf
    refine x_callV (rest := []) hh mi_X8_into [.ref (X.2.1 78), .int v1, .int 0, .int 9] dX8_takePerson_122 sh_59 wd_953 (C_X8_into l hX sh_78 hq12) rfl rfl ⟨Nat.le_of_ble_eq_true rfl, Nat.le_of_ble_eq_true rfl⟩ (Nat.le_of_ble_eq_true rfl) 125 rfl [.int q12.1] rfl ?_
    refine x_sub (lv' := [(0, .ref (X.2.1 59))]) [1] rfl ?_
    exact Z_X8_takePerson_125 hX hh hr  q12.1 q12.2 hf
  · have hf := t_neg hc11 hf
    refine x_iload_n hh dX8_takePerson_109 rfl 0 rfl 110 rfl ?_
    refine x_goto hh dX8_takePerson_110 125 rfl ?_
    refine x_sub (lv' := [(0, .ref (X.2.1 59))]) [1] rfl ?_
    exact Z_X8_takePerson_125 hX hh hr  t0 st hf
def F_X8_takePerson_83 (v1 : Int32) (t0 : Int32) (st : St) : Option (Int32 × St) := if t0 ≤ 0 then (F_X8_into 77 v1 0 40 st).bind (fun q10 => F_X8_takePerson_104 v1 q10.1 q10.2) else F_X8_takePerson_104 v1 t0 st
set_option maxRecDepth 100000 in
set_option maxHeartbeats 4000000 in
theorem Z_X8_takePerson_83 {l : Launch} {X : Cx} (hX : Ok X) {p : Program} {e : Env} {s : State} {m : MethodId} {args : Array Value} {below : List Frame} {meth : Method} {c : Code} {rr : Int32} {st' : St} (hh : Hy X p s m args meth c cX8_takePerson 4 RX8) (hr : meth.sig.returnType = some .int) (v1 : Int32) (t0 : Int32) (st : St) (hf : F_X8_takePerson_83 v1 t0 st = some (rr, st')) : Z X p l e (rmk 3) s m args below meth c 4 (MQ below (Qf X (some (.int rr)) st') args s 0 0 (cA X)) 83 [(0, .ref (X.2.1 59)), (1, .int v1)] [.int t0] st := by
  unfold F_X8_takePerson_83 at hf
  refine x_istore_n hh dX8_takePerson_83 rfl (by decide) [(2, .int t0), (0, .ref (X.2.1 59)), (1, .int v1)] rfl 84 rfl ?_
  refine x_iload_n hh dX8_takePerson_84 rfl 0 rfl 85 rfl ?_
  refine x_if_le hh dX8_takePerson_85 92 rfl 88 rfl (fun hc9 => ?_) (fun hc9 => ?_)
  · have hf := t_pos hc9 hf
    refine x_aload_n hh dX8_takePerson_92 rfl 1 rfl 93 rfl ?_
    refine x_aload_n hh dX8_takePerson_93 rfl 1 rfl 94 rfl ?_
    refine x_getR hh cl_8 dX8_takePerson_94 sh_59 31 77 rfl (Nat.le_of_ble_eq_true rfl) wd_831 97 rfl ?_
    refine x_iload_n hh dX8_takePerson_97 rfl 2 rfl 98 rfl ?_
    refine x_iconst hh dX8_takePerson_98 0 rfl 99 rfl ?_
    refine x_bipush hh dX8_takePerson_99 40 rfl 101 rfl ?_
    obtain ⟨q10, hq10, hf⟩ := b_some hf
    refine x_callV (rest := []) hh mi_X8_into [.ref (X.2.1 77), .int v1, .int 0, .int 40] dX8_takePerson_101 sh_59 wd_953 (C_X8_into l hX sh_77 hq10) rfl rfl ⟨Nat.le_of_ble_eq_true rfl, Nat.le_of_ble_eq_true rfl⟩ (Nat.le_of_ble_eq_true rfl) 104 rfl [.int q10.1] rfl ?_
    refine x_sub (lv' := [(0, .ref (X.2.1 59)), (1, .int v1)]) [1, 2] rfl ?_
    exact Z_X8_takePerson_104 hX hh hr  v1 q10.1 q10.2 hf
  · have hf := t_neg hc9 hf
    refine x_iload_n hh dX8_takePerson_88 rfl 0 rfl 89 rfl ?_
    refine x_goto hh dX8_takePerson_89 104 rfl ?_
    refine x_sub (lv' := [(0, .ref (X.2.1 59)), (1, .int v1)]) [1, 2] rfl ?_
    exact Z_X8_takePerson_104 hX hh hr  v1 t0 st hf
def F_X8_takePerson_62 (v1 : Int32) (v2 : Int32) (st : St) : Option (Int32 × St) := if v2 ≤ 0 then (F_X8_into 76 v1 20 90 st).bind (fun q8 => F_X8_takePerson_83 v1 q8.1 q8.2) else F_X8_takePerson_83 v1 v2 st
set_option maxRecDepth 100000 in
set_option maxHeartbeats 4000000 in
theorem Z_X8_takePerson_62 {l : Launch} {X : Cx} (hX : Ok X) {p : Program} {e : Env} {s : State} {m : MethodId} {args : Array Value} {below : List Frame} {meth : Method} {c : Code} {rr : Int32} {st' : St} (hh : Hy X p s m args meth c cX8_takePerson 4 RX8) (hr : meth.sig.returnType = some .int) (v1 : Int32) (v2 : Int32) (st : St) (hf : F_X8_takePerson_62 v1 v2 st = some (rr, st')) : Z X p l e (rmk 3) s m args below meth c 4 (MQ below (Qf X (some (.int rr)) st') args s 0 0 (cA X)) 62 [(0, .ref (X.2.1 59)), (1, .int v1), (2, .int v2)] [] st := by
  unfold F_X8_takePerson_62 at hf
  refine x_iload_n hh dX8_takePerson_62 rfl 2 rfl 63 rfl ?_
  refine x_if_le hh dX8_takePerson_63 70 rfl 66 rfl (fun hc7 => ?_) (fun hc7 => ?_)
  · have hf := t_pos hc7 hf
    refine x_aload_n hh dX8_takePerson_70 rfl 0 rfl 71 rfl ?_
    refine x_aload_n hh dX8_takePerson_71 rfl 0 rfl 72 rfl ?_
    refine x_getR hh cl_8 dX8_takePerson_72 sh_59 30 76 rfl (Nat.le_of_ble_eq_true rfl) wd_830 75 rfl ?_
    refine x_iload_n hh dX8_takePerson_75 rfl 1 rfl 76 rfl ?_
    refine x_bipush hh dX8_takePerson_76 20 rfl 78 rfl ?_
    refine x_bipush hh dX8_takePerson_78 90 rfl 80 rfl ?_
    obtain ⟨q8, hq8, hf⟩ := b_some hf
    refine x_callV (rest := []) hh mi_X8_into [.ref (X.2.1 76), .int v1, .int 20, .int 90] dX8_takePerson_80 sh_59 wd_953 (C_X8_into l hX sh_76 hq8) rfl rfl ⟨Nat.le_of_ble_eq_true rfl, Nat.le_of_ble_eq_true rfl⟩ (Nat.le_of_ble_eq_true rfl) 83 rfl [.int q8.1] rfl ?_
    refine x_sub (lv' := [(0, .ref (X.2.1 59)), (1, .int v1)]) [0, 1] rfl ?_
    exact Z_X8_takePerson_83 hX hh hr  v1 q8.1 q8.2 hf
  · have hf := t_neg hc7 hf
    refine x_iload_n hh dX8_takePerson_66 rfl 2 rfl 67 rfl ?_
    refine x_goto hh dX8_takePerson_67 83 rfl ?_
    refine x_sub (lv' := [(0, .ref (X.2.1 59)), (1, .int v1)]) [0, 1] rfl ?_
    exact Z_X8_takePerson_83 hX hh hr  v1 v2 st hf
def F_X8_takePerson_20 : Nat → Int32 → Int32 → Int32 → St → Option (Int32 × St)
  | 0, _, _, _, _ => none
  | n + 1, v1, v2, v3, st => if v1 ≤ v3 then F_X8_takePerson_62 v1 v2 st else if v2 = 0 then gi v3 6 (if (st.1 75 v3.toNatClampNeg) = (st.1 59 23) then (F_X8_fails 4 (st.1 59 24) st).bind (fun q6 => F_X8_takePerson_55 (F_X8_takePerson_20 n) v1 v3 q6.1 q6.2) else F_X8_takePerson_55 (F_X8_takePerson_20 n) v1 v3 0 st) else F_X8_takePerson_62 v1 v2 st
set_option maxRecDepth 100000 in
set_option maxHeartbeats 4000000 in
theorem Z_X8_takePerson_20 {l : Launch} {X : Cx} (hX : Ok X) {p : Program} {e : Env} {s : State} {m : MethodId} {args : Array Value} {below : List Frame} {meth : Method} {c : Code} {rr : Int32} {st' : St} (hh : Hy X p s m args meth c cX8_takePerson 4 RX8) (hr : meth.sig.returnType = some .int) : ∀ (n : Nat) (v1 : Int32) (v2 : Int32) (v3 : Int32) (st : St), F_X8_takePerson_20 n v1 v2 v3 st = some (rr, st') → Z X p l e (rmk 3) s m args below meth c 4 (MQ below (Qf X (some (.int rr)) st') args s 0 0 (cA X)) 20 [(0, .ref (X.2.1 59)), (1, .int v1), (2, .int v2), (3, .int v3)] [] st := by
  intro n
  induction n with
  | zero =>
    intro v1 v2 v3 st hf
    cases hf
  | succ n ih =>
    intro v1 v2 v3 st hf
    rw [F_X8_takePerson_20] at hf
    refine x_iload_n hh dX8_takePerson_20 rfl 3 rfl 21 rfl ?_
    refine x_iload_n hh dX8_takePerson_21 rfl 1 rfl 22 rfl ?_
    refine x_icmp_ge hh dX8_takePerson_22 62 rfl 25 rfl (fun hc2 => ?_) (fun hc2 => ?_)
    · have hf := t_pos hc2 hf
      refine x_sub (lv' := [(0, .ref (X.2.1 59)), (1, .int v1), (2, .int v2)]) [0, 1, 2] rfl ?_
      exact Z_X8_takePerson_62 hX hh hr  v1 v2 st hf
    · have hf := t_neg hc2 hf
      refine x_iload_n hh dX8_takePerson_25 rfl 2 rfl 26 rfl ?_
      refine x_if_ne hh dX8_takePerson_26 62 rfl 29 rfl (fun hc3 => ?_) (fun hc3 => ?_)
      · have hf := t_neg hc3 hf
        refine x_sub (lv' := [(0, .ref (X.2.1 59)), (1, .int v1), (2, .int v2)]) [0, 1, 2] rfl ?_
        exact Z_X8_takePerson_62 hX hh hr  v1 v2 st hf
      · have hf := t_pos hc3 hf
        refine x_aload_n hh dX8_takePerson_29 rfl 0 rfl 30 rfl ?_
        refine x_getR hh cl_8 dX8_takePerson_30 sh_59 29 75 rfl (Nat.le_of_ble_eq_true rfl) wd_829 33 rfl ?_
        refine x_iload_n hh dX8_takePerson_33 rfl 3 rfl 34 rfl ?_
        obtain ⟨hi4, hf⟩ := gi_some hf
        refine x_iaload hh dX8_takePerson_34 sh_75 hi4 35 rfl ?_
        refine x_aload_n hh dX8_takePerson_35 rfl 0 rfl 36 rfl ?_
        refine x_getI hh cl_8 dX8_takePerson_36 sh_59 23 rfl (Nat.le_of_ble_eq_true rfl) wd_823 39 rfl ?_
        refine x_icmp_ne hh dX8_takePerson_39 54 rfl 42 rfl (fun hc5 => ?_) (fun hc5 => ?_)
        · have hf := t_neg hc5 hf
          refine x_iconst hh dX8_takePerson_54 0 rfl 55 rfl ?_
          refine x_sub (lv' := [(0, .ref (X.2.1 59)), (1, .int v1), (3, .int v3)]) [0, 1, 3] rfl ?_
          exact Z_X8_takePerson_55 hX hh hr ih  v1 v3 0 st hf
        · have hf := t_pos hc5 hf
          refine x_aload_n hh dX8_takePerson_42 rfl 0 rfl 43 rfl ?_
          refine x_iconst hh dX8_takePerson_43 4 rfl 44 rfl ?_
          refine x_aload_n hh dX8_takePerson_44 rfl 0 rfl 45 rfl ?_
          refine x_getI hh cl_8 dX8_takePerson_45 sh_59 24 rfl (Nat.le_of_ble_eq_true rfl) wd_824 48 rfl ?_
          obtain ⟨q6, hq6, hf⟩ := b_some hf
          refine x_callV (rest := []) hh mi_X8_fails [.int 4, .int (st.1 59 24)] dX8_takePerson_48 sh_59 wd_939 (C_X8_fails l hX  hq6) rfl rfl ⟨Nat.le_of_ble_eq_true rfl, Nat.le_of_ble_eq_true rfl⟩ (Nat.le_of_ble_eq_true rfl) 51 rfl [.int q6.1] rfl ?_
          refine x_goto hh dX8_takePerson_51 55 rfl ?_
          refine x_sub (lv' := [(0, .ref (X.2.1 59)), (1, .int v1), (3, .int v3)]) [0, 1, 3] rfl ?_
          exact Z_X8_takePerson_55 hX hh hr ih  v1 v3 q6.1 q6.2 hf
def F_X8_takePerson_0 (st : St) : Option (Int32 × St) := (F_X8_into 75 (st.1 59 28) 0 99 st).bind (fun q1 => F_X8_takePerson_20 fN (st.1 59 28) q1.1 0 q1.2)
set_option maxRecDepth 100000 in
set_option maxHeartbeats 4000000 in
theorem Z_X8_takePerson_0 {l : Launch} {X : Cx} (hX : Ok X) {p : Program} {e : Env} {s : State} {m : MethodId} {args : Array Value} {below : List Frame} {meth : Method} {c : Code} {rr : Int32} {st' : St} (hh : Hy X p s m args meth c cX8_takePerson 4 RX8) (hr : meth.sig.returnType = some .int) (st : St) (hf : F_X8_takePerson_0 st = some (rr, st')) : Z X p l e (rmk 3) s m args below meth c 4 (MQ below (Qf X (some (.int rr)) st') args s 0 0 (cA X)) 0 [(0, .ref (X.2.1 59))] [] st := by
  unfold F_X8_takePerson_0 at hf
  refine x_aload_n hh dX8_takePerson_0 rfl 0 rfl 1 rfl ?_
  refine x_getI hh cl_8 dX8_takePerson_1 sh_59 28 rfl (Nat.le_of_ble_eq_true rfl) wd_828 4 rfl ?_
  refine x_istore_n hh dX8_takePerson_4 rfl (by decide) [(1, .int (st.1 59 28)), (0, .ref (X.2.1 59))] rfl 5 rfl ?_
  refine x_aload_n hh dX8_takePerson_5 rfl 1 rfl 6 rfl ?_
  refine x_aload_n hh dX8_takePerson_6 rfl 1 rfl 7 rfl ?_
  refine x_getR hh cl_8 dX8_takePerson_7 sh_59 29 75 rfl (Nat.le_of_ble_eq_true rfl) wd_829 10 rfl ?_
  refine x_iload_n hh dX8_takePerson_10 rfl 0 rfl 11 rfl ?_
  refine x_iconst hh dX8_takePerson_11 0 rfl 12 rfl ?_
  refine x_bipush hh dX8_takePerson_12 99 rfl 14 rfl ?_
  obtain ⟨q1, hq1, hf⟩ := b_some hf
  refine x_callV (rest := []) hh mi_X8_into [.ref (X.2.1 75), .int (st.1 59 28), .int 0, .int 99] dX8_takePerson_14 sh_59 wd_953 (C_X8_into l hX sh_75 hq1) rfl rfl ⟨Nat.le_of_ble_eq_true rfl, Nat.le_of_ble_eq_true rfl⟩ (Nat.le_of_ble_eq_true rfl) 17 rfl [.int q1.1] rfl ?_
  refine x_istore_n hh dX8_takePerson_17 rfl (by decide) [(2, .int q1.1), (1, .int (st.1 59 28)), (0, .ref (X.2.1 59))] rfl 18 rfl ?_
  refine x_iconst hh dX8_takePerson_18 0 rfl 19 rfl ?_
  refine x_istore_n hh dX8_takePerson_19 rfl (by decide) [(3, .int 0), (2, .int q1.1), (1, .int (st.1 59 28)), (0, .ref (X.2.1 59))] rfl 20 rfl ?_
  refine x_sub (lv' := [(0, .ref (X.2.1 59)), (1, .int (st.1 59 28)), (2, .int q1.1), (3, .int 0)]) [3, 2, 1, 0] rfl ?_
  exact Z_X8_takePerson_20 hX hh hr fN (st.1 59 28) q1.1 0 q1.2 hf
def F_X8_takePerson (st : St) : Option (Int32 × St) := F_X8_takePerson_0  st
set_option maxRecDepth 100000 in
theorem C_X8_takePerson (l : Launch) {X : Cx} (hX : Ok X) {st : St} {q : Int32 × St} (hf : F_X8_takePerson st = some q) : Ct l X 3 yX8_takePerson (.code yX8_takePerson cX8_takePerson 4 (some .int)) [.ref (X.2.1 59)] st (some (.int q.1)) q.2 := by
  refine Ct.of hX (by decide) (Nat.le_of_ble_eq_true rfl) ?_
  intro p e s m args below meth c hh hr
  exact Z_X8_takePerson_0 hX hh hr st hf

def F_X8_takeRoom_122 (k24 : Int32 → Int32 → St → Option (Int32 × St)) (v1 : Int32) (v2 : Int32) (t0 : Int32) (t1 : Int32) (st : St) : Option (Int32 × St) := bs (sV st 59 20 (t1 + t0)) (fun st19 => k24 v1 v2 st19)
set_option maxRecDepth 100000 in
set_option maxHeartbeats 4000000 in
theorem Z_X8_takeRoom_122 {l : Launch} {X : Cx} (hX : Ok X) {p : Program} {e : Env} {s : State} {m : MethodId} {args : Array Value} {below : List Frame} {meth : Method} {c : Code} {rr : Int32} {st' : St} (hh : Hy X p s m args meth c cX8_takeRoom 4 RX8) (hr : meth.sig.returnType = some .int) {k24 : Int32 → Int32 → St → Option (Int32 × St)} (hk24 : ∀ (v1 : Int32) (v2 : Int32) (st : St), k24 v1 v2 st = some (rr, st') → Z X p l e (rmk 2) s m args below meth c 4 (MQ below (Qf X (some (.int rr)) st') args s 0 0 (cA X)) 24 [(0, .ref (X.2.1 59)), (1, .int v1), (2, .int v2)] [] st) (v1 : Int32) (v2 : Int32) (t0 : Int32) (t1 : Int32) (st : St) (hf : F_X8_takeRoom_122 k24 v1 v2 t0 t1 st = some (rr, st')) : Z X p l e (rmk 2) s m args below meth c 4 (MQ below (Qf X (some (.int rr)) st') args s 0 0 (cA X)) 122 [(0, .ref (X.2.1 59)), (1, .int v1), (2, .int v2)] [.int t0, .int t1, .ref (X.2.1 59)] st := by
  unfold F_X8_takeRoom_122 at hf
  refine x_iadd hh dX8_takeRoom_122 123 rfl ?_
  obtain ⟨st19, est19, hf⟩ := bs_some hf
  refine x_putI hh cl_8 dX8_takeRoom_123 sh_59 20 rfl (Nat.le_of_ble_eq_true rfl) wd_820 rfl rfl rfl 126 rfl st19 est19 ?_
  refine x_goto hh dX8_takeRoom_126 24 rfl ?_
  exact hk24 v1 v2 st19 hf
def F_X8_takeRoom_107 (k24 : Int32 → Int32 → St → Option (Int32 × St)) (v1 : Int32) (t0 : Int32) (st : St) : Option (Int32 × St) := if t0 = 0 then F_X8_takeRoom_122 k24 v1 t0 0 (st.1 59 20) st else F_X8_takeRoom_122 k24 v1 t0 1 (st.1 59 20) st
set_option maxRecDepth 100000 in
set_option maxHeartbeats 4000000 in
theorem Z_X8_takeRoom_107 {l : Launch} {X : Cx} (hX : Ok X) {p : Program} {e : Env} {s : State} {m : MethodId} {args : Array Value} {below : List Frame} {meth : Method} {c : Code} {rr : Int32} {st' : St} (hh : Hy X p s m args meth c cX8_takeRoom 4 RX8) (hr : meth.sig.returnType = some .int) {k24 : Int32 → Int32 → St → Option (Int32 × St)} (hk24 : ∀ (v1 : Int32) (v2 : Int32) (st : St), k24 v1 v2 st = some (rr, st') → Z X p l e (rmk 2) s m args below meth c 4 (MQ below (Qf X (some (.int rr)) st') args s 0 0 (cA X)) 24 [(0, .ref (X.2.1 59)), (1, .int v1), (2, .int v2)] [] st) (v1 : Int32) (t0 : Int32) (st : St) (hf : F_X8_takeRoom_107 k24 v1 t0 st = some (rr, st')) : Z X p l e (rmk 2) s m args below meth c 4 (MQ below (Qf X (some (.int rr)) st') args s 0 0 (cA X)) 107 [(0, .ref (X.2.1 59)), (1, .int v1)] [.int t0] st := by
  unfold F_X8_takeRoom_107 at hf
  refine x_istore_n hh dX8_takeRoom_107 rfl (by decide) [(2, .int t0), (0, .ref (X.2.1 59)), (1, .int v1)] rfl 108 rfl ?_
  refine x_aload_n hh dX8_takeRoom_108 rfl 1 rfl 109 rfl ?_
  refine x_dup hh dX8_takeRoom_109 rfl 110 rfl ?_
  refine x_getI hh cl_8 dX8_takeRoom_110 sh_59 20 rfl (Nat.le_of_ble_eq_true rfl) wd_820 113 rfl ?_
  refine x_iload_n hh dX8_takeRoom_113 rfl 0 rfl 114 rfl ?_
  refine x_if_eq hh dX8_takeRoom_114 121 rfl 117 rfl (fun hc18 => ?_) (fun hc18 => ?_)
  · have hf := t_pos hc18 hf
    refine x_iconst hh dX8_takeRoom_121 0 rfl 122 rfl ?_
    refine x_sub (lv' := [(0, .ref (X.2.1 59)), (1, .int v1), (2, .int t0)]) [1, 2, 0] rfl ?_
    exact Z_X8_takeRoom_122 hX hh hr hk24  v1 t0 0 (st.1 59 20) st hf
  · have hf := t_neg hc18 hf
    refine x_iconst hh dX8_takeRoom_117 1 rfl 118 rfl ?_
    refine x_goto hh dX8_takeRoom_118 122 rfl ?_
    refine x_sub (lv' := [(0, .ref (X.2.1 59)), (1, .int v1), (2, .int t0)]) [1, 2, 0] rfl ?_
    exact Z_X8_takeRoom_122 hX hh hr hk24  v1 t0 1 (st.1 59 20) st hf
def F_X8_takeRoom_24 : Nat → Int32 → Int32 → St → Option (Int32 × St)
  | 0, _, _, _ => none
  | n + 1, v1, v2, st => if v2 = 0 then some (0, st) else (F_X8_takeNumber 0 40 st).bind (fun q5 => if q5.1 ≤ 0 then gi v1 3 (if (q5.2.1 73 v1.toNatClampNeg) = 6 then (F_X8_fails 4 (q5.2.1 59 24) q5.2).bind (fun q17 => some (q17.1, q17.2)) else gi v1 3 (gi ((6 * v1) + (q5.2.1 73 v1.toNatClampNeg)) 18 (bs (sV q5.2 74 ((6 * v1) + (q5.2.1 73 v1.toNatClampNeg)).toNatClampNeg (q5.2.1 59 23)) (fun st11 => gi v1 3 (gi v1 3 (bs (sV st11 73 v1.toNatClampNeg ((st11.1 73 v1.toNatClampNeg) + 1)) (fun st14 => (F_X8_here st14).bind (fun q15 => if q15.1 = 44 then F_X8_takeRoom_107 (F_X8_takeRoom_24 n) v1 1 q15.2 else F_X8_takeRoom_107 (F_X8_takeRoom_24 n) v1 0 q15.2)))))))) else some (q5.1, q5.2))
set_option maxRecDepth 100000 in
set_option maxHeartbeats 4000000 in
theorem Z_X8_takeRoom_24 {l : Launch} {X : Cx} (hX : Ok X) {p : Program} {e : Env} {s : State} {m : MethodId} {args : Array Value} {below : List Frame} {meth : Method} {c : Code} {rr : Int32} {st' : St} (hh : Hy X p s m args meth c cX8_takeRoom 4 RX8) (hr : meth.sig.returnType = some .int) : ∀ (n : Nat) (v1 : Int32) (v2 : Int32) (st : St), F_X8_takeRoom_24 n v1 v2 st = some (rr, st') → Z X p l e (rmk 2) s m args below meth c 4 (MQ below (Qf X (some (.int rr)) st') args s 0 0 (cA X)) 24 [(0, .ref (X.2.1 59)), (1, .int v1), (2, .int v2)] [] st := by
  intro n
  induction n with
  | zero =>
    intro v1 v2 st hf
    cases hf
  | succ n ih =>
    intro v1 v2 st hf
    rw [F_X8_takeRoom_24] at hf
    refine x_iload_n hh dX8_takeRoom_24 rfl 2 rfl 25 rfl ?_
    refine x_if_eq hh dX8_takeRoom_25 129 rfl 28 rfl (fun hc4 => ?_) (fun hc4 => ?_)
    · have hf := t_pos hc4 hf
      refine x_iconst hh dX8_takeRoom_129 0 rfl 130 rfl ?_
      obtain ⟨rfl, rfl⟩ := ret2 hf
      exact x_iret hh hr dX8_takeRoom_130
    · have hf := t_neg hc4 hf
      refine x_aload_n hh dX8_takeRoom_28 rfl 0 rfl 29 rfl ?_
      refine x_iconst hh dX8_takeRoom_29 0 rfl 30 rfl ?_
      refine x_bipush hh dX8_takeRoom_30 40 rfl 32 rfl ?_
      obtain ⟨q5, hq5, hf⟩ := b_some hf
      refine x_callV (rest := []) hh mi_X8_takeNumber [.int 0, .int 40] dX8_takeRoom_32 sh_59 wd_945 (C_X8_takeNumber l hX  hq5) rfl rfl ⟨Nat.le_of_ble_eq_true rfl, Nat.le_of_ble_eq_true rfl⟩ (Nat.le_of_ble_eq_true rfl) 35 rfl [.int q5.1] rfl ?_
      refine x_istore_n hh dX8_takeRoom_35 rfl (by decide) [(3, .int q5.1), (0, .ref (X.2.1 59)), (1, .int v1), (2, .int v2)] rfl 36 rfl ?_
      refine x_iload_n hh dX8_takeRoom_36 rfl 0 rfl 37 rfl ?_
      refine x_if_le hh dX8_takeRoom_37 42 rfl 40 rfl (fun hc6 => ?_) (fun hc6 => ?_)
      · have hf := t_pos hc6 hf
        refine x_aload_n hh dX8_takeRoom_42 rfl 1 rfl 43 rfl ?_
        refine x_getR hh cl_8 dX8_takeRoom_43 sh_59 26 73 rfl (Nat.le_of_ble_eq_true rfl) wd_826 46 rfl ?_
        refine x_iload_n hh dX8_takeRoom_46 rfl 2 rfl 47 rfl ?_
        obtain ⟨hi7, hf⟩ := gi_some hf
        refine x_iaload hh dX8_takeRoom_47 sh_73 hi7 48 rfl ?_
        refine x_bipush hh dX8_takeRoom_48 6 rfl 50 rfl ?_
        refine x_icmp_ne hh dX8_takeRoom_50 63 rfl 53 rfl (fun hc8 => ?_) (fun hc8 => ?_)
        · have hf := t_neg hc8 hf
          refine x_aload_n hh dX8_takeRoom_63 rfl 1 rfl 64 rfl ?_
          refine x_getR hh cl_8 dX8_takeRoom_64 sh_59 27 74 rfl (Nat.le_of_ble_eq_true rfl) wd_827 67 rfl ?_
          refine x_bipush hh dX8_takeRoom_67 6 rfl 69 rfl ?_
          refine x_iload_n hh dX8_takeRoom_69 rfl 2 rfl 70 rfl ?_
          refine x_imul hh dX8_takeRoom_70 71 rfl ?_
          refine x_aload_n hh dX8_takeRoom_71 rfl 1 rfl 72 rfl ?_
          refine x_getR hh cl_8 dX8_takeRoom_72 sh_59 26 73 rfl (Nat.le_of_ble_eq_true rfl) wd_826 75 rfl ?_
          refine x_iload_n hh dX8_takeRoom_75 rfl 2 rfl 76 rfl ?_
          obtain ⟨hi9, hf⟩ := gi_some hf
          refine x_iaload hh dX8_takeRoom_76 sh_73 hi9 77 rfl ?_
          refine x_iadd hh dX8_takeRoom_77 78 rfl ?_
          refine x_aload_n hh dX8_takeRoom_78 rfl 1 rfl 79 rfl ?_
          refine x_getI hh cl_8 dX8_takeRoom_79 sh_59 23 rfl (Nat.le_of_ble_eq_true rfl) wd_823 82 rfl ?_
          obtain ⟨hi10, hf⟩ := gi_some hf
          obtain ⟨st11, est11, hf⟩ := bs_some hf
          refine x_iastore hh dX8_takeRoom_82 sh_74 hi10 83 rfl st11 est11 ?_
          refine x_aload_n hh dX8_takeRoom_83 rfl 1 rfl 84 rfl ?_
          refine x_getR hh cl_8 dX8_takeRoom_84 sh_59 26 73 rfl (Nat.le_of_ble_eq_true rfl) wd_826 87 rfl ?_
          refine x_iload_n hh dX8_takeRoom_87 rfl 2 rfl 88 rfl ?_
          refine x_dup2 hh dX8_takeRoom_88 rfl rfl 89 rfl ?_
          obtain ⟨hi12, hf⟩ := gi_some hf
          refine x_iaload hh dX8_takeRoom_89 sh_73 hi12 90 rfl ?_
          refine x_iconst hh dX8_takeRoom_90 1 rfl 91 rfl ?_
          refine x_iadd hh dX8_takeRoom_91 92 rfl ?_
          obtain ⟨hi13, hf⟩ := gi_some hf
          obtain ⟨st14, est14, hf⟩ := bs_some hf
          refine x_iastore hh dX8_takeRoom_92 sh_73 hi13 93 rfl st14 est14 ?_
          refine x_aload_n hh dX8_takeRoom_93 rfl 1 rfl 94 rfl ?_
          obtain ⟨q15, hq15, hf⟩ := b_some hf
          refine x_callV (rest := []) hh mi_X8_here [] dX8_takeRoom_94 sh_59 wd_917 (C_X8_here l hX  hq15) rfl rfl ⟨Nat.le_of_ble_eq_true rfl, Nat.le_of_ble_eq_true rfl⟩ (Nat.le_of_ble_eq_true rfl) 97 rfl [.int q15.1] rfl ?_
          refine x_bipush hh dX8_takeRoom_97 44 rfl 99 rfl ?_
          refine x_icmp_ne hh dX8_takeRoom_99 106 rfl 102 rfl (fun hc16 => ?_) (fun hc16 => ?_)
          · have hf := t_neg hc16 hf
            refine x_iconst hh dX8_takeRoom_106 0 rfl 107 rfl ?_
            refine x_sub (lv' := [(0, .ref (X.2.1 59)), (1, .int v1)]) [1, 2] rfl ?_
            exact Z_X8_takeRoom_107 hX hh hr ih  v1 0 q15.2 hf
          · have hf := t_pos hc16 hf
            refine x_iconst hh dX8_takeRoom_102 1 rfl 103 rfl ?_
            refine x_goto hh dX8_takeRoom_103 107 rfl ?_
            refine x_sub (lv' := [(0, .ref (X.2.1 59)), (1, .int v1)]) [1, 2] rfl ?_
            exact Z_X8_takeRoom_107 hX hh hr ih  v1 1 q15.2 hf
        · have hf := t_pos hc8 hf
          refine x_aload_n hh dX8_takeRoom_53 rfl 1 rfl 54 rfl ?_
          refine x_iconst hh dX8_takeRoom_54 4 rfl 55 rfl ?_
          refine x_aload_n hh dX8_takeRoom_55 rfl 1 rfl 56 rfl ?_
          refine x_getI hh cl_8 dX8_takeRoom_56 sh_59 24 rfl (Nat.le_of_ble_eq_true rfl) wd_824 59 rfl ?_
          obtain ⟨q17, hq17, hf⟩ := b_some hf
          refine x_callV (rest := []) hh mi_X8_fails [.int 4, .int (q5.2.1 59 24)] dX8_takeRoom_59 sh_59 wd_939 (C_X8_fails l hX  hq17) rfl rfl ⟨Nat.le_of_ble_eq_true rfl, Nat.le_of_ble_eq_true rfl⟩ (Nat.le_of_ble_eq_true rfl) 62 rfl [.int q17.1] rfl ?_
          obtain ⟨rfl, rfl⟩ := ret2 hf
          exact x_iret hh hr dX8_takeRoom_62
      · have hf := t_neg hc6 hf
        refine x_iload_n hh dX8_takeRoom_40 rfl 0 rfl 41 rfl ?_
        obtain ⟨rfl, rfl⟩ := ret2 hf
        exact x_iret hh hr dX8_takeRoom_41
def F_X8_takeRoom_0 (st : St) : Option (Int32 × St) := bs (sV st 59 25 ((st.1 59 25) + 1)) (fun st1 => gi (st.1 59 25) 3 (bs (sV st1 73 (st.1 59 25).toNatClampNeg 0) (fun st3 => F_X8_takeRoom_24 fN (st.1 59 25) 1 st3)))
set_option maxRecDepth 100000 in
set_option maxHeartbeats 4000000 in
theorem Z_X8_takeRoom_0 {l : Launch} {X : Cx} (hX : Ok X) {p : Program} {e : Env} {s : State} {m : MethodId} {args : Array Value} {below : List Frame} {meth : Method} {c : Code} {rr : Int32} {st' : St} (hh : Hy X p s m args meth c cX8_takeRoom 4 RX8) (hr : meth.sig.returnType = some .int) (st : St) (hf : F_X8_takeRoom_0 st = some (rr, st')) : Z X p l e (rmk 2) s m args below meth c 4 (MQ below (Qf X (some (.int rr)) st') args s 0 0 (cA X)) 0 [(0, .ref (X.2.1 59))] [] st := by
  unfold F_X8_takeRoom_0 at hf
  refine x_aload_n hh dX8_takeRoom_0 rfl 0 rfl 1 rfl ?_
  refine x_getI hh cl_8 dX8_takeRoom_1 sh_59 25 rfl (Nat.le_of_ble_eq_true rfl) wd_825 4 rfl ?_
  refine x_istore_n hh dX8_takeRoom_4 rfl (by decide) [(1, .int (st.1 59 25)), (0, .ref (X.2.1 59))] rfl 5 rfl ?_
  refine x_aload_n hh dX8_takeRoom_5 rfl 1 rfl 6 rfl ?_
  refine x_dup hh dX8_takeRoom_6 rfl 7 rfl ?_
  refine x_getI hh cl_8 dX8_takeRoom_7 sh_59 25 rfl (Nat.le_of_ble_eq_true rfl) wd_825 10 rfl ?_
  refine x_iconst hh dX8_takeRoom_10 1 rfl 11 rfl ?_
  refine x_iadd hh dX8_takeRoom_11 12 rfl ?_
  obtain ⟨st1, est1, hf⟩ := bs_some hf
  refine x_putI hh cl_8 dX8_takeRoom_12 sh_59 25 rfl (Nat.le_of_ble_eq_true rfl) wd_825 rfl rfl rfl 15 rfl st1 est1 ?_
  refine x_aload_n hh dX8_takeRoom_15 rfl 1 rfl 16 rfl ?_
  refine x_getR hh cl_8 dX8_takeRoom_16 sh_59 26 73 rfl (Nat.le_of_ble_eq_true rfl) wd_826 19 rfl ?_
  refine x_iload_n hh dX8_takeRoom_19 rfl 0 rfl 20 rfl ?_
  refine x_iconst hh dX8_takeRoom_20 0 rfl 21 rfl ?_
  obtain ⟨hi2, hf⟩ := gi_some hf
  obtain ⟨st3, est3, hf⟩ := bs_some hf
  refine x_iastore hh dX8_takeRoom_21 sh_73 hi2 22 rfl st3 est3 ?_
  refine x_iconst hh dX8_takeRoom_22 1 rfl 23 rfl ?_
  refine x_istore_n hh dX8_takeRoom_23 rfl (by decide) [(2, .int 1), (1, .int (st.1 59 25)), (0, .ref (X.2.1 59))] rfl 24 rfl ?_
  refine x_sub (lv' := [(0, .ref (X.2.1 59)), (1, .int (st.1 59 25)), (2, .int 1)]) [2, 1, 0] rfl ?_
  exact Z_X8_takeRoom_24 hX hh hr fN (st.1 59 25) 1 st3 hf
def F_X8_takeRoom (st : St) : Option (Int32 × St) := F_X8_takeRoom_0  st
set_option maxRecDepth 100000 in
theorem C_X8_takeRoom (l : Launch) {X : Cx} (hX : Ok X) {st : St} {q : Int32 × St} (hf : F_X8_takeRoom st = some q) : Ct l X 2 yX8_takeRoom (.code yX8_takeRoom cX8_takeRoom 4 (some .int)) [.ref (X.2.1 59)] st (some (.int q.1)) q.2 := by
  refine Ct.of hX (by decide) (Nat.le_of_ble_eq_true rfl) ?_
  intro p e s m args below meth c hh hr
  exact Z_X8_takeRoom_0 hX hh hr st hf

def F_X8_takeClause_156 (st : St) : Option (Int32 × St) := (F_X8_fails 3 (st.1 59 20) st).bind (fun q17 => some (q17.1, q17.2))
set_option maxRecDepth 100000 in
set_option maxHeartbeats 4000000 in
theorem Z_X8_takeClause_156 {l : Launch} {X : Cx} (hX : Ok X) {p : Program} {e : Env} {s : State} {m : MethodId} {args : Array Value} {below : List Frame} {meth : Method} {c : Code} {rr : Int32} {st' : St} (hh : Hy X p s m args meth c cX8_takeClause 3 RX8) (hr : meth.sig.returnType = some .int) (st : St) (hf : F_X8_takeClause_156 st = some (rr, st')) : Z X p l e (rmk 4) s m args below meth c 3 (MQ below (Qf X (some (.int rr)) st') args s 0 0 (cA X)) 156 [(0, .ref (X.2.1 59))] [] st := by
  unfold F_X8_takeClause_156 at hf
  refine x_aload_n hh dX8_takeClause_156 rfl 0 rfl 157 rfl ?_
  refine x_iconst hh dX8_takeClause_157 3 rfl 158 rfl ?_
  refine x_aload_n hh dX8_takeClause_158 rfl 0 rfl 159 rfl ?_
  refine x_getI hh cl_8 dX8_takeClause_159 sh_59 20 rfl (Nat.le_of_ble_eq_true rfl) wd_820 162 rfl ?_
  obtain ⟨q17, hq17, hf⟩ := b_some hf
  refine x_callV (rest := []) hh mi_X8_fails [.int 3, .int (st.1 59 20)] dX8_takeClause_162 sh_59 wd_939 (C_X8_fails l hX  hq17) rfl rfl ⟨Nat.le_of_ble_eq_true rfl, Nat.le_of_ble_eq_true rfl⟩ (Nat.le_of_ble_eq_true rfl) 165 rfl [.int q17.1] rfl ?_
  obtain ⟨rfl, rfl⟩ := ret2 hf
  exact x_iret hh hr dX8_takeClause_165
def F_X8_takeClause_225 (v2 : Int32) (st : St) : Option (Int32 × St) := bs (sV st 59 20 ((st.1 59 20) + 1)) (fun st28 => some (v2, st28))
set_option maxRecDepth 100000 in
set_option maxHeartbeats 4000000 in
theorem Z_X8_takeClause_225 {l : Launch} {X : Cx} (hX : Ok X) {p : Program} {e : Env} {s : State} {m : MethodId} {args : Array Value} {below : List Frame} {meth : Method} {c : Code} {rr : Int32} {st' : St} (hh : Hy X p s m args meth c cX8_takeClause 3 RX8) (hr : meth.sig.returnType = some .int) (v2 : Int32) (st : St) (hf : F_X8_takeClause_225 v2 st = some (rr, st')) : Z X p l e (rmk 4) s m args below meth c 3 (MQ below (Qf X (some (.int rr)) st') args s 0 0 (cA X)) 225 [(0, .ref (X.2.1 59)), (2, .int v2)] [] st := by
  unfold F_X8_takeClause_225 at hf
  refine x_aload_n hh dX8_takeClause_225 rfl 0 rfl 226 rfl ?_
  refine x_dup hh dX8_takeClause_226 rfl 227 rfl ?_
  refine x_getI hh cl_8 dX8_takeClause_227 sh_59 20 rfl (Nat.le_of_ble_eq_true rfl) wd_820 230 rfl ?_
  refine x_iconst hh dX8_takeClause_230 1 rfl 231 rfl ?_
  refine x_iadd hh dX8_takeClause_231 232 rfl ?_
  obtain ⟨st28, est28, hf⟩ := bs_some hf
  refine x_putI hh cl_8 dX8_takeClause_232 sh_59 20 rfl (Nat.le_of_ble_eq_true rfl) wd_820 rfl rfl rfl 235 rfl st28 est28 ?_
  refine x_iload_n hh dX8_takeClause_235 rfl 1 rfl 236 rfl ?_
  obtain ⟨rfl, rfl⟩ := ret2 hf
  exact x_iret hh hr dX8_takeClause_236
def F_X8_takeClause_201 (t0 : Int32) (st : St) : Option (Int32 × St) := if t0 = 0 then (F_X8_here st).bind (fun q25 => if q25.1 = 59 then F_X8_takeClause_225 t0 q25.2 else (F_X8_fails 1 (q25.2.1 59 20) q25.2).bind (fun q27 => some (q27.1, q27.2))) else F_X8_takeClause_225 t0 st
set_option maxRecDepth 100000 in
set_option maxHeartbeats 4000000 in
theorem Z_X8_takeClause_201 {l : Launch} {X : Cx} (hX : Ok X) {p : Program} {e : Env} {s : State} {m : MethodId} {args : Array Value} {below : List Frame} {meth : Method} {c : Code} {rr : Int32} {st' : St} (hh : Hy X p s m args meth c cX8_takeClause 3 RX8) (hr : meth.sig.returnType = some .int) (t0 : Int32) (st : St) (hf : F_X8_takeClause_201 t0 st = some (rr, st')) : Z X p l e (rmk 4) s m args below meth c 3 (MQ below (Qf X (some (.int rr)) st') args s 0 0 (cA X)) 201 [(0, .ref (X.2.1 59))] [.int t0] st := by
  unfold F_X8_takeClause_201 at hf
  refine x_istore_n hh dX8_takeClause_201 rfl (by decide) [(2, .int t0), (0, .ref (X.2.1 59))] rfl 202 rfl ?_
  refine x_iload_n hh dX8_takeClause_202 rfl 0 rfl 203 rfl ?_
  refine x_if_ne hh dX8_takeClause_203 225 rfl 206 rfl (fun hc24 => ?_) (fun hc24 => ?_)
  · have hf := t_neg hc24 hf
    refine x_sub (lv' := [(0, .ref (X.2.1 59)), (2, .int t0)]) [1, 0] rfl ?_
    exact Z_X8_takeClause_225 hX hh hr  t0 st hf
  · have hf := t_pos hc24 hf
    refine x_aload_n hh dX8_takeClause_206 rfl 1 rfl 207 rfl ?_
    obtain ⟨q25, hq25, hf⟩ := b_some hf
    refine x_callV (rest := []) hh mi_X8_here [] dX8_takeClause_207 sh_59 wd_917 (C_X8_here l hX  hq25) rfl rfl ⟨Nat.le_of_ble_eq_true rfl, Nat.le_of_ble_eq_true rfl⟩ (Nat.le_of_ble_eq_true rfl) 210 rfl [.int q25.1] rfl ?_
    refine x_bipush hh dX8_takeClause_210 59 rfl 212 rfl ?_
    refine x_icmp_eq hh dX8_takeClause_212 225 rfl 215 rfl (fun hc26 => ?_) (fun hc26 => ?_)
    · have hf := t_pos hc26 hf
      refine x_sub (lv' := [(0, .ref (X.2.1 59)), (2, .int t0)]) [1, 0] rfl ?_
      exact Z_X8_takeClause_225 hX hh hr  t0 q25.2 hf
    · have hf := t_neg hc26 hf
      refine x_aload_n hh dX8_takeClause_215 rfl 1 rfl 216 rfl ?_
      refine x_iconst hh dX8_takeClause_216 1 rfl 217 rfl ?_
      refine x_aload_n hh dX8_takeClause_217 rfl 1 rfl 218 rfl ?_
      refine x_getI hh cl_8 dX8_takeClause_218 sh_59 20 rfl (Nat.le_of_ble_eq_true rfl) wd_820 221 rfl ?_
      obtain ⟨q27, hq27, hf⟩ := b_some hf
      refine x_callV (rest := []) hh mi_X8_fails [.int 1, .int (q25.2.1 59 20)] dX8_takeClause_221 sh_59 wd_939 (C_X8_fails l hX  hq27) rfl rfl ⟨Nat.le_of_ble_eq_true rfl, Nat.le_of_ble_eq_true rfl⟩ (Nat.le_of_ble_eq_true rfl) 224 rfl [.int q27.1] rfl ?_
      obtain ⟨rfl, rfl⟩ := ret2 hf
      exact x_iret hh hr dX8_takeClause_224
def F_X8_takeClause_166 (v1 : Int32) (st : St) : Option (Int32 × St) := bs (sV st 59 20 (st.1 59 22)) (fun st18 => if v1 = 0 then (F_X8_takeRoom st18).bind (fun q23 => F_X8_takeClause_201 q23.1 q23.2) else if v1 = 1 then (F_X8_takePerson st18).bind (fun q22 => F_X8_takeClause_201 q22.1 q22.2) else (F_X8_takeFriends st18).bind (fun q21 => F_X8_takeClause_201 q21.1 q21.2))
set_option maxRecDepth 100000 in
set_option maxHeartbeats 4000000 in
theorem Z_X8_takeClause_166 {l : Launch} {X : Cx} (hX : Ok X) {p : Program} {e : Env} {s : State} {m : MethodId} {args : Array Value} {below : List Frame} {meth : Method} {c : Code} {rr : Int32} {st' : St} (hh : Hy X p s m args meth c cX8_takeClause 3 RX8) (hr : meth.sig.returnType = some .int) (v1 : Int32) (st : St) (hf : F_X8_takeClause_166 v1 st = some (rr, st')) : Z X p l e (rmk 4) s m args below meth c 3 (MQ below (Qf X (some (.int rr)) st') args s 0 0 (cA X)) 166 [(0, .ref (X.2.1 59)), (1, .int v1)] [] st := by
  unfold F_X8_takeClause_166 at hf
  refine x_aload_n hh dX8_takeClause_166 rfl 0 rfl 167 rfl ?_
  refine x_aload_n hh dX8_takeClause_167 rfl 0 rfl 168 rfl ?_
  refine x_getI hh cl_8 dX8_takeClause_168 sh_59 22 rfl (Nat.le_of_ble_eq_true rfl) wd_822 171 rfl ?_
  obtain ⟨st18, est18, hf⟩ := bs_some hf
  refine x_putI hh cl_8 dX8_takeClause_171 sh_59 20 rfl (Nat.le_of_ble_eq_true rfl) wd_820 rfl rfl rfl 174 rfl st18 est18 ?_
  refine x_iload_n hh dX8_takeClause_174 rfl 1 rfl 175 rfl ?_
  refine x_if_ne hh dX8_takeClause_175 185 rfl 178 rfl (fun hc19 => ?_) (fun hc19 => ?_)
  · have hf := t_neg hc19 hf
    refine x_iload_n hh dX8_takeClause_185 rfl 1 rfl 186 rfl ?_
    refine x_iconst hh dX8_takeClause_186 1 rfl 187 rfl ?_
    refine x_icmp_ne hh dX8_takeClause_187 197 rfl 190 rfl (fun hc20 => ?_) (fun hc20 => ?_)
    · have hf := t_neg hc20 hf
      refine x_aload_n hh dX8_takeClause_197 rfl 0 rfl 198 rfl ?_
      obtain ⟨q21, hq21, hf⟩ := b_some hf
      refine x_callV (rest := []) hh mi_X8_takeFriends [] dX8_takeClause_198 sh_59 wd_956 (C_X8_takeFriends l hX  hq21) rfl rfl ⟨Nat.le_of_ble_eq_true rfl, Nat.le_of_ble_eq_true rfl⟩ (Nat.le_of_ble_eq_true rfl) 201 rfl [.int q21.1] rfl ?_
      refine x_sub (lv' := [(0, .ref (X.2.1 59))]) [0] rfl ?_
      exact Z_X8_takeClause_201 hX hh hr  q21.1 q21.2 hf
    · have hf := t_pos hc20 hf
      refine x_aload_n hh dX8_takeClause_190 rfl 0 rfl 191 rfl ?_
      obtain ⟨q22, hq22, hf⟩ := b_some hf
      refine x_callV (rest := []) hh mi_X8_takePerson [] dX8_takeClause_191 sh_59 wd_950 (C_X8_takePerson l hX  hq22) rfl rfl ⟨Nat.le_of_ble_eq_true rfl, Nat.le_of_ble_eq_true rfl⟩ (Nat.le_of_ble_eq_true rfl) 194 rfl [.int q22.1] rfl ?_
      refine x_goto hh dX8_takeClause_194 201 rfl ?_
      refine x_sub (lv' := [(0, .ref (X.2.1 59))]) [0] rfl ?_
      exact Z_X8_takeClause_201 hX hh hr  q22.1 q22.2 hf
  · have hf := t_pos hc19 hf
    refine x_aload_n hh dX8_takeClause_178 rfl 0 rfl 179 rfl ?_
    obtain ⟨q23, hq23, hf⟩ := b_some hf
    refine x_callV (rest := []) hh mi_X8_takeRoom [] dX8_takeClause_179 sh_59 wd_942 (C_X8_takeRoom l hX  hq23) rfl rfl ⟨Nat.le_of_ble_eq_true rfl, Nat.le_of_ble_eq_true rfl⟩ (Nat.le_of_ble_eq_true rfl) 182 rfl [.int q23.1] rfl ?_
    refine x_goto hh dX8_takeClause_182 201 rfl ?_
    refine x_sub (lv' := [(0, .ref (X.2.1 59))]) [0] rfl ?_
    exact Z_X8_takeClause_201 hX hh hr  q23.1 q23.2 hf
def F_X8_takeClause_100 (t0 : Int32) (st : St) : Option (Int32 × St) := if (0 : Int32) ≤ t0 then if t0 = 0 then if (st.1 59 25) = 3 then F_X8_takeClause_156 st else F_X8_takeClause_166 t0 st else if t0 = 1 then if (st.1 59 28) = 6 then F_X8_takeClause_156 st else F_X8_takeClause_166 t0 st else if (st.1 59 33) = 15 then F_X8_takeClause_156 st else F_X8_takeClause_166 t0 st else (F_X8_fails 1 (st.1 59 20) st).bind (fun q16 => some (q16.1, q16.2))
set_option maxRecDepth 100000 in
set_option maxHeartbeats 4000000 in
theorem Z_X8_takeClause_100 {l : Launch} {X : Cx} (hX : Ok X) {p : Program} {e : Env} {s : State} {m : MethodId} {args : Array Value} {below : List Frame} {meth : Method} {c : Code} {rr : Int32} {st' : St} (hh : Hy X p s m args meth c cX8_takeClause 3 RX8) (hr : meth.sig.returnType = some .int) (t0 : Int32) (st : St) (hf : F_X8_takeClause_100 t0 st = some (rr, st')) : Z X p l e (rmk 4) s m args below meth c 3 (MQ below (Qf X (some (.int rr)) st') args s 0 0 (cA X)) 100 [(0, .ref (X.2.1 59))] [.int t0] st := by
  unfold F_X8_takeClause_100 at hf
  refine x_istore_n hh dX8_takeClause_100 rfl (by decide) [(1, .int t0), (0, .ref (X.2.1 59))] rfl 101 rfl ?_
  refine x_iload_n hh dX8_takeClause_101 rfl 0 rfl 102 rfl ?_
  refine x_if_ge hh dX8_takeClause_102 115 rfl 105 rfl (fun hc10 => ?_) (fun hc10 => ?_)
  · have hf := t_pos hc10 hf
    refine x_iload_n hh dX8_takeClause_115 rfl 0 rfl 116 rfl ?_
    refine x_if_ne hh dX8_takeClause_116 130 rfl 119 rfl (fun hc11 => ?_) (fun hc11 => ?_)
    · have hf := t_neg hc11 hf
      refine x_iload_n hh dX8_takeClause_130 rfl 0 rfl 131 rfl ?_
      refine x_iconst hh dX8_takeClause_131 1 rfl 132 rfl ?_
      refine x_icmp_ne hh dX8_takeClause_132 147 rfl 135 rfl (fun hc12 => ?_) (fun hc12 => ?_)
      · have hf := t_neg hc12 hf
        refine x_aload_n hh dX8_takeClause_147 rfl 1 rfl 148 rfl ?_
        refine x_getI hh cl_8 dX8_takeClause_148 sh_59 33 rfl (Nat.le_of_ble_eq_true rfl) wd_833 151 rfl ?_
        refine x_bipush hh dX8_takeClause_151 15 rfl 153 rfl ?_
        refine x_icmp_ne hh dX8_takeClause_153 166 rfl 156 rfl (fun hc13 => ?_) (fun hc13 => ?_)
        · have hf := t_neg hc13 hf
          refine x_sub (lv' := [(0, .ref (X.2.1 59)), (1, .int t0)]) [1, 0] rfl ?_
          exact Z_X8_takeClause_166 hX hh hr  t0 st hf
        · have hf := t_pos hc13 hf
          refine x_sub (lv' := [(0, .ref (X.2.1 59))]) [1] rfl ?_
          exact Z_X8_takeClause_156 hX hh hr  st hf
      · have hf := t_pos hc12 hf
        refine x_aload_n hh dX8_takeClause_135 rfl 1 rfl 136 rfl ?_
        refine x_getI hh cl_8 dX8_takeClause_136 sh_59 28 rfl (Nat.le_of_ble_eq_true rfl) wd_828 139 rfl ?_
        refine x_bipush hh dX8_takeClause_139 6 rfl 141 rfl ?_
        refine x_icmp_ne hh dX8_takeClause_141 166 rfl 144 rfl (fun hc14 => ?_) (fun hc14 => ?_)
        · have hf := t_neg hc14 hf
          refine x_sub (lv' := [(0, .ref (X.2.1 59)), (1, .int t0)]) [1, 0] rfl ?_
          exact Z_X8_takeClause_166 hX hh hr  t0 st hf
        · have hf := t_pos hc14 hf
          refine x_goto hh dX8_takeClause_144 156 rfl ?_
          refine x_sub (lv' := [(0, .ref (X.2.1 59))]) [1] rfl ?_
          exact Z_X8_takeClause_156 hX hh hr  st hf
    · have hf := t_pos hc11 hf
      refine x_aload_n hh dX8_takeClause_119 rfl 1 rfl 120 rfl ?_
      refine x_getI hh cl_8 dX8_takeClause_120 sh_59 25 rfl (Nat.le_of_ble_eq_true rfl) wd_825 123 rfl ?_
      refine x_iconst hh dX8_takeClause_123 3 rfl 124 rfl ?_
      refine x_icmp_ne hh dX8_takeClause_124 166 rfl 127 rfl (fun hc15 => ?_) (fun hc15 => ?_)
      · have hf := t_neg hc15 hf
        refine x_sub (lv' := [(0, .ref (X.2.1 59)), (1, .int t0)]) [1, 0] rfl ?_
        exact Z_X8_takeClause_166 hX hh hr  t0 st hf
      · have hf := t_pos hc15 hf
        refine x_goto hh dX8_takeClause_127 156 rfl ?_
        refine x_sub (lv' := [(0, .ref (X.2.1 59))]) [1] rfl ?_
        exact Z_X8_takeClause_156 hX hh hr  st hf
  · have hf := t_neg hc10 hf
    refine x_aload_n hh dX8_takeClause_105 rfl 1 rfl 106 rfl ?_
    refine x_iconst hh dX8_takeClause_106 1 rfl 107 rfl ?_
    refine x_aload_n hh dX8_takeClause_107 rfl 1 rfl 108 rfl ?_
    refine x_getI hh cl_8 dX8_takeClause_108 sh_59 20 rfl (Nat.le_of_ble_eq_true rfl) wd_820 111 rfl ?_
    obtain ⟨q16, hq16, hf⟩ := b_some hf
    refine x_callV (rest := []) hh mi_X8_fails [.int 1, .int (st.1 59 20)] dX8_takeClause_111 sh_59 wd_939 (C_X8_fails l hX  hq16) rfl rfl ⟨Nat.le_of_ble_eq_true rfl, Nat.le_of_ble_eq_true rfl⟩ (Nat.le_of_ble_eq_true rfl) 114 rfl [.int q16.1] rfl ?_
    obtain ⟨rfl, rfl⟩ := ret2 hf
    exact x_iret hh hr dX8_takeClause_114
def F_X8_takeClause_0 (st : St) : Option (Int32 × St) := (F_X8_readWord st).bind (fun q1 => (F_X8_code 114 111 111 109 q1).bind (fun q2 => if (lg_cmp (q1.2 59 21) q2.1) = 0 then F_X8_takeClause_100 0 q2.2 else (F_X8_code 112 101 114 115 q2.2).bind (fun q4 => (F_X8_longer q4.1 111 110 q4.2).bind (fun q5 => if (lg_cmp (q2.2.2 59 21) q5.1) = 0 then F_X8_takeClause_100 1 q5.2 else (F_X8_code 102 114 105 101 q5.2).bind (fun q7 => (F_X8_longer q7.1 110 100 q7.2).bind (fun q8 => if (lg_cmp (q5.2.2 59 21) (((27 * q8.1) + 115) - 96)) = 0 then F_X8_takeClause_100 2 q8.2 else F_X8_takeClause_100 ((-1)) q8.2))))))
set_option maxRecDepth 100000 in
set_option maxHeartbeats 4000000 in
theorem Z_X8_takeClause_0 {l : Launch} {X : Cx} (hX : Ok X) {p : Program} {e : Env} {s : State} {m : MethodId} {args : Array Value} {below : List Frame} {meth : Method} {c : Code} {rr : Int32} {st' : St} (hh : Hy X p s m args meth c cX8_takeClause 3 RX8) (hr : meth.sig.returnType = some .int) (st : St) (hf : F_X8_takeClause_0 st = some (rr, st')) : Z X p l e (rmk 4) s m args below meth c 3 (MQ below (Qf X (some (.int rr)) st') args s 0 0 (cA X)) 0 [(0, .ref (X.2.1 59))] [] st := by
  unfold F_X8_takeClause_0 at hf
  refine x_aload_n hh dX8_takeClause_0 rfl 0 rfl 1 rfl ?_
  obtain ⟨q1, hq1, hf⟩ := b_some hf
  refine x_callV (rest := []) hh mi_X8_readWord [] dX8_takeClause_1 sh_59 wd_923 (C_X8_readWord l hX  hq1) rfl rfl ⟨Nat.le_of_ble_eq_true rfl, Nat.le_of_ble_eq_true rfl⟩ (Nat.le_of_ble_eq_true rfl) 4 rfl [] rfl ?_
  refine x_aload_n hh dX8_takeClause_4 rfl 0 rfl 5 rfl ?_
  refine x_getJ hh cl_8 dX8_takeClause_5 sh_59 21 rfl (Nat.le_of_ble_eq_true rfl) wd_821 8 rfl ?_
  refine x_bipush hh dX8_takeClause_8 114 rfl 10 rfl ?_
  refine x_bipush hh dX8_takeClause_10 111 rfl 12 rfl ?_
  refine x_bipush hh dX8_takeClause_12 111 rfl 14 rfl ?_
  refine x_bipush hh dX8_takeClause_14 109 rfl 16 rfl ?_
  obtain ⟨q2, hq2, hf⟩ := b_some hf
  refine x_callS (rest := [.long (q1.2 59 21)]) hh ms_X8_code [.int 114, .int 111, .int 111, .int 109] dX8_takeClause_16 wd_932 (C_X8_code l hX  hq2) rfl rfl ⟨Nat.le_of_ble_eq_true rfl, Nat.le_of_ble_eq_true rfl⟩ (Nat.le_of_ble_eq_true rfl) 19 rfl [.long q2.1, .long (q1.2 59 21)] rfl ?_
  refine x_lcmp hh dX8_takeClause_19 20 rfl ?_
  refine x_if_ne hh dX8_takeClause_20 27 rfl 23 rfl (fun hc3 => ?_) (fun hc3 => ?_)
  · have hf := t_neg hc3 hf
    refine x_aload_n hh dX8_takeClause_27 rfl 0 rfl 28 rfl ?_
    refine x_getJ hh cl_8 dX8_takeClause_28 sh_59 21 rfl (Nat.le_of_ble_eq_true rfl) wd_821 31 rfl ?_
    refine x_bipush hh dX8_takeClause_31 112 rfl 33 rfl ?_
    refine x_bipush hh dX8_takeClause_33 101 rfl 35 rfl ?_
    refine x_bipush hh dX8_takeClause_35 114 rfl 37 rfl ?_
    refine x_bipush hh dX8_takeClause_37 115 rfl 39 rfl ?_
    obtain ⟨q4, hq4, hf⟩ := b_some hf
    refine x_callS (rest := [.long (q2.2.2 59 21)]) hh ms_X8_code [.int 112, .int 101, .int 114, .int 115] dX8_takeClause_39 wd_932 (C_X8_code l hX  hq4) rfl rfl ⟨Nat.le_of_ble_eq_true rfl, Nat.le_of_ble_eq_true rfl⟩ (Nat.le_of_ble_eq_true rfl) 42 rfl [.long q4.1, .long (q2.2.2 59 21)] rfl ?_
    refine x_bipush hh dX8_takeClause_42 111 rfl 44 rfl ?_
    refine x_bipush hh dX8_takeClause_44 110 rfl 46 rfl ?_
    obtain ⟨q5, hq5, hf⟩ := b_some hf
    refine x_callS (rest := [.long (q2.2.2 59 21)]) hh ms_X8_longer [.long q4.1, .int 111, .int 110] dX8_takeClause_46 wd_935 (C_X8_longer l hX  hq5) rfl rfl ⟨Nat.le_of_ble_eq_true rfl, Nat.le_of_ble_eq_true rfl⟩ (Nat.le_of_ble_eq_true rfl) 49 rfl [.long q5.1, .long (q2.2.2 59 21)] rfl ?_
    refine x_lcmp hh dX8_takeClause_49 50 rfl ?_
    refine x_if_ne hh dX8_takeClause_50 57 rfl 53 rfl (fun hc6 => ?_) (fun hc6 => ?_)
    · have hf := t_neg hc6 hf
      refine x_aload_n hh dX8_takeClause_57 rfl 0 rfl 58 rfl ?_
      refine x_getJ hh cl_8 dX8_takeClause_58 sh_59 21 rfl (Nat.le_of_ble_eq_true rfl) wd_821 61 rfl ?_
      refine x_ldc2_w hh dX8_takeClause_61 wd_930 64 rfl ?_
      refine x_bipush hh dX8_takeClause_64 102 rfl 66 rfl ?_
      refine x_bipush hh dX8_takeClause_66 114 rfl 68 rfl ?_
      refine x_bipush hh dX8_takeClause_68 105 rfl 70 rfl ?_
      refine x_bipush hh dX8_takeClause_70 101 rfl 72 rfl ?_
      obtain ⟨q7, hq7, hf⟩ := b_some hf
      refine x_callS (rest := [.long 27, .long (q5.2.2 59 21)]) hh ms_X8_code [.int 102, .int 114, .int 105, .int 101] dX8_takeClause_72 wd_932 (C_X8_code l hX  hq7) rfl rfl ⟨Nat.le_of_ble_eq_true rfl, Nat.le_of_ble_eq_true rfl⟩ (Nat.le_of_ble_eq_true rfl) 75 rfl [.long q7.1, .long 27, .long (q5.2.2 59 21)] rfl ?_
      refine x_bipush hh dX8_takeClause_75 110 rfl 77 rfl ?_
      refine x_bipush hh dX8_takeClause_77 100 rfl 79 rfl ?_
      obtain ⟨q8, hq8, hf⟩ := b_some hf
      refine x_callS (rest := [.long 27, .long (q5.2.2 59 21)]) hh ms_X8_longer [.long q7.1, .int 110, .int 100] dX8_takeClause_79 wd_935 (C_X8_longer l hX  hq8) rfl rfl ⟨Nat.le_of_ble_eq_true rfl, Nat.le_of_ble_eq_true rfl⟩ (Nat.le_of_ble_eq_true rfl) 82 rfl [.long q8.1, .long 27, .long (q5.2.2 59 21)] rfl ?_
      refine x_lmul hh dX8_takeClause_82 83 rfl ?_
      refine x_ldc2_w hh dX8_takeClause_83 wd_938 86 rfl ?_
      refine x_ladd hh dX8_takeClause_86 87 rfl ?_
      refine x_ldc2_w hh dX8_takeClause_87 wd_931 90 rfl ?_
      refine x_lsub hh dX8_takeClause_90 91 rfl ?_
      refine x_lcmp hh dX8_takeClause_91 92 rfl ?_
      refine x_if_ne hh dX8_takeClause_92 99 rfl 95 rfl (fun hc9 => ?_) (fun hc9 => ?_)
      · have hf := t_neg hc9 hf
        refine x_iconst hh dX8_takeClause_99 (-1) rfl 100 rfl ?_
        exact Z_X8_takeClause_100 hX hh hr  ((-1)) q8.2 hf
      · have hf := t_pos hc9 hf
        refine x_iconst hh dX8_takeClause_95 2 rfl 96 rfl ?_
        refine x_goto hh dX8_takeClause_96 100 rfl ?_
        exact Z_X8_takeClause_100 hX hh hr  2 q8.2 hf
    · have hf := t_pos hc6 hf
      refine x_iconst hh dX8_takeClause_53 1 rfl 54 rfl ?_
      refine x_goto hh dX8_takeClause_54 100 rfl ?_
      exact Z_X8_takeClause_100 hX hh hr  1 q5.2 hf
  · have hf := t_pos hc3 hf
    refine x_iconst hh dX8_takeClause_23 0 rfl 24 rfl ?_
    refine x_goto hh dX8_takeClause_24 100 rfl ?_
    exact Z_X8_takeClause_100 hX hh hr  0 q2.2 hf
def F_X8_takeClause (st : St) : Option (Int32 × St) := F_X8_takeClause_0  st
set_option maxRecDepth 100000 in
theorem C_X8_takeClause (l : Launch) {X : Cx} (hX : Ok X) {st : St} {q : Int32 × St} (hf : F_X8_takeClause st = some q) : Ct l X 4 yX8_takeClause (.code yX8_takeClause cX8_takeClause 3 (some .int)) [.ref (X.2.1 59)] st (some (.int q.1)) q.2 := by
  refine Ct.of hX (by decide) (Nat.le_of_ble_eq_true rfl) ?_
  intro p e s m args below meth c hh hr
  exact Z_X8_takeClause_0 hX hh hr st hf

def F_X8_house_220 : Nat → Int32 → St → Option (Int32 × St)
  | 0, _, _ => none
  | n + 1, v2, st => if (36 : Int32) ≤ v2 then bs (sV st 59 45 0) (fun st40 => gi 0 2 (bs (sV st40 93 (0 : Int32).toNatClampNeg (vp_nar .boolean 0)) (fun st42 => gi 1 2 (bs (sV st42 93 (1 : Int32).toNatClampNeg (vp_nar .boolean 0)) (fun st44 => (F_X8_begin st44).bind (fun q45 => some (q45.1 59 3, q45))))))) else gi v2 36 (gi v2 36 (bs (sV st 66 v2.toNatClampNeg (st.1 79 v2.toNatClampNeg)) (fun st48 => F_X8_house_220 n (v2 + 1) st48)))
set_option maxRecDepth 100000 in
set_option maxHeartbeats 4000000 in
theorem Z_X8_house_220 {l : Launch} {X : Cx} (hX : Ok X) {p : Program} {e : Env} {s : State} {m : MethodId} {args : Array Value} {below : List Frame} {meth : Method} {c : Code} {rr : Int32} {st' : St} (hh : Hy X p s m args meth c cX8_house 3 RX8) (hr : meth.sig.returnType = some .int) : ∀ (n : Nat) (v2 : Int32) (st : St), F_X8_house_220 n v2 st = some (rr, st') → Z X p l e (rmk 5) s m args below meth c 3 (MQ below (Qf X (some (.int rr)) st') args s 0 0 (cA X)) 220 [(0, .ref (X.2.1 59)), (2, .int v2)] [] st := by
  intro n
  induction n with
  | zero =>
    intro v2 st hf
    cases hf
  | succ n ih =>
    intro v2 st hf
    rw [F_X8_house_220] at hf
    refine x_iload_n hh dX8_house_220 rfl 1 rfl 221 rfl ?_
    refine x_bipush hh dX8_house_221 36 rfl 223 rfl ?_
    refine x_icmp_ge hh dX8_house_223 244 rfl 226 rfl (fun hc39 => ?_) (fun hc39 => ?_)
    · have hf := t_pos hc39 hf
      refine x_aload_n hh dX8_house_244 rfl 0 rfl 245 rfl ?_
      refine x_iconst hh dX8_house_245 0 rfl 246 rfl ?_
      obtain ⟨st40, est40, hf⟩ := bs_some hf
      refine x_putI hh cl_8 dX8_house_246 sh_59 45 rfl (Nat.le_of_ble_eq_true rfl) wd_845 rfl rfl rfl 249 rfl st40 est40 ?_
      refine x_aload_n hh dX8_house_249 rfl 0 rfl 250 rfl ?_
      refine x_getR hh cl_8 dX8_house_250 sh_59 50 93 rfl (Nat.le_of_ble_eq_true rfl) wd_850 253 rfl ?_
      refine x_iconst hh dX8_house_253 0 rfl 254 rfl ?_
      refine x_iconst hh dX8_house_254 0 rfl 255 rfl ?_
      obtain ⟨hi41, hf⟩ := gi_some hf
      obtain ⟨st42, est42, hf⟩ := bs_some hf
      refine x_zastore hh dX8_house_255 sh_93 hi41 256 rfl st42 est42 ?_
      refine x_aload_n hh dX8_house_256 rfl 0 rfl 257 rfl ?_
      refine x_getR hh cl_8 dX8_house_257 sh_59 50 93 rfl (Nat.le_of_ble_eq_true rfl) wd_850 260 rfl ?_
      refine x_iconst hh dX8_house_260 1 rfl 261 rfl ?_
      refine x_iconst hh dX8_house_261 0 rfl 262 rfl ?_
      obtain ⟨hi43, hf⟩ := gi_some hf
      obtain ⟨st44, est44, hf⟩ := bs_some hf
      refine x_zastore hh dX8_house_262 sh_93 hi43 263 rfl st44 est44 ?_
      refine x_aload_n hh dX8_house_263 rfl 0 rfl 264 rfl ?_
      obtain ⟨q45, hq45, hf⟩ := b_some hf
      refine x_callV (rest := []) hh mi_X8_begin [] dX8_house_264 sh_59 wd_797 (C_X8_begin l hX  hq45) rfl rfl ⟨Nat.le_of_ble_eq_true rfl, Nat.le_of_ble_eq_true rfl⟩ (Nat.le_of_ble_eq_true rfl) 267 rfl [] rfl ?_
      refine x_aload_n hh dX8_house_267 rfl 0 rfl 268 rfl ?_
      refine x_getI hh cl_8 dX8_house_268 sh_59 3 rfl (Nat.le_of_ble_eq_true rfl) wd_803 271 rfl ?_
      obtain ⟨rfl, rfl⟩ := ret2 hf
      exact x_iret hh hr dX8_house_271
    · have hf := t_neg hc39 hf
      refine x_aload_n hh dX8_house_226 rfl 0 rfl 227 rfl ?_
      refine x_getR hh cl_8 dX8_house_227 sh_59 9 66 rfl (Nat.le_of_ble_eq_true rfl) wd_809 230 rfl ?_
      refine x_iload_n hh dX8_house_230 rfl 1 rfl 231 rfl ?_
      refine x_aload_n hh dX8_house_231 rfl 0 rfl 232 rfl ?_
      refine x_getR hh cl_8 dX8_house_232 sh_59 34 79 rfl (Nat.le_of_ble_eq_true rfl) wd_834 235 rfl ?_
      refine x_iload_n hh dX8_house_235 rfl 1 rfl 236 rfl ?_
      obtain ⟨hi46, hf⟩ := gi_some hf
      refine x_iaload hh dX8_house_236 sh_79 hi46 237 rfl ?_
      obtain ⟨hi47, hf⟩ := gi_some hf
      obtain ⟨st48, est48, hf⟩ := bs_some hf
      refine x_iastore hh dX8_house_237 sh_66 hi47 238 rfl st48 est48 ?_
      refine x_iinc hh dX8_house_238 1 rfl (v2 + 1) rfl (by decide) [(2, .int (v2 + 1)), (0, .ref (X.2.1 59))] rfl 241 rfl ?_
      refine x_goto hh dX8_house_241 220 rfl ?_
      refine x_sub (lv' := [(0, .ref (X.2.1 59)), (2, .int (v2 + 1))]) [1, 0] rfl ?_
      exact ih (v2 + 1) st48 hf
def F_X8_house_158 : Nat → Int32 → St → Option (Int32 × St)
  | 0, _, _ => none
  | n + 1, v2, st => if (6 : Int32) ≤ v2 then F_X8_house_220 fN 0 st else gi v2 6 (gi v2 6 (bs (sV st 62 v2.toNatClampNeg (st.1 75 v2.toNatClampNeg)) (fun st29 => gi v2 6 (gi v2 6 (bs (sV st29 63 v2.toNatClampNeg (st29.1 76 v2.toNatClampNeg)) (fun st32 => gi v2 6 (gi v2 6 (bs (sV st32 64 v2.toNatClampNeg (st32.1 77 v2.toNatClampNeg)) (fun st35 => gi v2 6 (gi v2 6 (bs (sV st35 65 v2.toNatClampNeg (st35.1 78 v2.toNatClampNeg)) (fun st38 => F_X8_house_158 n (v2 + 1) st38))))))))))))
set_option maxRecDepth 100000 in
set_option maxHeartbeats 4000000 in
theorem Z_X8_house_158 {l : Launch} {X : Cx} (hX : Ok X) {p : Program} {e : Env} {s : State} {m : MethodId} {args : Array Value} {below : List Frame} {meth : Method} {c : Code} {rr : Int32} {st' : St} (hh : Hy X p s m args meth c cX8_house 3 RX8) (hr : meth.sig.returnType = some .int) : ∀ (n : Nat) (v2 : Int32) (st : St), F_X8_house_158 n v2 st = some (rr, st') → Z X p l e (rmk 5) s m args below meth c 3 (MQ below (Qf X (some (.int rr)) st') args s 0 0 (cA X)) 158 [(0, .ref (X.2.1 59)), (2, .int v2)] [] st := by
  intro n
  induction n with
  | zero =>
    intro v2 st hf
    cases hf
  | succ n ih =>
    intro v2 st hf
    rw [F_X8_house_158] at hf
    refine x_iload_n hh dX8_house_158 rfl 1 rfl 159 rfl ?_
    refine x_bipush hh dX8_house_159 6 rfl 161 rfl ?_
    refine x_icmp_ge hh dX8_house_161 218 rfl 164 rfl (fun hc26 => ?_) (fun hc26 => ?_)
    · have hf := t_pos hc26 hf
      refine x_iconst hh dX8_house_218 0 rfl 219 rfl ?_
      refine x_istore_n hh dX8_house_219 rfl (by decide) [(2, .int 0), (0, .ref (X.2.1 59))] rfl 220 rfl ?_
      refine x_sub (lv' := [(0, .ref (X.2.1 59)), (2, .int 0)]) [1, 0] rfl ?_
      exact Z_X8_house_220 hX hh hr fN 0 st hf
    · have hf := t_neg hc26 hf
      refine x_aload_n hh dX8_house_164 rfl 0 rfl 165 rfl ?_
      refine x_getR hh cl_8 dX8_house_165 sh_59 4 62 rfl (Nat.le_of_ble_eq_true rfl) wd_804 168 rfl ?_
      refine x_iload_n hh dX8_house_168 rfl 1 rfl 169 rfl ?_
      refine x_aload_n hh dX8_house_169 rfl 0 rfl 170 rfl ?_
      refine x_getR hh cl_8 dX8_house_170 sh_59 29 75 rfl (Nat.le_of_ble_eq_true rfl) wd_829 173 rfl ?_
      refine x_iload_n hh dX8_house_173 rfl 1 rfl 174 rfl ?_
      obtain ⟨hi27, hf⟩ := gi_some hf
      refine x_iaload hh dX8_house_174 sh_75 hi27 175 rfl ?_
      obtain ⟨hi28, hf⟩ := gi_some hf
      obtain ⟨st29, est29, hf⟩ := bs_some hf
      refine x_iastore hh dX8_house_175 sh_62 hi28 176 rfl st29 est29 ?_
      refine x_aload_n hh dX8_house_176 rfl 0 rfl 177 rfl ?_
      refine x_getR hh cl_8 dX8_house_177 sh_59 5 63 rfl (Nat.le_of_ble_eq_true rfl) wd_805 180 rfl ?_
      refine x_iload_n hh dX8_house_180 rfl 1 rfl 181 rfl ?_
      refine x_aload_n hh dX8_house_181 rfl 0 rfl 182 rfl ?_
      refine x_getR hh cl_8 dX8_house_182 sh_59 30 76 rfl (Nat.le_of_ble_eq_true rfl) wd_830 185 rfl ?_
      refine x_iload_n hh dX8_house_185 rfl 1 rfl 186 rfl ?_
      obtain ⟨hi30, hf⟩ := gi_some hf
      refine x_iaload hh dX8_house_186 sh_76 hi30 187 rfl ?_
      obtain ⟨hi31, hf⟩ := gi_some hf
      obtain ⟨st32, est32, hf⟩ := bs_some hf
      refine x_iastore hh dX8_house_187 sh_63 hi31 188 rfl st32 est32 ?_
      refine x_aload_n hh dX8_house_188 rfl 0 rfl 189 rfl ?_
      refine x_getR hh cl_8 dX8_house_189 sh_59 6 64 rfl (Nat.le_of_ble_eq_true rfl) wd_806 192 rfl ?_
      refine x_iload_n hh dX8_house_192 rfl 1 rfl 193 rfl ?_
      refine x_aload_n hh dX8_house_193 rfl 0 rfl 194 rfl ?_
      refine x_getR hh cl_8 dX8_house_194 sh_59 31 77 rfl (Nat.le_of_ble_eq_true rfl) wd_831 197 rfl ?_
      refine x_iload_n hh dX8_house_197 rfl 1 rfl 198 rfl ?_
      obtain ⟨hi33, hf⟩ := gi_some hf
      refine x_iaload hh dX8_house_198 sh_77 hi33 199 rfl ?_
      obtain ⟨hi34, hf⟩ := gi_some hf
      obtain ⟨st35, est35, hf⟩ := bs_some hf
      refine x_iastore hh dX8_house_199 sh_64 hi34 200 rfl st35 est35 ?_
      refine x_aload_n hh dX8_house_200 rfl 0 rfl 201 rfl ?_
      refine x_getR hh cl_8 dX8_house_201 sh_59 7 65 rfl (Nat.le_of_ble_eq_true rfl) wd_807 204 rfl ?_
      refine x_iload_n hh dX8_house_204 rfl 1 rfl 205 rfl ?_
      refine x_aload_n hh dX8_house_205 rfl 0 rfl 206 rfl ?_
      refine x_getR hh cl_8 dX8_house_206 sh_59 32 78 rfl (Nat.le_of_ble_eq_true rfl) wd_832 209 rfl ?_
      refine x_iload_n hh dX8_house_209 rfl 1 rfl 210 rfl ?_
      obtain ⟨hi36, hf⟩ := gi_some hf
      refine x_iaload hh dX8_house_210 sh_78 hi36 211 rfl ?_
      obtain ⟨hi37, hf⟩ := gi_some hf
      obtain ⟨st38, est38, hf⟩ := bs_some hf
      refine x_iastore hh dX8_house_211 sh_65 hi37 212 rfl st38 est38 ?_
      refine x_iinc hh dX8_house_212 1 rfl (v2 + 1) rfl (by decide) [(2, .int (v2 + 1)), (0, .ref (X.2.1 59))] rfl 215 rfl ?_
      refine x_goto hh dX8_house_215 158 rfl ?_
      refine x_sub (lv' := [(0, .ref (X.2.1 59)), (2, .int (v2 + 1))]) [1, 0] rfl ?_
      exact ih (v2 + 1) st38 hf
def F_X8_house_132 : Nat → Int32 → St → Option (Int32 × St)
  | 0, _, _ => none
  | n + 1, v2, st => if (18 : Int32) ≤ v2 then F_X8_house_158 fN 0 st else gi v2 18 (gi v2 18 (bs (sV st 61 v2.toNatClampNeg (st.1 74 v2.toNatClampNeg)) (fun st25 => F_X8_house_132 n (v2 + 1) st25)))
set_option maxRecDepth 100000 in
set_option maxHeartbeats 4000000 in
theorem Z_X8_house_132 {l : Launch} {X : Cx} (hX : Ok X) {p : Program} {e : Env} {s : State} {m : MethodId} {args : Array Value} {below : List Frame} {meth : Method} {c : Code} {rr : Int32} {st' : St} (hh : Hy X p s m args meth c cX8_house 3 RX8) (hr : meth.sig.returnType = some .int) : ∀ (n : Nat) (v2 : Int32) (st : St), F_X8_house_132 n v2 st = some (rr, st') → Z X p l e (rmk 5) s m args below meth c 3 (MQ below (Qf X (some (.int rr)) st') args s 0 0 (cA X)) 132 [(0, .ref (X.2.1 59)), (2, .int v2)] [] st := by
  intro n
  induction n with
  | zero =>
    intro v2 st hf
    cases hf
  | succ n ih =>
    intro v2 st hf
    rw [F_X8_house_132] at hf
    refine x_iload_n hh dX8_house_132 rfl 1 rfl 133 rfl ?_
    refine x_bipush hh dX8_house_133 18 rfl 135 rfl ?_
    refine x_icmp_ge hh dX8_house_135 156 rfl 138 rfl (fun hc22 => ?_) (fun hc22 => ?_)
    · have hf := t_pos hc22 hf
      refine x_iconst hh dX8_house_156 0 rfl 157 rfl ?_
      refine x_istore_n hh dX8_house_157 rfl (by decide) [(2, .int 0), (0, .ref (X.2.1 59))] rfl 158 rfl ?_
      refine x_sub (lv' := [(0, .ref (X.2.1 59)), (2, .int 0)]) [1, 0] rfl ?_
      exact Z_X8_house_158 hX hh hr fN 0 st hf
    · have hf := t_neg hc22 hf
      refine x_aload_n hh dX8_house_138 rfl 0 rfl 139 rfl ?_
      refine x_getR hh cl_8 dX8_house_139 sh_59 2 61 rfl (Nat.le_of_ble_eq_true rfl) wd_802 142 rfl ?_
      refine x_iload_n hh dX8_house_142 rfl 1 rfl 143 rfl ?_
      refine x_aload_n hh dX8_house_143 rfl 0 rfl 144 rfl ?_
      refine x_getR hh cl_8 dX8_house_144 sh_59 27 74 rfl (Nat.le_of_ble_eq_true rfl) wd_827 147 rfl ?_
      refine x_iload_n hh dX8_house_147 rfl 1 rfl 148 rfl ?_
      obtain ⟨hi23, hf⟩ := gi_some hf
      refine x_iaload hh dX8_house_148 sh_74 hi23 149 rfl ?_
      obtain ⟨hi24, hf⟩ := gi_some hf
      obtain ⟨st25, est25, hf⟩ := bs_some hf
      refine x_iastore hh dX8_house_149 sh_61 hi24 150 rfl st25 est25 ?_
      refine x_iinc hh dX8_house_150 1 rfl (v2 + 1) rfl (by decide) [(2, .int (v2 + 1)), (0, .ref (X.2.1 59))] rfl 153 rfl ?_
      refine x_goto hh dX8_house_153 132 rfl ?_
      refine x_sub (lv' := [(0, .ref (X.2.1 59)), (2, .int (v2 + 1))]) [1, 0] rfl ?_
      exact ih (v2 + 1) st25 hf
def F_X8_house_107 : Nat → Int32 → St → Option (Int32 × St)
  | 0, _, _ => none
  | n + 1, v2, st => if (3 : Int32) ≤ v2 then F_X8_house_132 fN 0 st else gi v2 3 (gi v2 3 (bs (sV st 60 v2.toNatClampNeg (st.1 73 v2.toNatClampNeg)) (fun st21 => F_X8_house_107 n (v2 + 1) st21)))
set_option maxRecDepth 100000 in
set_option maxHeartbeats 4000000 in
theorem Z_X8_house_107 {l : Launch} {X : Cx} (hX : Ok X) {p : Program} {e : Env} {s : State} {m : MethodId} {args : Array Value} {below : List Frame} {meth : Method} {c : Code} {rr : Int32} {st' : St} (hh : Hy X p s m args meth c cX8_house 3 RX8) (hr : meth.sig.returnType = some .int) : ∀ (n : Nat) (v2 : Int32) (st : St), F_X8_house_107 n v2 st = some (rr, st') → Z X p l e (rmk 5) s m args below meth c 3 (MQ below (Qf X (some (.int rr)) st') args s 0 0 (cA X)) 107 [(0, .ref (X.2.1 59)), (2, .int v2)] [] st := by
  intro n
  induction n with
  | zero =>
    intro v2 st hf
    cases hf
  | succ n ih =>
    intro v2 st hf
    rw [F_X8_house_107] at hf
    refine x_iload_n hh dX8_house_107 rfl 1 rfl 108 rfl ?_
    refine x_iconst hh dX8_house_108 3 rfl 109 rfl ?_
    refine x_icmp_ge hh dX8_house_109 130 rfl 112 rfl (fun hc18 => ?_) (fun hc18 => ?_)
    · have hf := t_pos hc18 hf
      refine x_iconst hh dX8_house_130 0 rfl 131 rfl ?_
      refine x_istore_n hh dX8_house_131 rfl (by decide) [(2, .int 0), (0, .ref (X.2.1 59))] rfl 132 rfl ?_
      refine x_sub (lv' := [(0, .ref (X.2.1 59)), (2, .int 0)]) [1, 0] rfl ?_
      exact Z_X8_house_132 hX hh hr fN 0 st hf
    · have hf := t_neg hc18 hf
      refine x_aload_n hh dX8_house_112 rfl 0 rfl 113 rfl ?_
      refine x_getR hh cl_8 dX8_house_113 sh_59 1 60 rfl (Nat.le_of_ble_eq_true rfl) wd_801 116 rfl ?_
      refine x_iload_n hh dX8_house_116 rfl 1 rfl 117 rfl ?_
      refine x_aload_n hh dX8_house_117 rfl 0 rfl 118 rfl ?_
      refine x_getR hh cl_8 dX8_house_118 sh_59 26 73 rfl (Nat.le_of_ble_eq_true rfl) wd_826 121 rfl ?_
      refine x_iload_n hh dX8_house_121 rfl 1 rfl 122 rfl ?_
      obtain ⟨hi19, hf⟩ := gi_some hf
      refine x_iaload hh dX8_house_122 sh_73 hi19 123 rfl ?_
      obtain ⟨hi20, hf⟩ := gi_some hf
      obtain ⟨st21, est21, hf⟩ := bs_some hf
      refine x_iastore hh dX8_house_123 sh_60 hi20 124 rfl st21 est21 ?_
      refine x_iinc hh dX8_house_124 1 rfl (v2 + 1) rfl (by decide) [(2, .int (v2 + 1)), (0, .ref (X.2.1 59))] rfl 127 rfl ?_
      refine x_goto hh dX8_house_127 107 rfl ?_
      refine x_sub (lv' := [(0, .ref (X.2.1 59)), (2, .int (v2 + 1))]) [1, 0] rfl ?_
      exact ih (v2 + 1) st21 hf
def F_X8_house_67 (v1 : Int32) (st : St) : Option (Int32 × St) := bs (sV st 59 18 0) (fun st13 => if v1 ≤ 0 then bs (sV st13 59 0 (st13.1 59 25)) (fun st15 => bs (sV st15 59 3 (st15.1 59 28)) (fun st16 => bs (sV st16 59 8 (st16.1 59 33)) (fun st17 => F_X8_house_107 fN 0 st17))) else some (((-10)) - v1, st13))
set_option maxRecDepth 100000 in
set_option maxHeartbeats 4000000 in
theorem Z_X8_house_67 {l : Launch} {X : Cx} (hX : Ok X) {p : Program} {e : Env} {s : State} {m : MethodId} {args : Array Value} {below : List Frame} {meth : Method} {c : Code} {rr : Int32} {st' : St} (hh : Hy X p s m args meth c cX8_house 3 RX8) (hr : meth.sig.returnType = some .int) (v1 : Int32) (st : St) (hf : F_X8_house_67 v1 st = some (rr, st')) : Z X p l e (rmk 5) s m args below meth c 3 (MQ below (Qf X (some (.int rr)) st') args s 0 0 (cA X)) 67 [(0, .ref (X.2.1 59)), (1, .int v1)] [] st := by
  unfold F_X8_house_67 at hf
  refine x_aload_n hh dX8_house_67 rfl 0 rfl 68 rfl ?_
  refine x_iconst hh dX8_house_68 0 rfl 69 rfl ?_
  obtain ⟨st13, est13, hf⟩ := bs_some hf
  refine x_putI hh cl_8 dX8_house_69 sh_59 18 rfl (Nat.le_of_ble_eq_true rfl) wd_818 rfl rfl rfl 72 rfl st13 est13 ?_
  refine x_iload_n hh dX8_house_72 rfl 1 rfl 73 rfl ?_
  refine x_if_le hh dX8_house_73 81 rfl 76 rfl (fun hc14 => ?_) (fun hc14 => ?_)
  · have hf := t_pos hc14 hf
    refine x_aload_n hh dX8_house_81 rfl 0 rfl 82 rfl ?_
    refine x_aload_n hh dX8_house_82 rfl 0 rfl 83 rfl ?_
    refine x_getI hh cl_8 dX8_house_83 sh_59 25 rfl (Nat.le_of_ble_eq_true rfl) wd_825 86 rfl ?_
    obtain ⟨st15, est15, hf⟩ := bs_some hf
    refine x_putI hh cl_8 dX8_house_86 sh_59 0 rfl (Nat.le_of_ble_eq_true rfl) wd_800 rfl rfl rfl 89 rfl st15 est15 ?_
    refine x_aload_n hh dX8_house_89 rfl 0 rfl 90 rfl ?_
    refine x_aload_n hh dX8_house_90 rfl 0 rfl 91 rfl ?_
    refine x_getI hh cl_8 dX8_house_91 sh_59 28 rfl (Nat.le_of_ble_eq_true rfl) wd_828 94 rfl ?_
    obtain ⟨st16, est16, hf⟩ := bs_some hf
    refine x_putI hh cl_8 dX8_house_94 sh_59 3 rfl (Nat.le_of_ble_eq_true rfl) wd_803 rfl rfl rfl 97 rfl st16 est16 ?_
    refine x_aload_n hh dX8_house_97 rfl 0 rfl 98 rfl ?_
    refine x_aload_n hh dX8_house_98 rfl 0 rfl 99 rfl ?_
    refine x_getI hh cl_8 dX8_house_99 sh_59 33 rfl (Nat.le_of_ble_eq_true rfl) wd_833 102 rfl ?_
    obtain ⟨st17, est17, hf⟩ := bs_some hf
    refine x_putI hh cl_8 dX8_house_102 sh_59 8 rfl (Nat.le_of_ble_eq_true rfl) wd_808 rfl rfl rfl 105 rfl st17 est17 ?_
    refine x_iconst hh dX8_house_105 0 rfl 106 rfl ?_
    refine x_istore_n hh dX8_house_106 rfl (by decide) [(2, .int 0), (0, .ref (X.2.1 59)), (1, .int v1)] rfl 107 rfl ?_
    refine x_sub (lv' := [(0, .ref (X.2.1 59)), (2, .int 0)]) [1, 0] rfl ?_
    exact Z_X8_house_107 hX hh hr fN 0 st17 hf
  · have hf := t_neg hc14 hf
    refine x_bipush hh dX8_house_76 (-10) rfl 78 rfl ?_
    refine x_iload_n hh dX8_house_78 rfl 1 rfl 79 rfl ?_
    refine x_isub hh dX8_house_79 80 rfl ?_
    obtain ⟨rfl, rfl⟩ := ret2 hf
    exact x_iret hh hr dX8_house_80
def F_X8_house_48 : Nat → Int32 → St → Option (Int32 × St)
  | 0, _, _ => none
  | n + 1, v1, st => if v1 = 0 then (F_X8_here st).bind (fun q10 => if q10.1 < 0 then F_X8_house_67 v1 q10.2 else (F_X8_takeClause q10.2).bind (fun q12 => F_X8_house_48 n q12.1 q12.2)) else F_X8_house_67 v1 st
set_option maxRecDepth 100000 in
set_option maxHeartbeats 4000000 in
theorem Z_X8_house_48 {l : Launch} {X : Cx} (hX : Ok X) {p : Program} {e : Env} {s : State} {m : MethodId} {args : Array Value} {below : List Frame} {meth : Method} {c : Code} {rr : Int32} {st' : St} (hh : Hy X p s m args meth c cX8_house 3 RX8) (hr : meth.sig.returnType = some .int) : ∀ (n : Nat) (v1 : Int32) (st : St), F_X8_house_48 n v1 st = some (rr, st') → Z X p l e (rmk 5) s m args below meth c 3 (MQ below (Qf X (some (.int rr)) st') args s 0 0 (cA X)) 48 [(0, .ref (X.2.1 59)), (1, .int v1)] [] st := by
  intro n
  induction n with
  | zero =>
    intro v1 st hf
    cases hf
  | succ n ih =>
    intro v1 st hf
    rw [F_X8_house_48] at hf
    refine x_iload_n hh dX8_house_48 rfl 1 rfl 49 rfl ?_
    refine x_if_ne hh dX8_house_49 67 rfl 52 rfl (fun hc9 => ?_) (fun hc9 => ?_)
    · have hf := t_neg hc9 hf
      exact Z_X8_house_67 hX hh hr  v1 st hf
    · have hf := t_pos hc9 hf
      refine x_aload_n hh dX8_house_52 rfl 0 rfl 53 rfl ?_
      obtain ⟨q10, hq10, hf⟩ := b_some hf
      refine x_callV (rest := []) hh mi_X8_here [] dX8_house_53 sh_59 wd_917 (C_X8_here l hX  hq10) rfl rfl ⟨Nat.le_of_ble_eq_true rfl, Nat.le_of_ble_eq_true rfl⟩ (Nat.le_of_ble_eq_true rfl) 56 rfl [.int q10.1] rfl ?_
      refine x_if_lt hh dX8_house_56 67 rfl 59 rfl (fun hc11 => ?_) (fun hc11 => ?_)
      · have hf := t_pos hc11 hf
        exact Z_X8_house_67 hX hh hr  v1 q10.2 hf
      · have hf := t_neg hc11 hf
        refine x_aload_n hh dX8_house_59 rfl 0 rfl 60 rfl ?_
        obtain ⟨q12, hq12, hf⟩ := b_some hf
        refine x_callV (rest := []) hh mi_X8_takeClause [] dX8_house_60 sh_59 wd_920 (C_X8_takeClause l hX  hq12) rfl rfl ⟨Nat.le_of_ble_eq_true rfl, Nat.le_of_ble_eq_true rfl⟩ (Nat.le_of_ble_eq_true rfl) 63 rfl [.int q12.1] rfl ?_
        refine x_istore_n hh dX8_house_63 rfl (by decide) [(1, .int q12.1), (0, .ref (X.2.1 59))] rfl 64 rfl ?_
        refine x_goto hh dX8_house_64 48 rfl ?_
        refine x_sub (lv' := [(0, .ref (X.2.1 59)), (1, .int q12.1)]) [1, 0] rfl ?_
        exact ih q12.1 q12.2 hf
def F_X8_house_27 : Nat → Int32 → St → Option (Int32 × St)
  | 0, _, _ => none
  | n + 1, v1, st => if (36 : Int32) ≤ v1 then F_X8_house_48 fN 0 st else gi v1 36 (bs (sV st 79 v1.toNatClampNeg 0) (fun st8 => F_X8_house_27 n (v1 + 1) st8))
set_option maxRecDepth 100000 in
set_option maxHeartbeats 4000000 in
theorem Z_X8_house_27 {l : Launch} {X : Cx} (hX : Ok X) {p : Program} {e : Env} {s : State} {m : MethodId} {args : Array Value} {below : List Frame} {meth : Method} {c : Code} {rr : Int32} {st' : St} (hh : Hy X p s m args meth c cX8_house 3 RX8) (hr : meth.sig.returnType = some .int) : ∀ (n : Nat) (v1 : Int32) (st : St), F_X8_house_27 n v1 st = some (rr, st') → Z X p l e (rmk 5) s m args below meth c 3 (MQ below (Qf X (some (.int rr)) st') args s 0 0 (cA X)) 27 [(0, .ref (X.2.1 59)), (1, .int v1)] [] st := by
  intro n
  induction n with
  | zero =>
    intro v1 st hf
    cases hf
  | succ n ih =>
    intro v1 st hf
    rw [F_X8_house_27] at hf
    refine x_iload_n hh dX8_house_27 rfl 1 rfl 28 rfl ?_
    refine x_bipush hh dX8_house_28 36 rfl 30 rfl ?_
    refine x_icmp_ge hh dX8_house_30 46 rfl 33 rfl (fun hc6 => ?_) (fun hc6 => ?_)
    · have hf := t_pos hc6 hf
      refine x_iconst hh dX8_house_46 0 rfl 47 rfl ?_
      refine x_istore_n hh dX8_house_47 rfl (by decide) [(1, .int 0), (0, .ref (X.2.1 59))] rfl 48 rfl ?_
      refine x_sub (lv' := [(0, .ref (X.2.1 59)), (1, .int 0)]) [1, 0] rfl ?_
      exact Z_X8_house_48 hX hh hr fN 0 st hf
    · have hf := t_neg hc6 hf
      refine x_aload_n hh dX8_house_33 rfl 0 rfl 34 rfl ?_
      refine x_getR hh cl_8 dX8_house_34 sh_59 34 79 rfl (Nat.le_of_ble_eq_true rfl) wd_834 37 rfl ?_
      refine x_iload_n hh dX8_house_37 rfl 1 rfl 38 rfl ?_
      refine x_iconst hh dX8_house_38 0 rfl 39 rfl ?_
      obtain ⟨hi7, hf⟩ := gi_some hf
      obtain ⟨st8, est8, hf⟩ := bs_some hf
      refine x_iastore hh dX8_house_39 sh_79 hi7 40 rfl st8 est8 ?_
      refine x_iinc hh dX8_house_40 1 rfl (v1 + 1) rfl (by decide) [(1, .int (v1 + 1)), (0, .ref (X.2.1 59))] rfl 43 rfl ?_
      refine x_goto hh dX8_house_43 27 rfl ?_
      refine x_sub (lv' := [(0, .ref (X.2.1 59)), (1, .int (v1 + 1))]) [1, 0] rfl ?_
      exact ih (v1 + 1) st8 hf
def F_X8_house_0 (st : St) : Option (Int32 × St) := bs (sV st 59 19 ((-1))) (fun st1 => bs (sV st1 59 20 0) (fun st2 => bs (sV st2 59 25 0) (fun st3 => bs (sV st3 59 28 0) (fun st4 => bs (sV st4 59 33 0) (fun st5 => F_X8_house_27 fN 0 st5)))))
set_option maxRecDepth 100000 in
set_option maxHeartbeats 4000000 in
theorem Z_X8_house_0 {l : Launch} {X : Cx} (hX : Ok X) {p : Program} {e : Env} {s : State} {m : MethodId} {args : Array Value} {below : List Frame} {meth : Method} {c : Code} {rr : Int32} {st' : St} (hh : Hy X p s m args meth c cX8_house 3 RX8) (hr : meth.sig.returnType = some .int) (st : St) (hf : F_X8_house_0 st = some (rr, st')) : Z X p l e (rmk 5) s m args below meth c 3 (MQ below (Qf X (some (.int rr)) st') args s 0 0 (cA X)) 0 [(0, .ref (X.2.1 59))] [] st := by
  unfold F_X8_house_0 at hf
  refine x_aload_n hh dX8_house_0 rfl 0 rfl 1 rfl ?_
  refine x_iconst hh dX8_house_1 (-1) rfl 2 rfl ?_
  obtain ⟨st1, est1, hf⟩ := bs_some hf
  refine x_putI hh cl_8 dX8_house_2 sh_59 19 rfl (Nat.le_of_ble_eq_true rfl) wd_819 rfl rfl rfl 5 rfl st1 est1 ?_
  refine x_aload_n hh dX8_house_5 rfl 0 rfl 6 rfl ?_
  refine x_iconst hh dX8_house_6 0 rfl 7 rfl ?_
  obtain ⟨st2, est2, hf⟩ := bs_some hf
  refine x_putI hh cl_8 dX8_house_7 sh_59 20 rfl (Nat.le_of_ble_eq_true rfl) wd_820 rfl rfl rfl 10 rfl st2 est2 ?_
  refine x_aload_n hh dX8_house_10 rfl 0 rfl 11 rfl ?_
  refine x_iconst hh dX8_house_11 0 rfl 12 rfl ?_
  obtain ⟨st3, est3, hf⟩ := bs_some hf
  refine x_putI hh cl_8 dX8_house_12 sh_59 25 rfl (Nat.le_of_ble_eq_true rfl) wd_825 rfl rfl rfl 15 rfl st3 est3 ?_
  refine x_aload_n hh dX8_house_15 rfl 0 rfl 16 rfl ?_
  refine x_iconst hh dX8_house_16 0 rfl 17 rfl ?_
  obtain ⟨st4, est4, hf⟩ := bs_some hf
  refine x_putI hh cl_8 dX8_house_17 sh_59 28 rfl (Nat.le_of_ble_eq_true rfl) wd_828 rfl rfl rfl 20 rfl st4 est4 ?_
  refine x_aload_n hh dX8_house_20 rfl 0 rfl 21 rfl ?_
  refine x_iconst hh dX8_house_21 0 rfl 22 rfl ?_
  obtain ⟨st5, est5, hf⟩ := bs_some hf
  refine x_putI hh cl_8 dX8_house_22 sh_59 33 rfl (Nat.le_of_ble_eq_true rfl) wd_833 rfl rfl rfl 25 rfl st5 est5 ?_
  refine x_iconst hh dX8_house_25 0 rfl 26 rfl ?_
  refine x_istore_n hh dX8_house_26 rfl (by decide) [(1, .int 0), (0, .ref (X.2.1 59))] rfl 27 rfl ?_
  refine x_sub (lv' := [(0, .ref (X.2.1 59)), (1, .int 0)]) [1, 0] rfl ?_
  exact Z_X8_house_27 hX hh hr fN 0 st5 hf
def F_X8_house (st : St) : Option (Int32 × St) := F_X8_house_0  st
set_option maxRecDepth 100000 in
theorem C_X8_house (l : Launch) {X : Cx} (hX : Ok X) {st : St} {q : Int32 × St} (hf : F_X8_house st = some q) : Ct l X 5 yX8_house (.code yX8_house cX8_house 3 (some .int)) [.ref (X.2.1 59)] st (some (.int q.1)) q.2 := by
  refine Ct.of hX (by decide) (Nat.le_of_ble_eq_true rfl) ?_
  intro p e s m args below meth c hh hr
  exact Z_X8_house_0 hX hh hr st hf

def F_X8_fault_0 (st : St) : Option (Int32 × St) := some (st.1 59 19, st)
set_option maxRecDepth 100000 in
set_option maxHeartbeats 4000000 in
theorem Z_X8_fault_0 {l : Launch} {X : Cx} (hX : Ok X) {p : Program} {e : Env} {s : State} {m : MethodId} {args : Array Value} {below : List Frame} {meth : Method} {c : Code} {rr : Int32} {st' : St} (hh : Hy X p s m args meth c cX8_fault 1 RX8) (hr : meth.sig.returnType = some .int) (st : St) (hf : F_X8_fault_0 st = some (rr, st')) : Z X p l e (rmk 0) s m args below meth c 1 (MQ below (Qf X (some (.int rr)) st') args s 0 0 (cA X)) 0 [(0, .ref (X.2.1 59))] [] st := by
  unfold F_X8_fault_0 at hf
  refine x_aload_n hh dX8_fault_0 rfl 0 rfl 1 rfl ?_
  refine x_getI hh cl_8 dX8_fault_1 sh_59 19 rfl (Nat.le_of_ble_eq_true rfl) wd_819 4 rfl ?_
  obtain ⟨rfl, rfl⟩ := ret2 hf
  exact x_iret hh hr dX8_fault_4
def F_X8_fault (st : St) : Option (Int32 × St) := F_X8_fault_0  st
set_option maxRecDepth 100000 in
theorem C_X8_fault (l : Launch) {X : Cx} (hX : Ok X) {st : St} {q : Int32 × St} (hf : F_X8_fault st = some q) : Ct l X 0 yX8_fault (.code yX8_fault cX8_fault 1 (some .int)) [.ref (X.2.1 59)] st (some (.int q.1)) q.2 := by
  refine Ct.of hX (by decide) (Nat.le_of_ble_eq_true rfl) ?_
  intro p e s m args below meth c hh hr
  exact Z_X8_fault_0 hX hh hr st hf

def F_X8_somewhere_29 (k4 : Int32 → Int32 → St → Option (Int32 × St)) (v2 : Int32) (t0 : Int32) (t1 : Int32) (st : St) : Option (Int32 × St) := k4 (t1 ||| t0) (v2 + 1) st
set_option maxRecDepth 100000 in
set_option maxHeartbeats 4000000 in
theorem Z_X8_somewhere_29 {l : Launch} {X : Cx} (hX : Ok X) {p : Program} {e : Env} {s : State} {m : MethodId} {args : Array Value} {below : List Frame} {meth : Method} {c : Code} {rr : Int32} {st' : St} (hh : Hy X p s m args meth c cX8_somewhere 3 RX8) (hr : meth.sig.returnType = some .int) {k4 : Int32 → Int32 → St → Option (Int32 × St)} (hk4 : ∀ (v1 : Int32) (v2 : Int32) (st : St), k4 v1 v2 st = some (rr, st') → Z X p l e (rmk 0) s m args below meth c 3 (MQ below (Qf X (some (.int rr)) st') args s 0 0 (cA X)) 4 [(0, .ref (X.2.1 59)), (1, .int v1), (2, .int v2)] [] st) (v2 : Int32) (t0 : Int32) (t1 : Int32) (st : St) (hf : F_X8_somewhere_29 k4 v2 t0 t1 st = some (rr, st')) : Z X p l e (rmk 0) s m args below meth c 3 (MQ below (Qf X (some (.int rr)) st') args s 0 0 (cA X)) 29 [(0, .ref (X.2.1 59)), (2, .int v2)] [.int t0, .int t1] st := by
  unfold F_X8_somewhere_29 at hf
  refine x_ior hh dX8_somewhere_29 30 rfl ?_
  refine x_istore_n hh dX8_somewhere_30 rfl (by decide) [(1, .int (t1 ||| t0)), (0, .ref (X.2.1 59)), (2, .int v2)] rfl 31 rfl ?_
  refine x_iinc hh dX8_somewhere_31 2 rfl (v2 + 1) rfl (by decide) [(2, .int (v2 + 1)), (1, .int (t1 ||| t0)), (0, .ref (X.2.1 59))] rfl 34 rfl ?_
  refine x_goto hh dX8_somewhere_34 4 rfl ?_
  refine x_sub (lv' := [(0, .ref (X.2.1 59)), (1, .int (t1 ||| t0)), (2, .int (v2 + 1))]) [2, 1, 0] rfl ?_
  exact hk4 (t1 ||| t0) (v2 + 1) st hf
def F_X8_somewhere_4 : Nat → Int32 → Int32 → St → Option (Int32 × St)
  | 0, _, _, _ => none
  | n + 1, v1, v2, st => if (st.1 59 3) ≤ v2 then some (v1, st) else gi v2 6 (if (st.1 69 v2.toNatClampNeg) < 0 then F_X8_somewhere_29 (F_X8_somewhere_4 n) v2 0 v1 st else F_X8_somewhere_29 (F_X8_somewhere_4 n) v2 (1 <<< (v2 &&& 31)) v1 st)
set_option maxRecDepth 100000 in
set_option maxHeartbeats 4000000 in
theorem Z_X8_somewhere_4 {l : Launch} {X : Cx} (hX : Ok X) {p : Program} {e : Env} {s : State} {m : MethodId} {args : Array Value} {below : List Frame} {meth : Method} {c : Code} {rr : Int32} {st' : St} (hh : Hy X p s m args meth c cX8_somewhere 3 RX8) (hr : meth.sig.returnType = some .int) : ∀ (n : Nat) (v1 : Int32) (v2 : Int32) (st : St), F_X8_somewhere_4 n v1 v2 st = some (rr, st') → Z X p l e (rmk 0) s m args below meth c 3 (MQ below (Qf X (some (.int rr)) st') args s 0 0 (cA X)) 4 [(0, .ref (X.2.1 59)), (1, .int v1), (2, .int v2)] [] st := by
  intro n
  induction n with
  | zero =>
    intro v1 v2 st hf
    cases hf
  | succ n ih =>
    intro v1 v2 st hf
    rw [F_X8_somewhere_4] at hf
    refine x_iload_n hh dX8_somewhere_4 rfl 2 rfl 5 rfl ?_
    refine x_aload_n hh dX8_somewhere_5 rfl 0 rfl 6 rfl ?_
    refine x_getI hh cl_8 dX8_somewhere_6 sh_59 3 rfl (Nat.le_of_ble_eq_true rfl) wd_803 9 rfl ?_
    refine x_icmp_ge hh dX8_somewhere_9 37 rfl 12 rfl (fun hc1 => ?_) (fun hc1 => ?_)
    · have hf := t_pos hc1 hf
      refine x_iload_n hh dX8_somewhere_37 rfl 1 rfl 38 rfl ?_
      obtain ⟨rfl, rfl⟩ := ret2 hf
      exact x_iret hh hr dX8_somewhere_38
    · have hf := t_neg hc1 hf
      refine x_iload_n hh dX8_somewhere_12 rfl 1 rfl 13 rfl ?_
      refine x_aload_n hh dX8_somewhere_13 rfl 0 rfl 14 rfl ?_
      refine x_getR hh cl_8 dX8_somewhere_14 sh_59 13 69 rfl (Nat.le_of_ble_eq_true rfl) wd_813 17 rfl ?_
      refine x_iload_n hh dX8_somewhere_17 rfl 2 rfl 18 rfl ?_
      obtain ⟨hi2, hf⟩ := gi_some hf
      refine x_iaload hh dX8_somewhere_18 sh_69 hi2 19 rfl ?_
      refine x_if_lt hh dX8_somewhere_19 28 rfl 22 rfl (fun hc3 => ?_) (fun hc3 => ?_)
      · have hf := t_pos hc3 hf
        refine x_iconst hh dX8_somewhere_28 0 rfl 29 rfl ?_
        refine x_sub (lv' := [(0, .ref (X.2.1 59)), (2, .int v2)]) [0, 2] rfl ?_
        exact Z_X8_somewhere_29 hX hh hr ih  v2 0 v1 st hf
      · have hf := t_neg hc3 hf
        refine x_iconst hh dX8_somewhere_22 1 rfl 23 rfl ?_
        refine x_iload_n hh dX8_somewhere_23 rfl 2 rfl 24 rfl ?_
        refine x_ishl hh dX8_somewhere_24 25 rfl ?_
        refine x_goto hh dX8_somewhere_25 29 rfl ?_
        refine x_sub (lv' := [(0, .ref (X.2.1 59)), (2, .int v2)]) [0, 2] rfl ?_
        exact Z_X8_somewhere_29 hX hh hr ih  v2 (1 <<< (v2 &&& 31)) v1 st hf
def F_X8_somewhere_0 (st : St) : Option (Int32 × St) := F_X8_somewhere_4 fN 0 0 st
set_option maxRecDepth 100000 in
set_option maxHeartbeats 4000000 in
theorem Z_X8_somewhere_0 {l : Launch} {X : Cx} (hX : Ok X) {p : Program} {e : Env} {s : State} {m : MethodId} {args : Array Value} {below : List Frame} {meth : Method} {c : Code} {rr : Int32} {st' : St} (hh : Hy X p s m args meth c cX8_somewhere 3 RX8) (hr : meth.sig.returnType = some .int) (st : St) (hf : F_X8_somewhere_0 st = some (rr, st')) : Z X p l e (rmk 0) s m args below meth c 3 (MQ below (Qf X (some (.int rr)) st') args s 0 0 (cA X)) 0 [(0, .ref (X.2.1 59))] [] st := by
  unfold F_X8_somewhere_0 at hf
  refine x_iconst hh dX8_somewhere_0 0 rfl 1 rfl ?_
  refine x_istore_n hh dX8_somewhere_1 rfl (by decide) [(1, .int 0), (0, .ref (X.2.1 59))] rfl 2 rfl ?_
  refine x_iconst hh dX8_somewhere_2 0 rfl 3 rfl ?_
  refine x_istore_n hh dX8_somewhere_3 rfl (by decide) [(2, .int 0), (1, .int 0), (0, .ref (X.2.1 59))] rfl 4 rfl ?_
  refine x_sub (lv' := [(0, .ref (X.2.1 59)), (1, .int 0), (2, .int 0)]) [2, 1, 0] rfl ?_
  exact Z_X8_somewhere_4 hX hh hr fN 0 0 st hf
def F_X8_somewhere (st : St) : Option (Int32 × St) := F_X8_somewhere_0  st
set_option maxRecDepth 100000 in
theorem C_X8_somewhere (l : Launch) {X : Cx} (hX : Ok X) {st : St} {q : Int32 × St} (hf : F_X8_somewhere st = some q) : Ct l X 0 yX8_somewhere (.code yX8_somewhere cX8_somewhere 3 (some .int)) [.ref (X.2.1 59)] st (some (.int q.1)) q.2 := by
  refine Ct.of hX (by decide) (Nat.le_of_ble_eq_true rfl) ?_
  intro p e s m args below meth c hh hr
  exact Z_X8_somewhere_0 hX hh hr st hf

def F_X8_told_0 (v1 : Int32) (st : St) : Option (Int32 × St) := if v1 = 0 then some (st.1 59 0, st) else if v1 = 1 then some (st.1 59 3, st) else if v1 = 2 then some (st.1 59 8, st) else if v1 = 3 then some (st.1 59 18, st) else if v1 = 4 then some (st.1 59 10, st) else if v1 = 5 then some (st.1 59 45, st) else if v1 = 6 then (F_X8_somewhere st).bind (fun q8 => some (q8.1, q8.2)) else some ((-1000000002), st)
set_option maxRecDepth 100000 in
set_option maxHeartbeats 4000000 in
theorem Z_X8_told_0 {l : Launch} {X : Cx} (hX : Ok X) {p : Program} {e : Env} {s : State} {m : MethodId} {args : Array Value} {below : List Frame} {meth : Method} {c : Code} {rr : Int32} {st' : St} (hh : Hy X p s m args meth c cX8_told 2 RX8) (hr : meth.sig.returnType = some .int) (v1 : Int32) (st : St) (hf : F_X8_told_0 v1 st = some (rr, st')) : Z X p l e (rmk 1) s m args below meth c 2 (MQ below (Qf X (some (.int rr)) st') args s 0 0 (cA X)) 0 [(0, .ref (X.2.1 59)), (1, .int v1)] [] st := by
  unfold F_X8_told_0 at hf
  refine x_iload_n hh dX8_told_0 rfl 1 rfl 1 rfl ?_
  by_cases hc1 : v1 = 0
  · have hf := t_pos hc1 hf
    refine x_tableIn hh dX8_told_1 (by rw [hc1]; decide) (by rw [hc1]; decide) 43 (by rw [hc1]; rfl) 44 rfl ?_
    refine x_aload_n hh dX8_told_44 rfl 0 rfl 45 rfl ?_
    refine x_getI hh cl_8 dX8_told_45 sh_59 0 rfl (Nat.le_of_ble_eq_true rfl) wd_800 48 rfl ?_
    obtain ⟨rfl, rfl⟩ := ret2 hf
    exact x_iret hh hr dX8_told_48
  · have hf := t_neg hc1 hf
    by_cases hc2 : v1 = 1
    · have hf := t_pos hc2 hf
      refine x_tableIn hh dX8_told_1 (by rw [hc2]; decide) (by rw [hc2]; decide) 48 (by rw [hc2]; rfl) 49 rfl ?_
      refine x_aload_n hh dX8_told_49 rfl 0 rfl 50 rfl ?_
      refine x_getI hh cl_8 dX8_told_50 sh_59 3 rfl (Nat.le_of_ble_eq_true rfl) wd_803 53 rfl ?_
      obtain ⟨rfl, rfl⟩ := ret2 hf
      exact x_iret hh hr dX8_told_53
    · have hf := t_neg hc2 hf
      by_cases hc3 : v1 = 2
      · have hf := t_pos hc3 hf
        refine x_tableIn hh dX8_told_1 (by rw [hc3]; decide) (by rw [hc3]; decide) 53 (by rw [hc3]; rfl) 54 rfl ?_
        refine x_aload_n hh dX8_told_54 rfl 0 rfl 55 rfl ?_
        refine x_getI hh cl_8 dX8_told_55 sh_59 8 rfl (Nat.le_of_ble_eq_true rfl) wd_808 58 rfl ?_
        obtain ⟨rfl, rfl⟩ := ret2 hf
        exact x_iret hh hr dX8_told_58
      · have hf := t_neg hc3 hf
        by_cases hc4 : v1 = 3
        · have hf := t_pos hc4 hf
          refine x_tableIn hh dX8_told_1 (by rw [hc4]; decide) (by rw [hc4]; decide) 58 (by rw [hc4]; rfl) 59 rfl ?_
          refine x_aload_n hh dX8_told_59 rfl 0 rfl 60 rfl ?_
          refine x_getI hh cl_8 dX8_told_60 sh_59 18 rfl (Nat.le_of_ble_eq_true rfl) wd_818 63 rfl ?_
          obtain ⟨rfl, rfl⟩ := ret2 hf
          exact x_iret hh hr dX8_told_63
        · have hf := t_neg hc4 hf
          by_cases hc5 : v1 = 4
          · have hf := t_pos hc5 hf
            refine x_tableIn hh dX8_told_1 (by rw [hc5]; decide) (by rw [hc5]; decide) 63 (by rw [hc5]; rfl) 64 rfl ?_
            refine x_aload_n hh dX8_told_64 rfl 0 rfl 65 rfl ?_
            refine x_getI hh cl_8 dX8_told_65 sh_59 10 rfl (Nat.le_of_ble_eq_true rfl) wd_810 68 rfl ?_
            obtain ⟨rfl, rfl⟩ := ret2 hf
            exact x_iret hh hr dX8_told_68
          · have hf := t_neg hc5 hf
            by_cases hc6 : v1 = 5
            · have hf := t_pos hc6 hf
              refine x_tableIn hh dX8_told_1 (by rw [hc6]; decide) (by rw [hc6]; decide) 68 (by rw [hc6]; rfl) 69 rfl ?_
              refine x_aload_n hh dX8_told_69 rfl 0 rfl 70 rfl ?_
              refine x_getI hh cl_8 dX8_told_70 sh_59 45 rfl (Nat.le_of_ble_eq_true rfl) wd_845 73 rfl ?_
              obtain ⟨rfl, rfl⟩ := ret2 hf
              exact x_iret hh hr dX8_told_73
            · have hf := t_neg hc6 hf
              by_cases hc7 : v1 = 6
              · have hf := t_pos hc7 hf
                refine x_tableIn hh dX8_told_1 (by rw [hc7]; decide) (by rw [hc7]; decide) 73 (by rw [hc7]; rfl) 74 rfl ?_
                refine x_aload_n hh dX8_told_74 rfl 0 rfl 75 rfl ?_
                obtain ⟨q8, hq8, hf⟩ := b_some hf
                refine x_callV (rest := []) hh mi_X8_somewhere [] dX8_told_75 sh_59 wd_967 (C_X8_somewhere l hX  hq8) rfl rfl ⟨Nat.le_of_ble_eq_true rfl, Nat.le_of_ble_eq_true rfl⟩ (Nat.le_of_ble_eq_true rfl) 78 rfl [.int q8.1] rfl ?_
                obtain ⟨rfl, rfl⟩ := ret2 hf
                exact x_iret hh hr dX8_told_78
              · have hf := t_neg hc7 hf
                refine x_tableOut hh dX8_told_1 (by have a0 := lv_neT (a := 0) hc1 rfl; have a1 := lv_neT (a := 1) hc2 rfl; have a2 := lv_neT (a := 2) hc3 rfl; have a3 := lv_neT (a := 3) hc4 rfl; have a4 := lv_neT (a := 4) hc5 rfl; have a5 := lv_neT (a := 5) hc6 rfl; have a6 := lv_neT (a := 6) hc7 rfl; omega) 79 rfl ?_
                refine x_ldc hh dX8_told_79 wd_910 81 rfl ?_
                obtain ⟨rfl, rfl⟩ := ret2 hf
                exact x_iret hh hr dX8_told_81
def F_X8_told (v1 : Int32) (st : St) : Option (Int32 × St) := F_X8_told_0  v1 st
set_option maxRecDepth 100000 in
theorem C_X8_told (l : Launch) {X : Cx} (hX : Ok X) {v1 : Int32} {st : St} {q : Int32 × St} (hf : F_X8_told v1 st = some q) : Ct l X 1 yX8_told (.code yX8_told cX8_told 2 (some .int)) [.ref (X.2.1 59), .int v1] st (some (.int q.1)) q.2 := by
  refine Ct.of hX (by decide) (Nat.le_of_ble_eq_true rfl) ?_
  intro p e s m args below meth c hh hr
  exact Z_X8_told_0 hX hh hr v1 st hf

def F_X8_isRoom_0 (v1 : Int32) (st : St) : Option (Int32 × St) := (F_X8_in v1.toInt64 0 (((st.1 59 0) - 1).toInt64) st).bind (fun q1 => gb q1.1 (some (q1.1, q1.2)))
set_option maxRecDepth 100000 in
set_option maxHeartbeats 4000000 in
theorem Z_X8_isRoom_0 {l : Launch} {X : Cx} (hX : Ok X) {p : Program} {e : Env} {s : State} {m : MethodId} {args : Array Value} {below : List Frame} {meth : Method} {c : Code} {rr : Int32} {st' : St} (hh : Hy X p s m args meth c cX8_isRoom 2 RX8) (hr : meth.sig.returnType = some .boolean) (v1 : Int32) (st : St) (hf : F_X8_isRoom_0 v1 st = some (rr, st')) : Z X p l e (rmk 1) s m args below meth c 2 (MQ below (Qf X (some (.int rr)) st') args s 0 0 (cA X)) 0 [(0, .ref (X.2.1 59)), (1, .int v1)] [] st := by
  unfold F_X8_isRoom_0 at hf
  refine x_iload_n hh dX8_isRoom_0 rfl 1 rfl 1 rfl ?_
  refine x_i2l hh dX8_isRoom_1 2 rfl ?_
  refine x_lconst hh dX8_isRoom_2 0 rfl 3 rfl ?_
  refine x_aload_n hh dX8_isRoom_3 rfl 0 rfl 4 rfl ?_
  refine x_getI hh cl_8 dX8_isRoom_4 sh_59 0 rfl (Nat.le_of_ble_eq_true rfl) wd_800 7 rfl ?_
  refine x_iconst hh dX8_isRoom_7 1 rfl 8 rfl ?_
  refine x_isub hh dX8_isRoom_8 9 rfl ?_
  refine x_i2l hh dX8_isRoom_9 10 rfl ?_
  obtain ⟨q1, hq1, hf⟩ := b_some hf
  refine x_callS (rest := []) hh ms_X8_in [.long v1.toInt64, .long 0, .long (((st.1 59 0) - 1).toInt64)] dX8_isRoom_10 wd_907 (C_X8_in l hX  hq1) rfl rfl ⟨Nat.le_of_ble_eq_true rfl, Nat.le_of_ble_eq_true rfl⟩ (Nat.le_of_ble_eq_true rfl) 13 rfl [.int q1.1] rfl ?_
  obtain ⟨hb2, hf⟩ := gb_some hf
  obtain ⟨rfl, rfl⟩ := ret2 hf
  exact x_zret hh hr (nb_n hb2) dX8_isRoom_13
def F_X8_isRoom (v1 : Int32) (st : St) : Option (Int32 × St) := F_X8_isRoom_0  v1 st
set_option maxRecDepth 100000 in
theorem C_X8_isRoom (l : Launch) {X : Cx} (hX : Ok X) {v1 : Int32} {st : St} {q : Int32 × St} (hf : F_X8_isRoom v1 st = some q) : Ct l X 1 yX8_isRoom (.code yX8_isRoom cX8_isRoom 2 (some .boolean)) [.ref (X.2.1 59), .int v1] st (some (.int q.1)) q.2 := by
  refine Ct.of hX (by decide) (Nat.le_of_ble_eq_true rfl) ?_
  intro p e s m args below meth c hh hr
  exact Z_X8_isRoom_0 hX hh hr v1 st hf

def F_X8_isPlace_31 (t0 : Int32) (st : St) : Option (Int32 × St) := gb t0 (some (t0, st))
set_option maxRecDepth 100000 in
set_option maxHeartbeats 4000000 in
theorem Z_X8_isPlace_31 {l : Launch} {X : Cx} (hX : Ok X) {p : Program} {e : Env} {s : State} {m : MethodId} {args : Array Value} {below : List Frame} {meth : Method} {c : Code} {rr : Int32} {st' : St} (hh : Hy X p s m args meth c cX8_isPlace 3 RX8) (hr : meth.sig.returnType = some .boolean) (t0 : Int32) (st : St) (hf : F_X8_isPlace_31 t0 st = some (rr, st')) : Z X p l e (rmk 2) s m args below meth c 3 (MQ below (Qf X (some (.int rr)) st') args s 0 0 (cA X)) 31 [(0, .ref (X.2.1 59))] [.int t0] st := by
  unfold F_X8_isPlace_31 at hf
  obtain ⟨hb6, hf⟩ := gb_some hf
  obtain ⟨rfl, rfl⟩ := ret2 hf
  exact x_zret hh hr (nb_n hb6) dX8_isPlace_31
def F_X8_isPlace_30 (st : St) : Option (Int32 × St) := F_X8_isPlace_31 0 st
set_option maxRecDepth 100000 in
set_option maxHeartbeats 4000000 in
theorem Z_X8_isPlace_30 {l : Launch} {X : Cx} (hX : Ok X) {p : Program} {e : Env} {s : State} {m : MethodId} {args : Array Value} {below : List Frame} {meth : Method} {c : Code} {rr : Int32} {st' : St} (hh : Hy X p s m args meth c cX8_isPlace 3 RX8) (hr : meth.sig.returnType = some .boolean) (st : St) (hf : F_X8_isPlace_30 st = some (rr, st')) : Z X p l e (rmk 2) s m args below meth c 3 (MQ below (Qf X (some (.int rr)) st') args s 0 0 (cA X)) 30 [(0, .ref (X.2.1 59))] [] st := by
  unfold F_X8_isPlace_30 at hf
  refine x_iconst hh dX8_isPlace_30 0 rfl 31 rfl ?_
  exact Z_X8_isPlace_31 hX hh hr  0 st hf
def F_X8_isPlace_0 (v1 : Int32) (v2 : Int32) (st : St) : Option (Int32 × St) := (F_X8_isRoom v1 st).bind (fun q1 => if q1.1 = 0 then F_X8_isPlace_30 q1.2 else gi v1 3 ((F_X8_in v2.toInt64 0 (((q1.2.1 60 v1.toNatClampNeg) - 1).toInt64) q1.2).bind (fun q4 => if q4.1 = 0 then F_X8_isPlace_30 q4.2 else F_X8_isPlace_31 1 q4.2)))
set_option maxRecDepth 100000 in
set_option maxHeartbeats 4000000 in
theorem Z_X8_isPlace_0 {l : Launch} {X : Cx} (hX : Ok X) {p : Program} {e : Env} {s : State} {m : MethodId} {args : Array Value} {below : List Frame} {meth : Method} {c : Code} {rr : Int32} {st' : St} (hh : Hy X p s m args meth c cX8_isPlace 3 RX8) (hr : meth.sig.returnType = some .boolean) (v1 : Int32) (v2 : Int32) (st : St) (hf : F_X8_isPlace_0 v1 v2 st = some (rr, st')) : Z X p l e (rmk 2) s m args below meth c 3 (MQ below (Qf X (some (.int rr)) st') args s 0 0 (cA X)) 0 [(0, .ref (X.2.1 59)), (1, .int v1), (2, .int v2)] [] st := by
  unfold F_X8_isPlace_0 at hf
  refine x_aload_n hh dX8_isPlace_0 rfl 0 rfl 1 rfl ?_
  refine x_iload_n hh dX8_isPlace_1 rfl 1 rfl 2 rfl ?_
  obtain ⟨q1, hq1, hf⟩ := b_some hf
  refine x_callV (rest := []) hh mi_X8_isRoom [.int v1] dX8_isPlace_2 sh_59 wd_974 (C_X8_isRoom l hX  hq1) rfl rfl ⟨Nat.le_of_ble_eq_true rfl, Nat.le_of_ble_eq_true rfl⟩ (Nat.le_of_ble_eq_true rfl) 5 rfl [.int q1.1] rfl ?_
  refine x_if_eq hh dX8_isPlace_5 30 rfl 8 rfl (fun hc2 => ?_) (fun hc2 => ?_)
  · have hf := t_pos hc2 hf
    refine x_sub (lv' := [(0, .ref (X.2.1 59))]) [0] rfl ?_
    exact Z_X8_isPlace_30 hX hh hr  q1.2 hf
  · have hf := t_neg hc2 hf
    refine x_iload_n hh dX8_isPlace_8 rfl 2 rfl 9 rfl ?_
    refine x_i2l hh dX8_isPlace_9 10 rfl ?_
    refine x_lconst hh dX8_isPlace_10 0 rfl 11 rfl ?_
    refine x_aload_n hh dX8_isPlace_11 rfl 0 rfl 12 rfl ?_
    refine x_getR hh cl_8 dX8_isPlace_12 sh_59 1 60 rfl (Nat.le_of_ble_eq_true rfl) wd_801 15 rfl ?_
    refine x_iload_n hh dX8_isPlace_15 rfl 1 rfl 16 rfl ?_
    obtain ⟨hi3, hf⟩ := gi_some hf
    refine x_iaload hh dX8_isPlace_16 sh_60 hi3 17 rfl ?_
    refine x_iconst hh dX8_isPlace_17 1 rfl 18 rfl ?_
    refine x_isub hh dX8_isPlace_18 19 rfl ?_
    refine x_i2l hh dX8_isPlace_19 20 rfl ?_
    obtain ⟨q4, hq4, hf⟩ := b_some hf
    refine x_callS (rest := []) hh ms_X8_in [.long v2.toInt64, .long 0, .long (((q1.2.1 60 v1.toNatClampNeg) - 1).toInt64)] dX8_isPlace_20 wd_907 (C_X8_in l hX  hq4) rfl rfl ⟨Nat.le_of_ble_eq_true rfl, Nat.le_of_ble_eq_true rfl⟩ (Nat.le_of_ble_eq_true rfl) 23 rfl [.int q4.1] rfl ?_
    refine x_if_eq hh dX8_isPlace_23 30 rfl 26 rfl (fun hc5 => ?_) (fun hc5 => ?_)
    · have hf := t_pos hc5 hf
      refine x_sub (lv' := [(0, .ref (X.2.1 59))]) [0] rfl ?_
      exact Z_X8_isPlace_30 hX hh hr  q4.2 hf
    · have hf := t_neg hc5 hf
      refine x_iconst hh dX8_isPlace_26 1 rfl 27 rfl ?_
      refine x_goto hh dX8_isPlace_27 31 rfl ?_
      refine x_sub (lv' := [(0, .ref (X.2.1 59))]) [0] rfl ?_
      exact Z_X8_isPlace_31 hX hh hr  1 q4.2 hf
def F_X8_isPlace (v1 : Int32) (v2 : Int32) (st : St) : Option (Int32 × St) := F_X8_isPlace_0  v1 v2 st
set_option maxRecDepth 100000 in
theorem C_X8_isPlace (l : Launch) {X : Cx} (hX : Ok X) {v1 : Int32} {v2 : Int32} {st : St} {q : Int32 × St} (hf : F_X8_isPlace v1 v2 st = some q) : Ct l X 2 yX8_isPlace (.code yX8_isPlace cX8_isPlace 3 (some .boolean)) [.ref (X.2.1 59), .int v1, .int v2] st (some (.int q.1)) q.2 := by
  refine Ct.of hX (by decide) (Nat.le_of_ble_eq_true rfl) ?_
  intro p e s m args below meth c hh hr
  exact Z_X8_isPlace_0 hX hh hr v1 v2 st hf

def F_X8_whoAt_42 (k5 : Int32 → Int32 → Int32 → Int32 → St → Option (Int32 × St)) (v1 : Int32) (v2 : Int32) (v4 : Int32) (t0 : Int32) (st : St) : Option (Int32 × St) := k5 v1 v2 t0 (v4 + 1) st
set_option maxRecDepth 100000 in
set_option maxHeartbeats 4000000 in
theorem Z_X8_whoAt_42 {l : Launch} {X : Cx} (hX : Ok X) {p : Program} {e : Env} {s : State} {m : MethodId} {args : Array Value} {below : List Frame} {meth : Method} {c : Code} {rr : Int32} {st' : St} (hh : Hy X p s m args meth c cX8_whoAt 5 RX8) (hr : meth.sig.returnType = some .int) {k5 : Int32 → Int32 → Int32 → Int32 → St → Option (Int32 × St)} (hk5 : ∀ (v1 : Int32) (v2 : Int32) (v3 : Int32) (v4 : Int32) (st : St), k5 v1 v2 v3 v4 st = some (rr, st') → Z X p l e (rmk 0) s m args below meth c 5 (MQ below (Qf X (some (.int rr)) st') args s 0 0 (cA X)) 5 [(0, .ref (X.2.1 59)), (1, .int v1), (2, .int v2), (3, .int v3), (4, .int v4)] [] st) (v1 : Int32) (v2 : Int32) (v4 : Int32) (t0 : Int32) (st : St) (hf : F_X8_whoAt_42 k5 v1 v2 v4 t0 st = some (rr, st')) : Z X p l e (rmk 0) s m args below meth c 5 (MQ below (Qf X (some (.int rr)) st') args s 0 0 (cA X)) 42 [(0, .ref (X.2.1 59)), (1, .int v1), (2, .int v2), (4, .int v4)] [.int t0] st := by
  unfold F_X8_whoAt_42 at hf
  refine x_istore_n hh dX8_whoAt_42 rfl (by decide) [(3, .int t0), (0, .ref (X.2.1 59)), (1, .int v1), (2, .int v2), (4, .int v4)] rfl 43 rfl ?_
  refine x_iinc hh dX8_whoAt_43 4 rfl (v4 + 1) rfl (by decide) [(4, .int (v4 + 1)), (3, .int t0), (0, .ref (X.2.1 59)), (1, .int v1), (2, .int v2)] rfl 46 rfl ?_
  refine x_goto hh dX8_whoAt_46 5 rfl ?_
  refine x_sub (lv' := [(0, .ref (X.2.1 59)), (1, .int v1), (2, .int v2), (3, .int t0), (4, .int (v4 + 1))]) [2, 3, 4, 1, 0] rfl ?_
  exact hk5 v1 v2 t0 (v4 + 1) st hf
def F_X8_whoAt_41 (k5 : Int32 → Int32 → Int32 → Int32 → St → Option (Int32 × St)) (v1 : Int32) (v2 : Int32) (v3 : Int32) (v4 : Int32) (st : St) : Option (Int32 × St) := F_X8_whoAt_42 k5 v1 v2 v4 v3 st
set_option maxRecDepth 100000 in
set_option maxHeartbeats 4000000 in
theorem Z_X8_whoAt_41 {l : Launch} {X : Cx} (hX : Ok X) {p : Program} {e : Env} {s : State} {m : MethodId} {args : Array Value} {below : List Frame} {meth : Method} {c : Code} {rr : Int32} {st' : St} (hh : Hy X p s m args meth c cX8_whoAt 5 RX8) (hr : meth.sig.returnType = some .int) {k5 : Int32 → Int32 → Int32 → Int32 → St → Option (Int32 × St)} (hk5 : ∀ (v1 : Int32) (v2 : Int32) (v3 : Int32) (v4 : Int32) (st : St), k5 v1 v2 v3 v4 st = some (rr, st') → Z X p l e (rmk 0) s m args below meth c 5 (MQ below (Qf X (some (.int rr)) st') args s 0 0 (cA X)) 5 [(0, .ref (X.2.1 59)), (1, .int v1), (2, .int v2), (3, .int v3), (4, .int v4)] [] st) (v1 : Int32) (v2 : Int32) (v3 : Int32) (v4 : Int32) (st : St) (hf : F_X8_whoAt_41 k5 v1 v2 v3 v4 st = some (rr, st')) : Z X p l e (rmk 0) s m args below meth c 5 (MQ below (Qf X (some (.int rr)) st') args s 0 0 (cA X)) 41 [(0, .ref (X.2.1 59)), (1, .int v1), (2, .int v2), (3, .int v3), (4, .int v4)] [] st := by
  unfold F_X8_whoAt_41 at hf
  refine x_iload_n hh dX8_whoAt_41 rfl 3 rfl 42 rfl ?_
  refine x_sub (lv' := [(0, .ref (X.2.1 59)), (1, .int v1), (2, .int v2), (4, .int v4)]) [0, 1, 2, 4] rfl ?_
  exact Z_X8_whoAt_42 hX hh hr hk5  v1 v2 v4 v3 st hf
def F_X8_whoAt_5 : Nat → Int32 → Int32 → Int32 → Int32 → St → Option (Int32 × St)
  | 0, _, _, _, _, _ => none
  | n + 1, v1, v2, v3, v4, st => if (st.1 59 3) ≤ v4 then some (v3, st) else gi v4 6 (if (st.1 69 v4.toNatClampNeg) = v1 then gi v4 6 (if (st.1 70 v4.toNatClampNeg) = v2 then F_X8_whoAt_42 (F_X8_whoAt_5 n) v1 v2 v4 v4 st else F_X8_whoAt_41 (F_X8_whoAt_5 n) v1 v2 v3 v4 st) else F_X8_whoAt_41 (F_X8_whoAt_5 n) v1 v2 v3 v4 st)
set_option maxRecDepth 100000 in
set_option maxHeartbeats 4000000 in
theorem Z_X8_whoAt_5 {l : Launch} {X : Cx} (hX : Ok X) {p : Program} {e : Env} {s : State} {m : MethodId} {args : Array Value} {below : List Frame} {meth : Method} {c : Code} {rr : Int32} {st' : St} (hh : Hy X p s m args meth c cX8_whoAt 5 RX8) (hr : meth.sig.returnType = some .int) : ∀ (n : Nat) (v1 : Int32) (v2 : Int32) (v3 : Int32) (v4 : Int32) (st : St), F_X8_whoAt_5 n v1 v2 v3 v4 st = some (rr, st') → Z X p l e (rmk 0) s m args below meth c 5 (MQ below (Qf X (some (.int rr)) st') args s 0 0 (cA X)) 5 [(0, .ref (X.2.1 59)), (1, .int v1), (2, .int v2), (3, .int v3), (4, .int v4)] [] st := by
  intro n
  induction n with
  | zero =>
    intro v1 v2 v3 v4 st hf
    cases hf
  | succ n ih =>
    intro v1 v2 v3 v4 st hf
    rw [F_X8_whoAt_5] at hf
    refine x_iload hh dX8_whoAt_5 4 rfl 7 rfl ?_
    refine x_aload_n hh dX8_whoAt_7 rfl 0 rfl 8 rfl ?_
    refine x_getI hh cl_8 dX8_whoAt_8 sh_59 3 rfl (Nat.le_of_ble_eq_true rfl) wd_803 11 rfl ?_
    refine x_icmp_ge hh dX8_whoAt_11 49 rfl 14 rfl (fun hc1 => ?_) (fun hc1 => ?_)
    · have hf := t_pos hc1 hf
      refine x_iload_n hh dX8_whoAt_49 rfl 3 rfl 50 rfl ?_
      obtain ⟨rfl, rfl⟩ := ret2 hf
      exact x_iret hh hr dX8_whoAt_50
    · have hf := t_neg hc1 hf
      refine x_aload_n hh dX8_whoAt_14 rfl 0 rfl 15 rfl ?_
      refine x_getR hh cl_8 dX8_whoAt_15 sh_59 13 69 rfl (Nat.le_of_ble_eq_true rfl) wd_813 18 rfl ?_
      refine x_iload hh dX8_whoAt_18 4 rfl 20 rfl ?_
      obtain ⟨hi2, hf⟩ := gi_some hf
      refine x_iaload hh dX8_whoAt_20 sh_69 hi2 21 rfl ?_
      refine x_iload_n hh dX8_whoAt_21 rfl 1 rfl 22 rfl ?_
      refine x_icmp_ne hh dX8_whoAt_22 41 rfl 25 rfl (fun hc3 => ?_) (fun hc3 => ?_)
      · have hf := t_neg hc3 hf
        exact Z_X8_whoAt_41 hX hh hr ih  v1 v2 v3 v4 st hf
      · have hf := t_pos hc3 hf
        refine x_aload_n hh dX8_whoAt_25 rfl 0 rfl 26 rfl ?_
        refine x_getR hh cl_8 dX8_whoAt_26 sh_59 14 70 rfl (Nat.le_of_ble_eq_true rfl) wd_814 29 rfl ?_
        refine x_iload hh dX8_whoAt_29 4 rfl 31 rfl ?_
        obtain ⟨hi4, hf⟩ := gi_some hf
        refine x_iaload hh dX8_whoAt_31 sh_70 hi4 32 rfl ?_
        refine x_iload_n hh dX8_whoAt_32 rfl 2 rfl 33 rfl ?_
        refine x_icmp_ne hh dX8_whoAt_33 41 rfl 36 rfl (fun hc5 => ?_) (fun hc5 => ?_)
        · have hf := t_neg hc5 hf
          exact Z_X8_whoAt_41 hX hh hr ih  v1 v2 v3 v4 st hf
        · have hf := t_pos hc5 hf
          refine x_iload hh dX8_whoAt_36 4 rfl 38 rfl ?_
          refine x_goto hh dX8_whoAt_38 42 rfl ?_
          refine x_sub (lv' := [(0, .ref (X.2.1 59)), (1, .int v1), (2, .int v2), (4, .int v4)]) [0, 1, 2, 4] rfl ?_
          exact Z_X8_whoAt_42 hX hh hr ih  v1 v2 v4 v4 st hf
def F_X8_whoAt_0 (v1 : Int32) (v2 : Int32) (st : St) : Option (Int32 × St) := F_X8_whoAt_5 fN v1 v2 ((-1)) 0 st
set_option maxRecDepth 100000 in
set_option maxHeartbeats 4000000 in
theorem Z_X8_whoAt_0 {l : Launch} {X : Cx} (hX : Ok X) {p : Program} {e : Env} {s : State} {m : MethodId} {args : Array Value} {below : List Frame} {meth : Method} {c : Code} {rr : Int32} {st' : St} (hh : Hy X p s m args meth c cX8_whoAt 5 RX8) (hr : meth.sig.returnType = some .int) (v1 : Int32) (v2 : Int32) (st : St) (hf : F_X8_whoAt_0 v1 v2 st = some (rr, st')) : Z X p l e (rmk 0) s m args below meth c 5 (MQ below (Qf X (some (.int rr)) st') args s 0 0 (cA X)) 0 [(0, .ref (X.2.1 59)), (1, .int v1), (2, .int v2)] [] st := by
  unfold F_X8_whoAt_0 at hf
  refine x_iconst hh dX8_whoAt_0 (-1) rfl 1 rfl ?_
  refine x_istore_n hh dX8_whoAt_1 rfl (by decide) [(3, .int ((-1))), (0, .ref (X.2.1 59)), (1, .int v1), (2, .int v2)] rfl 2 rfl ?_
  refine x_iconst hh dX8_whoAt_2 0 rfl 3 rfl ?_
  refine x_istore hh dX8_whoAt_3 (by decide) [(4, .int 0), (3, .int ((-1))), (0, .ref (X.2.1 59)), (1, .int v1), (2, .int v2)] rfl 5 rfl ?_
  refine x_sub (lv' := [(0, .ref (X.2.1 59)), (1, .int v1), (2, .int v2), (3, .int ((-1))), (4, .int 0)]) [2, 3, 4, 1, 0] rfl ?_
  exact Z_X8_whoAt_5 hX hh hr fN v1 v2 ((-1)) 0 st hf
def F_X8_whoAt (v1 : Int32) (v2 : Int32) (st : St) : Option (Int32 × St) := F_X8_whoAt_0  v1 v2 st
set_option maxRecDepth 100000 in
theorem C_X8_whoAt (l : Launch) {X : Cx} (hX : Ok X) {v1 : Int32} {v2 : Int32} {st : St} {q : Int32 × St} (hf : F_X8_whoAt v1 v2 st = some q) : Ct l X 0 yX8_whoAt (.code yX8_whoAt cX8_whoAt 5 (some .int)) [.ref (X.2.1 59), .int v1, .int v2] st (some (.int q.1)) q.2 := by
  refine Ct.of hX (by decide) (Nat.le_of_ble_eq_true rfl) ?_
  intro p e s m args below meth c hh hr
  exact Z_X8_whoAt_0 hX hh hr v1 v2 st hf

def F_X8_room_22 (st : St) : Option (Int32 × St) := some ((-1000000001), st)
set_option maxRecDepth 100000 in
set_option maxHeartbeats 4000000 in
theorem Z_X8_room_22 {l : Launch} {X : Cx} (hX : Ok X) {p : Program} {e : Env} {s : State} {m : MethodId} {args : Array Value} {below : List Frame} {meth : Method} {c : Code} {rr : Int32} {st' : St} (hh : Hy X p s m args meth c cX8_room 4 RX8) (hr : meth.sig.returnType = some .int) (st : St) (hf : F_X8_room_22 st = some (rr, st')) : Z X p l e (rmk 3) s m args below meth c 4 (MQ below (Qf X (some (.int rr)) st') args s 0 0 (cA X)) 22 [(0, .ref (X.2.1 59))] [] st := by
  unfold F_X8_room_22 at hf
  refine x_ldc hh dX8_room_22 wd_980 24 rfl ?_
  obtain ⟨rfl, rfl⟩ := ret2 hf
  exact x_iret hh hr dX8_room_24
def F_X8_room_71 (t0 : Int32) (st : St) : Option (Int32 × St) := some (t0, st)
set_option maxRecDepth 100000 in
set_option maxHeartbeats 4000000 in
theorem Z_X8_room_71 {l : Launch} {X : Cx} (hX : Ok X) {p : Program} {e : Env} {s : State} {m : MethodId} {args : Array Value} {below : List Frame} {meth : Method} {c : Code} {rr : Int32} {st' : St} (hh : Hy X p s m args meth c cX8_room 4 RX8) (hr : meth.sig.returnType = some .int) (t0 : Int32) (st : St) (hf : F_X8_room_71 t0 st = some (rr, st')) : Z X p l e (rmk 3) s m args below meth c 4 (MQ below (Qf X (some (.int rr)) st') args s 0 0 (cA X)) 71 [(0, .ref (X.2.1 59))] [.int t0] st := by
  unfold F_X8_room_71 at hf
  obtain ⟨rfl, rfl⟩ := ret2 hf
  exact x_iret hh hr dX8_room_71
def F_X8_room_25 (v1 : Int32) (v2 : Int32) (v3 : Int32) (st : St) : Option (Int32 × St) := if v2 = ((-1)) then gi v1 3 (some (st.1 60 v1.toNatClampNeg, st)) else if v3 = 0 then gi ((6 * v1) + v2) 18 (F_X8_room_71 (st.1 61 ((6 * v1) + v2).toNatClampNeg) st) else if v3 = 1 then (F_X8_whoAt v1 v2 st).bind (fun q9 => F_X8_room_71 q9.1 q9.2) else F_X8_room_71 ((-1000000002)) st
set_option maxRecDepth 100000 in
set_option maxHeartbeats 4000000 in
theorem Z_X8_room_25 {l : Launch} {X : Cx} (hX : Ok X) {p : Program} {e : Env} {s : State} {m : MethodId} {args : Array Value} {below : List Frame} {meth : Method} {c : Code} {rr : Int32} {st' : St} (hh : Hy X p s m args meth c cX8_room 4 RX8) (hr : meth.sig.returnType = some .int) (v1 : Int32) (v2 : Int32) (v3 : Int32) (st : St) (hf : F_X8_room_25 v1 v2 v3 st = some (rr, st')) : Z X p l e (rmk 3) s m args below meth c 4 (MQ below (Qf X (some (.int rr)) st') args s 0 0 (cA X)) 25 [(0, .ref (X.2.1 59)), (1, .int v1), (2, .int v2), (3, .int v3)] [] st := by
  unfold F_X8_room_25 at hf
  refine x_iload_n hh dX8_room_25 rfl 2 rfl 26 rfl ?_
  refine x_iconst hh dX8_room_26 (-1) rfl 27 rfl ?_
  refine x_icmp_ne hh dX8_room_27 37 rfl 30 rfl (fun hc6 => ?_) (fun hc6 => ?_)
  · have hf := t_neg hc6 hf
    refine x_iload_n hh dX8_room_37 rfl 3 rfl 38 rfl ?_
    refine x_if_ne hh dX8_room_38 55 rfl 41 rfl (fun hc7 => ?_) (fun hc7 => ?_)
    · have hf := t_neg hc7 hf
      refine x_iload_n hh dX8_room_55 rfl 3 rfl 56 rfl ?_
      refine x_iconst hh dX8_room_56 1 rfl 57 rfl ?_
      refine x_icmp_ne hh dX8_room_57 69 rfl 60 rfl (fun hc8 => ?_) (fun hc8 => ?_)
      · have hf := t_neg hc8 hf
        refine x_ldc hh dX8_room_69 wd_910 71 rfl ?_
        refine x_sub (lv' := [(0, .ref (X.2.1 59))]) [0] rfl ?_
        exact Z_X8_room_71 hX hh hr  ((-1000000002)) st hf
      · have hf := t_pos hc8 hf
        refine x_aload_n hh dX8_room_60 rfl 0 rfl 61 rfl ?_
        refine x_iload_n hh dX8_room_61 rfl 1 rfl 62 rfl ?_
        refine x_iload_n hh dX8_room_62 rfl 2 rfl 63 rfl ?_
        obtain ⟨q9, hq9, hf⟩ := b_some hf
        refine x_callV (rest := []) hh mi_X8_whoAt [.int v1, .int v2] dX8_room_63 sh_59 wd_981 (C_X8_whoAt l hX  hq9) rfl rfl ⟨Nat.le_of_ble_eq_true rfl, Nat.le_of_ble_eq_true rfl⟩ (Nat.le_of_ble_eq_true rfl) 66 rfl [.int q9.1] rfl ?_
        refine x_goto hh dX8_room_66 71 rfl ?_
        refine x_sub (lv' := [(0, .ref (X.2.1 59))]) [0] rfl ?_
        exact Z_X8_room_71 hX hh hr  q9.1 q9.2 hf
    · have hf := t_pos hc7 hf
      refine x_aload_n hh dX8_room_41 rfl 0 rfl 42 rfl ?_
      refine x_getR hh cl_8 dX8_room_42 sh_59 2 61 rfl (Nat.le_of_ble_eq_true rfl) wd_802 45 rfl ?_
      refine x_bipush hh dX8_room_45 6 rfl 47 rfl ?_
      refine x_iload_n hh dX8_room_47 rfl 1 rfl 48 rfl ?_
      refine x_imul hh dX8_room_48 49 rfl ?_
      refine x_iload_n hh dX8_room_49 rfl 2 rfl 50 rfl ?_
      refine x_iadd hh dX8_room_50 51 rfl ?_
      obtain ⟨hi10, hf⟩ := gi_some hf
      refine x_iaload hh dX8_room_51 sh_61 hi10 52 rfl ?_
      refine x_goto hh dX8_room_52 71 rfl ?_
      refine x_sub (lv' := [(0, .ref (X.2.1 59))]) [0] rfl ?_
      exact Z_X8_room_71 hX hh hr  (st.1 61 ((6 * v1) + v2).toNatClampNeg) st hf
  · have hf := t_pos hc6 hf
    refine x_aload_n hh dX8_room_30 rfl 0 rfl 31 rfl ?_
    refine x_getR hh cl_8 dX8_room_31 sh_59 1 60 rfl (Nat.le_of_ble_eq_true rfl) wd_801 34 rfl ?_
    refine x_iload_n hh dX8_room_34 rfl 1 rfl 35 rfl ?_
    obtain ⟨hi11, hf⟩ := gi_some hf
    refine x_iaload hh dX8_room_35 sh_60 hi11 36 rfl ?_
    obtain ⟨rfl, rfl⟩ := ret2 hf
    exact x_iret hh hr dX8_room_36
def F_X8_room_0 (v1 : Int32) (v2 : Int32) (v3 : Int32) (st : St) : Option (Int32 × St) := (F_X8_isRoom v1 st).bind (fun q1 => if q1.1 = 0 then F_X8_room_22 q1.2 else if v2 = ((-1)) then F_X8_room_25 v1 v2 v3 q1.2 else (F_X8_isPlace v1 v2 q1.2).bind (fun q4 => if q4.1 = 0 then F_X8_room_22 q4.2 else F_X8_room_25 v1 v2 v3 q4.2))
set_option maxRecDepth 100000 in
set_option maxHeartbeats 4000000 in
theorem Z_X8_room_0 {l : Launch} {X : Cx} (hX : Ok X) {p : Program} {e : Env} {s : State} {m : MethodId} {args : Array Value} {below : List Frame} {meth : Method} {c : Code} {rr : Int32} {st' : St} (hh : Hy X p s m args meth c cX8_room 4 RX8) (hr : meth.sig.returnType = some .int) (v1 : Int32) (v2 : Int32) (v3 : Int32) (st : St) (hf : F_X8_room_0 v1 v2 v3 st = some (rr, st')) : Z X p l e (rmk 3) s m args below meth c 4 (MQ below (Qf X (some (.int rr)) st') args s 0 0 (cA X)) 0 [(0, .ref (X.2.1 59)), (1, .int v1), (2, .int v2), (3, .int v3)] [] st := by
  unfold F_X8_room_0 at hf
  refine x_aload_n hh dX8_room_0 rfl 0 rfl 1 rfl ?_
  refine x_iload_n hh dX8_room_1 rfl 1 rfl 2 rfl ?_
  obtain ⟨q1, hq1, hf⟩ := b_some hf
  refine x_callV (rest := []) hh mi_X8_isRoom [.int v1] dX8_room_2 sh_59 wd_974 (C_X8_isRoom l hX  hq1) rfl rfl ⟨Nat.le_of_ble_eq_true rfl, Nat.le_of_ble_eq_true rfl⟩ (Nat.le_of_ble_eq_true rfl) 5 rfl [.int q1.1] rfl ?_
  refine x_if_eq hh dX8_room_5 22 rfl 8 rfl (fun hc2 => ?_) (fun hc2 => ?_)
  · have hf := t_pos hc2 hf
    refine x_sub (lv' := [(0, .ref (X.2.1 59))]) [0] rfl ?_
    exact Z_X8_room_22 hX hh hr  q1.2 hf
  · have hf := t_neg hc2 hf
    refine x_iload_n hh dX8_room_8 rfl 2 rfl 9 rfl ?_
    refine x_iconst hh dX8_room_9 (-1) rfl 10 rfl ?_
    refine x_icmp_eq hh dX8_room_10 25 rfl 13 rfl (fun hc3 => ?_) (fun hc3 => ?_)
    · have hf := t_pos hc3 hf
      exact Z_X8_room_25 hX hh hr  v1 v2 v3 q1.2 hf
    · have hf := t_neg hc3 hf
      refine x_aload_n hh dX8_room_13 rfl 0 rfl 14 rfl ?_
      refine x_iload_n hh dX8_room_14 rfl 1 rfl 15 rfl ?_
      refine x_iload_n hh dX8_room_15 rfl 2 rfl 16 rfl ?_
      obtain ⟨q4, hq4, hf⟩ := b_some hf
      refine x_callV (rest := []) hh mi_X8_isPlace [.int v1, .int v2] dX8_room_16 sh_59 wd_977 (C_X8_isPlace l hX  hq4) rfl rfl ⟨Nat.le_of_ble_eq_true rfl, Nat.le_of_ble_eq_true rfl⟩ (Nat.le_of_ble_eq_true rfl) 19 rfl [.int q4.1] rfl ?_
      refine x_if_ne hh dX8_room_19 25 rfl 22 rfl (fun hc5 => ?_) (fun hc5 => ?_)
      · have hf := t_neg hc5 hf
        exact Z_X8_room_25 hX hh hr  v1 v2 v3 q4.2 hf
      · have hf := t_pos hc5 hf
        refine x_sub (lv' := [(0, .ref (X.2.1 59))]) [0] rfl ?_
        exact Z_X8_room_22 hX hh hr  q4.2 hf
def F_X8_room (v1 : Int32) (v2 : Int32) (v3 : Int32) (st : St) : Option (Int32 × St) := F_X8_room_0  v1 v2 v3 st
set_option maxRecDepth 100000 in
theorem C_X8_room (l : Launch) {X : Cx} (hX : Ok X) {v1 : Int32} {v2 : Int32} {v3 : Int32} {st : St} {q : Int32 × St} (hf : F_X8_room v1 v2 v3 st = some q) : Ct l X 3 yX8_room (.code yX8_room cX8_room 4 (some .int)) [.ref (X.2.1 59), .int v1, .int v2, .int v3] st (some (.int q.1)) q.2 := by
  refine Ct.of hX (by decide) (Nat.le_of_ble_eq_true rfl) ?_
  intro p e s m args below meth c hh hr
  exact Z_X8_room_0 hX hh hr v1 v2 v3 st hf

def F_X8_tallAt_0 (v1 : Int32) (v2 : Int32) (v3 : Int32) (st : St) : Option (Int32 × St) := gi ((6 * v2) + v3) 18 (gi v1 6 (some ((st.1 61 ((6 * v2) + v3).toNatClampNeg) + (st.1 68 v1.toNatClampNeg), st)))
set_option maxRecDepth 100000 in
set_option maxHeartbeats 4000000 in
theorem Z_X8_tallAt_0 {l : Launch} {X : Cx} (hX : Ok X) {p : Program} {e : Env} {s : State} {m : MethodId} {args : Array Value} {below : List Frame} {meth : Method} {c : Code} {rr : Int32} {st' : St} (hh : Hy X p s m args meth c cX8_tallAt 4 RX8) (hr : meth.sig.returnType = some .int) (v1 : Int32) (v2 : Int32) (v3 : Int32) (st : St) (hf : F_X8_tallAt_0 v1 v2 v3 st = some (rr, st')) : Z X p l e (rmk 0) s m args below meth c 4 (MQ below (Qf X (some (.int rr)) st') args s 0 0 (cA X)) 0 [(0, .ref (X.2.1 59)), (1, .int v1), (2, .int v2), (3, .int v3)] [] st := by
  unfold F_X8_tallAt_0 at hf
  refine x_aload_n hh dX8_tallAt_0 rfl 0 rfl 1 rfl ?_
  refine x_getR hh cl_8 dX8_tallAt_1 sh_59 2 61 rfl (Nat.le_of_ble_eq_true rfl) wd_802 4 rfl ?_
  refine x_bipush hh dX8_tallAt_4 6 rfl 6 rfl ?_
  refine x_iload_n hh dX8_tallAt_6 rfl 2 rfl 7 rfl ?_
  refine x_imul hh dX8_tallAt_7 8 rfl ?_
  refine x_iload_n hh dX8_tallAt_8 rfl 3 rfl 9 rfl ?_
  refine x_iadd hh dX8_tallAt_9 10 rfl ?_
  obtain ⟨hi1, hf⟩ := gi_some hf
  refine x_iaload hh dX8_tallAt_10 sh_61 hi1 11 rfl ?_
  refine x_aload_n hh dX8_tallAt_11 rfl 0 rfl 12 rfl ?_
  refine x_getR hh cl_8 dX8_tallAt_12 sh_59 12 68 rfl (Nat.le_of_ble_eq_true rfl) wd_812 15 rfl ?_
  refine x_iload_n hh dX8_tallAt_15 rfl 1 rfl 16 rfl ?_
  obtain ⟨hi2, hf⟩ := gi_some hf
  refine x_iaload hh dX8_tallAt_16 sh_68 hi2 17 rfl ?_
  refine x_iadd hh dX8_tallAt_17 18 rfl ?_
  obtain ⟨rfl, rfl⟩ := ret2 hf
  exact x_iret hh hr dX8_tallAt_18
def F_X8_tallAt (v1 : Int32) (v2 : Int32) (v3 : Int32) (st : St) : Option (Int32 × St) := F_X8_tallAt_0  v1 v2 v3 st
set_option maxRecDepth 100000 in
theorem C_X8_tallAt (l : Launch) {X : Cx} (hX : Ok X) {v1 : Int32} {v2 : Int32} {v3 : Int32} {st : St} {q : Int32 × St} (hf : F_X8_tallAt v1 v2 v3 st = some q) : Ct l X 0 yX8_tallAt (.code yX8_tallAt cX8_tallAt 4 (some .int)) [.ref (X.2.1 59), .int v1, .int v2, .int v3] st (some (.int q.1)) q.2 := by
  refine Ct.of hX (by decide) (Nat.le_of_ble_eq_true rfl) ?_
  intro p e s m args below meth c hh hr
  exact Z_X8_tallAt_0 hX hh hr v1 v2 v3 st hf

def F_X8_headOf_0 (v1 : Int32) (st : St) : Option (Int32 × St) := gi v1 6 (gi v1 6 ((F_X8_tallAt v1 (st.1 69 v1.toNatClampNeg) (st.1 70 v1.toNatClampNeg) st).bind (fun q3 => gi v1 6 (some (q3.1 - (q3.2.1 71 v1.toNatClampNeg), q3.2)))))
set_option maxRecDepth 100000 in
set_option maxHeartbeats 4000000 in
theorem Z_X8_headOf_0 {l : Launch} {X : Cx} (hX : Ok X) {p : Program} {e : Env} {s : State} {m : MethodId} {args : Array Value} {below : List Frame} {meth : Method} {c : Code} {rr : Int32} {st' : St} (hh : Hy X p s m args meth c cX8_headOf 2 RX8) (hr : meth.sig.returnType = some .int) (v1 : Int32) (st : St) (hf : F_X8_headOf_0 v1 st = some (rr, st')) : Z X p l e (rmk 1) s m args below meth c 2 (MQ below (Qf X (some (.int rr)) st') args s 0 0 (cA X)) 0 [(0, .ref (X.2.1 59)), (1, .int v1)] [] st := by
  unfold F_X8_headOf_0 at hf
  refine x_aload_n hh dX8_headOf_0 rfl 0 rfl 1 rfl ?_
  refine x_iload_n hh dX8_headOf_1 rfl 1 rfl 2 rfl ?_
  refine x_aload_n hh dX8_headOf_2 rfl 0 rfl 3 rfl ?_
  refine x_getR hh cl_8 dX8_headOf_3 sh_59 13 69 rfl (Nat.le_of_ble_eq_true rfl) wd_813 6 rfl ?_
  refine x_iload_n hh dX8_headOf_6 rfl 1 rfl 7 rfl ?_
  obtain ⟨hi1, hf⟩ := gi_some hf
  refine x_iaload hh dX8_headOf_7 sh_69 hi1 8 rfl ?_
  refine x_aload_n hh dX8_headOf_8 rfl 0 rfl 9 rfl ?_
  refine x_getR hh cl_8 dX8_headOf_9 sh_59 14 70 rfl (Nat.le_of_ble_eq_true rfl) wd_814 12 rfl ?_
  refine x_iload_n hh dX8_headOf_12 rfl 1 rfl 13 rfl ?_
  obtain ⟨hi2, hf⟩ := gi_some hf
  refine x_iaload hh dX8_headOf_13 sh_70 hi2 14 rfl ?_
  obtain ⟨q3, hq3, hf⟩ := b_some hf
  refine x_callV (rest := []) hh mi_X8_tallAt [.int v1, .int (st.1 69 v1.toNatClampNeg), .int (st.1 70 v1.toNatClampNeg)] dX8_headOf_14 sh_59 wd_994 (C_X8_tallAt l hX  hq3) rfl rfl ⟨Nat.le_of_ble_eq_true rfl, Nat.le_of_ble_eq_true rfl⟩ (Nat.le_of_ble_eq_true rfl) 17 rfl [.int q3.1] rfl ?_
  refine x_aload_n hh dX8_headOf_17 rfl 0 rfl 18 rfl ?_
  refine x_getR hh cl_8 dX8_headOf_18 sh_59 15 71 rfl (Nat.le_of_ble_eq_true rfl) wd_815 21 rfl ?_
  refine x_iload_n hh dX8_headOf_21 rfl 1 rfl 22 rfl ?_
  obtain ⟨hi4, hf⟩ := gi_some hf
  refine x_iaload hh dX8_headOf_22 sh_71 hi4 23 rfl ?_
  refine x_isub hh dX8_headOf_23 24 rfl ?_
  obtain ⟨rfl, rfl⟩ := ret2 hf
  exact x_iret hh hr dX8_headOf_24
def F_X8_headOf (v1 : Int32) (st : St) : Option (Int32 × St) := F_X8_headOf_0  v1 st
set_option maxRecDepth 100000 in
theorem C_X8_headOf (l : Launch) {X : Cx} (hX : Ok X) {v1 : Int32} {st : St} {q : Int32 × St} (hf : F_X8_headOf v1 st = some q) : Ct l X 1 yX8_headOf (.code yX8_headOf cX8_headOf 2 (some .int)) [.ref (X.2.1 59), .int v1] st (some (.int q.1)) q.2 := by
  refine Ct.of hX (by decide) (Nat.le_of_ble_eq_true rfl) ?_
  intro p e s m args below meth c hh hr
  exact Z_X8_headOf_0 hX hh hr v1 st hf

def F_X8_isPerson_0 (v1 : Int32) (st : St) : Option (Int32 × St) := (F_X8_in v1.toInt64 0 (((st.1 59 3) - 1).toInt64) st).bind (fun q1 => gb q1.1 (some (q1.1, q1.2)))
set_option maxRecDepth 100000 in
set_option maxHeartbeats 4000000 in
theorem Z_X8_isPerson_0 {l : Launch} {X : Cx} (hX : Ok X) {p : Program} {e : Env} {s : State} {m : MethodId} {args : Array Value} {below : List Frame} {meth : Method} {c : Code} {rr : Int32} {st' : St} (hh : Hy X p s m args meth c cX8_isPerson 2 RX8) (hr : meth.sig.returnType = some .boolean) (v1 : Int32) (st : St) (hf : F_X8_isPerson_0 v1 st = some (rr, st')) : Z X p l e (rmk 1) s m args below meth c 2 (MQ below (Qf X (some (.int rr)) st') args s 0 0 (cA X)) 0 [(0, .ref (X.2.1 59)), (1, .int v1)] [] st := by
  unfold F_X8_isPerson_0 at hf
  refine x_iload_n hh dX8_isPerson_0 rfl 1 rfl 1 rfl ?_
  refine x_i2l hh dX8_isPerson_1 2 rfl ?_
  refine x_lconst hh dX8_isPerson_2 0 rfl 3 rfl ?_
  refine x_aload_n hh dX8_isPerson_3 rfl 0 rfl 4 rfl ?_
  refine x_getI hh cl_8 dX8_isPerson_4 sh_59 3 rfl (Nat.le_of_ble_eq_true rfl) wd_803 7 rfl ?_
  refine x_iconst hh dX8_isPerson_7 1 rfl 8 rfl ?_
  refine x_isub hh dX8_isPerson_8 9 rfl ?_
  refine x_i2l hh dX8_isPerson_9 10 rfl ?_
  obtain ⟨q1, hq1, hf⟩ := b_some hf
  refine x_callS (rest := []) hh ms_X8_in [.long v1.toInt64, .long 0, .long (((st.1 59 3) - 1).toInt64)] dX8_isPerson_10 wd_907 (C_X8_in l hX  hq1) rfl rfl ⟨Nat.le_of_ble_eq_true rfl, Nat.le_of_ble_eq_true rfl⟩ (Nat.le_of_ble_eq_true rfl) 13 rfl [.int q1.1] rfl ?_
  obtain ⟨hb2, hf⟩ := gb_some hf
  obtain ⟨rfl, rfl⟩ := ret2 hf
  exact x_zret hh hr (nb_n hb2) dX8_isPerson_13
def F_X8_isPerson (v1 : Int32) (st : St) : Option (Int32 × St) := F_X8_isPerson_0  v1 st
set_option maxRecDepth 100000 in
theorem C_X8_isPerson (l : Launch) {X : Cx} (hX : Ok X) {v1 : Int32} {st : St} {q : Int32 × St} (hf : F_X8_isPerson v1 st = some q) : Ct l X 1 yX8_isPerson (.code yX8_isPerson cX8_isPerson 2 (some .boolean)) [.ref (X.2.1 59), .int v1] st (some (.int q.1)) q.2 := by
  refine Ct.of hX (by decide) (Nat.le_of_ble_eq_true rfl) ?_
  intro p e s m args below meth c hh hr
  exact Z_X8_isPerson_0 hX hh hr v1 st hf

def F_X8_person_127 (t0 : Int32) (st : St) : Option (Int32 × St) := some (t0, st)
set_option maxRecDepth 100000 in
set_option maxHeartbeats 4000000 in
theorem Z_X8_person_127 {l : Launch} {X : Cx} (hX : Ok X) {p : Program} {e : Env} {s : State} {m : MethodId} {args : Array Value} {below : List Frame} {meth : Method} {c : Code} {rr : Int32} {st' : St} (hh : Hy X p s m args meth c cX8_person 3 RX8) (hr : meth.sig.returnType = some .int) (t0 : Int32) (st : St) (hf : F_X8_person_127 t0 st = some (rr, st')) : Z X p l e (rmk 2) s m args below meth c 3 (MQ below (Qf X (some (.int rr)) st') args s 0 0 (cA X)) 127 [(0, .ref (X.2.1 59))] [.int t0] st := by
  unfold F_X8_person_127 at hf
  obtain ⟨rfl, rfl⟩ := ret2 hf
  exact x_iret hh hr dX8_person_127
def F_X8_person_0 (v1 : Int32) (v2 : Int32) (st : St) : Option (Int32 × St) := (F_X8_isPerson v1 st).bind (fun q1 => if q1.1 = 0 then some ((-1000000001), q1.2) else if v2 = 0 then gi v1 6 (some (q1.2.1 67 v1.toNatClampNeg, q1.2)) else if v2 = 1 then gi v1 6 (some (q1.2.1 68 v1.toNatClampNeg, q1.2)) else if v2 = 2 then gi v1 6 (some (q1.2.1 64 v1.toNatClampNeg, q1.2)) else if v2 = 3 then gi v1 6 (some (q1.2.1 65 v1.toNatClampNeg, q1.2)) else if v2 = 4 then gi v1 6 (some (q1.2.1 69 v1.toNatClampNeg, q1.2)) else if v2 = 5 then gi v1 6 (some (q1.2.1 70 v1.toNatClampNeg, q1.2)) else if v2 = 6 then gi v1 6 (some (q1.2.1 71 v1.toNatClampNeg, q1.2)) else if v2 = 7 then gi v1 6 (if (0 : Int32) ≤ (q1.2.1 69 v1.toNatClampNeg) then (F_X8_headOf v1 q1.2).bind (fun q20 => F_X8_person_127 q20.1 q20.2) else F_X8_person_127 ((-1)) q1.2) else some ((-1000000002), q1.2))
set_option maxRecDepth 100000 in
set_option maxHeartbeats 4000000 in
theorem Z_X8_person_0 {l : Launch} {X : Cx} (hX : Ok X) {p : Program} {e : Env} {s : State} {m : MethodId} {args : Array Value} {below : List Frame} {meth : Method} {c : Code} {rr : Int32} {st' : St} (hh : Hy X p s m args meth c cX8_person 3 RX8) (hr : meth.sig.returnType = some .int) (v1 : Int32) (v2 : Int32) (st : St) (hf : F_X8_person_0 v1 v2 st = some (rr, st')) : Z X p l e (rmk 2) s m args below meth c 3 (MQ below (Qf X (some (.int rr)) st') args s 0 0 (cA X)) 0 [(0, .ref (X.2.1 59)), (1, .int v1), (2, .int v2)] [] st := by
  unfold F_X8_person_0 at hf
  refine x_aload_n hh dX8_person_0 rfl 0 rfl 1 rfl ?_
  refine x_iload_n hh dX8_person_1 rfl 1 rfl 2 rfl ?_
  obtain ⟨q1, hq1, hf⟩ := b_some hf
  refine x_callV (rest := []) hh mi_X8_isPerson [.int v1] dX8_person_2 sh_59 wd_988 (C_X8_isPerson l hX  hq1) rfl rfl ⟨Nat.le_of_ble_eq_true rfl, Nat.le_of_ble_eq_true rfl⟩ (Nat.le_of_ble_eq_true rfl) 5 rfl [.int q1.1] rfl ?_
  refine x_if_ne hh dX8_person_5 11 rfl 8 rfl (fun hc2 => ?_) (fun hc2 => ?_)
  · have hf := t_neg hc2 hf
    refine x_iload_n hh dX8_person_11 rfl 2 rfl 12 rfl ?_
    by_cases hc3 : v2 = 0
    · have hf := t_pos hc3 hf
      refine x_tableIn hh dX8_person_12 (by rw [hc3]; decide) (by rw [hc3]; decide) 48 (by rw [hc3]; rfl) 60 rfl ?_
      refine x_aload_n hh dX8_person_60 rfl 0 rfl 61 rfl ?_
      refine x_getR hh cl_8 dX8_person_61 sh_59 11 67 rfl (Nat.le_of_ble_eq_true rfl) wd_811 64 rfl ?_
      refine x_iload_n hh dX8_person_64 rfl 1 rfl 65 rfl ?_
      obtain ⟨hi4, hf⟩ := gi_some hf
      refine x_iaload hh dX8_person_65 sh_67 hi4 66 rfl ?_
      obtain ⟨rfl, rfl⟩ := ret2 hf
      exact x_iret hh hr dX8_person_66
    · have hf := t_neg hc3 hf
      by_cases hc5 : v2 = 1
      · have hf := t_pos hc5 hf
        refine x_tableIn hh dX8_person_12 (by rw [hc5]; decide) (by rw [hc5]; decide) 55 (by rw [hc5]; rfl) 67 rfl ?_
        refine x_aload_n hh dX8_person_67 rfl 0 rfl 68 rfl ?_
        refine x_getR hh cl_8 dX8_person_68 sh_59 12 68 rfl (Nat.le_of_ble_eq_true rfl) wd_812 71 rfl ?_
        refine x_iload_n hh dX8_person_71 rfl 1 rfl 72 rfl ?_
        obtain ⟨hi6, hf⟩ := gi_some hf
        refine x_iaload hh dX8_person_72 sh_68 hi6 73 rfl ?_
        obtain ⟨rfl, rfl⟩ := ret2 hf
        exact x_iret hh hr dX8_person_73
      · have hf := t_neg hc5 hf
        by_cases hc7 : v2 = 2
        · have hf := t_pos hc7 hf
          refine x_tableIn hh dX8_person_12 (by rw [hc7]; decide) (by rw [hc7]; decide) 62 (by rw [hc7]; rfl) 74 rfl ?_
          refine x_aload_n hh dX8_person_74 rfl 0 rfl 75 rfl ?_
          refine x_getR hh cl_8 dX8_person_75 sh_59 6 64 rfl (Nat.le_of_ble_eq_true rfl) wd_806 78 rfl ?_
          refine x_iload_n hh dX8_person_78 rfl 1 rfl 79 rfl ?_
          obtain ⟨hi8, hf⟩ := gi_some hf
          refine x_iaload hh dX8_person_79 sh_64 hi8 80 rfl ?_
          obtain ⟨rfl, rfl⟩ := ret2 hf
          exact x_iret hh hr dX8_person_80
        · have hf := t_neg hc7 hf
          by_cases hc9 : v2 = 3
          · have hf := t_pos hc9 hf
            refine x_tableIn hh dX8_person_12 (by rw [hc9]; decide) (by rw [hc9]; decide) 69 (by rw [hc9]; rfl) 81 rfl ?_
            refine x_aload_n hh dX8_person_81 rfl 0 rfl 82 rfl ?_
            refine x_getR hh cl_8 dX8_person_82 sh_59 7 65 rfl (Nat.le_of_ble_eq_true rfl) wd_807 85 rfl ?_
            refine x_iload_n hh dX8_person_85 rfl 1 rfl 86 rfl ?_
            obtain ⟨hi10, hf⟩ := gi_some hf
            refine x_iaload hh dX8_person_86 sh_65 hi10 87 rfl ?_
            obtain ⟨rfl, rfl⟩ := ret2 hf
            exact x_iret hh hr dX8_person_87
          · have hf := t_neg hc9 hf
            by_cases hc11 : v2 = 4
            · have hf := t_pos hc11 hf
              refine x_tableIn hh dX8_person_12 (by rw [hc11]; decide) (by rw [hc11]; decide) 76 (by rw [hc11]; rfl) 88 rfl ?_
              refine x_aload_n hh dX8_person_88 rfl 0 rfl 89 rfl ?_
              refine x_getR hh cl_8 dX8_person_89 sh_59 13 69 rfl (Nat.le_of_ble_eq_true rfl) wd_813 92 rfl ?_
              refine x_iload_n hh dX8_person_92 rfl 1 rfl 93 rfl ?_
              obtain ⟨hi12, hf⟩ := gi_some hf
              refine x_iaload hh dX8_person_93 sh_69 hi12 94 rfl ?_
              obtain ⟨rfl, rfl⟩ := ret2 hf
              exact x_iret hh hr dX8_person_94
            · have hf := t_neg hc11 hf
              by_cases hc13 : v2 = 5
              · have hf := t_pos hc13 hf
                refine x_tableIn hh dX8_person_12 (by rw [hc13]; decide) (by rw [hc13]; decide) 83 (by rw [hc13]; rfl) 95 rfl ?_
                refine x_aload_n hh dX8_person_95 rfl 0 rfl 96 rfl ?_
                refine x_getR hh cl_8 dX8_person_96 sh_59 14 70 rfl (Nat.le_of_ble_eq_true rfl) wd_814 99 rfl ?_
                refine x_iload_n hh dX8_person_99 rfl 1 rfl 100 rfl ?_
                obtain ⟨hi14, hf⟩ := gi_some hf
                refine x_iaload hh dX8_person_100 sh_70 hi14 101 rfl ?_
                obtain ⟨rfl, rfl⟩ := ret2 hf
                exact x_iret hh hr dX8_person_101
              · have hf := t_neg hc13 hf
                by_cases hc15 : v2 = 6
                · have hf := t_pos hc15 hf
                  refine x_tableIn hh dX8_person_12 (by rw [hc15]; decide) (by rw [hc15]; decide) 90 (by rw [hc15]; rfl) 102 rfl ?_
                  refine x_aload_n hh dX8_person_102 rfl 0 rfl 103 rfl ?_
                  refine x_getR hh cl_8 dX8_person_103 sh_59 15 71 rfl (Nat.le_of_ble_eq_true rfl) wd_815 106 rfl ?_
                  refine x_iload_n hh dX8_person_106 rfl 1 rfl 107 rfl ?_
                  obtain ⟨hi16, hf⟩ := gi_some hf
                  refine x_iaload hh dX8_person_107 sh_71 hi16 108 rfl ?_
                  obtain ⟨rfl, rfl⟩ := ret2 hf
                  exact x_iret hh hr dX8_person_108
                · have hf := t_neg hc15 hf
                  by_cases hc17 : v2 = 7
                  · have hf := t_pos hc17 hf
                    refine x_tableIn hh dX8_person_12 (by rw [hc17]; decide) (by rw [hc17]; decide) 97 (by rw [hc17]; rfl) 109 rfl ?_
                    refine x_aload_n hh dX8_person_109 rfl 0 rfl 110 rfl ?_
                    refine x_getR hh cl_8 dX8_person_110 sh_59 13 69 rfl (Nat.le_of_ble_eq_true rfl) wd_813 113 rfl ?_
                    refine x_iload_n hh dX8_person_113 rfl 1 rfl 114 rfl ?_
                    obtain ⟨hi18, hf⟩ := gi_some hf
                    refine x_iaload hh dX8_person_114 sh_69 hi18 115 rfl ?_
                    refine x_if_ge hh dX8_person_115 122 rfl 118 rfl (fun hc19 => ?_) (fun hc19 => ?_)
                    · have hf := t_pos hc19 hf
                      refine x_aload_n hh dX8_person_122 rfl 0 rfl 123 rfl ?_
                      refine x_iload_n hh dX8_person_123 rfl 1 rfl 124 rfl ?_
                      obtain ⟨q20, hq20, hf⟩ := b_some hf
                      refine x_callV (rest := []) hh mi_X8_headOf [.int v1] dX8_person_124 sh_59 wd_991 (C_X8_headOf l hX  hq20) rfl rfl ⟨Nat.le_of_ble_eq_true rfl, Nat.le_of_ble_eq_true rfl⟩ (Nat.le_of_ble_eq_true rfl) 127 rfl [.int q20.1] rfl ?_
                      refine x_sub (lv' := [(0, .ref (X.2.1 59))]) [0] rfl ?_
                      exact Z_X8_person_127 hX hh hr  q20.1 q20.2 hf
                    · have hf := t_neg hc19 hf
                      refine x_iconst hh dX8_person_118 (-1) rfl 119 rfl ?_
                      refine x_goto hh dX8_person_119 127 rfl ?_
                      refine x_sub (lv' := [(0, .ref (X.2.1 59))]) [0] rfl ?_
                      exact Z_X8_person_127 hX hh hr  ((-1)) q1.2 hf
                  · have hf := t_neg hc17 hf
                    refine x_tableOut hh dX8_person_12 (by have a0 := lv_neT (a := 0) hc3 rfl; have a1 := lv_neT (a := 1) hc5 rfl; have a2 := lv_neT (a := 2) hc7 rfl; have a3 := lv_neT (a := 3) hc9 rfl; have a4 := lv_neT (a := 4) hc11 rfl; have a5 := lv_neT (a := 5) hc13 rfl; have a6 := lv_neT (a := 6) hc15 rfl; have a7 := lv_neT (a := 7) hc17 rfl; omega) 128 rfl ?_
                    refine x_ldc hh dX8_person_128 wd_910 130 rfl ?_
                    obtain ⟨rfl, rfl⟩ := ret2 hf
                    exact x_iret hh hr dX8_person_130
  · have hf := t_pos hc2 hf
    refine x_ldc hh dX8_person_8 wd_980 10 rfl ?_
    obtain ⟨rfl, rfl⟩ := ret2 hf
    exact x_iret hh hr dX8_person_10
def F_X8_person (v1 : Int32) (v2 : Int32) (st : St) : Option (Int32 × St) := F_X8_person_0  v1 v2 st
set_option maxRecDepth 100000 in
theorem C_X8_person (l : Launch) {X : Cx} (hX : Ok X) {v1 : Int32} {v2 : Int32} {st : St} {q : Int32 × St} (hf : F_X8_person v1 v2 st = some q) : Ct l X 2 yX8_person (.code yX8_person cX8_person 3 (some .int)) [.ref (X.2.1 59), .int v1, .int v2] st (some (.int q.1)) q.2 := by
  refine Ct.of hX (by decide) (Nat.le_of_ble_eq_true rfl) ?_
  intro p e s m args below meth c hh hr
  exact Z_X8_person_0 hX hh hr v1 v2 st hf

def F_X8_friends_37 (t0 : Int32) (st : St) : Option (Int32 × St) := some (t0, st)
set_option maxRecDepth 100000 in
set_option maxHeartbeats 4000000 in
theorem Z_X8_friends_37 {l : Launch} {X : Cx} (hX : Ok X) {p : Program} {e : Env} {s : State} {m : MethodId} {args : Array Value} {below : List Frame} {meth : Method} {c : Code} {rr : Int32} {st' : St} (hh : Hy X p s m args meth c cX8_friends 3 RX8) (hr : meth.sig.returnType = some .int) (t0 : Int32) (st : St) (hf : F_X8_friends_37 t0 st = some (rr, st')) : Z X p l e (rmk 2) s m args below meth c 3 (MQ below (Qf X (some (.int rr)) st') args s 0 0 (cA X)) 37 [(0, .ref (X.2.1 59))] [.int t0] st := by
  unfold F_X8_friends_37 at hf
  obtain ⟨rfl, rfl⟩ := ret2 hf
  exact x_iret hh hr dX8_friends_37
def F_X8_friends_35 (st : St) : Option (Int32 × St) := F_X8_friends_37 ((-1000000001)) st
set_option maxRecDepth 100000 in
set_option maxHeartbeats 4000000 in
theorem Z_X8_friends_35 {l : Launch} {X : Cx} (hX : Ok X) {p : Program} {e : Env} {s : State} {m : MethodId} {args : Array Value} {below : List Frame} {meth : Method} {c : Code} {rr : Int32} {st' : St} (hh : Hy X p s m args meth c cX8_friends 3 RX8) (hr : meth.sig.returnType = some .int) (st : St) (hf : F_X8_friends_35 st = some (rr, st')) : Z X p l e (rmk 2) s m args below meth c 3 (MQ below (Qf X (some (.int rr)) st') args s 0 0 (cA X)) 35 [(0, .ref (X.2.1 59))] [] st := by
  unfold F_X8_friends_35 at hf
  refine x_ldc hh dX8_friends_35 wd_980 37 rfl ?_
  exact Z_X8_friends_37 hX hh hr  ((-1000000001)) st hf
def F_X8_friends_0 (v1 : Int32) (v2 : Int32) (st : St) : Option (Int32 × St) := (F_X8_isPerson v1 st).bind (fun q1 => if q1.1 = 0 then F_X8_friends_35 q1.2 else (F_X8_isPerson v2 q1.2).bind (fun q3 => if q3.1 = 0 then F_X8_friends_35 q3.2 else if v1 = v2 then F_X8_friends_35 q3.2 else gi ((6 * v1) + v2) 36 (F_X8_friends_37 (q3.2.1 66 ((6 * v1) + v2).toNatClampNeg) q3.2)))
set_option maxRecDepth 100000 in
set_option maxHeartbeats 4000000 in
theorem Z_X8_friends_0 {l : Launch} {X : Cx} (hX : Ok X) {p : Program} {e : Env} {s : State} {m : MethodId} {args : Array Value} {below : List Frame} {meth : Method} {c : Code} {rr : Int32} {st' : St} (hh : Hy X p s m args meth c cX8_friends 3 RX8) (hr : meth.sig.returnType = some .int) (v1 : Int32) (v2 : Int32) (st : St) (hf : F_X8_friends_0 v1 v2 st = some (rr, st')) : Z X p l e (rmk 2) s m args below meth c 3 (MQ below (Qf X (some (.int rr)) st') args s 0 0 (cA X)) 0 [(0, .ref (X.2.1 59)), (1, .int v1), (2, .int v2)] [] st := by
  unfold F_X8_friends_0 at hf
  refine x_aload_n hh dX8_friends_0 rfl 0 rfl 1 rfl ?_
  refine x_iload_n hh dX8_friends_1 rfl 1 rfl 2 rfl ?_
  obtain ⟨q1, hq1, hf⟩ := b_some hf
  refine x_callV (rest := []) hh mi_X8_isPerson [.int v1] dX8_friends_2 sh_59 wd_988 (C_X8_isPerson l hX  hq1) rfl rfl ⟨Nat.le_of_ble_eq_true rfl, Nat.le_of_ble_eq_true rfl⟩ (Nat.le_of_ble_eq_true rfl) 5 rfl [.int q1.1] rfl ?_
  refine x_if_eq hh dX8_friends_5 35 rfl 8 rfl (fun hc2 => ?_) (fun hc2 => ?_)
  · have hf := t_pos hc2 hf
    refine x_sub (lv' := [(0, .ref (X.2.1 59))]) [0] rfl ?_
    exact Z_X8_friends_35 hX hh hr  q1.2 hf
  · have hf := t_neg hc2 hf
    refine x_aload_n hh dX8_friends_8 rfl 0 rfl 9 rfl ?_
    refine x_iload_n hh dX8_friends_9 rfl 2 rfl 10 rfl ?_
    obtain ⟨q3, hq3, hf⟩ := b_some hf
    refine x_callV (rest := []) hh mi_X8_isPerson [.int v2] dX8_friends_10 sh_59 wd_988 (C_X8_isPerson l hX  hq3) rfl rfl ⟨Nat.le_of_ble_eq_true rfl, Nat.le_of_ble_eq_true rfl⟩ (Nat.le_of_ble_eq_true rfl) 13 rfl [.int q3.1] rfl ?_
    refine x_if_eq hh dX8_friends_13 35 rfl 16 rfl (fun hc4 => ?_) (fun hc4 => ?_)
    · have hf := t_pos hc4 hf
      refine x_sub (lv' := [(0, .ref (X.2.1 59))]) [0] rfl ?_
      exact Z_X8_friends_35 hX hh hr  q3.2 hf
    · have hf := t_neg hc4 hf
      refine x_iload_n hh dX8_friends_16 rfl 1 rfl 17 rfl ?_
      refine x_iload_n hh dX8_friends_17 rfl 2 rfl 18 rfl ?_
      refine x_icmp_eq hh dX8_friends_18 35 rfl 21 rfl (fun hc5 => ?_) (fun hc5 => ?_)
      · have hf := t_pos hc5 hf
        refine x_sub (lv' := [(0, .ref (X.2.1 59))]) [0] rfl ?_
        exact Z_X8_friends_35 hX hh hr  q3.2 hf
      · have hf := t_neg hc5 hf
        refine x_aload_n hh dX8_friends_21 rfl 0 rfl 22 rfl ?_
        refine x_getR hh cl_8 dX8_friends_22 sh_59 9 66 rfl (Nat.le_of_ble_eq_true rfl) wd_809 25 rfl ?_
        refine x_bipush hh dX8_friends_25 6 rfl 27 rfl ?_
        refine x_iload_n hh dX8_friends_27 rfl 1 rfl 28 rfl ?_
        refine x_imul hh dX8_friends_28 29 rfl ?_
        refine x_iload_n hh dX8_friends_29 rfl 2 rfl 30 rfl ?_
        refine x_iadd hh dX8_friends_30 31 rfl ?_
        obtain ⟨hi6, hf⟩ := gi_some hf
        refine x_iaload hh dX8_friends_31 sh_66 hi6 32 rfl ?_
        refine x_goto hh dX8_friends_32 37 rfl ?_
        refine x_sub (lv' := [(0, .ref (X.2.1 59))]) [0] rfl ?_
        exact Z_X8_friends_37 hX hh hr  (q3.2.1 66 ((6 * v1) + v2).toNatClampNeg) q3.2 hf
def F_X8_friends (v1 : Int32) (v2 : Int32) (st : St) : Option (Int32 × St) := F_X8_friends_0  v1 v2 st
set_option maxRecDepth 100000 in
theorem C_X8_friends (l : Launch) {X : Cx} (hX : Ok X) {v1 : Int32} {v2 : Int32} {st : St} {q : Int32 × St} (hf : F_X8_friends v1 v2 st = some q) : Ct l X 2 yX8_friends (.code yX8_friends cX8_friends 3 (some .int)) [.ref (X.2.1 59), .int v1, .int v2] st (some (.int q.1)) q.2 := by
  refine Ct.of hX (by decide) (Nat.le_of_ble_eq_true rfl) ?_
  intro p e s m args below meth c hh hr
  exact Z_X8_friends_0 hX hh hr v1 v2 st hf

def F_X8_law_0 (v1 : Int32) (st : St) : Option (Int32 × St) := (F_X8_in v1.toInt64 0 1 st).bind (fun q1 => if q1.1 = 0 then some ((-1000000002), q1.2) else bs (sV q1.2 59 10 v1) (fun st3 => some (q1.2.1 59 10, st3)))
set_option maxRecDepth 100000 in
set_option maxHeartbeats 4000000 in
theorem Z_X8_law_0 {l : Launch} {X : Cx} (hX : Ok X) {p : Program} {e : Env} {s : State} {m : MethodId} {args : Array Value} {below : List Frame} {meth : Method} {c : Code} {rr : Int32} {st' : St} (hh : Hy X p s m args meth c cX8_law 3 RX8) (hr : meth.sig.returnType = some .int) (v1 : Int32) (st : St) (hf : F_X8_law_0 v1 st = some (rr, st')) : Z X p l e (rmk 1) s m args below meth c 3 (MQ below (Qf X (some (.int rr)) st') args s 0 0 (cA X)) 0 [(0, .ref (X.2.1 59)), (1, .int v1)] [] st := by
  unfold F_X8_law_0 at hf
  refine x_iload_n hh dX8_law_0 rfl 1 rfl 1 rfl ?_
  refine x_i2l hh dX8_law_1 2 rfl ?_
  refine x_lconst hh dX8_law_2 0 rfl 3 rfl ?_
  refine x_lconst hh dX8_law_3 1 rfl 4 rfl ?_
  obtain ⟨q1, hq1, hf⟩ := b_some hf
  refine x_callS (rest := []) hh ms_X8_in [.long v1.toInt64, .long 0, .long 1] dX8_law_4 wd_907 (C_X8_in l hX  hq1) rfl rfl ⟨Nat.le_of_ble_eq_true rfl, Nat.le_of_ble_eq_true rfl⟩ (Nat.le_of_ble_eq_true rfl) 7 rfl [.int q1.1] rfl ?_
  refine x_if_ne hh dX8_law_7 13 rfl 10 rfl (fun hc2 => ?_) (fun hc2 => ?_)
  · have hf := t_neg hc2 hf
    refine x_aload_n hh dX8_law_13 rfl 0 rfl 14 rfl ?_
    refine x_getI hh cl_8 dX8_law_14 sh_59 10 rfl (Nat.le_of_ble_eq_true rfl) wd_810 17 rfl ?_
    refine x_istore_n hh dX8_law_17 rfl (by decide) [(2, .int (q1.2.1 59 10)), (0, .ref (X.2.1 59)), (1, .int v1)] rfl 18 rfl ?_
    refine x_aload_n hh dX8_law_18 rfl 1 rfl 19 rfl ?_
    refine x_iload_n hh dX8_law_19 rfl 2 rfl 20 rfl ?_
    obtain ⟨st3, est3, hf⟩ := bs_some hf
    refine x_putI hh cl_8 dX8_law_20 sh_59 10 rfl (Nat.le_of_ble_eq_true rfl) wd_810 rfl rfl rfl 23 rfl st3 est3 ?_
    refine x_iload_n hh dX8_law_23 rfl 0 rfl 24 rfl ?_
    obtain ⟨rfl, rfl⟩ := ret2 hf
    exact x_iret hh hr dX8_law_24
  · have hf := t_pos hc2 hf
    refine x_ldc hh dX8_law_10 wd_910 12 rfl ?_
    obtain ⟨rfl, rfl⟩ := ret2 hf
    exact x_iret hh hr dX8_law_12
def F_X8_law (v1 : Int32) (st : St) : Option (Int32 × St) := F_X8_law_0  v1 st
set_option maxRecDepth 100000 in
theorem C_X8_law (l : Launch) {X : Cx} (hX : Ok X) {v1 : Int32} {st : St} {q : Int32 × St} (hf : F_X8_law v1 st = some q) : Ct l X 1 yX8_law (.code yX8_law cX8_law 3 (some .int)) [.ref (X.2.1 59), .int v1] st (some (.int q.1)) q.2 := by
  refine Ct.of hX (by decide) (Nat.le_of_ble_eq_true rfl) ?_
  intro p e s m args below meth c hh hr
  exact Z_X8_law_0 hX hh hr v1 st hf

def F_X8_isIn_30 (k4 : Int32 → Int32 → Int32 → St → Option (Int32 × St)) (v1 : Int32) (v3 : Int32) (t0 : Int32) (t1 : Int32) (st : St) : Option (Int32 × St) := k4 v1 (t1 ||| t0) (v3 + 1) st
set_option maxRecDepth 100000 in
set_option maxHeartbeats 4000000 in
theorem Z_X8_isIn_30 {l : Launch} {X : Cx} (hX : Ok X) {p : Program} {e : Env} {s : State} {m : MethodId} {args : Array Value} {below : List Frame} {meth : Method} {c : Code} {rr : Int32} {st' : St} (hh : Hy X p s m args meth c cX8_isIn 4 RX8) (hr : meth.sig.returnType = some .int) {k4 : Int32 → Int32 → Int32 → St → Option (Int32 × St)} (hk4 : ∀ (v1 : Int32) (v2 : Int32) (v3 : Int32) (st : St), k4 v1 v2 v3 st = some (rr, st') → Z X p l e (rmk 0) s m args below meth c 4 (MQ below (Qf X (some (.int rr)) st') args s 0 0 (cA X)) 4 [(0, .ref (X.2.1 59)), (1, .int v1), (2, .int v2), (3, .int v3)] [] st) (v1 : Int32) (v3 : Int32) (t0 : Int32) (t1 : Int32) (st : St) (hf : F_X8_isIn_30 k4 v1 v3 t0 t1 st = some (rr, st')) : Z X p l e (rmk 0) s m args below meth c 4 (MQ below (Qf X (some (.int rr)) st') args s 0 0 (cA X)) 30 [(0, .ref (X.2.1 59)), (1, .int v1), (3, .int v3)] [.int t0, .int t1] st := by
  unfold F_X8_isIn_30 at hf
  refine x_ior hh dX8_isIn_30 31 rfl ?_
  refine x_istore_n hh dX8_isIn_31 rfl (by decide) [(2, .int (t1 ||| t0)), (0, .ref (X.2.1 59)), (1, .int v1), (3, .int v3)] rfl 32 rfl ?_
  refine x_iinc hh dX8_isIn_32 3 rfl (v3 + 1) rfl (by decide) [(3, .int (v3 + 1)), (2, .int (t1 ||| t0)), (0, .ref (X.2.1 59)), (1, .int v1)] rfl 35 rfl ?_
  refine x_goto hh dX8_isIn_35 4 rfl ?_
  refine x_sub (lv' := [(0, .ref (X.2.1 59)), (1, .int v1), (2, .int (t1 ||| t0)), (3, .int (v3 + 1))]) [2, 3, 1, 0] rfl ?_
  exact hk4 v1 (t1 ||| t0) (v3 + 1) st hf
def F_X8_isIn_4 : Nat → Int32 → Int32 → Int32 → St → Option (Int32 × St)
  | 0, _, _, _, _ => none
  | n + 1, v1, v2, v3, st => if (st.1 59 3) ≤ v3 then some (v2, st) else gi v3 6 (if (st.1 69 v3.toNatClampNeg) = v1 then F_X8_isIn_30 (F_X8_isIn_4 n) v1 v3 (1 <<< (v3 &&& 31)) v2 st else F_X8_isIn_30 (F_X8_isIn_4 n) v1 v3 0 v2 st)
set_option maxRecDepth 100000 in
set_option maxHeartbeats 4000000 in
theorem Z_X8_isIn_4 {l : Launch} {X : Cx} (hX : Ok X) {p : Program} {e : Env} {s : State} {m : MethodId} {args : Array Value} {below : List Frame} {meth : Method} {c : Code} {rr : Int32} {st' : St} (hh : Hy X p s m args meth c cX8_isIn 4 RX8) (hr : meth.sig.returnType = some .int) : ∀ (n : Nat) (v1 : Int32) (v2 : Int32) (v3 : Int32) (st : St), F_X8_isIn_4 n v1 v2 v3 st = some (rr, st') → Z X p l e (rmk 0) s m args below meth c 4 (MQ below (Qf X (some (.int rr)) st') args s 0 0 (cA X)) 4 [(0, .ref (X.2.1 59)), (1, .int v1), (2, .int v2), (3, .int v3)] [] st := by
  intro n
  induction n with
  | zero =>
    intro v1 v2 v3 st hf
    cases hf
  | succ n ih =>
    intro v1 v2 v3 st hf
    rw [F_X8_isIn_4] at hf
    refine x_iload_n hh dX8_isIn_4 rfl 3 rfl 5 rfl ?_
    refine x_aload_n hh dX8_isIn_5 rfl 0 rfl 6 rfl ?_
    refine x_getI hh cl_8 dX8_isIn_6 sh_59 3 rfl (Nat.le_of_ble_eq_true rfl) wd_803 9 rfl ?_
    refine x_icmp_ge hh dX8_isIn_9 38 rfl 12 rfl (fun hc1 => ?_) (fun hc1 => ?_)
    · have hf := t_pos hc1 hf
      refine x_iload_n hh dX8_isIn_38 rfl 2 rfl 39 rfl ?_
      obtain ⟨rfl, rfl⟩ := ret2 hf
      exact x_iret hh hr dX8_isIn_39
    · have hf := t_neg hc1 hf
      refine x_iload_n hh dX8_isIn_12 rfl 2 rfl 13 rfl ?_
      refine x_aload_n hh dX8_isIn_13 rfl 0 rfl 14 rfl ?_
      refine x_getR hh cl_8 dX8_isIn_14 sh_59 13 69 rfl (Nat.le_of_ble_eq_true rfl) wd_813 17 rfl ?_
      refine x_iload_n hh dX8_isIn_17 rfl 3 rfl 18 rfl ?_
      obtain ⟨hi2, hf⟩ := gi_some hf
      refine x_iaload hh dX8_isIn_18 sh_69 hi2 19 rfl ?_
      refine x_iload_n hh dX8_isIn_19 rfl 1 rfl 20 rfl ?_
      refine x_icmp_ne hh dX8_isIn_20 29 rfl 23 rfl (fun hc3 => ?_) (fun hc3 => ?_)
      · have hf := t_neg hc3 hf
        refine x_iconst hh dX8_isIn_29 0 rfl 30 rfl ?_
        refine x_sub (lv' := [(0, .ref (X.2.1 59)), (1, .int v1), (3, .int v3)]) [0, 1, 3] rfl ?_
        exact Z_X8_isIn_30 hX hh hr ih  v1 v3 0 v2 st hf
      · have hf := t_pos hc3 hf
        refine x_iconst hh dX8_isIn_23 1 rfl 24 rfl ?_
        refine x_iload_n hh dX8_isIn_24 rfl 3 rfl 25 rfl ?_
        refine x_ishl hh dX8_isIn_25 26 rfl ?_
        refine x_goto hh dX8_isIn_26 30 rfl ?_
        refine x_sub (lv' := [(0, .ref (X.2.1 59)), (1, .int v1), (3, .int v3)]) [0, 1, 3] rfl ?_
        exact Z_X8_isIn_30 hX hh hr ih  v1 v3 (1 <<< (v3 &&& 31)) v2 st hf
def F_X8_isIn_0 (v1 : Int32) (st : St) : Option (Int32 × St) := F_X8_isIn_4 fN v1 0 0 st
set_option maxRecDepth 100000 in
set_option maxHeartbeats 4000000 in
theorem Z_X8_isIn_0 {l : Launch} {X : Cx} (hX : Ok X) {p : Program} {e : Env} {s : State} {m : MethodId} {args : Array Value} {below : List Frame} {meth : Method} {c : Code} {rr : Int32} {st' : St} (hh : Hy X p s m args meth c cX8_isIn 4 RX8) (hr : meth.sig.returnType = some .int) (v1 : Int32) (st : St) (hf : F_X8_isIn_0 v1 st = some (rr, st')) : Z X p l e (rmk 0) s m args below meth c 4 (MQ below (Qf X (some (.int rr)) st') args s 0 0 (cA X)) 0 [(0, .ref (X.2.1 59)), (1, .int v1)] [] st := by
  unfold F_X8_isIn_0 at hf
  refine x_iconst hh dX8_isIn_0 0 rfl 1 rfl ?_
  refine x_istore_n hh dX8_isIn_1 rfl (by decide) [(2, .int 0), (0, .ref (X.2.1 59)), (1, .int v1)] rfl 2 rfl ?_
  refine x_iconst hh dX8_isIn_2 0 rfl 3 rfl ?_
  refine x_istore_n hh dX8_isIn_3 rfl (by decide) [(3, .int 0), (2, .int 0), (0, .ref (X.2.1 59)), (1, .int v1)] rfl 4 rfl ?_
  refine x_sub (lv' := [(0, .ref (X.2.1 59)), (1, .int v1), (2, .int 0), (3, .int 0)]) [2, 3, 1, 0] rfl ?_
  exact Z_X8_isIn_4 hX hh hr fN v1 0 0 st hf
def F_X8_isIn (v1 : Int32) (st : St) : Option (Int32 × St) := F_X8_isIn_0  v1 st
set_option maxRecDepth 100000 in
theorem C_X8_isIn (l : Launch) {X : Cx} (hX : Ok X) {v1 : Int32} {st : St} {q : Int32 × St} (hf : F_X8_isIn v1 st = some q) : Ct l X 0 yX8_isIn (.code yX8_isIn cX8_isIn 4 (some .int)) [.ref (X.2.1 59), .int v1] st (some (.int q.1)) q.2 := by
  refine Ct.of hX (by decide) (Nat.le_of_ble_eq_true rfl) ?_
  intro p e s m args below meth c hh hr
  exact Z_X8_isIn_0 hX hh hr v1 st hf

def F_X8_mayCome_23 (t0 : Int32) (st : St) : Option (Int32 × St) := gb t0 (some (t0, st))
set_option maxRecDepth 100000 in
set_option maxHeartbeats 4000000 in
theorem Z_X8_mayCome_23 {l : Launch} {X : Cx} (hX : Ok X) {p : Program} {e : Env} {s : State} {m : MethodId} {args : Array Value} {below : List Frame} {meth : Method} {c : Code} {rr : Int32} {st' : St} (hh : Hy X p s m args meth c cX8_mayCome 4 RX8) (hr : meth.sig.returnType = some .boolean) (t0 : Int32) (st : St) (hf : F_X8_mayCome_23 t0 st = some (rr, st')) : Z X p l e (rmk 1) s m args below meth c 4 (MQ below (Qf X (some (.int rr)) st') args s 0 0 (cA X)) 23 [(0, .ref (X.2.1 59))] [.int t0] st := by
  unfold F_X8_mayCome_23 at hf
  obtain ⟨hb5, hf⟩ := gb_some hf
  obtain ⟨rfl, rfl⟩ := ret2 hf
  exact x_zret hh hr (nb_n hb5) dX8_mayCome_23
def F_X8_mayCome_22 (st : St) : Option (Int32 × St) := F_X8_mayCome_23 0 st
set_option maxRecDepth 100000 in
set_option maxHeartbeats 4000000 in
theorem Z_X8_mayCome_22 {l : Launch} {X : Cx} (hX : Ok X) {p : Program} {e : Env} {s : State} {m : MethodId} {args : Array Value} {below : List Frame} {meth : Method} {c : Code} {rr : Int32} {st' : St} (hh : Hy X p s m args meth c cX8_mayCome 4 RX8) (hr : meth.sig.returnType = some .boolean) (st : St) (hf : F_X8_mayCome_22 st = some (rr, st')) : Z X p l e (rmk 1) s m args below meth c 4 (MQ below (Qf X (some (.int rr)) st') args s 0 0 (cA X)) 22 [(0, .ref (X.2.1 59))] [] st := by
  unfold F_X8_mayCome_22 at hf
  refine x_iconst hh dX8_mayCome_22 0 rfl 23 rfl ?_
  exact Z_X8_mayCome_23 hX hh hr  0 st hf
def F_X8_mayCome_0 (v1 : Int32) (v2 : Int32) (v3 : Int32) (st : St) : Option (Int32 × St) := gi v1 6 (if (0 : Int32) ≤ (st.1 69 v1.toNatClampNeg) then F_X8_mayCome_22 st else (F_X8_whoAt v2 v3 st).bind (fun q3 => if (0 : Int32) ≤ q3.1 then F_X8_mayCome_22 q3.2 else F_X8_mayCome_23 1 q3.2))
set_option maxRecDepth 100000 in
set_option maxHeartbeats 4000000 in
theorem Z_X8_mayCome_0 {l : Launch} {X : Cx} (hX : Ok X) {p : Program} {e : Env} {s : State} {m : MethodId} {args : Array Value} {below : List Frame} {meth : Method} {c : Code} {rr : Int32} {st' : St} (hh : Hy X p s m args meth c cX8_mayCome 4 RX8) (hr : meth.sig.returnType = some .boolean) (v1 : Int32) (v2 : Int32) (v3 : Int32) (st : St) (hf : F_X8_mayCome_0 v1 v2 v3 st = some (rr, st')) : Z X p l e (rmk 1) s m args below meth c 4 (MQ below (Qf X (some (.int rr)) st') args s 0 0 (cA X)) 0 [(0, .ref (X.2.1 59)), (1, .int v1), (2, .int v2), (3, .int v3)] [] st := by
  unfold F_X8_mayCome_0 at hf
  refine x_aload_n hh dX8_mayCome_0 rfl 0 rfl 1 rfl ?_
  refine x_getR hh cl_8 dX8_mayCome_1 sh_59 13 69 rfl (Nat.le_of_ble_eq_true rfl) wd_813 4 rfl ?_
  refine x_iload_n hh dX8_mayCome_4 rfl 1 rfl 5 rfl ?_
  obtain ⟨hi1, hf⟩ := gi_some hf
  refine x_iaload hh dX8_mayCome_5 sh_69 hi1 6 rfl ?_
  refine x_if_ge hh dX8_mayCome_6 22 rfl 9 rfl (fun hc2 => ?_) (fun hc2 => ?_)
  · have hf := t_pos hc2 hf
    refine x_sub (lv' := [(0, .ref (X.2.1 59))]) [0] rfl ?_
    exact Z_X8_mayCome_22 hX hh hr  st hf
  · have hf := t_neg hc2 hf
    refine x_aload_n hh dX8_mayCome_9 rfl 0 rfl 10 rfl ?_
    refine x_iload_n hh dX8_mayCome_10 rfl 2 rfl 11 rfl ?_
    refine x_iload_n hh dX8_mayCome_11 rfl 3 rfl 12 rfl ?_
    obtain ⟨q3, hq3, hf⟩ := b_some hf
    refine x_callV (rest := []) hh mi_X8_whoAt [.int v2, .int v3] dX8_mayCome_12 sh_59 wd_981 (C_X8_whoAt l hX  hq3) rfl rfl ⟨Nat.le_of_ble_eq_true rfl, Nat.le_of_ble_eq_true rfl⟩ (Nat.le_of_ble_eq_true rfl) 15 rfl [.int q3.1] rfl ?_
    refine x_if_ge hh dX8_mayCome_15 22 rfl 18 rfl (fun hc4 => ?_) (fun hc4 => ?_)
    · have hf := t_pos hc4 hf
      refine x_sub (lv' := [(0, .ref (X.2.1 59))]) [0] rfl ?_
      exact Z_X8_mayCome_22 hX hh hr  q3.2 hf
    · have hf := t_neg hc4 hf
      refine x_iconst hh dX8_mayCome_18 1 rfl 19 rfl ?_
      refine x_goto hh dX8_mayCome_19 23 rfl ?_
      refine x_sub (lv' := [(0, .ref (X.2.1 59))]) [0] rfl ?_
      exact Z_X8_mayCome_23 hX hh hr  1 q3.2 hf
def F_X8_mayCome (v1 : Int32) (v2 : Int32) (v3 : Int32) (st : St) : Option (Int32 × St) := F_X8_mayCome_0  v1 v2 v3 st
set_option maxRecDepth 100000 in
theorem C_X8_mayCome (l : Launch) {X : Cx} (hX : Ok X) {v1 : Int32} {v2 : Int32} {v3 : Int32} {st : St} {q : Int32 × St} (hf : F_X8_mayCome v1 v2 v3 st = some q) : Ct l X 1 yX8_mayCome (.code yX8_mayCome cX8_mayCome 4 (some .boolean)) [.ref (X.2.1 59), .int v1, .int v2, .int v3] st (some (.int q.1)) q.2 := by
  refine Ct.of hX (by decide) (Nat.le_of_ble_eq_true rfl) ?_
  intro p e s m args below meth c hh hr
  exact Z_X8_mayCome_0 hX hh hr v1 v2 v3 st hf

def F_X8_put_17 (st : St) : Option (Int32 × St) := some ((-1000000001), st)
set_option maxRecDepth 100000 in
set_option maxHeartbeats 4000000 in
theorem Z_X8_put_17 {l : Launch} {X : Cx} (hX : Ok X) {p : Program} {e : Env} {s : State} {m : MethodId} {args : Array Value} {below : List Frame} {meth : Method} {c : Code} {rr : Int32} {st' : St} (hh : Hy X p s m args meth c cX8_put 4 RX8) (hr : meth.sig.returnType = some .int) (st : St) (hf : F_X8_put_17 st = some (rr, st')) : Z X p l e (rmk 3) s m args below meth c 4 (MQ below (Qf X (some (.int rr)) st') args s 0 0 (cA X)) 17 [(0, .ref (X.2.1 59))] [] st := by
  unfold F_X8_put_17 at hf
  refine x_ldc hh dX8_put_17 wd_980 19 rfl ?_
  obtain ⟨rfl, rfl⟩ := ret2 hf
  exact x_iret hh hr dX8_put_19
def F_X8_put_0 (v1 : Int32) (v2 : Int32) (v3 : Int32) (st : St) : Option (Int32 × St) := (F_X8_isPerson v1 st).bind (fun q1 => if q1.1 = 0 then F_X8_put_17 q1.2 else (F_X8_isPlace v2 v3 q1.2).bind (fun q3 => if q3.1 = 0 then F_X8_put_17 q3.2 else (F_X8_mayCome v1 v2 v3 q3.2).bind (fun q5 => if q5.1 = 0 then some ((-1000000003), q5.2) else gi v1 6 (bs (sV q5.2 69 v1.toNatClampNeg v2) (fun st8 => gi v1 6 (bs (sV st8 70 v1.toNatClampNeg v3) (fun st10 => (F_X8_isIn v2 st10).bind (fun q11 => some (q11.1, q11.2)))))))))
set_option maxRecDepth 100000 in
set_option maxHeartbeats 4000000 in
theorem Z_X8_put_0 {l : Launch} {X : Cx} (hX : Ok X) {p : Program} {e : Env} {s : State} {m : MethodId} {args : Array Value} {below : List Frame} {meth : Method} {c : Code} {rr : Int32} {st' : St} (hh : Hy X p s m args meth c cX8_put 4 RX8) (hr : meth.sig.returnType = some .int) (v1 : Int32) (v2 : Int32) (v3 : Int32) (st : St) (hf : F_X8_put_0 v1 v2 v3 st = some (rr, st')) : Z X p l e (rmk 3) s m args below meth c 4 (MQ below (Qf X (some (.int rr)) st') args s 0 0 (cA X)) 0 [(0, .ref (X.2.1 59)), (1, .int v1), (2, .int v2), (3, .int v3)] [] st := by
  unfold F_X8_put_0 at hf
  refine x_aload_n hh dX8_put_0 rfl 0 rfl 1 rfl ?_
  refine x_iload_n hh dX8_put_1 rfl 1 rfl 2 rfl ?_
  obtain ⟨q1, hq1, hf⟩ := b_some hf
  refine x_callV (rest := []) hh mi_X8_isPerson [.int v1] dX8_put_2 sh_59 wd_988 (C_X8_isPerson l hX  hq1) rfl rfl ⟨Nat.le_of_ble_eq_true rfl, Nat.le_of_ble_eq_true rfl⟩ (Nat.le_of_ble_eq_true rfl) 5 rfl [.int q1.1] rfl ?_
  refine x_if_eq hh dX8_put_5 17 rfl 8 rfl (fun hc2 => ?_) (fun hc2 => ?_)
  · have hf := t_pos hc2 hf
    refine x_sub (lv' := [(0, .ref (X.2.1 59))]) [0] rfl ?_
    exact Z_X8_put_17 hX hh hr  q1.2 hf
  · have hf := t_neg hc2 hf
    refine x_aload_n hh dX8_put_8 rfl 0 rfl 9 rfl ?_
    refine x_iload_n hh dX8_put_9 rfl 2 rfl 10 rfl ?_
    refine x_iload_n hh dX8_put_10 rfl 3 rfl 11 rfl ?_
    obtain ⟨q3, hq3, hf⟩ := b_some hf
    refine x_callV (rest := []) hh mi_X8_isPlace [.int v2, .int v3] dX8_put_11 sh_59 wd_977 (C_X8_isPlace l hX  hq3) rfl rfl ⟨Nat.le_of_ble_eq_true rfl, Nat.le_of_ble_eq_true rfl⟩ (Nat.le_of_ble_eq_true rfl) 14 rfl [.int q3.1] rfl ?_
    refine x_if_ne hh dX8_put_14 20 rfl 17 rfl (fun hc4 => ?_) (fun hc4 => ?_)
    · have hf := t_neg hc4 hf
      refine x_aload_n hh dX8_put_20 rfl 0 rfl 21 rfl ?_
      refine x_iload_n hh dX8_put_21 rfl 1 rfl 22 rfl ?_
      refine x_iload_n hh dX8_put_22 rfl 2 rfl 23 rfl ?_
      refine x_iload_n hh dX8_put_23 rfl 3 rfl 24 rfl ?_
      obtain ⟨q5, hq5, hf⟩ := b_some hf
      refine x_callV (rest := []) hh mi_X8_mayCome [.int v1, .int v2, .int v3] dX8_put_24 sh_59 wd_1009 (C_X8_mayCome l hX  hq5) rfl rfl ⟨Nat.le_of_ble_eq_true rfl, Nat.le_of_ble_eq_true rfl⟩ (Nat.le_of_ble_eq_true rfl) 27 rfl [.int q5.1] rfl ?_
      refine x_if_ne hh dX8_put_27 34 rfl 30 rfl (fun hc6 => ?_) (fun hc6 => ?_)
      · have hf := t_neg hc6 hf
        refine x_aload_n hh dX8_put_34 rfl 0 rfl 35 rfl ?_
        refine x_getR hh cl_8 dX8_put_35 sh_59 13 69 rfl (Nat.le_of_ble_eq_true rfl) wd_813 38 rfl ?_
        refine x_iload_n hh dX8_put_38 rfl 1 rfl 39 rfl ?_
        refine x_iload_n hh dX8_put_39 rfl 2 rfl 40 rfl ?_
        obtain ⟨hi7, hf⟩ := gi_some hf
        obtain ⟨st8, est8, hf⟩ := bs_some hf
        refine x_iastore hh dX8_put_40 sh_69 hi7 41 rfl st8 est8 ?_
        refine x_aload_n hh dX8_put_41 rfl 0 rfl 42 rfl ?_
        refine x_getR hh cl_8 dX8_put_42 sh_59 14 70 rfl (Nat.le_of_ble_eq_true rfl) wd_814 45 rfl ?_
        refine x_iload_n hh dX8_put_45 rfl 1 rfl 46 rfl ?_
        refine x_iload_n hh dX8_put_46 rfl 3 rfl 47 rfl ?_
        obtain ⟨hi9, hf⟩ := gi_some hf
        obtain ⟨st10, est10, hf⟩ := bs_some hf
        refine x_iastore hh dX8_put_47 sh_70 hi9 48 rfl st10 est10 ?_
        refine x_aload_n hh dX8_put_48 rfl 0 rfl 49 rfl ?_
        refine x_iload_n hh dX8_put_49 rfl 2 rfl 50 rfl ?_
        obtain ⟨q11, hq11, hf⟩ := b_some hf
        refine x_callV (rest := []) hh mi_X8_isIn [.int v2] dX8_put_50 sh_59 wd_1013 (C_X8_isIn l hX  hq11) rfl rfl ⟨Nat.le_of_ble_eq_true rfl, Nat.le_of_ble_eq_true rfl⟩ (Nat.le_of_ble_eq_true rfl) 53 rfl [.int q11.1] rfl ?_
        obtain ⟨rfl, rfl⟩ := ret2 hf
        exact x_iret hh hr dX8_put_53
      · have hf := t_pos hc6 hf
        refine x_ldc_w hh dX8_put_30 wd_1012 33 rfl ?_
        obtain ⟨rfl, rfl⟩ := ret2 hf
        exact x_iret hh hr dX8_put_33
    · have hf := t_pos hc4 hf
      refine x_sub (lv' := [(0, .ref (X.2.1 59))]) [0] rfl ?_
      exact Z_X8_put_17 hX hh hr  q3.2 hf
def F_X8_put (v1 : Int32) (v2 : Int32) (v3 : Int32) (st : St) : Option (Int32 × St) := F_X8_put_0  v1 v2 v3 st
set_option maxRecDepth 100000 in
theorem C_X8_put (l : Launch) {X : Cx} (hX : Ok X) {v1 : Int32} {v2 : Int32} {v3 : Int32} {st : St} {q : Int32 × St} (hf : F_X8_put v1 v2 v3 st = some q) : Ct l X 3 yX8_put (.code yX8_put cX8_put 4 (some .int)) [.ref (X.2.1 59), .int v1, .int v2, .int v3] st (some (.int q.1)) q.2 := by
  refine Ct.of hX (by decide) (Nat.le_of_ble_eq_true rfl) ?_
  intro p e s m args below meth c hh hr
  exact Z_X8_put_0 hX hh hr v1 v2 v3 st hf

def F_X8_leaveNow_0 (v1 : Int32) (st : St) : Option (St) := gi v1 6 (bs (sV st 69 v1.toNatClampNeg ((-1))) (fun st2 => gi v1 6 (bs (sV st2 70 v1.toNatClampNeg ((-1))) (fun st4 => gi v1 6 (bs (sV st4 71 v1.toNatClampNeg 0) (fun st6 => some st6))))))
set_option maxRecDepth 100000 in
set_option maxHeartbeats 4000000 in
theorem Z_X8_leaveNow_0 {l : Launch} {X : Cx} (hX : Ok X) {p : Program} {e : Env} {s : State} {m : MethodId} {args : Array Value} {below : List Frame} {meth : Method} {c : Code} {st' : St} (hh : Hy X p s m args meth c cX8_leaveNow 2 RX8) (hr : meth.sig.returnType = none) (v1 : Int32) (st : St) (hf : F_X8_leaveNow_0 v1 st = some st') : Z X p l e (rmk 0) s m args below meth c 2 (MQ below (Qf X none st') args s 0 0 (cA X)) 0 [(0, .ref (X.2.1 59)), (1, .int v1)] [] st := by
  unfold F_X8_leaveNow_0 at hf
  refine x_aload_n hh dX8_leaveNow_0 rfl 0 rfl 1 rfl ?_
  refine x_getR hh cl_8 dX8_leaveNow_1 sh_59 13 69 rfl (Nat.le_of_ble_eq_true rfl) wd_813 4 rfl ?_
  refine x_iload_n hh dX8_leaveNow_4 rfl 1 rfl 5 rfl ?_
  refine x_iconst hh dX8_leaveNow_5 (-1) rfl 6 rfl ?_
  obtain ⟨hi1, hf⟩ := gi_some hf
  obtain ⟨st2, est2, hf⟩ := bs_some hf
  refine x_iastore hh dX8_leaveNow_6 sh_69 hi1 7 rfl st2 est2 ?_
  refine x_aload_n hh dX8_leaveNow_7 rfl 0 rfl 8 rfl ?_
  refine x_getR hh cl_8 dX8_leaveNow_8 sh_59 14 70 rfl (Nat.le_of_ble_eq_true rfl) wd_814 11 rfl ?_
  refine x_iload_n hh dX8_leaveNow_11 rfl 1 rfl 12 rfl ?_
  refine x_iconst hh dX8_leaveNow_12 (-1) rfl 13 rfl ?_
  obtain ⟨hi3, hf⟩ := gi_some hf
  obtain ⟨st4, est4, hf⟩ := bs_some hf
  refine x_iastore hh dX8_leaveNow_13 sh_70 hi3 14 rfl st4 est4 ?_
  refine x_aload_n hh dX8_leaveNow_14 rfl 0 rfl 15 rfl ?_
  refine x_getR hh cl_8 dX8_leaveNow_15 sh_59 15 71 rfl (Nat.le_of_ble_eq_true rfl) wd_815 18 rfl ?_
  refine x_iload_n hh dX8_leaveNow_18 rfl 1 rfl 19 rfl ?_
  refine x_iconst hh dX8_leaveNow_19 0 rfl 20 rfl ?_
  obtain ⟨hi5, hf⟩ := gi_some hf
  obtain ⟨st6, est6, hf⟩ := bs_some hf
  refine x_iastore hh dX8_leaveNow_20 sh_71 hi5 21 rfl st6 est6 ?_
  obtain rfl := ret1 hf
  exact x_vret hh hr dX8_leaveNow_21
def F_X8_leaveNow (v1 : Int32) (st : St) : Option (St) := F_X8_leaveNow_0  v1 st
set_option maxRecDepth 100000 in
theorem C_X8_leaveNow (l : Launch) {X : Cx} (hX : Ok X) {v1 : Int32} {st : St} {q : St} (hf : F_X8_leaveNow v1 st = some q) : Ct l X 0 yX8_leaveNow (.code yX8_leaveNow cX8_leaveNow 2 (none)) [.ref (X.2.1 59), .int v1] st none q := by
  refine Ct.of hX (by decide) (Nat.le_of_ble_eq_true rfl) ?_
  intro p e s m args below meth c hh hr
  exact Z_X8_leaveNow_0 hX hh hr v1 st hf

def F_X8_leave_0 (v1 : Int32) (st : St) : Option (Int32 × St) := (F_X8_isPerson v1 st).bind (fun q1 => if q1.1 = 0 then some ((-1000000001), q1.2) else gi v1 6 (if (0 : Int32) ≤ (q1.2.1 69 v1.toNatClampNeg) then gi v1 6 ((F_X8_leaveNow v1 q1.2).bind (fun q6 => some (q1.2.1 69 v1.toNatClampNeg, q6))) else some ((-1000000003), q1.2)))
set_option maxRecDepth 100000 in
set_option maxHeartbeats 4000000 in
theorem Z_X8_leave_0 {l : Launch} {X : Cx} (hX : Ok X) {p : Program} {e : Env} {s : State} {m : MethodId} {args : Array Value} {below : List Frame} {meth : Method} {c : Code} {rr : Int32} {st' : St} (hh : Hy X p s m args meth c cX8_leave 3 RX8) (hr : meth.sig.returnType = some .int) (v1 : Int32) (st : St) (hf : F_X8_leave_0 v1 st = some (rr, st')) : Z X p l e (rmk 2) s m args below meth c 3 (MQ below (Qf X (some (.int rr)) st') args s 0 0 (cA X)) 0 [(0, .ref (X.2.1 59)), (1, .int v1)] [] st := by
  unfold F_X8_leave_0 at hf
  refine x_aload_n hh dX8_leave_0 rfl 0 rfl 1 rfl ?_
  refine x_iload_n hh dX8_leave_1 rfl 1 rfl 2 rfl ?_
  obtain ⟨q1, hq1, hf⟩ := b_some hf
  refine x_callV (rest := []) hh mi_X8_isPerson [.int v1] dX8_leave_2 sh_59 wd_988 (C_X8_isPerson l hX  hq1) rfl rfl ⟨Nat.le_of_ble_eq_true rfl, Nat.le_of_ble_eq_true rfl⟩ (Nat.le_of_ble_eq_true rfl) 5 rfl [.int q1.1] rfl ?_
  refine x_if_ne hh dX8_leave_5 11 rfl 8 rfl (fun hc2 => ?_) (fun hc2 => ?_)
  · have hf := t_neg hc2 hf
    refine x_aload_n hh dX8_leave_11 rfl 0 rfl 12 rfl ?_
    refine x_getR hh cl_8 dX8_leave_12 sh_59 13 69 rfl (Nat.le_of_ble_eq_true rfl) wd_813 15 rfl ?_
    refine x_iload_n hh dX8_leave_15 rfl 1 rfl 16 rfl ?_
    obtain ⟨hi3, hf⟩ := gi_some hf
    refine x_iaload hh dX8_leave_16 sh_69 hi3 17 rfl ?_
    refine x_if_ge hh dX8_leave_17 24 rfl 20 rfl (fun hc4 => ?_) (fun hc4 => ?_)
    · have hf := t_pos hc4 hf
      refine x_aload_n hh dX8_leave_24 rfl 0 rfl 25 rfl ?_
      refine x_getR hh cl_8 dX8_leave_25 sh_59 13 69 rfl (Nat.le_of_ble_eq_true rfl) wd_813 28 rfl ?_
      refine x_iload_n hh dX8_leave_28 rfl 1 rfl 29 rfl ?_
      obtain ⟨hi5, hf⟩ := gi_some hf
      refine x_iaload hh dX8_leave_29 sh_69 hi5 30 rfl ?_
      refine x_istore_n hh dX8_leave_30 rfl (by decide) [(2, .int (q1.2.1 69 v1.toNatClampNeg)), (0, .ref (X.2.1 59)), (1, .int v1)] rfl 31 rfl ?_
      refine x_aload_n hh dX8_leave_31 rfl 1 rfl 32 rfl ?_
      refine x_iload_n hh dX8_leave_32 rfl 2 rfl 33 rfl ?_
      obtain ⟨q6, hq6, hf⟩ := b_some hf
      refine x_callV (rest := []) hh mi_X8_leaveNow [.int v1] dX8_leave_33 sh_59 wd_1020 (C_X8_leaveNow l hX  hq6) rfl rfl ⟨Nat.le_of_ble_eq_true rfl, Nat.le_of_ble_eq_true rfl⟩ (Nat.le_of_ble_eq_true rfl) 36 rfl [] rfl ?_
      refine x_iload_n hh dX8_leave_36 rfl 0 rfl 37 rfl ?_
      obtain ⟨rfl, rfl⟩ := ret2 hf
      exact x_iret hh hr dX8_leave_37
    · have hf := t_neg hc4 hf
      refine x_ldc_w hh dX8_leave_20 wd_1012 23 rfl ?_
      obtain ⟨rfl, rfl⟩ := ret2 hf
      exact x_iret hh hr dX8_leave_23
  · have hf := t_pos hc2 hf
    refine x_ldc hh dX8_leave_8 wd_980 10 rfl ?_
    obtain ⟨rfl, rfl⟩ := ret2 hf
    exact x_iret hh hr dX8_leave_10
def F_X8_leave (v1 : Int32) (st : St) : Option (Int32 × St) := F_X8_leave_0  v1 st
set_option maxRecDepth 100000 in
theorem C_X8_leave (l : Launch) {X : Cx} (hX : Ok X) {v1 : Int32} {st : St} {q : Int32 × St} (hf : F_X8_leave v1 st = some q) : Ct l X 2 yX8_leave (.code yX8_leave cX8_leave 3 (some .int)) [.ref (X.2.1 59), .int v1] st (some (.int q.1)) q.2 := by
  refine Ct.of hX (by decide) (Nat.le_of_ble_eq_true rfl) ?_
  intro p e s m args below meth c hh hr
  exact Z_X8_leave_0 hX hh hr v1 st hf

def F_X8_bend_0 (v1 : Int32) (v2 : Int32) (st : St) : Option (Int32 × St) := (F_X8_isPerson v1 st).bind (fun q1 => if q1.1 = 0 then some ((-1000000001), q1.2) else gi v1 6 ((F_X8_in v2.toInt64 0 ((q1.2.1 64 v1.toNatClampNeg).toInt64) q1.2).bind (fun q4 => if q4.1 = 0 then some ((-1000000002), q4.2) else gi v1 6 (if (0 : Int32) ≤ (q4.2.1 69 v1.toNatClampNeg) then gi v1 6 (gi v1 6 (bs (sV q4.2 71 v1.toNatClampNeg v2) (fun st10 => some (q4.2.1 71 v1.toNatClampNeg, st10)))) else some ((-1000000003), q4.2)))))
set_option maxRecDepth 100000 in
set_option maxHeartbeats 4000000 in
theorem Z_X8_bend_0 {l : Launch} {X : Cx} (hX : Ok X) {p : Program} {e : Env} {s : State} {m : MethodId} {args : Array Value} {below : List Frame} {meth : Method} {c : Code} {rr : Int32} {st' : St} (hh : Hy X p s m args meth c cX8_bend 4 RX8) (hr : meth.sig.returnType = some .int) (v1 : Int32) (v2 : Int32) (st : St) (hf : F_X8_bend_0 v1 v2 st = some (rr, st')) : Z X p l e (rmk 2) s m args below meth c 4 (MQ below (Qf X (some (.int rr)) st') args s 0 0 (cA X)) 0 [(0, .ref (X.2.1 59)), (1, .int v1), (2, .int v2)] [] st := by
  unfold F_X8_bend_0 at hf
  refine x_aload_n hh dX8_bend_0 rfl 0 rfl 1 rfl ?_
  refine x_iload_n hh dX8_bend_1 rfl 1 rfl 2 rfl ?_
  obtain ⟨q1, hq1, hf⟩ := b_some hf
  refine x_callV (rest := []) hh mi_X8_isPerson [.int v1] dX8_bend_2 sh_59 wd_988 (C_X8_isPerson l hX  hq1) rfl rfl ⟨Nat.le_of_ble_eq_true rfl, Nat.le_of_ble_eq_true rfl⟩ (Nat.le_of_ble_eq_true rfl) 5 rfl [.int q1.1] rfl ?_
  refine x_if_ne hh dX8_bend_5 11 rfl 8 rfl (fun hc2 => ?_) (fun hc2 => ?_)
  · have hf := t_neg hc2 hf
    refine x_iload_n hh dX8_bend_11 rfl 2 rfl 12 rfl ?_
    refine x_i2l hh dX8_bend_12 13 rfl ?_
    refine x_lconst hh dX8_bend_13 0 rfl 14 rfl ?_
    refine x_aload_n hh dX8_bend_14 rfl 0 rfl 15 rfl ?_
    refine x_getR hh cl_8 dX8_bend_15 sh_59 6 64 rfl (Nat.le_of_ble_eq_true rfl) wd_806 18 rfl ?_
    refine x_iload_n hh dX8_bend_18 rfl 1 rfl 19 rfl ?_
    obtain ⟨hi3, hf⟩ := gi_some hf
    refine x_iaload hh dX8_bend_19 sh_64 hi3 20 rfl ?_
    refine x_i2l hh dX8_bend_20 21 rfl ?_
    obtain ⟨q4, hq4, hf⟩ := b_some hf
    refine x_callS (rest := []) hh ms_X8_in [.long v2.toInt64, .long 0, .long ((q1.2.1 64 v1.toNatClampNeg).toInt64)] dX8_bend_21 wd_907 (C_X8_in l hX  hq4) rfl rfl ⟨Nat.le_of_ble_eq_true rfl, Nat.le_of_ble_eq_true rfl⟩ (Nat.le_of_ble_eq_true rfl) 24 rfl [.int q4.1] rfl ?_
    refine x_if_ne hh dX8_bend_24 30 rfl 27 rfl (fun hc5 => ?_) (fun hc5 => ?_)
    · have hf := t_neg hc5 hf
      refine x_aload_n hh dX8_bend_30 rfl 0 rfl 31 rfl ?_
      refine x_getR hh cl_8 dX8_bend_31 sh_59 13 69 rfl (Nat.le_of_ble_eq_true rfl) wd_813 34 rfl ?_
      refine x_iload_n hh dX8_bend_34 rfl 1 rfl 35 rfl ?_
      obtain ⟨hi6, hf⟩ := gi_some hf
      refine x_iaload hh dX8_bend_35 sh_69 hi6 36 rfl ?_
      refine x_if_ge hh dX8_bend_36 43 rfl 39 rfl (fun hc7 => ?_) (fun hc7 => ?_)
      · have hf := t_pos hc7 hf
        refine x_aload_n hh dX8_bend_43 rfl 0 rfl 44 rfl ?_
        refine x_getR hh cl_8 dX8_bend_44 sh_59 15 71 rfl (Nat.le_of_ble_eq_true rfl) wd_815 47 rfl ?_
        refine x_iload_n hh dX8_bend_47 rfl 1 rfl 48 rfl ?_
        obtain ⟨hi8, hf⟩ := gi_some hf
        refine x_iaload hh dX8_bend_48 sh_71 hi8 49 rfl ?_
        refine x_istore_n hh dX8_bend_49 rfl (by decide) [(3, .int (q4.2.1 71 v1.toNatClampNeg)), (0, .ref (X.2.1 59)), (1, .int v1), (2, .int v2)] rfl 50 rfl ?_
        refine x_aload_n hh dX8_bend_50 rfl 1 rfl 51 rfl ?_
        refine x_getR hh cl_8 dX8_bend_51 sh_59 15 71 rfl (Nat.le_of_ble_eq_true rfl) wd_815 54 rfl ?_
        refine x_iload_n hh dX8_bend_54 rfl 2 rfl 55 rfl ?_
        refine x_iload_n hh dX8_bend_55 rfl 3 rfl 56 rfl ?_
        obtain ⟨hi9, hf⟩ := gi_some hf
        obtain ⟨st10, est10, hf⟩ := bs_some hf
        refine x_iastore hh dX8_bend_56 sh_71 hi9 57 rfl st10 est10 ?_
        refine x_iload_n hh dX8_bend_57 rfl 0 rfl 58 rfl ?_
        obtain ⟨rfl, rfl⟩ := ret2 hf
        exact x_iret hh hr dX8_bend_58
      · have hf := t_neg hc7 hf
        refine x_ldc_w hh dX8_bend_39 wd_1012 42 rfl ?_
        obtain ⟨rfl, rfl⟩ := ret2 hf
        exact x_iret hh hr dX8_bend_42
    · have hf := t_pos hc5 hf
      refine x_ldc hh dX8_bend_27 wd_910 29 rfl ?_
      obtain ⟨rfl, rfl⟩ := ret2 hf
      exact x_iret hh hr dX8_bend_29
  · have hf := t_pos hc2 hf
    refine x_ldc hh dX8_bend_8 wd_980 10 rfl ?_
    obtain ⟨rfl, rfl⟩ := ret2 hf
    exact x_iret hh hr dX8_bend_10
def F_X8_bend (v1 : Int32) (v2 : Int32) (st : St) : Option (Int32 × St) := F_X8_bend_0  v1 v2 st
set_option maxRecDepth 100000 in
theorem C_X8_bend (l : Launch) {X : Cx} (hX : Ok X) {v1 : Int32} {v2 : Int32} {st : St} {q : Int32 × St} (hf : F_X8_bend v1 v2 st = some q) : Ct l X 2 yX8_bend (.code yX8_bend cX8_bend 4 (some .int)) [.ref (X.2.1 59), .int v1, .int v2] st (some (.int q.1)) q.2 := by
  refine Ct.of hX (by decide) (Nat.le_of_ble_eq_true rfl) ?_
  intro p e s m args below meth c hh hr
  exact Z_X8_bend_0 hX hh hr v1 v2 st hf

def F_X8_has_14 (t0 : Int32) (st : St) : Option (Int32 × St) := gb t0 (some (t0, st))
set_option maxRecDepth 100000 in
set_option maxHeartbeats 4000000 in
theorem Z_X8_has_14 {l : Launch} {X : Cx} (hX : Ok X) {p : Program} {e : Env} {s : State} {m : MethodId} {args : Array Value} {below : List Frame} {meth : Method} {c : Code} {rr : Int32} {st' : St} (hh : Hy X p s m args meth c cX8_has 2 RX8) (hr : meth.sig.returnType = some .boolean) (t0 : Int32) (st : St) (hf : F_X8_has_14 t0 st = some (rr, st')) : Z X p l e (rmk 0) s m args below meth c 2 (MQ below (Qf X (some (.int rr)) st') args s 0 0 (cA X)) 14 [] [.int t0] st := by
  unfold F_X8_has_14 at hf
  obtain ⟨hb2, hf⟩ := gb_some hf
  obtain ⟨rfl, rfl⟩ := ret2 hf
  exact x_zret hh hr (nb_n hb2) dX8_has_14
def F_X8_has_0 (v0 : Int32) (v1 : Int32) (st : St) : Option (Int32 × St) := if ((v0 >>> (v1 &&& 31)) &&& 1) = 1 then F_X8_has_14 1 st else F_X8_has_14 0 st
set_option maxRecDepth 100000 in
set_option maxHeartbeats 4000000 in
theorem Z_X8_has_0 {l : Launch} {X : Cx} (hX : Ok X) {p : Program} {e : Env} {s : State} {m : MethodId} {args : Array Value} {below : List Frame} {meth : Method} {c : Code} {rr : Int32} {st' : St} (hh : Hy X p s m args meth c cX8_has 2 RX8) (hr : meth.sig.returnType = some .boolean) (v0 : Int32) (v1 : Int32) (st : St) (hf : F_X8_has_0 v0 v1 st = some (rr, st')) : Z X p l e (rmk 0) s m args below meth c 2 (MQ below (Qf X (some (.int rr)) st') args s 0 0 (cA X)) 0 [(0, .int v0), (1, .int v1)] [] st := by
  unfold F_X8_has_0 at hf
  refine x_iload_n hh dX8_has_0 rfl 0 rfl 1 rfl ?_
  refine x_iload_n hh dX8_has_1 rfl 1 rfl 2 rfl ?_
  refine x_ishr hh dX8_has_2 3 rfl ?_
  refine x_iconst hh dX8_has_3 1 rfl 4 rfl ?_
  refine x_iand hh dX8_has_4 5 rfl ?_
  refine x_iconst hh dX8_has_5 1 rfl 6 rfl ?_
  refine x_icmp_ne hh dX8_has_6 13 rfl 9 rfl (fun hc1 => ?_) (fun hc1 => ?_)
  · have hf := t_neg hc1 hf
    refine x_iconst hh dX8_has_13 0 rfl 14 rfl ?_
    refine x_sub (lv' := []) [] rfl ?_
    exact Z_X8_has_14 hX hh hr  0 st hf
  · have hf := t_pos hc1 hf
    refine x_iconst hh dX8_has_9 1 rfl 10 rfl ?_
    refine x_goto hh dX8_has_10 14 rfl ?_
    refine x_sub (lv' := []) [] rfl ?_
    exact Z_X8_has_14 hX hh hr  1 st hf
def F_X8_has (v0 : Int32) (v1 : Int32) (st : St) : Option (Int32 × St) := F_X8_has_0  v0 v1 st
set_option maxRecDepth 100000 in
theorem C_X8_has (l : Launch) {X : Cx} (hX : Ok X) {v0 : Int32} {v1 : Int32} {st : St} {q : Int32 × St} (hf : F_X8_has v0 v1 st = some q) : Ct l X 0 yX8_has (.code yX8_has cX8_has 2 (some .boolean)) [.int v0, .int v1] st (some (.int q.1)) q.2 := by
  refine Ct.of hX (by decide) (Nat.le_of_ble_eq_true rfl) ?_
  intro p e s m args below meth c hh hr
  exact Z_X8_has_0 hX hh hr v0 v1 st hf

def F_X8_eldest_44 (k4 : Int32 → Int32 → Int32 → St → Option (Int32 × St)) (v1 : Int32) (v3 : Int32) (t0 : Int32) (st : St) : Option (Int32 × St) := k4 v1 t0 (v3 + 1) st
set_option maxRecDepth 100000 in
set_option maxHeartbeats 4000000 in
theorem Z_X8_eldest_44 {l : Launch} {X : Cx} (hX : Ok X) {p : Program} {e : Env} {s : State} {m : MethodId} {args : Array Value} {below : List Frame} {meth : Method} {c : Code} {rr : Int32} {st' : St} (hh : Hy X p s m args meth c cX8_eldest 4 RX8) (hr : meth.sig.returnType = some .int) {k4 : Int32 → Int32 → Int32 → St → Option (Int32 × St)} (hk4 : ∀ (v1 : Int32) (v2 : Int32) (v3 : Int32) (st : St), k4 v1 v2 v3 st = some (rr, st') → Z X p l e (rmk 1) s m args below meth c 4 (MQ below (Qf X (some (.int rr)) st') args s 0 0 (cA X)) 4 [(0, .ref (X.2.1 59)), (1, .int v1), (2, .int v2), (3, .int v3)] [] st) (v1 : Int32) (v3 : Int32) (t0 : Int32) (st : St) (hf : F_X8_eldest_44 k4 v1 v3 t0 st = some (rr, st')) : Z X p l e (rmk 1) s m args below meth c 4 (MQ below (Qf X (some (.int rr)) st') args s 0 0 (cA X)) 44 [(0, .ref (X.2.1 59)), (1, .int v1), (3, .int v3)] [.int t0] st := by
  unfold F_X8_eldest_44 at hf
  refine x_istore_n hh dX8_eldest_44 rfl (by decide) [(2, .int t0), (0, .ref (X.2.1 59)), (1, .int v1), (3, .int v3)] rfl 45 rfl ?_
  refine x_iinc hh dX8_eldest_45 3 rfl (v3 + 1) rfl (by decide) [(3, .int (v3 + 1)), (2, .int t0), (0, .ref (X.2.1 59)), (1, .int v1)] rfl 48 rfl ?_
  refine x_goto hh dX8_eldest_48 4 rfl ?_
  refine x_sub (lv' := [(0, .ref (X.2.1 59)), (1, .int v1), (2, .int t0), (3, .int (v3 + 1))]) [2, 3, 1, 0] rfl ?_
  exact hk4 v1 t0 (v3 + 1) st hf
def F_X8_eldest_39 (k4 : Int32 → Int32 → Int32 → St → Option (Int32 × St)) (v1 : Int32) (v3 : Int32) (st : St) : Option (Int32 × St) := F_X8_eldest_44 k4 v1 v3 v3 st
set_option maxRecDepth 100000 in
set_option maxHeartbeats 4000000 in
theorem Z_X8_eldest_39 {l : Launch} {X : Cx} (hX : Ok X) {p : Program} {e : Env} {s : State} {m : MethodId} {args : Array Value} {below : List Frame} {meth : Method} {c : Code} {rr : Int32} {st' : St} (hh : Hy X p s m args meth c cX8_eldest 4 RX8) (hr : meth.sig.returnType = some .int) {k4 : Int32 → Int32 → Int32 → St → Option (Int32 × St)} (hk4 : ∀ (v1 : Int32) (v2 : Int32) (v3 : Int32) (st : St), k4 v1 v2 v3 st = some (rr, st') → Z X p l e (rmk 1) s m args below meth c 4 (MQ below (Qf X (some (.int rr)) st') args s 0 0 (cA X)) 4 [(0, .ref (X.2.1 59)), (1, .int v1), (2, .int v2), (3, .int v3)] [] st) (v1 : Int32) (v3 : Int32) (st : St) (hf : F_X8_eldest_39 k4 v1 v3 st = some (rr, st')) : Z X p l e (rmk 1) s m args below meth c 4 (MQ below (Qf X (some (.int rr)) st') args s 0 0 (cA X)) 39 [(0, .ref (X.2.1 59)), (1, .int v1), (3, .int v3)] [] st := by
  unfold F_X8_eldest_39 at hf
  refine x_iload_n hh dX8_eldest_39 rfl 2 rfl 40 rfl ?_
  refine x_goto hh dX8_eldest_40 44 rfl ?_
  exact Z_X8_eldest_44 hX hh hr hk4  v1 v3 v3 st hf
def F_X8_eldest_43 (k4 : Int32 → Int32 → Int32 → St → Option (Int32 × St)) (v1 : Int32) (v2 : Int32) (v3 : Int32) (st : St) : Option (Int32 × St) := F_X8_eldest_44 k4 v1 v3 v2 st
set_option maxRecDepth 100000 in
set_option maxHeartbeats 4000000 in
theorem Z_X8_eldest_43 {l : Launch} {X : Cx} (hX : Ok X) {p : Program} {e : Env} {s : State} {m : MethodId} {args : Array Value} {below : List Frame} {meth : Method} {c : Code} {rr : Int32} {st' : St} (hh : Hy X p s m args meth c cX8_eldest 4 RX8) (hr : meth.sig.returnType = some .int) {k4 : Int32 → Int32 → Int32 → St → Option (Int32 × St)} (hk4 : ∀ (v1 : Int32) (v2 : Int32) (v3 : Int32) (st : St), k4 v1 v2 v3 st = some (rr, st') → Z X p l e (rmk 1) s m args below meth c 4 (MQ below (Qf X (some (.int rr)) st') args s 0 0 (cA X)) 4 [(0, .ref (X.2.1 59)), (1, .int v1), (2, .int v2), (3, .int v3)] [] st) (v1 : Int32) (v2 : Int32) (v3 : Int32) (st : St) (hf : F_X8_eldest_43 k4 v1 v2 v3 st = some (rr, st')) : Z X p l e (rmk 1) s m args below meth c 4 (MQ below (Qf X (some (.int rr)) st') args s 0 0 (cA X)) 43 [(0, .ref (X.2.1 59)), (1, .int v1), (2, .int v2), (3, .int v3)] [] st := by
  unfold F_X8_eldest_43 at hf
  refine x_iload_n hh dX8_eldest_43 rfl 2 rfl 44 rfl ?_
  refine x_sub (lv' := [(0, .ref (X.2.1 59)), (1, .int v1), (3, .int v3)]) [0, 1, 3] rfl ?_
  exact Z_X8_eldest_44 hX hh hr hk4  v1 v3 v2 st hf
def F_X8_eldest_4 : Nat → Int32 → Int32 → Int32 → St → Option (Int32 × St)
  | 0, _, _, _, _ => none
  | n + 1, v1, v2, v3, st => if (st.1 59 3) ≤ v3 then some (v2, st) else (F_X8_has v1 v3 st).bind (fun q2 => if q2.1 = 0 then F_X8_eldest_43 (F_X8_eldest_4 n) v1 v2 v3 q2.2 else if v2 < 0 then F_X8_eldest_39 (F_X8_eldest_4 n) v1 v3 q2.2 else gi v3 6 (gi v2 6 (if (q2.2.1 67 v3.toNatClampNeg) ≤ (q2.2.1 67 v2.toNatClampNeg) then F_X8_eldest_43 (F_X8_eldest_4 n) v1 v2 v3 q2.2 else F_X8_eldest_39 (F_X8_eldest_4 n) v1 v3 q2.2)))
set_option maxRecDepth 100000 in
set_option maxHeartbeats 4000000 in
theorem Z_X8_eldest_4 {l : Launch} {X : Cx} (hX : Ok X) {p : Program} {e : Env} {s : State} {m : MethodId} {args : Array Value} {below : List Frame} {meth : Method} {c : Code} {rr : Int32} {st' : St} (hh : Hy X p s m args meth c cX8_eldest 4 RX8) (hr : meth.sig.returnType = some .int) : ∀ (n : Nat) (v1 : Int32) (v2 : Int32) (v3 : Int32) (st : St), F_X8_eldest_4 n v1 v2 v3 st = some (rr, st') → Z X p l e (rmk 1) s m args below meth c 4 (MQ below (Qf X (some (.int rr)) st') args s 0 0 (cA X)) 4 [(0, .ref (X.2.1 59)), (1, .int v1), (2, .int v2), (3, .int v3)] [] st := by
  intro n
  induction n with
  | zero =>
    intro v1 v2 v3 st hf
    cases hf
  | succ n ih =>
    intro v1 v2 v3 st hf
    rw [F_X8_eldest_4] at hf
    refine x_iload_n hh dX8_eldest_4 rfl 3 rfl 5 rfl ?_
    refine x_aload_n hh dX8_eldest_5 rfl 0 rfl 6 rfl ?_
    refine x_getI hh cl_8 dX8_eldest_6 sh_59 3 rfl (Nat.le_of_ble_eq_true rfl) wd_803 9 rfl ?_
    refine x_icmp_ge hh dX8_eldest_9 51 rfl 12 rfl (fun hc1 => ?_) (fun hc1 => ?_)
    · have hf := t_pos hc1 hf
      refine x_iload_n hh dX8_eldest_51 rfl 2 rfl 52 rfl ?_
      obtain ⟨rfl, rfl⟩ := ret2 hf
      exact x_iret hh hr dX8_eldest_52
    · have hf := t_neg hc1 hf
      refine x_iload_n hh dX8_eldest_12 rfl 1 rfl 13 rfl ?_
      refine x_iload_n hh dX8_eldest_13 rfl 3 rfl 14 rfl ?_
      obtain ⟨q2, hq2, hf⟩ := b_some hf
      refine x_callS (rest := []) hh ms_X8_has [.int v1, .int v3] dX8_eldest_14 wd_1040 (C_X8_has l hX  hq2) rfl rfl ⟨Nat.le_of_ble_eq_true rfl, Nat.le_of_ble_eq_true rfl⟩ (Nat.le_of_ble_eq_true rfl) 17 rfl [.int q2.1] rfl ?_
      refine x_if_eq hh dX8_eldest_17 43 rfl 20 rfl (fun hc3 => ?_) (fun hc3 => ?_)
      · have hf := t_pos hc3 hf
        exact Z_X8_eldest_43 hX hh hr ih  v1 v2 v3 q2.2 hf
      · have hf := t_neg hc3 hf
        refine x_iload_n hh dX8_eldest_20 rfl 2 rfl 21 rfl ?_
        refine x_if_lt hh dX8_eldest_21 39 rfl 24 rfl (fun hc4 => ?_) (fun hc4 => ?_)
        · have hf := t_pos hc4 hf
          refine x_sub (lv' := [(0, .ref (X.2.1 59)), (1, .int v1), (3, .int v3)]) [0, 1, 3] rfl ?_
          exact Z_X8_eldest_39 hX hh hr ih  v1 v3 q2.2 hf
        · have hf := t_neg hc4 hf
          refine x_aload_n hh dX8_eldest_24 rfl 0 rfl 25 rfl ?_
          refine x_getR hh cl_8 dX8_eldest_25 sh_59 11 67 rfl (Nat.le_of_ble_eq_true rfl) wd_811 28 rfl ?_
          refine x_iload_n hh dX8_eldest_28 rfl 3 rfl 29 rfl ?_
          obtain ⟨hi5, hf⟩ := gi_some hf
          refine x_iaload hh dX8_eldest_29 sh_67 hi5 30 rfl ?_
          refine x_aload_n hh dX8_eldest_30 rfl 0 rfl 31 rfl ?_
          refine x_getR hh cl_8 dX8_eldest_31 sh_59 11 67 rfl (Nat.le_of_ble_eq_true rfl) wd_811 34 rfl ?_
          refine x_iload_n hh dX8_eldest_34 rfl 2 rfl 35 rfl ?_
          obtain ⟨hi6, hf⟩ := gi_some hf
          refine x_iaload hh dX8_eldest_35 sh_67 hi6 36 rfl ?_
          refine x_icmp_le hh dX8_eldest_36 43 rfl 39 rfl (fun hc7 => ?_) (fun hc7 => ?_)
          · have hf := t_pos hc7 hf
            exact Z_X8_eldest_43 hX hh hr ih  v1 v2 v3 q2.2 hf
          · have hf := t_neg hc7 hf
            refine x_sub (lv' := [(0, .ref (X.2.1 59)), (1, .int v1), (3, .int v3)]) [0, 1, 3] rfl ?_
            exact Z_X8_eldest_39 hX hh hr ih  v1 v3 q2.2 hf
def F_X8_eldest_0 (v1 : Int32) (st : St) : Option (Int32 × St) := F_X8_eldest_4 fN v1 ((-1)) 0 st
set_option maxRecDepth 100000 in
set_option maxHeartbeats 4000000 in
theorem Z_X8_eldest_0 {l : Launch} {X : Cx} (hX : Ok X) {p : Program} {e : Env} {s : State} {m : MethodId} {args : Array Value} {below : List Frame} {meth : Method} {c : Code} {rr : Int32} {st' : St} (hh : Hy X p s m args meth c cX8_eldest 4 RX8) (hr : meth.sig.returnType = some .int) (v1 : Int32) (st : St) (hf : F_X8_eldest_0 v1 st = some (rr, st')) : Z X p l e (rmk 1) s m args below meth c 4 (MQ below (Qf X (some (.int rr)) st') args s 0 0 (cA X)) 0 [(0, .ref (X.2.1 59)), (1, .int v1)] [] st := by
  unfold F_X8_eldest_0 at hf
  refine x_iconst hh dX8_eldest_0 (-1) rfl 1 rfl ?_
  refine x_istore_n hh dX8_eldest_1 rfl (by decide) [(2, .int ((-1))), (0, .ref (X.2.1 59)), (1, .int v1)] rfl 2 rfl ?_
  refine x_iconst hh dX8_eldest_2 0 rfl 3 rfl ?_
  refine x_istore_n hh dX8_eldest_3 rfl (by decide) [(3, .int 0), (2, .int ((-1))), (0, .ref (X.2.1 59)), (1, .int v1)] rfl 4 rfl ?_
  refine x_sub (lv' := [(0, .ref (X.2.1 59)), (1, .int v1), (2, .int ((-1))), (3, .int 0)]) [2, 3, 1, 0] rfl ?_
  exact Z_X8_eldest_4 hX hh hr fN v1 ((-1)) 0 st hf
def F_X8_eldest (v1 : Int32) (st : St) : Option (Int32 × St) := F_X8_eldest_0  v1 st
set_option maxRecDepth 100000 in
theorem C_X8_eldest (l : Launch) {X : Cx} (hX : Ok X) {v1 : Int32} {st : St} {q : Int32 × St} (hf : F_X8_eldest v1 st = some q) : Ct l X 1 yX8_eldest (.code yX8_eldest cX8_eldest 4 (some .int)) [.ref (X.2.1 59), .int v1] st (some (.int q.1)) q.2 := by
  refine Ct.of hX (by decide) (Nat.le_of_ble_eq_true rfl) ?_
  intro p e s m args below meth c hh hr
  exact Z_X8_eldest_0 hX hh hr v1 st hf

def F_X8_tooHigh_112 (k16 : Int32 → Int32 → Int32 → Int32 → Int32 → St → Option (Int32 × St)) (v1 : Int32) (v2 : Int32) (v3 : Int32) (v5 : Int32) (t0 : Int32) (st : St) : Option (Int32 × St) := k16 v1 v2 v3 t0 (v5 + 1) st
set_option maxRecDepth 100000 in
set_option maxHeartbeats 4000000 in
theorem Z_X8_tooHigh_112 {l : Launch} {X : Cx} (hX : Ok X) {p : Program} {e : Env} {s : State} {m : MethodId} {args : Array Value} {below : List Frame} {meth : Method} {c : Code} {rr : Int32} {st' : St} (hh : Hy X p s m args meth c cX8_tooHigh 8 RX8) (hr : meth.sig.returnType = some .int) {k16 : Int32 → Int32 → Int32 → Int32 → Int32 → St → Option (Int32 × St)} (hk16 : ∀ (v1 : Int32) (v2 : Int32) (v3 : Int32) (v4 : Int32) (v5 : Int32) (st : St), k16 v1 v2 v3 v4 v5 st = some (rr, st') → Z X p l e (rmk 2) s m args below meth c 8 (MQ below (Qf X (some (.int rr)) st') args s 0 0 (cA X)) 16 [(0, .ref (X.2.1 59)), (1, .int v1), (2, .int v2), (3, .int v3), (4, .int v4), (5, .int v5)] [] st) (v1 : Int32) (v2 : Int32) (v3 : Int32) (v5 : Int32) (t0 : Int32) (st : St) (hf : F_X8_tooHigh_112 k16 v1 v2 v3 v5 t0 st = some (rr, st')) : Z X p l e (rmk 2) s m args below meth c 8 (MQ below (Qf X (some (.int rr)) st') args s 0 0 (cA X)) 112 [(0, .ref (X.2.1 59)), (1, .int v1), (2, .int v2), (3, .int v3), (5, .int v5)] [.int t0] st := by
  unfold F_X8_tooHigh_112 at hf
  refine x_istore hh dX8_tooHigh_112 (by decide) [(4, .int t0), (0, .ref (X.2.1 59)), (1, .int v1), (2, .int v2), (3, .int v3), (5, .int v5)] rfl 114 rfl ?_
  refine x_iinc hh dX8_tooHigh_114 5 rfl (v5 + 1) rfl (by decide) [(5, .int (v5 + 1)), (4, .int t0), (0, .ref (X.2.1 59)), (1, .int v1), (2, .int v2), (3, .int v3)] rfl 117 rfl ?_
  refine x_goto hh dX8_tooHigh_117 16 rfl ?_
  refine x_sub (lv' := [(0, .ref (X.2.1 59)), (1, .int v1), (2, .int v2), (3, .int v3), (4, .int t0), (5, .int (v5 + 1))]) [2, 3, 4, 5, 1, 0] rfl ?_
  exact hk16 v1 v2 v3 t0 (v5 + 1) st hf
def F_X8_tooHigh_96 (k16 : Int32 → Int32 → Int32 → Int32 → Int32 → St → Option (Int32 × St)) (v1 : Int32) (v2 : Int32) (v3 : Int32) (v4 : Int32) (v5 : Int32) (t0 : Int32) (st : St) : Option (Int32 × St) := if t0 ≤ v4 then F_X8_tooHigh_112 k16 v1 v2 v3 v5 v4 st else F_X8_tooHigh_112 k16 v1 v2 v3 v5 t0 st
set_option maxRecDepth 100000 in
set_option maxHeartbeats 4000000 in
theorem Z_X8_tooHigh_96 {l : Launch} {X : Cx} (hX : Ok X) {p : Program} {e : Env} {s : State} {m : MethodId} {args : Array Value} {below : List Frame} {meth : Method} {c : Code} {rr : Int32} {st' : St} (hh : Hy X p s m args meth c cX8_tooHigh 8 RX8) (hr : meth.sig.returnType = some .int) {k16 : Int32 → Int32 → Int32 → Int32 → Int32 → St → Option (Int32 × St)} (hk16 : ∀ (v1 : Int32) (v2 : Int32) (v3 : Int32) (v4 : Int32) (v5 : Int32) (st : St), k16 v1 v2 v3 v4 v5 st = some (rr, st') → Z X p l e (rmk 2) s m args below meth c 8 (MQ below (Qf X (some (.int rr)) st') args s 0 0 (cA X)) 16 [(0, .ref (X.2.1 59)), (1, .int v1), (2, .int v2), (3, .int v3), (4, .int v4), (5, .int v5)] [] st) (v1 : Int32) (v2 : Int32) (v3 : Int32) (v4 : Int32) (v5 : Int32) (t0 : Int32) (st : St) (hf : F_X8_tooHigh_96 k16 v1 v2 v3 v4 v5 t0 st = some (rr, st')) : Z X p l e (rmk 2) s m args below meth c 8 (MQ below (Qf X (some (.int rr)) st') args s 0 0 (cA X)) 96 [(0, .ref (X.2.1 59)), (1, .int v1), (2, .int v2), (3, .int v3), (4, .int v4), (5, .int v5)] [.int t0] st := by
  unfold F_X8_tooHigh_96 at hf
  refine x_istore hh dX8_tooHigh_96 (by decide) [(7, .int t0), (0, .ref (X.2.1 59)), (1, .int v1), (2, .int v2), (3, .int v3), (4, .int v4), (5, .int v5)] rfl 98 rfl ?_
  refine x_iload hh dX8_tooHigh_98 0 rfl 100 rfl ?_
  refine x_iload hh dX8_tooHigh_100 5 rfl 102 rfl ?_
  refine x_icmp_le hh dX8_tooHigh_102 110 rfl 105 rfl (fun hc14 => ?_) (fun hc14 => ?_)
  · have hf := t_pos hc14 hf
    refine x_iload hh dX8_tooHigh_110 5 rfl 112 rfl ?_
    refine x_sub (lv' := [(0, .ref (X.2.1 59)), (1, .int v1), (2, .int v2), (3, .int v3), (5, .int v5)]) [1, 2, 3, 4, 6] rfl ?_
    exact Z_X8_tooHigh_112 hX hh hr hk16  v1 v2 v3 v5 v4 st hf
  · have hf := t_neg hc14 hf
    refine x_iload hh dX8_tooHigh_105 0 rfl 107 rfl ?_
    refine x_goto hh dX8_tooHigh_107 112 rfl ?_
    refine x_sub (lv' := [(0, .ref (X.2.1 59)), (1, .int v1), (2, .int v2), (3, .int v3), (5, .int v5)]) [1, 2, 3, 4, 6] rfl ?_
    exact Z_X8_tooHigh_112 hX hh hr hk16  v1 v2 v3 v5 t0 st hf
def F_X8_tooHigh_73 (k16 : Int32 → Int32 → Int32 → Int32 → Int32 → St → Option (Int32 × St)) (v1 : Int32) (v2 : Int32) (v3 : Int32) (v4 : Int32) (v5 : Int32) (t0 : Int32) (st : St) : Option (Int32 × St) := if t0 = 0 then F_X8_tooHigh_96 k16 v1 v2 v3 v4 v5 0 st else (F_X8_headOf v1 st).bind (fun q12 => (F_X8_headOf v5 q12.2).bind (fun q13 => F_X8_tooHigh_96 k16 v1 v2 v3 v4 v5 (q12.1 - q13.1) q13.2))
set_option maxRecDepth 100000 in
set_option maxHeartbeats 4000000 in
theorem Z_X8_tooHigh_73 {l : Launch} {X : Cx} (hX : Ok X) {p : Program} {e : Env} {s : State} {m : MethodId} {args : Array Value} {below : List Frame} {meth : Method} {c : Code} {rr : Int32} {st' : St} (hh : Hy X p s m args meth c cX8_tooHigh 8 RX8) (hr : meth.sig.returnType = some .int) {k16 : Int32 → Int32 → Int32 → Int32 → Int32 → St → Option (Int32 × St)} (hk16 : ∀ (v1 : Int32) (v2 : Int32) (v3 : Int32) (v4 : Int32) (v5 : Int32) (st : St), k16 v1 v2 v3 v4 v5 st = some (rr, st') → Z X p l e (rmk 2) s m args below meth c 8 (MQ below (Qf X (some (.int rr)) st') args s 0 0 (cA X)) 16 [(0, .ref (X.2.1 59)), (1, .int v1), (2, .int v2), (3, .int v3), (4, .int v4), (5, .int v5)] [] st) (v1 : Int32) (v2 : Int32) (v3 : Int32) (v4 : Int32) (v5 : Int32) (t0 : Int32) (st : St) (hf : F_X8_tooHigh_73 k16 v1 v2 v3 v4 v5 t0 st = some (rr, st')) : Z X p l e (rmk 2) s m args below meth c 8 (MQ below (Qf X (some (.int rr)) st') args s 0 0 (cA X)) 73 [(0, .ref (X.2.1 59)), (1, .int v1), (2, .int v2), (3, .int v3), (4, .int v4), (5, .int v5)] [.int t0] st := by
  unfold F_X8_tooHigh_73 at hf
  refine x_istore hh dX8_tooHigh_73 (by decide) [(6, .int t0), (0, .ref (X.2.1 59)), (1, .int v1), (2, .int v2), (3, .int v3), (4, .int v4), (5, .int v5)] rfl 75 rfl ?_
  refine x_iload hh dX8_tooHigh_75 0 rfl 77 rfl ?_
  refine x_if_eq hh dX8_tooHigh_77 95 rfl 80 rfl (fun hc11 => ?_) (fun hc11 => ?_)
  · have hf := t_pos hc11 hf
    refine x_iconst hh dX8_tooHigh_95 0 rfl 96 rfl ?_
    refine x_sub (lv' := [(0, .ref (X.2.1 59)), (1, .int v1), (2, .int v2), (3, .int v3), (4, .int v4), (5, .int v5)]) [1, 2, 3, 4, 5, 6] rfl ?_
    exact Z_X8_tooHigh_96 hX hh hr hk16  v1 v2 v3 v4 v5 0 st hf
  · have hf := t_neg hc11 hf
    refine x_aload_n hh dX8_tooHigh_80 rfl 1 rfl 81 rfl ?_
    refine x_iload_n hh dX8_tooHigh_81 rfl 2 rfl 82 rfl ?_
    obtain ⟨q12, hq12, hf⟩ := b_some hf
    refine x_callV (rest := []) hh mi_X8_headOf [.int v1] dX8_tooHigh_82 sh_59 wd_991 (C_X8_headOf l hX  hq12) rfl rfl ⟨Nat.le_of_ble_eq_true rfl, Nat.le_of_ble_eq_true rfl⟩ (Nat.le_of_ble_eq_true rfl) 85 rfl [.int q12.1] rfl ?_
    refine x_aload_n hh dX8_tooHigh_85 rfl 1 rfl 86 rfl ?_
    refine x_iload hh dX8_tooHigh_86 6 rfl 88 rfl ?_
    obtain ⟨q13, hq13, hf⟩ := b_some hf
    refine x_callV (rest := [.int q12.1]) hh mi_X8_headOf [.int v5] dX8_tooHigh_88 sh_59 wd_991 (C_X8_headOf l hX  hq13) rfl rfl ⟨Nat.le_of_ble_eq_true rfl, Nat.le_of_ble_eq_true rfl⟩ (Nat.le_of_ble_eq_true rfl) 91 rfl [.int q13.1, .int q12.1] rfl ?_
    refine x_isub hh dX8_tooHigh_91 92 rfl ?_
    refine x_goto hh dX8_tooHigh_92 96 rfl ?_
    refine x_sub (lv' := [(0, .ref (X.2.1 59)), (1, .int v1), (2, .int v2), (3, .int v3), (4, .int v4), (5, .int v5)]) [1, 2, 3, 4, 5, 6] rfl ?_
    exact Z_X8_tooHigh_96 hX hh hr hk16  v1 v2 v3 v4 v5 (q12.1 - q13.1) q13.2 hf
def F_X8_tooHigh_68 (k16 : Int32 → Int32 → Int32 → Int32 → Int32 → St → Option (Int32 × St)) (v1 : Int32) (v2 : Int32) (v3 : Int32) (v4 : Int32) (v5 : Int32) (st : St) : Option (Int32 × St) := F_X8_tooHigh_73 k16 v1 v2 v3 v4 v5 1 st
set_option maxRecDepth 100000 in
set_option maxHeartbeats 4000000 in
theorem Z_X8_tooHigh_68 {l : Launch} {X : Cx} (hX : Ok X) {p : Program} {e : Env} {s : State} {m : MethodId} {args : Array Value} {below : List Frame} {meth : Method} {c : Code} {rr : Int32} {st' : St} (hh : Hy X p s m args meth c cX8_tooHigh 8 RX8) (hr : meth.sig.returnType = some .int) {k16 : Int32 → Int32 → Int32 → Int32 → Int32 → St → Option (Int32 × St)} (hk16 : ∀ (v1 : Int32) (v2 : Int32) (v3 : Int32) (v4 : Int32) (v5 : Int32) (st : St), k16 v1 v2 v3 v4 v5 st = some (rr, st') → Z X p l e (rmk 2) s m args below meth c 8 (MQ below (Qf X (some (.int rr)) st') args s 0 0 (cA X)) 16 [(0, .ref (X.2.1 59)), (1, .int v1), (2, .int v2), (3, .int v3), (4, .int v4), (5, .int v5)] [] st) (v1 : Int32) (v2 : Int32) (v3 : Int32) (v4 : Int32) (v5 : Int32) (st : St) (hf : F_X8_tooHigh_68 k16 v1 v2 v3 v4 v5 st = some (rr, st')) : Z X p l e (rmk 2) s m args below meth c 8 (MQ below (Qf X (some (.int rr)) st') args s 0 0 (cA X)) 68 [(0, .ref (X.2.1 59)), (1, .int v1), (2, .int v2), (3, .int v3), (4, .int v4), (5, .int v5)] [] st := by
  unfold F_X8_tooHigh_68 at hf
  refine x_iconst hh dX8_tooHigh_68 1 rfl 69 rfl ?_
  refine x_goto hh dX8_tooHigh_69 73 rfl ?_
  exact Z_X8_tooHigh_73 hX hh hr hk16  v1 v2 v3 v4 v5 1 st hf
def F_X8_tooHigh_72 (k16 : Int32 → Int32 → Int32 → Int32 → Int32 → St → Option (Int32 × St)) (v1 : Int32) (v2 : Int32) (v3 : Int32) (v4 : Int32) (v5 : Int32) (st : St) : Option (Int32 × St) := F_X8_tooHigh_73 k16 v1 v2 v3 v4 v5 0 st
set_option maxRecDepth 100000 in
set_option maxHeartbeats 4000000 in
theorem Z_X8_tooHigh_72 {l : Launch} {X : Cx} (hX : Ok X) {p : Program} {e : Env} {s : State} {m : MethodId} {args : Array Value} {below : List Frame} {meth : Method} {c : Code} {rr : Int32} {st' : St} (hh : Hy X p s m args meth c cX8_tooHigh 8 RX8) (hr : meth.sig.returnType = some .int) {k16 : Int32 → Int32 → Int32 → Int32 → Int32 → St → Option (Int32 × St)} (hk16 : ∀ (v1 : Int32) (v2 : Int32) (v3 : Int32) (v4 : Int32) (v5 : Int32) (st : St), k16 v1 v2 v3 v4 v5 st = some (rr, st') → Z X p l e (rmk 2) s m args below meth c 8 (MQ below (Qf X (some (.int rr)) st') args s 0 0 (cA X)) 16 [(0, .ref (X.2.1 59)), (1, .int v1), (2, .int v2), (3, .int v3), (4, .int v4), (5, .int v5)] [] st) (v1 : Int32) (v2 : Int32) (v3 : Int32) (v4 : Int32) (v5 : Int32) (st : St) (hf : F_X8_tooHigh_72 k16 v1 v2 v3 v4 v5 st = some (rr, st')) : Z X p l e (rmk 2) s m args below meth c 8 (MQ below (Qf X (some (.int rr)) st') args s 0 0 (cA X)) 72 [(0, .ref (X.2.1 59)), (1, .int v1), (2, .int v2), (3, .int v3), (4, .int v4), (5, .int v5)] [] st := by
  unfold F_X8_tooHigh_72 at hf
  refine x_iconst hh dX8_tooHigh_72 0 rfl 73 rfl ?_
  exact Z_X8_tooHigh_73 hX hh hr hk16  v1 v2 v3 v4 v5 0 st hf
def F_X8_tooHigh_16 : Nat → Int32 → Int32 → Int32 → Int32 → Int32 → St → Option (Int32 × St)
  | 0, _, _, _, _, _, _ => none
  | n + 1, v1, v2, v3, v4, v5, st => if (st.1 59 3) ≤ v5 then some (v4, st) else gi v5 6 (if (st.1 69 v5.toNatClampNeg) = v2 then if (st.1 59 10) = 0 then if v5 = v3 then F_X8_tooHigh_68 (F_X8_tooHigh_16 n) v1 v2 v3 v4 v5 st else F_X8_tooHigh_72 (F_X8_tooHigh_16 n) v1 v2 v3 v4 v5 st else gi v5 6 (gi v1 6 (if (st.1 67 v5.toNatClampNeg) ≤ (st.1 67 v1.toNatClampNeg) then F_X8_tooHigh_72 (F_X8_tooHigh_16 n) v1 v2 v3 v4 v5 st else F_X8_tooHigh_68 (F_X8_tooHigh_16 n) v1 v2 v3 v4 v5 st)) else F_X8_tooHigh_72 (F_X8_tooHigh_16 n) v1 v2 v3 v4 v5 st)
set_option maxRecDepth 100000 in
set_option maxHeartbeats 4000000 in
theorem Z_X8_tooHigh_16 {l : Launch} {X : Cx} (hX : Ok X) {p : Program} {e : Env} {s : State} {m : MethodId} {args : Array Value} {below : List Frame} {meth : Method} {c : Code} {rr : Int32} {st' : St} (hh : Hy X p s m args meth c cX8_tooHigh 8 RX8) (hr : meth.sig.returnType = some .int) : ∀ (n : Nat) (v1 : Int32) (v2 : Int32) (v3 : Int32) (v4 : Int32) (v5 : Int32) (st : St), F_X8_tooHigh_16 n v1 v2 v3 v4 v5 st = some (rr, st') → Z X p l e (rmk 2) s m args below meth c 8 (MQ below (Qf X (some (.int rr)) st') args s 0 0 (cA X)) 16 [(0, .ref (X.2.1 59)), (1, .int v1), (2, .int v2), (3, .int v3), (4, .int v4), (5, .int v5)] [] st := by
  intro n
  induction n with
  | zero =>
    intro v1 v2 v3 v4 v5 st hf
    cases hf
  | succ n ih =>
    intro v1 v2 v3 v4 v5 st hf
    rw [F_X8_tooHigh_16] at hf
    refine x_iload hh dX8_tooHigh_16 5 rfl 18 rfl ?_
    refine x_aload_n hh dX8_tooHigh_18 rfl 0 rfl 19 rfl ?_
    refine x_getI hh cl_8 dX8_tooHigh_19 sh_59 3 rfl (Nat.le_of_ble_eq_true rfl) wd_803 22 rfl ?_
    refine x_icmp_ge hh dX8_tooHigh_22 120 rfl 25 rfl (fun hc3 => ?_) (fun hc3 => ?_)
    · have hf := t_pos hc3 hf
      refine x_iload hh dX8_tooHigh_120 4 rfl 122 rfl ?_
      obtain ⟨rfl, rfl⟩ := ret2 hf
      exact x_iret hh hr dX8_tooHigh_122
    · have hf := t_neg hc3 hf
      refine x_aload_n hh dX8_tooHigh_25 rfl 0 rfl 26 rfl ?_
      refine x_getR hh cl_8 dX8_tooHigh_26 sh_59 13 69 rfl (Nat.le_of_ble_eq_true rfl) wd_813 29 rfl ?_
      refine x_iload hh dX8_tooHigh_29 5 rfl 31 rfl ?_
      obtain ⟨hi4, hf⟩ := gi_some hf
      refine x_iaload hh dX8_tooHigh_31 sh_69 hi4 32 rfl ?_
      refine x_iload_n hh dX8_tooHigh_32 rfl 2 rfl 33 rfl ?_
      refine x_icmp_ne hh dX8_tooHigh_33 72 rfl 36 rfl (fun hc5 => ?_) (fun hc5 => ?_)
      · have hf := t_neg hc5 hf
        exact Z_X8_tooHigh_72 hX hh hr ih  v1 v2 v3 v4 v5 st hf
      · have hf := t_pos hc5 hf
        refine x_aload_n hh dX8_tooHigh_36 rfl 0 rfl 37 rfl ?_
        refine x_getI hh cl_8 dX8_tooHigh_37 sh_59 10 rfl (Nat.le_of_ble_eq_true rfl) wd_810 40 rfl ?_
        refine x_if_ne hh dX8_tooHigh_40 52 rfl 43 rfl (fun hc6 => ?_) (fun hc6 => ?_)
        · have hf := t_neg hc6 hf
          refine x_aload_n hh dX8_tooHigh_52 rfl 0 rfl 53 rfl ?_
          refine x_getR hh cl_8 dX8_tooHigh_53 sh_59 11 67 rfl (Nat.le_of_ble_eq_true rfl) wd_811 56 rfl ?_
          refine x_iload hh dX8_tooHigh_56 5 rfl 58 rfl ?_
          obtain ⟨hi7, hf⟩ := gi_some hf
          refine x_iaload hh dX8_tooHigh_58 sh_67 hi7 59 rfl ?_
          refine x_aload_n hh dX8_tooHigh_59 rfl 0 rfl 60 rfl ?_
          refine x_getR hh cl_8 dX8_tooHigh_60 sh_59 11 67 rfl (Nat.le_of_ble_eq_true rfl) wd_811 63 rfl ?_
          refine x_iload_n hh dX8_tooHigh_63 rfl 1 rfl 64 rfl ?_
          obtain ⟨hi8, hf⟩ := gi_some hf
          refine x_iaload hh dX8_tooHigh_64 sh_67 hi8 65 rfl ?_
          refine x_icmp_le hh dX8_tooHigh_65 72 rfl 68 rfl (fun hc9 => ?_) (fun hc9 => ?_)
          · have hf := t_pos hc9 hf
            exact Z_X8_tooHigh_72 hX hh hr ih  v1 v2 v3 v4 v5 st hf
          · have hf := t_neg hc9 hf
            exact Z_X8_tooHigh_68 hX hh hr ih  v1 v2 v3 v4 v5 st hf
        · have hf := t_pos hc6 hf
          refine x_iload hh dX8_tooHigh_43 5 rfl 45 rfl ?_
          refine x_iload_n hh dX8_tooHigh_45 rfl 3 rfl 46 rfl ?_
          refine x_icmp_ne hh dX8_tooHigh_46 72 rfl 49 rfl (fun hc10 => ?_) (fun hc10 => ?_)
          · have hf := t_neg hc10 hf
            exact Z_X8_tooHigh_72 hX hh hr ih  v1 v2 v3 v4 v5 st hf
          · have hf := t_pos hc10 hf
            refine x_goto hh dX8_tooHigh_49 68 rfl ?_
            exact Z_X8_tooHigh_68 hX hh hr ih  v1 v2 v3 v4 v5 st hf
def F_X8_tooHigh_0 (v1 : Int32) (v2 : Int32) (st : St) : Option (Int32 × St) := (F_X8_isIn v2 st).bind (fun q1 => (F_X8_eldest q1.1 q1.2).bind (fun q2 => F_X8_tooHigh_16 fN v1 v2 q2.1 0 0 q2.2))
set_option maxRecDepth 100000 in
set_option maxHeartbeats 4000000 in
theorem Z_X8_tooHigh_0 {l : Launch} {X : Cx} (hX : Ok X) {p : Program} {e : Env} {s : State} {m : MethodId} {args : Array Value} {below : List Frame} {meth : Method} {c : Code} {rr : Int32} {st' : St} (hh : Hy X p s m args meth c cX8_tooHigh 8 RX8) (hr : meth.sig.returnType = some .int) (v1 : Int32) (v2 : Int32) (st : St) (hf : F_X8_tooHigh_0 v1 v2 st = some (rr, st')) : Z X p l e (rmk 2) s m args below meth c 8 (MQ below (Qf X (some (.int rr)) st') args s 0 0 (cA X)) 0 [(0, .ref (X.2.1 59)), (1, .int v1), (2, .int v2)] [] st := by
  unfold F_X8_tooHigh_0 at hf
  refine x_aload_n hh dX8_tooHigh_0 rfl 0 rfl 1 rfl ?_
  refine x_aload_n hh dX8_tooHigh_1 rfl 0 rfl 2 rfl ?_
  refine x_iload_n hh dX8_tooHigh_2 rfl 2 rfl 3 rfl ?_
  obtain ⟨q1, hq1, hf⟩ := b_some hf
  refine x_callV (rest := [.ref (X.2.1 59)]) hh mi_X8_isIn [.int v2] dX8_tooHigh_3 sh_59 wd_1013 (C_X8_isIn l hX  hq1) rfl rfl ⟨Nat.le_of_ble_eq_true rfl, Nat.le_of_ble_eq_true rfl⟩ (Nat.le_of_ble_eq_true rfl) 6 rfl [.int q1.1, .ref (X.2.1 59)] rfl ?_
  obtain ⟨q2, hq2, hf⟩ := b_some hf
  refine x_callV (rest := []) hh mi_X8_eldest [.int q1.1] dX8_tooHigh_6 sh_59 wd_1037 (C_X8_eldest l hX  hq2) rfl rfl ⟨Nat.le_of_ble_eq_true rfl, Nat.le_of_ble_eq_true rfl⟩ (Nat.le_of_ble_eq_true rfl) 9 rfl [.int q2.1] rfl ?_
  refine x_istore_n hh dX8_tooHigh_9 rfl (by decide) [(3, .int q2.1), (0, .ref (X.2.1 59)), (1, .int v1), (2, .int v2)] rfl 10 rfl ?_
  refine x_iconst hh dX8_tooHigh_10 0 rfl 11 rfl ?_
  refine x_istore hh dX8_tooHigh_11 (by decide) [(4, .int 0), (3, .int q2.1), (0, .ref (X.2.1 59)), (1, .int v1), (2, .int v2)] rfl 13 rfl ?_
  refine x_iconst hh dX8_tooHigh_13 0 rfl 14 rfl ?_
  refine x_istore hh dX8_tooHigh_14 (by decide) [(5, .int 0), (4, .int 0), (3, .int q2.1), (0, .ref (X.2.1 59)), (1, .int v1), (2, .int v2)] rfl 16 rfl ?_
  refine x_sub (lv' := [(0, .ref (X.2.1 59)), (1, .int v1), (2, .int v2), (3, .int q2.1), (4, .int 0), (5, .int 0)]) [3, 4, 5, 2, 1, 0] rfl ?_
  exact Z_X8_tooHigh_16 hX hh hr fN v1 v2 q2.1 0 0 q2.2 hf
def F_X8_tooHigh (v1 : Int32) (v2 : Int32) (st : St) : Option (Int32 × St) := F_X8_tooHigh_0  v1 v2 st
set_option maxRecDepth 100000 in
theorem C_X8_tooHigh (l : Launch) {X : Cx} (hX : Ok X) {v1 : Int32} {v2 : Int32} {st : St} {q : Int32 × St} (hf : F_X8_tooHigh v1 v2 st = some q) : Ct l X 2 yX8_tooHigh (.code yX8_tooHigh cX8_tooHigh 8 (some .int)) [.ref (X.2.1 59), .int v1, .int v2] st (some (.int q.1)) q.2 := by
  refine Ct.of hX (by decide) (Nat.le_of_ble_eq_true rfl) ?_
  intro p e s m args below meth c hh hr
  exact Z_X8_tooHigh_0 hX hh hr v1 v2 st hf

def F_X8_firstFault_37 (k9 : Int32 → Int32 → Int32 → St → Option (Int32 × St)) (v1 : Int32) (v3 : Int32) (t0 : Int32) (st : St) : Option (Int32 × St) := k9 v1 t0 (v3 + (-1)) st
set_option maxRecDepth 100000 in
set_option maxHeartbeats 4000000 in
theorem Z_X8_firstFault_37 {l : Launch} {X : Cx} (hX : Ok X) {p : Program} {e : Env} {s : State} {m : MethodId} {args : Array Value} {below : List Frame} {meth : Method} {c : Code} {rr : Int32} {st' : St} (hh : Hy X p s m args meth c cX8_firstFault 4 RX8) (hr : meth.sig.returnType = some .int) {k9 : Int32 → Int32 → Int32 → St → Option (Int32 × St)} (hk9 : ∀ (v1 : Int32) (v2 : Int32) (v3 : Int32) (st : St), k9 v1 v2 v3 st = some (rr, st') → Z X p l e (rmk 3) s m args below meth c 4 (MQ below (Qf X (some (.int rr)) st') args s 0 0 (cA X)) 9 [(0, .ref (X.2.1 59)), (1, .int v1), (2, .int v2), (3, .int v3)] [] st) (v1 : Int32) (v3 : Int32) (t0 : Int32) (st : St) (hf : F_X8_firstFault_37 k9 v1 v3 t0 st = some (rr, st')) : Z X p l e (rmk 3) s m args below meth c 4 (MQ below (Qf X (some (.int rr)) st') args s 0 0 (cA X)) 37 [(0, .ref (X.2.1 59)), (1, .int v1), (3, .int v3)] [.int t0] st := by
  unfold F_X8_firstFault_37 at hf
  refine x_istore_n hh dX8_firstFault_37 rfl (by decide) [(2, .int t0), (0, .ref (X.2.1 59)), (1, .int v1), (3, .int v3)] rfl 38 rfl ?_
  refine x_iinc hh dX8_firstFault_38 3 rfl (v3 + (-1)) rfl (by decide) [(3, .int (v3 + (-1))), (2, .int t0), (0, .ref (X.2.1 59)), (1, .int v1)] rfl 41 rfl ?_
  refine x_goto hh dX8_firstFault_41 9 rfl ?_
  refine x_sub (lv' := [(0, .ref (X.2.1 59)), (1, .int v1), (2, .int t0), (3, .int (v3 + (-1)))]) [2, 3, 1, 0] rfl ?_
  exact hk9 v1 t0 (v3 + (-1)) st hf
def F_X8_firstFault_36 (k9 : Int32 → Int32 → Int32 → St → Option (Int32 × St)) (v1 : Int32) (v2 : Int32) (v3 : Int32) (st : St) : Option (Int32 × St) := F_X8_firstFault_37 k9 v1 v3 v2 st
set_option maxRecDepth 100000 in
set_option maxHeartbeats 4000000 in
theorem Z_X8_firstFault_36 {l : Launch} {X : Cx} (hX : Ok X) {p : Program} {e : Env} {s : State} {m : MethodId} {args : Array Value} {below : List Frame} {meth : Method} {c : Code} {rr : Int32} {st' : St} (hh : Hy X p s m args meth c cX8_firstFault 4 RX8) (hr : meth.sig.returnType = some .int) {k9 : Int32 → Int32 → Int32 → St → Option (Int32 × St)} (hk9 : ∀ (v1 : Int32) (v2 : Int32) (v3 : Int32) (st : St), k9 v1 v2 v3 st = some (rr, st') → Z X p l e (rmk 3) s m args below meth c 4 (MQ below (Qf X (some (.int rr)) st') args s 0 0 (cA X)) 9 [(0, .ref (X.2.1 59)), (1, .int v1), (2, .int v2), (3, .int v3)] [] st) (v1 : Int32) (v2 : Int32) (v3 : Int32) (st : St) (hf : F_X8_firstFault_36 k9 v1 v2 v3 st = some (rr, st')) : Z X p l e (rmk 3) s m args below meth c 4 (MQ below (Qf X (some (.int rr)) st') args s 0 0 (cA X)) 36 [(0, .ref (X.2.1 59)), (1, .int v1), (2, .int v2), (3, .int v3)] [] st := by
  unfold F_X8_firstFault_36 at hf
  refine x_iload_n hh dX8_firstFault_36 rfl 2 rfl 37 rfl ?_
  refine x_sub (lv' := [(0, .ref (X.2.1 59)), (1, .int v1), (3, .int v3)]) [0, 1, 3] rfl ?_
  exact Z_X8_firstFault_37 hX hh hr hk9  v1 v3 v2 st hf
def F_X8_firstFault_9 : Nat → Int32 → Int32 → Int32 → St → Option (Int32 × St)
  | 0, _, _, _, _ => none
  | n + 1, v1, v2, v3, st => if v3 < 0 then some (v2, st) else gi v3 6 (if (st.1 69 v3.toNatClampNeg) = v1 then (F_X8_tooHigh v3 v1 st).bind (fun q4 => if q4.1 ≤ 0 then F_X8_firstFault_36 (F_X8_firstFault_9 n) v1 v2 v3 q4.2 else F_X8_firstFault_37 (F_X8_firstFault_9 n) v1 v3 v3 q4.2) else F_X8_firstFault_36 (F_X8_firstFault_9 n) v1 v2 v3 st)
set_option maxRecDepth 100000 in
set_option maxHeartbeats 4000000 in
theorem Z_X8_firstFault_9 {l : Launch} {X : Cx} (hX : Ok X) {p : Program} {e : Env} {s : State} {m : MethodId} {args : Array Value} {below : List Frame} {meth : Method} {c : Code} {rr : Int32} {st' : St} (hh : Hy X p s m args meth c cX8_firstFault 4 RX8) (hr : meth.sig.returnType = some .int) : ∀ (n : Nat) (v1 : Int32) (v2 : Int32) (v3 : Int32) (st : St), F_X8_firstFault_9 n v1 v2 v3 st = some (rr, st') → Z X p l e (rmk 3) s m args below meth c 4 (MQ below (Qf X (some (.int rr)) st') args s 0 0 (cA X)) 9 [(0, .ref (X.2.1 59)), (1, .int v1), (2, .int v2), (3, .int v3)] [] st := by
  intro n
  induction n with
  | zero =>
    intro v1 v2 v3 st hf
    cases hf
  | succ n ih =>
    intro v1 v2 v3 st hf
    rw [F_X8_firstFault_9] at hf
    refine x_iload_n hh dX8_firstFault_9 rfl 3 rfl 10 rfl ?_
    refine x_if_lt hh dX8_firstFault_10 44 rfl 13 rfl (fun hc1 => ?_) (fun hc1 => ?_)
    · have hf := t_pos hc1 hf
      refine x_iload_n hh dX8_firstFault_44 rfl 2 rfl 45 rfl ?_
      obtain ⟨rfl, rfl⟩ := ret2 hf
      exact x_iret hh hr dX8_firstFault_45
    · have hf := t_neg hc1 hf
      refine x_aload_n hh dX8_firstFault_13 rfl 0 rfl 14 rfl ?_
      refine x_getR hh cl_8 dX8_firstFault_14 sh_59 13 69 rfl (Nat.le_of_ble_eq_true rfl) wd_813 17 rfl ?_
      refine x_iload_n hh dX8_firstFault_17 rfl 3 rfl 18 rfl ?_
      obtain ⟨hi2, hf⟩ := gi_some hf
      refine x_iaload hh dX8_firstFault_18 sh_69 hi2 19 rfl ?_
      refine x_iload_n hh dX8_firstFault_19 rfl 1 rfl 20 rfl ?_
      refine x_icmp_ne hh dX8_firstFault_20 36 rfl 23 rfl (fun hc3 => ?_) (fun hc3 => ?_)
      · have hf := t_neg hc3 hf
        exact Z_X8_firstFault_36 hX hh hr ih  v1 v2 v3 st hf
      · have hf := t_pos hc3 hf
        refine x_aload_n hh dX8_firstFault_23 rfl 0 rfl 24 rfl ?_
        refine x_iload_n hh dX8_firstFault_24 rfl 3 rfl 25 rfl ?_
        refine x_iload_n hh dX8_firstFault_25 rfl 1 rfl 26 rfl ?_
        obtain ⟨q4, hq4, hf⟩ := b_some hf
        refine x_callV (rest := []) hh mi_X8_tooHigh [.int v3, .int v1] dX8_firstFault_26 sh_59 wd_1034 (C_X8_tooHigh l hX  hq4) rfl rfl ⟨Nat.le_of_ble_eq_true rfl, Nat.le_of_ble_eq_true rfl⟩ (Nat.le_of_ble_eq_true rfl) 29 rfl [.int q4.1] rfl ?_
        refine x_if_le hh dX8_firstFault_29 36 rfl 32 rfl (fun hc5 => ?_) (fun hc5 => ?_)
        · have hf := t_pos hc5 hf
          exact Z_X8_firstFault_36 hX hh hr ih  v1 v2 v3 q4.2 hf
        · have hf := t_neg hc5 hf
          refine x_iload_n hh dX8_firstFault_32 rfl 3 rfl 33 rfl ?_
          refine x_goto hh dX8_firstFault_33 37 rfl ?_
          refine x_sub (lv' := [(0, .ref (X.2.1 59)), (1, .int v1), (3, .int v3)]) [0, 1, 3] rfl ?_
          exact Z_X8_firstFault_37 hX hh hr ih  v1 v3 v3 q4.2 hf
def F_X8_firstFault_0 (v1 : Int32) (st : St) : Option (Int32 × St) := F_X8_firstFault_9 fN v1 ((-1)) ((st.1 59 3) - 1) st
set_option maxRecDepth 100000 in
set_option maxHeartbeats 4000000 in
theorem Z_X8_firstFault_0 {l : Launch} {X : Cx} (hX : Ok X) {p : Program} {e : Env} {s : State} {m : MethodId} {args : Array Value} {below : List Frame} {meth : Method} {c : Code} {rr : Int32} {st' : St} (hh : Hy X p s m args meth c cX8_firstFault 4 RX8) (hr : meth.sig.returnType = some .int) (v1 : Int32) (st : St) (hf : F_X8_firstFault_0 v1 st = some (rr, st')) : Z X p l e (rmk 3) s m args below meth c 4 (MQ below (Qf X (some (.int rr)) st') args s 0 0 (cA X)) 0 [(0, .ref (X.2.1 59)), (1, .int v1)] [] st := by
  unfold F_X8_firstFault_0 at hf
  refine x_iconst hh dX8_firstFault_0 (-1) rfl 1 rfl ?_
  refine x_istore_n hh dX8_firstFault_1 rfl (by decide) [(2, .int ((-1))), (0, .ref (X.2.1 59)), (1, .int v1)] rfl 2 rfl ?_
  refine x_aload_n hh dX8_firstFault_2 rfl 1 rfl 3 rfl ?_
  refine x_getI hh cl_8 dX8_firstFault_3 sh_59 3 rfl (Nat.le_of_ble_eq_true rfl) wd_803 6 rfl ?_
  refine x_iconst hh dX8_firstFault_6 1 rfl 7 rfl ?_
  refine x_isub hh dX8_firstFault_7 8 rfl ?_
  refine x_istore_n hh dX8_firstFault_8 rfl (by decide) [(3, .int ((st.1 59 3) - 1)), (2, .int ((-1))), (0, .ref (X.2.1 59)), (1, .int v1)] rfl 9 rfl ?_
  refine x_sub (lv' := [(0, .ref (X.2.1 59)), (1, .int v1), (2, .int ((-1))), (3, .int ((st.1 59 3) - 1))]) [2, 3, 1, 0] rfl ?_
  exact Z_X8_firstFault_9 hX hh hr fN v1 ((-1)) ((st.1 59 3) - 1) st hf
def F_X8_firstFault (v1 : Int32) (st : St) : Option (Int32 × St) := F_X8_firstFault_0  v1 st
set_option maxRecDepth 100000 in
theorem C_X8_firstFault (l : Launch) {X : Cx} (hX : Ok X) {v1 : Int32} {st : St} {q : Int32 × St} (hf : F_X8_firstFault v1 st = some q) : Ct l X 3 yX8_firstFault (.code yX8_firstFault cX8_firstFault 4 (some .int)) [.ref (X.2.1 59), .int v1] st (some (.int q.1)) q.2 := by
  refine Ct.of hX (by decide) (Nat.le_of_ble_eq_true rfl) ?_
  intro p e s m args below meth c hh hr
  exact Z_X8_firstFault_0 hX hh hr v1 st hf

def F_X8_first_52 (t0 : Int32) (st : St) : Option (Int32 × St) := some (t0, st)
set_option maxRecDepth 100000 in
set_option maxHeartbeats 4000000 in
theorem Z_X8_first_52 {l : Launch} {X : Cx} (hX : Ok X) {p : Program} {e : Env} {s : State} {m : MethodId} {args : Array Value} {below : List Frame} {meth : Method} {c : Code} {rr : Int32} {st' : St} (hh : Hy X p s m args meth c cX8_first 4 RX8) (hr : meth.sig.returnType = some .int) (t0 : Int32) (st : St) (hf : F_X8_first_52 t0 st = some (rr, st')) : Z X p l e (rmk 4) s m args below meth c 4 (MQ below (Qf X (some (.int rr)) st') args s 0 0 (cA X)) 52 [(0, .ref (X.2.1 59))] [.int t0] st := by
  unfold F_X8_first_52 at hf
  obtain ⟨rfl, rfl⟩ := ret2 hf
  exact x_iret hh hr dX8_first_52
def F_X8_first_0 (v1 : Int32) (v2 : Int32) (st : St) : Option (Int32 × St) := (F_X8_isRoom v1 st).bind (fun q1 => if q1.1 = 0 then some ((-1000000001), q1.2) else (F_X8_in v2.toInt64 0 1 q1.2).bind (fun q3 => if q3.1 = 0 then some ((-1000000002), q3.2) else (F_X8_firstFault v1 q3.2).bind (fun q5 => if (0 : Int32) ≤ q5.1 then if v2 = 0 then F_X8_first_52 q5.1 q5.2 else (F_X8_tooHigh q5.1 v1 q5.2).bind (fun q8 => F_X8_first_52 q8.1 q8.2) else F_X8_first_52 ((-1)) q5.2)))
set_option maxRecDepth 100000 in
set_option maxHeartbeats 4000000 in
theorem Z_X8_first_0 {l : Launch} {X : Cx} (hX : Ok X) {p : Program} {e : Env} {s : State} {m : MethodId} {args : Array Value} {below : List Frame} {meth : Method} {c : Code} {rr : Int32} {st' : St} (hh : Hy X p s m args meth c cX8_first 4 RX8) (hr : meth.sig.returnType = some .int) (v1 : Int32) (v2 : Int32) (st : St) (hf : F_X8_first_0 v1 v2 st = some (rr, st')) : Z X p l e (rmk 4) s m args below meth c 4 (MQ below (Qf X (some (.int rr)) st') args s 0 0 (cA X)) 0 [(0, .ref (X.2.1 59)), (1, .int v1), (2, .int v2)] [] st := by
  unfold F_X8_first_0 at hf
  refine x_aload_n hh dX8_first_0 rfl 0 rfl 1 rfl ?_
  refine x_iload_n hh dX8_first_1 rfl 1 rfl 2 rfl ?_
  obtain ⟨q1, hq1, hf⟩ := b_some hf
  refine x_callV (rest := []) hh mi_X8_isRoom [.int v1] dX8_first_2 sh_59 wd_974 (C_X8_isRoom l hX  hq1) rfl rfl ⟨Nat.le_of_ble_eq_true rfl, Nat.le_of_ble_eq_true rfl⟩ (Nat.le_of_ble_eq_true rfl) 5 rfl [.int q1.1] rfl ?_
  refine x_if_ne hh dX8_first_5 11 rfl 8 rfl (fun hc2 => ?_) (fun hc2 => ?_)
  · have hf := t_neg hc2 hf
    refine x_iload_n hh dX8_first_11 rfl 2 rfl 12 rfl ?_
    refine x_i2l hh dX8_first_12 13 rfl ?_
    refine x_lconst hh dX8_first_13 0 rfl 14 rfl ?_
    refine x_lconst hh dX8_first_14 1 rfl 15 rfl ?_
    obtain ⟨q3, hq3, hf⟩ := b_some hf
    refine x_callS (rest := []) hh ms_X8_in [.long v2.toInt64, .long 0, .long 1] dX8_first_15 wd_907 (C_X8_in l hX  hq3) rfl rfl ⟨Nat.le_of_ble_eq_true rfl, Nat.le_of_ble_eq_true rfl⟩ (Nat.le_of_ble_eq_true rfl) 18 rfl [.int q3.1] rfl ?_
    refine x_if_ne hh dX8_first_18 24 rfl 21 rfl (fun hc4 => ?_) (fun hc4 => ?_)
    · have hf := t_neg hc4 hf
      refine x_aload_n hh dX8_first_24 rfl 0 rfl 25 rfl ?_
      refine x_iload_n hh dX8_first_25 rfl 1 rfl 26 rfl ?_
      obtain ⟨q5, hq5, hf⟩ := b_some hf
      refine x_callV (rest := []) hh mi_X8_firstFault [.int v1] dX8_first_26 sh_59 wd_1031 (C_X8_firstFault l hX  hq5) rfl rfl ⟨Nat.le_of_ble_eq_true rfl, Nat.le_of_ble_eq_true rfl⟩ (Nat.le_of_ble_eq_true rfl) 29 rfl [.int q5.1] rfl ?_
      refine x_istore_n hh dX8_first_29 rfl (by decide) [(3, .int q5.1), (0, .ref (X.2.1 59)), (1, .int v1), (2, .int v2)] rfl 30 rfl ?_
      refine x_iload_n hh dX8_first_30 rfl 0 rfl 31 rfl ?_
      refine x_if_ge hh dX8_first_31 38 rfl 34 rfl (fun hc6 => ?_) (fun hc6 => ?_)
      · have hf := t_pos hc6 hf
        refine x_iload_n hh dX8_first_38 rfl 3 rfl 39 rfl ?_
        refine x_if_ne hh dX8_first_39 46 rfl 42 rfl (fun hc7 => ?_) (fun hc7 => ?_)
        · have hf := t_neg hc7 hf
          refine x_aload_n hh dX8_first_46 rfl 1 rfl 47 rfl ?_
          refine x_iload_n hh dX8_first_47 rfl 0 rfl 48 rfl ?_
          refine x_iload_n hh dX8_first_48 rfl 2 rfl 49 rfl ?_
          obtain ⟨q8, hq8, hf⟩ := b_some hf
          refine x_callV (rest := []) hh mi_X8_tooHigh [.int q5.1, .int v1] dX8_first_49 sh_59 wd_1034 (C_X8_tooHigh l hX  hq8) rfl rfl ⟨Nat.le_of_ble_eq_true rfl, Nat.le_of_ble_eq_true rfl⟩ (Nat.le_of_ble_eq_true rfl) 52 rfl [.int q8.1] rfl ?_
          refine x_sub (lv' := [(0, .ref (X.2.1 59))]) [1] rfl ?_
          exact Z_X8_first_52 hX hh hr  q8.1 q8.2 hf
        · have hf := t_pos hc7 hf
          refine x_iload_n hh dX8_first_42 rfl 0 rfl 43 rfl ?_
          refine x_goto hh dX8_first_43 52 rfl ?_
          refine x_sub (lv' := [(0, .ref (X.2.1 59))]) [1] rfl ?_
          exact Z_X8_first_52 hX hh hr  q5.1 q5.2 hf
      · have hf := t_neg hc6 hf
        refine x_iconst hh dX8_first_34 (-1) rfl 35 rfl ?_
        refine x_goto hh dX8_first_35 52 rfl ?_
        refine x_sub (lv' := [(0, .ref (X.2.1 59))]) [1] rfl ?_
        exact Z_X8_first_52 hX hh hr  ((-1)) q5.2 hf
    · have hf := t_pos hc4 hf
      refine x_ldc hh dX8_first_21 wd_910 23 rfl ?_
      obtain ⟨rfl, rfl⟩ := ret2 hf
      exact x_iret hh hr dX8_first_23
  · have hf := t_pos hc2 hf
    refine x_ldc hh dX8_first_8 wd_980 10 rfl ?_
    obtain ⟨rfl, rfl⟩ := ret2 hf
    exact x_iret hh hr dX8_first_10
def F_X8_first (v1 : Int32) (v2 : Int32) (st : St) : Option (Int32 × St) := F_X8_first_0  v1 v2 st
set_option maxRecDepth 100000 in
theorem C_X8_first (l : Launch) {X : Cx} (hX : Ok X) {v1 : Int32} {v2 : Int32} {st : St} {q : Int32 × St} (hf : F_X8_first v1 v2 st = some q) : Ct l X 4 yX8_first (.code yX8_first cX8_first 4 (some .int)) [.ref (X.2.1 59), .int v1, .int v2] st (some (.int q.1)) q.2 := by
  refine Ct.of hX (by decide) (Nat.le_of_ble_eq_true rfl) ?_
  intro p e s m args below meth c hh hr
  exact Z_X8_first_0 hX hh hr v1 v2 st hf

def F_X8_bowAll_155 (k9 : Int32 → Int32 → Int32 → St → Option (Int32 × St)) (v2 : Int32) (v4 : Int32) (t0 : Int32) (st : St) : Option (Int32 × St) := k9 v2 t0 v4 st
set_option maxRecDepth 100000 in
set_option maxHeartbeats 4000000 in
theorem Z_X8_bowAll_155 {l : Launch} {X : Cx} (hX : Ok X) {p : Program} {e : Env} {s : State} {m : MethodId} {args : Array Value} {below : List Frame} {meth : Method} {c : Code} {rr : Int32} {st' : St} (hh : Hy X p s m args meth c cX8_bowAll 8 RX8) (hr : meth.sig.returnType = some .int) {k9 : Int32 → Int32 → Int32 → St → Option (Int32 × St)} (hk9 : ∀ (v2 : Int32) (v3 : Int32) (v4 : Int32) (st : St), k9 v2 v3 v4 st = some (rr, st') → Z X p l e (rmk 2) s m args below meth c 8 (MQ below (Qf X (some (.int rr)) st') args s 0 0 (cA X)) 9 [(0, .ref (X.2.1 59)), (2, .int v2), (3, .int v3), (4, .int v4)] [] st) (v2 : Int32) (v4 : Int32) (t0 : Int32) (st : St) (hf : F_X8_bowAll_155 k9 v2 v4 t0 st = some (rr, st')) : Z X p l e (rmk 2) s m args below meth c 8 (MQ below (Qf X (some (.int rr)) st') args s 0 0 (cA X)) 155 [(0, .ref (X.2.1 59)), (2, .int v2), (4, .int v4)] [.int t0] st := by
  unfold F_X8_bowAll_155 at hf
  refine x_istore_n hh dX8_bowAll_155 rfl (by decide) [(3, .int t0), (0, .ref (X.2.1 59)), (2, .int v2), (4, .int v4)] rfl 156 rfl ?_
  refine x_goto hh dX8_bowAll_156 9 rfl ?_
  refine x_sub (lv' := [(0, .ref (X.2.1 59)), (2, .int v2), (3, .int t0), (4, .int v4)]) [1, 2, 0, 3] rfl ?_
  exact hk9 v2 t0 v4 st hf
def F_X8_bowAll_149 (k9 : Int32 → Int32 → Int32 → St → Option (Int32 × St)) (v2 : Int32) (v4 : Int32) (v7 : Int32) (st : St) : Option (Int32 × St) := F_X8_bowAll_155 k9 v2 v4 v7 st
set_option maxRecDepth 100000 in
set_option maxHeartbeats 4000000 in
theorem Z_X8_bowAll_149 {l : Launch} {X : Cx} (hX : Ok X) {p : Program} {e : Env} {s : State} {m : MethodId} {args : Array Value} {below : List Frame} {meth : Method} {c : Code} {rr : Int32} {st' : St} (hh : Hy X p s m args meth c cX8_bowAll 8 RX8) (hr : meth.sig.returnType = some .int) {k9 : Int32 → Int32 → Int32 → St → Option (Int32 × St)} (hk9 : ∀ (v2 : Int32) (v3 : Int32) (v4 : Int32) (st : St), k9 v2 v3 v4 st = some (rr, st') → Z X p l e (rmk 2) s m args below meth c 8 (MQ below (Qf X (some (.int rr)) st') args s 0 0 (cA X)) 9 [(0, .ref (X.2.1 59)), (2, .int v2), (3, .int v3), (4, .int v4)] [] st) (v2 : Int32) (v4 : Int32) (v7 : Int32) (st : St) (hf : F_X8_bowAll_149 k9 v2 v4 v7 st = some (rr, st')) : Z X p l e (rmk 2) s m args below meth c 8 (MQ below (Qf X (some (.int rr)) st') args s 0 0 (cA X)) 149 [(0, .ref (X.2.1 59)), (2, .int v2), (4, .int v4), (7, .int v7)] [] st := by
  unfold F_X8_bowAll_149 at hf
  refine x_iload hh dX8_bowAll_149 3 rfl 151 rfl ?_
  refine x_goto hh dX8_bowAll_151 155 rfl ?_
  refine x_sub (lv' := [(0, .ref (X.2.1 59)), (2, .int v2), (4, .int v4)]) [0, 1, 2] rfl ?_
  exact Z_X8_bowAll_155 hX hh hr hk9  v2 v4 v7 st hf
def F_X8_bowAll_154 (k9 : Int32 → Int32 → Int32 → St → Option (Int32 × St)) (v2 : Int32) (v3 : Int32) (v4 : Int32) (st : St) : Option (Int32 × St) := F_X8_bowAll_155 k9 v2 v4 v3 st
set_option maxRecDepth 100000 in
set_option maxHeartbeats 4000000 in
theorem Z_X8_bowAll_154 {l : Launch} {X : Cx} (hX : Ok X) {p : Program} {e : Env} {s : State} {m : MethodId} {args : Array Value} {below : List Frame} {meth : Method} {c : Code} {rr : Int32} {st' : St} (hh : Hy X p s m args meth c cX8_bowAll 8 RX8) (hr : meth.sig.returnType = some .int) {k9 : Int32 → Int32 → Int32 → St → Option (Int32 × St)} (hk9 : ∀ (v2 : Int32) (v3 : Int32) (v4 : Int32) (st : St), k9 v2 v3 v4 st = some (rr, st') → Z X p l e (rmk 2) s m args below meth c 8 (MQ below (Qf X (some (.int rr)) st') args s 0 0 (cA X)) 9 [(0, .ref (X.2.1 59)), (2, .int v2), (3, .int v3), (4, .int v4)] [] st) (v2 : Int32) (v3 : Int32) (v4 : Int32) (st : St) (hf : F_X8_bowAll_154 k9 v2 v3 v4 st = some (rr, st')) : Z X p l e (rmk 2) s m args below meth c 8 (MQ below (Qf X (some (.int rr)) st') args s 0 0 (cA X)) 154 [(0, .ref (X.2.1 59)), (2, .int v2), (3, .int v3), (4, .int v4)] [] st := by
  unfold F_X8_bowAll_154 at hf
  refine x_iload_n hh dX8_bowAll_154 rfl 2 rfl 155 rfl ?_
  refine x_sub (lv' := [(0, .ref (X.2.1 59)), (2, .int v2), (4, .int v4)]) [0, 1, 3] rfl ?_
  exact Z_X8_bowAll_155 hX hh hr hk9  v2 v4 v3 st hf
def F_X8_bowAll_108 (k9 : Int32 → Int32 → Int32 → St → Option (Int32 × St)) (v2 : Int32) (v3 : Int32) (v5 : Int32) (t0 : Int32) (t1 : Int32) (st : St) : Option (Int32 × St) := gi v5 6 (gi v5 6 (if v3 = 1000000 then F_X8_bowAll_149 k9 v2 (t1 ||| t0) ((st.1 80 v5.toNatClampNeg) - (st.1 81 v5.toNatClampNeg)) st else if (st.1 59 10) = 1 then if v3 ≤ ((st.1 80 v5.toNatClampNeg) - (st.1 81 v5.toNatClampNeg)) then F_X8_bowAll_154 k9 v2 v3 (t1 ||| t0) st else F_X8_bowAll_149 k9 v2 (t1 ||| t0) ((st.1 80 v5.toNatClampNeg) - (st.1 81 v5.toNatClampNeg)) st else F_X8_bowAll_154 k9 v2 v3 (t1 ||| t0) st))
set_option maxRecDepth 100000 in
set_option maxHeartbeats 4000000 in
theorem Z_X8_bowAll_108 {l : Launch} {X : Cx} (hX : Ok X) {p : Program} {e : Env} {s : State} {m : MethodId} {args : Array Value} {below : List Frame} {meth : Method} {c : Code} {rr : Int32} {st' : St} (hh : Hy X p s m args meth c cX8_bowAll 8 RX8) (hr : meth.sig.returnType = some .int) {k9 : Int32 → Int32 → Int32 → St → Option (Int32 × St)} (hk9 : ∀ (v2 : Int32) (v3 : Int32) (v4 : Int32) (st : St), k9 v2 v3 v4 st = some (rr, st') → Z X p l e (rmk 2) s m args below meth c 8 (MQ below (Qf X (some (.int rr)) st') args s 0 0 (cA X)) 9 [(0, .ref (X.2.1 59)), (2, .int v2), (3, .int v3), (4, .int v4)] [] st) (v2 : Int32) (v3 : Int32) (v5 : Int32) (t0 : Int32) (t1 : Int32) (st : St) (hf : F_X8_bowAll_108 k9 v2 v3 v5 t0 t1 st = some (rr, st')) : Z X p l e (rmk 2) s m args below meth c 8 (MQ below (Qf X (some (.int rr)) st') args s 0 0 (cA X)) 108 [(0, .ref (X.2.1 59)), (2, .int v2), (3, .int v3), (5, .int v5)] [.int t0, .int t1] st := by
  unfold F_X8_bowAll_108 at hf
  refine x_ior hh dX8_bowAll_108 109 rfl ?_
  refine x_istore hh dX8_bowAll_109 (by decide) [(4, .int (t1 ||| t0)), (0, .ref (X.2.1 59)), (2, .int v2), (3, .int v3), (5, .int v5)] rfl 111 rfl ?_
  refine x_aload_n hh dX8_bowAll_111 rfl 1 rfl 112 rfl ?_
  refine x_getR hh cl_8 dX8_bowAll_112 sh_59 35 80 rfl (Nat.le_of_ble_eq_true rfl) wd_835 115 rfl ?_
  refine x_iload hh dX8_bowAll_115 4 rfl 117 rfl ?_
  obtain ⟨hi13, hf⟩ := gi_some hf
  refine x_iaload hh dX8_bowAll_117 sh_80 hi13 118 rfl ?_
  refine x_aload_n hh dX8_bowAll_118 rfl 1 rfl 119 rfl ?_
  refine x_getR hh cl_8 dX8_bowAll_119 sh_59 36 81 rfl (Nat.le_of_ble_eq_true rfl) wd_836 122 rfl ?_
  refine x_iload hh dX8_bowAll_122 4 rfl 124 rfl ?_
  obtain ⟨hi14, hf⟩ := gi_some hf
  refine x_iaload hh dX8_bowAll_124 sh_81 hi14 125 rfl ?_
  refine x_isub hh dX8_bowAll_125 126 rfl ?_
  refine x_istore hh dX8_bowAll_126 (by decide) [(7, .int ((st.1 80 v5.toNatClampNeg) - (st.1 81 v5.toNatClampNeg))), (4, .int (t1 ||| t0)), (0, .ref (X.2.1 59)), (2, .int v2), (3, .int v3), (5, .int v5)] rfl 128 rfl ?_
  refine x_iload_n hh dX8_bowAll_128 rfl 4 rfl 129 rfl ?_
  refine x_ldc_w hh dX8_bowAll_129 wd_1056 132 rfl ?_
  refine x_icmp_eq hh dX8_bowAll_132 149 rfl 135 rfl (fun hc15 => ?_) (fun hc15 => ?_)
  · have hf := t_pos hc15 hf
    refine x_sub (lv' := [(0, .ref (X.2.1 59)), (2, .int v2), (4, .int (t1 ||| t0)), (7, .int ((st.1 80 v5.toNatClampNeg) - (st.1 81 v5.toNatClampNeg)))]) [2, 3, 1, 0] rfl ?_
    exact Z_X8_bowAll_149 hX hh hr hk9  v2 (t1 ||| t0) ((st.1 80 v5.toNatClampNeg) - (st.1 81 v5.toNatClampNeg)) st hf
  · have hf := t_neg hc15 hf
    refine x_aload_n hh dX8_bowAll_135 rfl 2 rfl 136 rfl ?_
    refine x_getI hh cl_8 dX8_bowAll_136 sh_59 10 rfl (Nat.le_of_ble_eq_true rfl) wd_810 139 rfl ?_
    refine x_iconst hh dX8_bowAll_139 1 rfl 140 rfl ?_
    refine x_icmp_ne hh dX8_bowAll_140 154 rfl 143 rfl (fun hc16 => ?_) (fun hc16 => ?_)
    · have hf := t_neg hc16 hf
      refine x_sub (lv' := [(0, .ref (X.2.1 59)), (2, .int v2), (3, .int v3), (4, .int (t1 ||| t0))]) [2, 3, 4, 1] rfl ?_
      exact Z_X8_bowAll_154 hX hh hr hk9  v2 v3 (t1 ||| t0) st hf
    · have hf := t_pos hc16 hf
      refine x_iload hh dX8_bowAll_143 0 rfl 145 rfl ?_
      refine x_iload_n hh dX8_bowAll_145 rfl 4 rfl 146 rfl ?_
      refine x_icmp_ge hh dX8_bowAll_146 154 rfl 149 rfl (fun hc17 => ?_) (fun hc17 => ?_)
      · have hf := t_pos hc17 hf
        refine x_sub (lv' := [(0, .ref (X.2.1 59)), (2, .int v2), (3, .int v3), (4, .int (t1 ||| t0))]) [2, 3, 4, 1] rfl ?_
        exact Z_X8_bowAll_154 hX hh hr hk9  v2 v3 (t1 ||| t0) st hf
      · have hf := t_neg hc17 hf
        refine x_sub (lv' := [(0, .ref (X.2.1 59)), (2, .int v2), (4, .int (t1 ||| t0)), (7, .int ((st.1 80 v5.toNatClampNeg) - (st.1 81 v5.toNatClampNeg)))]) [2, 3, 1, 0] rfl ?_
        exact Z_X8_bowAll_149 hX hh hr hk9  v2 (t1 ||| t0) ((st.1 80 v5.toNatClampNeg) - (st.1 81 v5.toNatClampNeg)) st hf
def F_X8_bowAll_85 (k9 : Int32 → Int32 → Int32 → St → Option (Int32 × St)) (v2 : Int32) (v3 : Int32) (v4 : Int32) (v5 : Int32) (v6 : Int32) (t0 : Int32) (t1 : Int32) (st : St) : Option (Int32 × St) := gi t1 6 (bs (sV st 81 t1.toNatClampNeg t0) (fun st10 => gi v5 6 (if v6 ≤ (st10.1 64 v5.toNatClampNeg) then F_X8_bowAll_108 k9 v2 v3 v5 0 v4 st10 else F_X8_bowAll_108 k9 v2 v3 v5 (1 <<< (v5 &&& 31)) v4 st10)))
set_option maxRecDepth 100000 in
set_option maxHeartbeats 4000000 in
theorem Z_X8_bowAll_85 {l : Launch} {X : Cx} (hX : Ok X) {p : Program} {e : Env} {s : State} {m : MethodId} {args : Array Value} {below : List Frame} {meth : Method} {c : Code} {rr : Int32} {st' : St} (hh : Hy X p s m args meth c cX8_bowAll 8 RX8) (hr : meth.sig.returnType = some .int) {k9 : Int32 → Int32 → Int32 → St → Option (Int32 × St)} (hk9 : ∀ (v2 : Int32) (v3 : Int32) (v4 : Int32) (st : St), k9 v2 v3 v4 st = some (rr, st') → Z X p l e (rmk 2) s m args below meth c 8 (MQ below (Qf X (some (.int rr)) st') args s 0 0 (cA X)) 9 [(0, .ref (X.2.1 59)), (2, .int v2), (3, .int v3), (4, .int v4)] [] st) (v2 : Int32) (v3 : Int32) (v4 : Int32) (v5 : Int32) (v6 : Int32) (t0 : Int32) (t1 : Int32) (st : St) (hf : F_X8_bowAll_85 k9 v2 v3 v4 v5 v6 t0 t1 st = some (rr, st')) : Z X p l e (rmk 2) s m args below meth c 8 (MQ below (Qf X (some (.int rr)) st') args s 0 0 (cA X)) 85 [(0, .ref (X.2.1 59)), (2, .int v2), (3, .int v3), (4, .int v4), (5, .int v5), (6, .int v6)] [.int t0, .int t1, .ref (X.2.1 81)] st := by
  unfold F_X8_bowAll_85 at hf
  obtain ⟨hi9, hf⟩ := gi_some hf
  obtain ⟨st10, est10, hf⟩ := bs_some hf
  refine x_iastore hh dX8_bowAll_85 sh_81 hi9 86 rfl st10 est10 ?_
  refine x_iload hh dX8_bowAll_86 3 rfl 88 rfl ?_
  refine x_iload hh dX8_bowAll_88 5 rfl 90 rfl ?_
  refine x_aload_n hh dX8_bowAll_90 rfl 0 rfl 91 rfl ?_
  refine x_getR hh cl_8 dX8_bowAll_91 sh_59 6 64 rfl (Nat.le_of_ble_eq_true rfl) wd_806 94 rfl ?_
  refine x_iload hh dX8_bowAll_94 4 rfl 96 rfl ?_
  obtain ⟨hi11, hf⟩ := gi_some hf
  refine x_iaload hh dX8_bowAll_96 sh_64 hi11 97 rfl ?_
  refine x_icmp_le hh dX8_bowAll_97 107 rfl 100 rfl (fun hc12 => ?_) (fun hc12 => ?_)
  · have hf := t_pos hc12 hf
    refine x_iconst hh dX8_bowAll_107 0 rfl 108 rfl ?_
    refine x_sub (lv' := [(0, .ref (X.2.1 59)), (2, .int v2), (3, .int v3), (5, .int v5)]) [0, 1, 2, 4] rfl ?_
    exact Z_X8_bowAll_108 hX hh hr hk9  v2 v3 v5 0 v4 st10 hf
  · have hf := t_neg hc12 hf
    refine x_iconst hh dX8_bowAll_100 1 rfl 101 rfl ?_
    refine x_iload hh dX8_bowAll_101 4 rfl 103 rfl ?_
    refine x_ishl hh dX8_bowAll_103 104 rfl ?_
    refine x_goto hh dX8_bowAll_104 108 rfl ?_
    refine x_sub (lv' := [(0, .ref (X.2.1 59)), (2, .int v2), (3, .int v3), (5, .int v5)]) [0, 1, 2, 4] rfl ?_
    exact Z_X8_bowAll_108 hX hh hr hk9  v2 v3 v5 (1 <<< (v5 &&& 31)) v4 st10 hf
def F_X8_bowAll_53 (k9 : Int32 → Int32 → Int32 → St → Option (Int32 × St)) (v2 : Int32) (v3 : Int32) (v4 : Int32) (v5 : Int32) (t0 : Int32) (st : St) : Option (Int32 × St) := gi v5 6 (if t0 ≤ (st.1 64 v5.toNatClampNeg) then F_X8_bowAll_85 k9 v2 v3 v4 v5 t0 t0 v5 st else gi v5 6 (F_X8_bowAll_85 k9 v2 v3 v4 v5 t0 (st.1 64 v5.toNatClampNeg) v5 st))
set_option maxRecDepth 100000 in
set_option maxHeartbeats 4000000 in
theorem Z_X8_bowAll_53 {l : Launch} {X : Cx} (hX : Ok X) {p : Program} {e : Env} {s : State} {m : MethodId} {args : Array Value} {below : List Frame} {meth : Method} {c : Code} {rr : Int32} {st' : St} (hh : Hy X p s m args meth c cX8_bowAll 8 RX8) (hr : meth.sig.returnType = some .int) {k9 : Int32 → Int32 → Int32 → St → Option (Int32 × St)} (hk9 : ∀ (v2 : Int32) (v3 : Int32) (v4 : Int32) (st : St), k9 v2 v3 v4 st = some (rr, st') → Z X p l e (rmk 2) s m args below meth c 8 (MQ below (Qf X (some (.int rr)) st') args s 0 0 (cA X)) 9 [(0, .ref (X.2.1 59)), (2, .int v2), (3, .int v3), (4, .int v4)] [] st) (v2 : Int32) (v3 : Int32) (v4 : Int32) (v5 : Int32) (t0 : Int32) (st : St) (hf : F_X8_bowAll_53 k9 v2 v3 v4 v5 t0 st = some (rr, st')) : Z X p l e (rmk 2) s m args below meth c 8 (MQ below (Qf X (some (.int rr)) st') args s 0 0 (cA X)) 53 [(0, .ref (X.2.1 59)), (2, .int v2), (3, .int v3), (4, .int v4), (5, .int v5)] [.int t0] st := by
  unfold F_X8_bowAll_53 at hf
  refine x_istore hh dX8_bowAll_53 (by decide) [(6, .int t0), (0, .ref (X.2.1 59)), (2, .int v2), (3, .int v3), (4, .int v4), (5, .int v5)] rfl 55 rfl ?_
  refine x_aload_n hh dX8_bowAll_55 rfl 1 rfl 56 rfl ?_
  refine x_getR hh cl_8 dX8_bowAll_56 sh_59 36 81 rfl (Nat.le_of_ble_eq_true rfl) wd_836 59 rfl ?_
  refine x_iload hh dX8_bowAll_59 5 rfl 61 rfl ?_
  refine x_iload hh dX8_bowAll_61 0 rfl 63 rfl ?_
  refine x_aload_n hh dX8_bowAll_63 rfl 1 rfl 64 rfl ?_
  refine x_getR hh cl_8 dX8_bowAll_64 sh_59 6 64 rfl (Nat.le_of_ble_eq_true rfl) wd_806 67 rfl ?_
  refine x_iload hh dX8_bowAll_67 5 rfl 69 rfl ?_
  obtain ⟨hi6, hf⟩ := gi_some hf
  refine x_iaload hh dX8_bowAll_69 sh_64 hi6 70 rfl ?_
  refine x_icmp_le hh dX8_bowAll_70 83 rfl 73 rfl (fun hc7 => ?_) (fun hc7 => ?_)
  · have hf := t_pos hc7 hf
    refine x_iload hh dX8_bowAll_83 0 rfl 85 rfl ?_
    refine x_sub (lv' := [(0, .ref (X.2.1 59)), (2, .int v2), (3, .int v3), (4, .int v4), (5, .int v5), (6, .int t0)]) [1, 2, 3, 4, 5, 0] rfl ?_
    exact Z_X8_bowAll_85 hX hh hr hk9  v2 v3 v4 v5 t0 t0 v5 st hf
  · have hf := t_neg hc7 hf
    refine x_aload_n hh dX8_bowAll_73 rfl 1 rfl 74 rfl ?_
    refine x_getR hh cl_8 dX8_bowAll_74 sh_59 6 64 rfl (Nat.le_of_ble_eq_true rfl) wd_806 77 rfl ?_
    refine x_iload hh dX8_bowAll_77 5 rfl 79 rfl ?_
    obtain ⟨hi8, hf⟩ := gi_some hf
    refine x_iaload hh dX8_bowAll_79 sh_64 hi8 80 rfl ?_
    refine x_goto hh dX8_bowAll_80 85 rfl ?_
    refine x_sub (lv' := [(0, .ref (X.2.1 59)), (2, .int v2), (3, .int v3), (4, .int v4), (5, .int v5), (6, .int t0)]) [1, 2, 3, 4, 5, 0] rfl ?_
    exact Z_X8_bowAll_85 hX hh hr hk9  v2 v3 v4 v5 t0 (st.1 64 v5.toNatClampNeg) v5 st hf
def F_X8_bowAll_9 : Nat → Int32 → Int32 → Int32 → St → Option (Int32 × St)
  | 0, _, _, _, _ => none
  | n + 1, v2, v3, v4, st => if v2 = 0 then some (v4, st) else (F_X8_eldest v2 st).bind (fun q2 => gi q2.1 6 (if (q2.2.1 80 q2.1.toNatClampNeg) ≤ v3 then F_X8_bowAll_53 (F_X8_bowAll_9 n) (v2 &&& ((1 <<< (q2.1 &&& 31)) ^^^ ((-1)))) v3 v4 q2.1 0 q2.2 else gi q2.1 6 (F_X8_bowAll_53 (F_X8_bowAll_9 n) (v2 &&& ((1 <<< (q2.1 &&& 31)) ^^^ ((-1)))) v3 v4 q2.1 ((q2.2.1 80 q2.1.toNatClampNeg) - v3) q2.2)))
set_option maxRecDepth 100000 in
set_option maxHeartbeats 4000000 in
theorem Z_X8_bowAll_9 {l : Launch} {X : Cx} (hX : Ok X) {p : Program} {e : Env} {s : State} {m : MethodId} {args : Array Value} {below : List Frame} {meth : Method} {c : Code} {rr : Int32} {st' : St} (hh : Hy X p s m args meth c cX8_bowAll 8 RX8) (hr : meth.sig.returnType = some .int) : ∀ (n : Nat) (v2 : Int32) (v3 : Int32) (v4 : Int32) (st : St), F_X8_bowAll_9 n v2 v3 v4 st = some (rr, st') → Z X p l e (rmk 2) s m args below meth c 8 (MQ below (Qf X (some (.int rr)) st') args s 0 0 (cA X)) 9 [(0, .ref (X.2.1 59)), (2, .int v2), (3, .int v3), (4, .int v4)] [] st := by
  intro n
  induction n with
  | zero =>
    intro v2 v3 v4 st hf
    cases hf
  | succ n ih =>
    intro v2 v3 v4 st hf
    rw [F_X8_bowAll_9] at hf
    refine x_iload_n hh dX8_bowAll_9 rfl 1 rfl 10 rfl ?_
    refine x_if_eq hh dX8_bowAll_10 159 rfl 13 rfl (fun hc1 => ?_) (fun hc1 => ?_)
    · have hf := t_pos hc1 hf
      refine x_iload hh dX8_bowAll_159 3 rfl 161 rfl ?_
      obtain ⟨rfl, rfl⟩ := ret2 hf
      exact x_iret hh hr dX8_bowAll_161
    · have hf := t_neg hc1 hf
      refine x_aload_n hh dX8_bowAll_13 rfl 0 rfl 14 rfl ?_
      refine x_iload_n hh dX8_bowAll_14 rfl 1 rfl 15 rfl ?_
      obtain ⟨q2, hq2, hf⟩ := b_some hf
      refine x_callV (rest := []) hh mi_X8_eldest [.int v2] dX8_bowAll_15 sh_59 wd_1037 (C_X8_eldest l hX  hq2) rfl rfl ⟨Nat.le_of_ble_eq_true rfl, Nat.le_of_ble_eq_true rfl⟩ (Nat.le_of_ble_eq_true rfl) 18 rfl [.int q2.1] rfl ?_
      refine x_istore hh dX8_bowAll_18 (by decide) [(5, .int q2.1), (0, .ref (X.2.1 59)), (2, .int v2), (3, .int v3), (4, .int v4)] rfl 20 rfl ?_
      refine x_iload_n hh dX8_bowAll_20 rfl 2 rfl 21 rfl ?_
      refine x_iconst hh dX8_bowAll_21 1 rfl 22 rfl ?_
      refine x_iload hh dX8_bowAll_22 0 rfl 24 rfl ?_
      refine x_ishl hh dX8_bowAll_24 25 rfl ?_
      refine x_iconst hh dX8_bowAll_25 (-1) rfl 26 rfl ?_
      refine x_ixor hh dX8_bowAll_26 27 rfl ?_
      refine x_iand hh dX8_bowAll_27 28 rfl ?_
      refine x_istore_n hh dX8_bowAll_28 rfl (by decide) [(2, .int (v2 &&& ((1 <<< (q2.1 &&& 31)) ^^^ ((-1))))), (5, .int q2.1), (0, .ref (X.2.1 59)), (3, .int v3), (4, .int v4)] rfl 29 rfl ?_
      refine x_aload_n hh dX8_bowAll_29 rfl 2 rfl 30 rfl ?_
      refine x_getR hh cl_8 dX8_bowAll_30 sh_59 35 80 rfl (Nat.le_of_ble_eq_true rfl) wd_835 33 rfl ?_
      refine x_iload hh dX8_bowAll_33 1 rfl 35 rfl ?_
      obtain ⟨hi3, hf⟩ := gi_some hf
      refine x_iaload hh dX8_bowAll_35 sh_80 hi3 36 rfl ?_
      refine x_iload_n hh dX8_bowAll_36 rfl 3 rfl 37 rfl ?_
      refine x_icmp_le hh dX8_bowAll_37 52 rfl 40 rfl (fun hc4 => ?_) (fun hc4 => ?_)
      · have hf := t_pos hc4 hf
        refine x_iconst hh dX8_bowAll_52 0 rfl 53 rfl ?_
        refine x_sub (lv' := [(0, .ref (X.2.1 59)), (2, .int (v2 &&& ((1 <<< (q2.1 &&& 31)) ^^^ ((-1))))), (3, .int v3), (4, .int v4), (5, .int q2.1)]) [2, 0, 3, 4, 1] rfl ?_
        exact Z_X8_bowAll_53 hX hh hr ih  (v2 &&& ((1 <<< (q2.1 &&& 31)) ^^^ ((-1)))) v3 v4 q2.1 0 q2.2 hf
      · have hf := t_neg hc4 hf
        refine x_aload_n hh dX8_bowAll_40 rfl 2 rfl 41 rfl ?_
        refine x_getR hh cl_8 dX8_bowAll_41 sh_59 35 80 rfl (Nat.le_of_ble_eq_true rfl) wd_835 44 rfl ?_
        refine x_iload hh dX8_bowAll_44 1 rfl 46 rfl ?_
        obtain ⟨hi5, hf⟩ := gi_some hf
        refine x_iaload hh dX8_bowAll_46 sh_80 hi5 47 rfl ?_
        refine x_iload_n hh dX8_bowAll_47 rfl 3 rfl 48 rfl ?_
        refine x_isub hh dX8_bowAll_48 49 rfl ?_
        refine x_goto hh dX8_bowAll_49 53 rfl ?_
        refine x_sub (lv' := [(0, .ref (X.2.1 59)), (2, .int (v2 &&& ((1 <<< (q2.1 &&& 31)) ^^^ ((-1))))), (3, .int v3), (4, .int v4), (5, .int q2.1)]) [2, 0, 3, 4, 1] rfl ?_
        exact Z_X8_bowAll_53 hX hh hr ih  (v2 &&& ((1 <<< (q2.1 &&& 31)) ^^^ ((-1)))) v3 v4 q2.1 ((q2.2.1 80 q2.1.toNatClampNeg) - v3) q2.2 hf
def F_X8_bowAll_0 (v1 : Int32) (st : St) : Option (Int32 × St) := F_X8_bowAll_9 fN v1 1000000 0 st
set_option maxRecDepth 100000 in
set_option maxHeartbeats 4000000 in
theorem Z_X8_bowAll_0 {l : Launch} {X : Cx} (hX : Ok X) {p : Program} {e : Env} {s : State} {m : MethodId} {args : Array Value} {below : List Frame} {meth : Method} {c : Code} {rr : Int32} {st' : St} (hh : Hy X p s m args meth c cX8_bowAll 8 RX8) (hr : meth.sig.returnType = some .int) (v1 : Int32) (st : St) (hf : F_X8_bowAll_0 v1 st = some (rr, st')) : Z X p l e (rmk 2) s m args below meth c 8 (MQ below (Qf X (some (.int rr)) st') args s 0 0 (cA X)) 0 [(0, .ref (X.2.1 59)), (1, .int v1)] [] st := by
  unfold F_X8_bowAll_0 at hf
  refine x_iload_n hh dX8_bowAll_0 rfl 1 rfl 1 rfl ?_
  refine x_istore_n hh dX8_bowAll_1 rfl (by decide) [(2, .int v1), (0, .ref (X.2.1 59)), (1, .int v1)] rfl 2 rfl ?_
  refine x_ldc_w hh dX8_bowAll_2 wd_1056 5 rfl ?_
  refine x_istore_n hh dX8_bowAll_5 rfl (by decide) [(3, .int 1000000), (2, .int v1), (0, .ref (X.2.1 59)), (1, .int v1)] rfl 6 rfl ?_
  refine x_iconst hh dX8_bowAll_6 0 rfl 7 rfl ?_
  refine x_istore hh dX8_bowAll_7 (by decide) [(4, .int 0), (3, .int 1000000), (2, .int v1), (0, .ref (X.2.1 59)), (1, .int v1)] rfl 9 rfl ?_
  refine x_sub (lv' := [(0, .ref (X.2.1 59)), (2, .int v1), (3, .int 1000000), (4, .int 0)]) [3, 2, 1, 0] rfl ?_
  exact Z_X8_bowAll_9 hX hh hr fN v1 1000000 0 st hf
def F_X8_bowAll (v1 : Int32) (st : St) : Option (Int32 × St) := F_X8_bowAll_0  v1 st
set_option maxRecDepth 100000 in
theorem C_X8_bowAll (l : Launch) {X : Cx} (hX : Ok X) {v1 : Int32} {st : St} {q : Int32 × St} (hf : F_X8_bowAll v1 st = some q) : Ct l X 2 yX8_bowAll (.code yX8_bowAll cX8_bowAll 8 (some .int)) [.ref (X.2.1 59), .int v1] st (some (.int q.1)) q.2 := by
  refine Ct.of hX (by decide) (Nat.le_of_ble_eq_true rfl) ?_
  intro p e s m args below meth c hh hr
  exact Z_X8_bowAll_0 hX hh hr v1 st hf

def F_X8_takeTall_44 (k2 : Int32 → Int32 → St → Option (St)) (v1 : Int32) (v2 : Int32) (t0 : Int32) (t1 : Int32) (st : St) : Option (St) := gi t1 6 (bs (sV st 80 t1.toNatClampNeg t0) (fun st8 => k2 v1 (v2 + 1) st8))
set_option maxRecDepth 100000 in
set_option maxHeartbeats 4000000 in
theorem Z_X8_takeTall_44 {l : Launch} {X : Cx} (hX : Ok X) {p : Program} {e : Env} {s : State} {m : MethodId} {args : Array Value} {below : List Frame} {meth : Method} {c : Code} {st' : St} (hh : Hy X p s m args meth c cX8_takeTall 3 RX8) (hr : meth.sig.returnType = none) {k2 : Int32 → Int32 → St → Option (St)} (hk2 : ∀ (v1 : Int32) (v2 : Int32) (st : St), k2 v1 v2 st = some st' → Z X p l e (rmk 1) s m args below meth c 3 (MQ below (Qf X none st') args s 0 0 (cA X)) 2 [(0, .ref (X.2.1 59)), (1, .int v1), (2, .int v2)] [] st) (v1 : Int32) (v2 : Int32) (t0 : Int32) (t1 : Int32) (st : St) (hf : F_X8_takeTall_44 k2 v1 v2 t0 t1 st = some st') : Z X p l e (rmk 1) s m args below meth c 3 (MQ below (Qf X none st') args s 0 0 (cA X)) 44 [(0, .ref (X.2.1 59)), (1, .int v1), (2, .int v2)] [.int t0, .int t1, .ref (X.2.1 80)] st := by
  unfold F_X8_takeTall_44 at hf
  obtain ⟨hi7, hf⟩ := gi_some hf
  obtain ⟨st8, est8, hf⟩ := bs_some hf
  refine x_iastore hh dX8_takeTall_44 sh_80 hi7 45 rfl st8 est8 ?_
  refine x_iinc hh dX8_takeTall_45 2 rfl (v2 + 1) rfl (by decide) [(2, .int (v2 + 1)), (0, .ref (X.2.1 59)), (1, .int v1)] rfl 48 rfl ?_
  refine x_goto hh dX8_takeTall_48 2 rfl ?_
  refine x_sub (lv' := [(0, .ref (X.2.1 59)), (1, .int v1), (2, .int (v2 + 1))]) [1, 2, 0] rfl ?_
  exact hk2 v1 (v2 + 1) st8 hf
def F_X8_takeTall_2 : Nat → Int32 → Int32 → St → Option (St)
  | 0, _, _, _ => none
  | n + 1, v1, v2, st => if (st.1 59 3) ≤ v2 then some st else (F_X8_has v1 v2 st).bind (fun q2 => if q2.1 = 0 then F_X8_takeTall_44 (F_X8_takeTall_2 n) v1 v2 0 v2 q2.2 else gi v2 6 (gi v2 6 ((F_X8_tallAt v2 (q2.2.1 69 v2.toNatClampNeg) (q2.2.1 70 v2.toNatClampNeg) q2.2).bind (fun q6 => F_X8_takeTall_44 (F_X8_takeTall_2 n) v1 v2 q6.1 v2 q6.2))))
set_option maxRecDepth 100000 in
set_option maxHeartbeats 4000000 in
theorem Z_X8_takeTall_2 {l : Launch} {X : Cx} (hX : Ok X) {p : Program} {e : Env} {s : State} {m : MethodId} {args : Array Value} {below : List Frame} {meth : Method} {c : Code} {st' : St} (hh : Hy X p s m args meth c cX8_takeTall 3 RX8) (hr : meth.sig.returnType = none) : ∀ (n : Nat) (v1 : Int32) (v2 : Int32) (st : St), F_X8_takeTall_2 n v1 v2 st = some st' → Z X p l e (rmk 1) s m args below meth c 3 (MQ below (Qf X none st') args s 0 0 (cA X)) 2 [(0, .ref (X.2.1 59)), (1, .int v1), (2, .int v2)] [] st := by
  intro n
  induction n with
  | zero =>
    intro v1 v2 st hf
    cases hf
  | succ n ih =>
    intro v1 v2 st hf
    rw [F_X8_takeTall_2] at hf
    refine x_iload_n hh dX8_takeTall_2 rfl 2 rfl 3 rfl ?_
    refine x_aload_n hh dX8_takeTall_3 rfl 0 rfl 4 rfl ?_
    refine x_getI hh cl_8 dX8_takeTall_4 sh_59 3 rfl (Nat.le_of_ble_eq_true rfl) wd_803 7 rfl ?_
    refine x_icmp_ge hh dX8_takeTall_7 51 rfl 10 rfl (fun hc1 => ?_) (fun hc1 => ?_)
    · have hf := t_pos hc1 hf
      obtain rfl := ret1 hf
      exact x_vret hh hr dX8_takeTall_51
    · have hf := t_neg hc1 hf
      refine x_aload_n hh dX8_takeTall_10 rfl 0 rfl 11 rfl ?_
      refine x_getR hh cl_8 dX8_takeTall_11 sh_59 35 80 rfl (Nat.le_of_ble_eq_true rfl) wd_835 14 rfl ?_
      refine x_iload_n hh dX8_takeTall_14 rfl 2 rfl 15 rfl ?_
      refine x_iload_n hh dX8_takeTall_15 rfl 1 rfl 16 rfl ?_
      refine x_iload_n hh dX8_takeTall_16 rfl 2 rfl 17 rfl ?_
      obtain ⟨q2, hq2, hf⟩ := b_some hf
      refine x_callS (rest := [.int v2, .ref (X.2.1 80)]) hh ms_X8_has [.int v1, .int v2] dX8_takeTall_17 wd_1040 (C_X8_has l hX  hq2) rfl rfl ⟨Nat.le_of_ble_eq_true rfl, Nat.le_of_ble_eq_true rfl⟩ (Nat.le_of_ble_eq_true rfl) 20 rfl [.int q2.1, .int v2, .ref (X.2.1 80)] rfl ?_
      refine x_if_eq hh dX8_takeTall_20 43 rfl 23 rfl (fun hc3 => ?_) (fun hc3 => ?_)
      · have hf := t_pos hc3 hf
        refine x_iconst hh dX8_takeTall_43 0 rfl 44 rfl ?_
        exact Z_X8_takeTall_44 hX hh hr ih  v1 v2 0 v2 q2.2 hf
      · have hf := t_neg hc3 hf
        refine x_aload_n hh dX8_takeTall_23 rfl 0 rfl 24 rfl ?_
        refine x_iload_n hh dX8_takeTall_24 rfl 2 rfl 25 rfl ?_
        refine x_aload_n hh dX8_takeTall_25 rfl 0 rfl 26 rfl ?_
        refine x_getR hh cl_8 dX8_takeTall_26 sh_59 13 69 rfl (Nat.le_of_ble_eq_true rfl) wd_813 29 rfl ?_
        refine x_iload_n hh dX8_takeTall_29 rfl 2 rfl 30 rfl ?_
        obtain ⟨hi4, hf⟩ := gi_some hf
        refine x_iaload hh dX8_takeTall_30 sh_69 hi4 31 rfl ?_
        refine x_aload_n hh dX8_takeTall_31 rfl 0 rfl 32 rfl ?_
        refine x_getR hh cl_8 dX8_takeTall_32 sh_59 14 70 rfl (Nat.le_of_ble_eq_true rfl) wd_814 35 rfl ?_
        refine x_iload_n hh dX8_takeTall_35 rfl 2 rfl 36 rfl ?_
        obtain ⟨hi5, hf⟩ := gi_some hf
        refine x_iaload hh dX8_takeTall_36 sh_70 hi5 37 rfl ?_
        obtain ⟨q6, hq6, hf⟩ := b_some hf
        refine x_callV (rest := [.int v2, .ref (X.2.1 80)]) hh mi_X8_tallAt [.int v2, .int (q2.2.1 69 v2.toNatClampNeg), .int (q2.2.1 70 v2.toNatClampNeg)] dX8_takeTall_37 sh_59 wd_994 (C_X8_tallAt l hX  hq6) rfl rfl ⟨Nat.le_of_ble_eq_true rfl, Nat.le_of_ble_eq_true rfl⟩ (Nat.le_of_ble_eq_true rfl) 40 rfl [.int q6.1, .int v2, .ref (X.2.1 80)] rfl ?_
        refine x_goto hh dX8_takeTall_40 44 rfl ?_
        exact Z_X8_takeTall_44 hX hh hr ih  v1 v2 q6.1 v2 q6.2 hf
def F_X8_takeTall_0 (v1 : Int32) (st : St) : Option (St) := F_X8_takeTall_2 fN v1 0 st
set_option maxRecDepth 100000 in
set_option maxHeartbeats 4000000 in
theorem Z_X8_takeTall_0 {l : Launch} {X : Cx} (hX : Ok X) {p : Program} {e : Env} {s : State} {m : MethodId} {args : Array Value} {below : List Frame} {meth : Method} {c : Code} {st' : St} (hh : Hy X p s m args meth c cX8_takeTall 3 RX8) (hr : meth.sig.returnType = none) (v1 : Int32) (st : St) (hf : F_X8_takeTall_0 v1 st = some st') : Z X p l e (rmk 1) s m args below meth c 3 (MQ below (Qf X none st') args s 0 0 (cA X)) 0 [(0, .ref (X.2.1 59)), (1, .int v1)] [] st := by
  unfold F_X8_takeTall_0 at hf
  refine x_iconst hh dX8_takeTall_0 0 rfl 1 rfl ?_
  refine x_istore_n hh dX8_takeTall_1 rfl (by decide) [(2, .int 0), (0, .ref (X.2.1 59)), (1, .int v1)] rfl 2 rfl ?_
  refine x_sub (lv' := [(0, .ref (X.2.1 59)), (1, .int v1), (2, .int 0)]) [1, 2, 0] rfl ?_
  exact Z_X8_takeTall_2 hX hh hr fN v1 0 st hf
def F_X8_takeTall (v1 : Int32) (st : St) : Option (St) := F_X8_takeTall_0  v1 st
set_option maxRecDepth 100000 in
theorem C_X8_takeTall (l : Launch) {X : Cx} (hX : Ok X) {v1 : Int32} {st : St} {q : St} (hf : F_X8_takeTall v1 st = some q) : Ct l X 1 yX8_takeTall (.code yX8_takeTall cX8_takeTall 3 (none)) [.ref (X.2.1 59), .int v1] st none q := by
  refine Ct.of hX (by decide) (Nat.le_of_ble_eq_true rfl) ?_
  intro p e s m args below meth c hh hr
  exact Z_X8_takeTall_0 hX hh hr v1 st hf

def F_X8_bowNow_61 (k20 : Int32 → Int32 → Int32 → St → Option (Int32 × St)) (v2 : Int32) (v3 : Int32) (v4 : Int32) (t0 : Int32) (t1 : Int32) (st : St) : Option (Int32 × St) := gi t1 6 (bs (sV st 71 t1.toNatClampNeg t0) (fun st10 => k20 v2 v3 (v4 + 1) st10))
set_option maxRecDepth 100000 in
set_option maxHeartbeats 4000000 in
theorem Z_X8_bowNow_61 {l : Launch} {X : Cx} (hX : Ok X) {p : Program} {e : Env} {s : State} {m : MethodId} {args : Array Value} {below : List Frame} {meth : Method} {c : Code} {rr : Int32} {st' : St} (hh : Hy X p s m args meth c cX8_bowNow 5 RX8) (hr : meth.sig.returnType = some .int) {k20 : Int32 → Int32 → Int32 → St → Option (Int32 × St)} (hk20 : ∀ (v2 : Int32) (v3 : Int32) (v4 : Int32) (st : St), k20 v2 v3 v4 st = some (rr, st') → Z X p l e (rmk 3) s m args below meth c 5 (MQ below (Qf X (some (.int rr)) st') args s 0 0 (cA X)) 20 [(0, .ref (X.2.1 59)), (2, .int v2), (3, .int v3), (4, .int v4)] [] st) (v2 : Int32) (v3 : Int32) (v4 : Int32) (t0 : Int32) (t1 : Int32) (st : St) (hf : F_X8_bowNow_61 k20 v2 v3 v4 t0 t1 st = some (rr, st')) : Z X p l e (rmk 3) s m args below meth c 5 (MQ below (Qf X (some (.int rr)) st') args s 0 0 (cA X)) 61 [(0, .ref (X.2.1 59)), (2, .int v2), (3, .int v3), (4, .int v4)] [.int t0, .int t1, .ref (X.2.1 71)] st := by
  unfold F_X8_bowNow_61 at hf
  obtain ⟨hi9, hf⟩ := gi_some hf
  obtain ⟨st10, est10, hf⟩ := bs_some hf
  refine x_iastore hh dX8_bowNow_61 sh_71 hi9 62 rfl st10 est10 ?_
  refine x_iinc hh dX8_bowNow_62 3 rfl (v4 + 1) rfl (by decide) [(4, .int (v4 + 1)), (0, .ref (X.2.1 59)), (2, .int v2), (3, .int v3)] rfl 65 rfl ?_
  refine x_goto hh dX8_bowNow_65 20 rfl ?_
  refine x_sub (lv' := [(0, .ref (X.2.1 59)), (2, .int v2), (3, .int v3), (4, .int (v4 + 1))]) [1, 2, 3, 0] rfl ?_
  exact hk20 v2 v3 (v4 + 1) st10 hf
def F_X8_bowNow_20 : Nat → Int32 → Int32 → Int32 → St → Option (Int32 × St)
  | 0, _, _, _, _ => none
  | n + 1, v2, v3, v4, st => if (st.1 59 3) ≤ v4 then some (v3, st) else (F_X8_has v2 v4 st).bind (fun q5 => if q5.1 = 0 then gi v4 6 (F_X8_bowNow_61 (F_X8_bowNow_20 n) v2 v3 v4 (q5.2.1 71 v4.toNatClampNeg) v4 q5.2) else gi v4 6 (F_X8_bowNow_61 (F_X8_bowNow_20 n) v2 v3 v4 (q5.2.1 81 v4.toNatClampNeg) v4 q5.2))
set_option maxRecDepth 100000 in
set_option maxHeartbeats 4000000 in
theorem Z_X8_bowNow_20 {l : Launch} {X : Cx} (hX : Ok X) {p : Program} {e : Env} {s : State} {m : MethodId} {args : Array Value} {below : List Frame} {meth : Method} {c : Code} {rr : Int32} {st' : St} (hh : Hy X p s m args meth c cX8_bowNow 5 RX8) (hr : meth.sig.returnType = some .int) : ∀ (n : Nat) (v2 : Int32) (v3 : Int32) (v4 : Int32) (st : St), F_X8_bowNow_20 n v2 v3 v4 st = some (rr, st') → Z X p l e (rmk 3) s m args below meth c 5 (MQ below (Qf X (some (.int rr)) st') args s 0 0 (cA X)) 20 [(0, .ref (X.2.1 59)), (2, .int v2), (3, .int v3), (4, .int v4)] [] st := by
  intro n
  induction n with
  | zero =>
    intro v2 v3 v4 st hf
    cases hf
  | succ n ih =>
    intro v2 v3 v4 st hf
    rw [F_X8_bowNow_20] at hf
    refine x_iload hh dX8_bowNow_20 3 rfl 22 rfl ?_
    refine x_aload_n hh dX8_bowNow_22 rfl 0 rfl 23 rfl ?_
    refine x_getI hh cl_8 dX8_bowNow_23 sh_59 3 rfl (Nat.le_of_ble_eq_true rfl) wd_803 26 rfl ?_
    refine x_icmp_ge hh dX8_bowNow_26 68 rfl 29 rfl (fun hc4 => ?_) (fun hc4 => ?_)
    · have hf := t_pos hc4 hf
      refine x_iload_n hh dX8_bowNow_68 rfl 2 rfl 69 rfl ?_
      obtain ⟨rfl, rfl⟩ := ret2 hf
      exact x_iret hh hr dX8_bowNow_69
    · have hf := t_neg hc4 hf
      refine x_aload_n hh dX8_bowNow_29 rfl 0 rfl 30 rfl ?_
      refine x_getR hh cl_8 dX8_bowNow_30 sh_59 15 71 rfl (Nat.le_of_ble_eq_true rfl) wd_815 33 rfl ?_
      refine x_iload hh dX8_bowNow_33 3 rfl 35 rfl ?_
      refine x_iload_n hh dX8_bowNow_35 rfl 1 rfl 36 rfl ?_
      refine x_iload hh dX8_bowNow_36 3 rfl 38 rfl ?_
      obtain ⟨q5, hq5, hf⟩ := b_some hf
      refine x_callS (rest := [.int v4, .ref (X.2.1 71)]) hh ms_X8_has [.int v2, .int v4] dX8_bowNow_38 wd_1040 (C_X8_has l hX  hq5) rfl rfl ⟨Nat.le_of_ble_eq_true rfl, Nat.le_of_ble_eq_true rfl⟩ (Nat.le_of_ble_eq_true rfl) 41 rfl [.int q5.1, .int v4, .ref (X.2.1 71)] rfl ?_
      refine x_if_eq hh dX8_bowNow_41 54 rfl 44 rfl (fun hc6 => ?_) (fun hc6 => ?_)
      · have hf := t_pos hc6 hf
        refine x_aload_n hh dX8_bowNow_54 rfl 0 rfl 55 rfl ?_
        refine x_getR hh cl_8 dX8_bowNow_55 sh_59 15 71 rfl (Nat.le_of_ble_eq_true rfl) wd_815 58 rfl ?_
        refine x_iload hh dX8_bowNow_58 3 rfl 60 rfl ?_
        obtain ⟨hi7, hf⟩ := gi_some hf
        refine x_iaload hh dX8_bowNow_60 sh_71 hi7 61 rfl ?_
        exact Z_X8_bowNow_61 hX hh hr ih  v2 v3 v4 (q5.2.1 71 v4.toNatClampNeg) v4 q5.2 hf
      · have hf := t_neg hc6 hf
        refine x_aload_n hh dX8_bowNow_44 rfl 0 rfl 45 rfl ?_
        refine x_getR hh cl_8 dX8_bowNow_45 sh_59 36 81 rfl (Nat.le_of_ble_eq_true rfl) wd_836 48 rfl ?_
        refine x_iload hh dX8_bowNow_48 3 rfl 50 rfl ?_
        obtain ⟨hi8, hf⟩ := gi_some hf
        refine x_iaload hh dX8_bowNow_50 sh_81 hi8 51 rfl ?_
        refine x_goto hh dX8_bowNow_51 61 rfl ?_
        exact Z_X8_bowNow_61 hX hh hr ih  v2 v3 v4 (q5.2.1 81 v4.toNatClampNeg) v4 q5.2 hf
def F_X8_bowNow_0 (v1 : Int32) (st : St) : Option (Int32 × St) := (F_X8_isIn v1 st).bind (fun q1 => (F_X8_takeTall q1.1 q1.2).bind (fun q2 => (F_X8_bowAll q1.1 q2).bind (fun q3 => F_X8_bowNow_20 fN q1.1 q3.1 0 q3.2)))
set_option maxRecDepth 100000 in
set_option maxHeartbeats 4000000 in
theorem Z_X8_bowNow_0 {l : Launch} {X : Cx} (hX : Ok X) {p : Program} {e : Env} {s : State} {m : MethodId} {args : Array Value} {below : List Frame} {meth : Method} {c : Code} {rr : Int32} {st' : St} (hh : Hy X p s m args meth c cX8_bowNow 5 RX8) (hr : meth.sig.returnType = some .int) (v1 : Int32) (st : St) (hf : F_X8_bowNow_0 v1 st = some (rr, st')) : Z X p l e (rmk 3) s m args below meth c 5 (MQ below (Qf X (some (.int rr)) st') args s 0 0 (cA X)) 0 [(0, .ref (X.2.1 59)), (1, .int v1)] [] st := by
  unfold F_X8_bowNow_0 at hf
  refine x_aload_n hh dX8_bowNow_0 rfl 0 rfl 1 rfl ?_
  refine x_iload_n hh dX8_bowNow_1 rfl 1 rfl 2 rfl ?_
  obtain ⟨q1, hq1, hf⟩ := b_some hf
  refine x_callV (rest := []) hh mi_X8_isIn [.int v1] dX8_bowNow_2 sh_59 wd_1013 (C_X8_isIn l hX  hq1) rfl rfl ⟨Nat.le_of_ble_eq_true rfl, Nat.le_of_ble_eq_true rfl⟩ (Nat.le_of_ble_eq_true rfl) 5 rfl [.int q1.1] rfl ?_
  refine x_istore_n hh dX8_bowNow_5 rfl (by decide) [(2, .int q1.1), (0, .ref (X.2.1 59)), (1, .int v1)] rfl 6 rfl ?_
  refine x_aload_n hh dX8_bowNow_6 rfl 1 rfl 7 rfl ?_
  refine x_iload_n hh dX8_bowNow_7 rfl 0 rfl 8 rfl ?_
  obtain ⟨q2, hq2, hf⟩ := b_some hf
  refine x_callV (rest := []) hh mi_X8_takeTall [.int q1.1] dX8_bowNow_8 sh_59 wd_1050 (C_X8_takeTall l hX  hq2) rfl rfl ⟨Nat.le_of_ble_eq_true rfl, Nat.le_of_ble_eq_true rfl⟩ (Nat.le_of_ble_eq_true rfl) 11 rfl [] rfl ?_
  refine x_aload_n hh dX8_bowNow_11 rfl 1 rfl 12 rfl ?_
  refine x_iload_n hh dX8_bowNow_12 rfl 0 rfl 13 rfl ?_
  obtain ⟨q3, hq3, hf⟩ := b_some hf
  refine x_callV (rest := []) hh mi_X8_bowAll [.int q1.1] dX8_bowNow_13 sh_59 wd_1053 (C_X8_bowAll l hX  hq3) rfl rfl ⟨Nat.le_of_ble_eq_true rfl, Nat.le_of_ble_eq_true rfl⟩ (Nat.le_of_ble_eq_true rfl) 16 rfl [.int q3.1] rfl ?_
  refine x_istore_n hh dX8_bowNow_16 rfl (by decide) [(3, .int q3.1), (2, .int q1.1), (0, .ref (X.2.1 59)), (1, .int v1)] rfl 17 rfl ?_
  refine x_iconst hh dX8_bowNow_17 0 rfl 18 rfl ?_
  refine x_istore hh dX8_bowNow_18 (by decide) [(4, .int 0), (3, .int q3.1), (2, .int q1.1), (0, .ref (X.2.1 59)), (1, .int v1)] rfl 20 rfl ?_
  refine x_sub (lv' := [(0, .ref (X.2.1 59)), (2, .int q1.1), (3, .int q3.1), (4, .int 0)]) [3, 2, 1, 0] rfl ?_
  exact Z_X8_bowNow_20 hX hh hr fN q1.1 q3.1 0 q3.2 hf
def F_X8_bowNow (v1 : Int32) (st : St) : Option (Int32 × St) := F_X8_bowNow_0  v1 st
set_option maxRecDepth 100000 in
theorem C_X8_bowNow (l : Launch) {X : Cx} (hX : Ok X) {v1 : Int32} {st : St} {q : Int32 × St} (hf : F_X8_bowNow v1 st = some q) : Ct l X 3 yX8_bowNow (.code yX8_bowNow cX8_bowNow 5 (some .int)) [.ref (X.2.1 59), .int v1] st (some (.int q.1)) q.2 := by
  refine Ct.of hX (by decide) (Nat.le_of_ble_eq_true rfl) ?_
  intro p e s m args below meth c hh hr
  exact Z_X8_bowNow_0 hX hh hr v1 st hf

def F_X8_bow_18 (t0 : Int32) (st : St) : Option (Int32 × St) := some (t0, st)
set_option maxRecDepth 100000 in
set_option maxHeartbeats 4000000 in
theorem Z_X8_bow_18 {l : Launch} {X : Cx} (hX : Ok X) {p : Program} {e : Env} {s : State} {m : MethodId} {args : Array Value} {below : List Frame} {meth : Method} {c : Code} {rr : Int32} {st' : St} (hh : Hy X p s m args meth c cX8_bow 2 RX8) (hr : meth.sig.returnType = some .int) (t0 : Int32) (st : St) (hf : F_X8_bow_18 t0 st = some (rr, st')) : Z X p l e (rmk 4) s m args below meth c 2 (MQ below (Qf X (some (.int rr)) st') args s 0 0 (cA X)) 18 [(0, .ref (X.2.1 59))] [.int t0] st := by
  unfold F_X8_bow_18 at hf
  obtain ⟨rfl, rfl⟩ := ret2 hf
  exact x_iret hh hr dX8_bow_18
def F_X8_bow_0 (v1 : Int32) (st : St) : Option (Int32 × St) := (F_X8_isRoom v1 st).bind (fun q1 => if q1.1 = 0 then F_X8_bow_18 ((-1000000001)) q1.2 else (F_X8_bowNow v1 q1.2).bind (fun q3 => F_X8_bow_18 q3.1 q3.2))
set_option maxRecDepth 100000 in
set_option maxHeartbeats 4000000 in
theorem Z_X8_bow_0 {l : Launch} {X : Cx} (hX : Ok X) {p : Program} {e : Env} {s : State} {m : MethodId} {args : Array Value} {below : List Frame} {meth : Method} {c : Code} {rr : Int32} {st' : St} (hh : Hy X p s m args meth c cX8_bow 2 RX8) (hr : meth.sig.returnType = some .int) (v1 : Int32) (st : St) (hf : F_X8_bow_0 v1 st = some (rr, st')) : Z X p l e (rmk 4) s m args below meth c 2 (MQ below (Qf X (some (.int rr)) st') args s 0 0 (cA X)) 0 [(0, .ref (X.2.1 59)), (1, .int v1)] [] st := by
  unfold F_X8_bow_0 at hf
  refine x_aload_n hh dX8_bow_0 rfl 0 rfl 1 rfl ?_
  refine x_iload_n hh dX8_bow_1 rfl 1 rfl 2 rfl ?_
  obtain ⟨q1, hq1, hf⟩ := b_some hf
  refine x_callV (rest := []) hh mi_X8_isRoom [.int v1] dX8_bow_2 sh_59 wd_974 (C_X8_isRoom l hX  hq1) rfl rfl ⟨Nat.le_of_ble_eq_true rfl, Nat.le_of_ble_eq_true rfl⟩ (Nat.le_of_ble_eq_true rfl) 5 rfl [.int q1.1] rfl ?_
  refine x_if_eq hh dX8_bow_5 16 rfl 8 rfl (fun hc2 => ?_) (fun hc2 => ?_)
  · have hf := t_pos hc2 hf
    refine x_ldc hh dX8_bow_16 wd_980 18 rfl ?_
    refine x_sub (lv' := [(0, .ref (X.2.1 59))]) [0] rfl ?_
    exact Z_X8_bow_18 hX hh hr  ((-1000000001)) q1.2 hf
  · have hf := t_neg hc2 hf
    refine x_aload_n hh dX8_bow_8 rfl 0 rfl 9 rfl ?_
    refine x_iload_n hh dX8_bow_9 rfl 1 rfl 10 rfl ?_
    obtain ⟨q3, hq3, hf⟩ := b_some hf
    refine x_callV (rest := []) hh mi_X8_bowNow [.int v1] dX8_bow_10 sh_59 wd_1047 (C_X8_bowNow l hX  hq3) rfl rfl ⟨Nat.le_of_ble_eq_true rfl, Nat.le_of_ble_eq_true rfl⟩ (Nat.le_of_ble_eq_true rfl) 13 rfl [.int q3.1] rfl ?_
    refine x_goto hh dX8_bow_13 18 rfl ?_
    refine x_sub (lv' := [(0, .ref (X.2.1 59))]) [0] rfl ?_
    exact Z_X8_bow_18 hX hh hr  q3.1 q3.2 hf
def F_X8_bow (v1 : Int32) (st : St) : Option (Int32 × St) := F_X8_bow_0  v1 st
set_option maxRecDepth 100000 in
theorem C_X8_bow (l : Launch) {X : Cx} (hX : Ok X) {v1 : Int32} {st : St} {q : Int32 × St} (hf : F_X8_bow v1 st = some q) : Ct l X 4 yX8_bow (.code yX8_bow cX8_bow 2 (some .int)) [.ref (X.2.1 59), .int v1] st (some (.int q.1)) q.2 := by
  refine Ct.of hX (by decide) (Nat.le_of_ble_eq_true rfl) ?_
  intro p e s m args below meth c hh hr
  exact Z_X8_bow_0 hX hh hr v1 st hf

def F_X8_faultRooms_28 (k4 : Int32 → Int32 → St → Option (Int32 × St)) (v2 : Int32) (t0 : Int32) (t1 : Int32) (st : St) : Option (Int32 × St) := k4 (t1 ||| t0) (v2 + 1) st
set_option maxRecDepth 100000 in
set_option maxHeartbeats 4000000 in
theorem Z_X8_faultRooms_28 {l : Launch} {X : Cx} (hX : Ok X) {p : Program} {e : Env} {s : State} {m : MethodId} {args : Array Value} {below : List Frame} {meth : Method} {c : Code} {rr : Int32} {st' : St} (hh : Hy X p s m args meth c cX8_faultRooms 3 RX8) (hr : meth.sig.returnType = some .int) {k4 : Int32 → Int32 → St → Option (Int32 × St)} (hk4 : ∀ (v1 : Int32) (v2 : Int32) (st : St), k4 v1 v2 st = some (rr, st') → Z X p l e (rmk 4) s m args below meth c 3 (MQ below (Qf X (some (.int rr)) st') args s 0 0 (cA X)) 4 [(0, .ref (X.2.1 59)), (1, .int v1), (2, .int v2)] [] st) (v2 : Int32) (t0 : Int32) (t1 : Int32) (st : St) (hf : F_X8_faultRooms_28 k4 v2 t0 t1 st = some (rr, st')) : Z X p l e (rmk 4) s m args below meth c 3 (MQ below (Qf X (some (.int rr)) st') args s 0 0 (cA X)) 28 [(0, .ref (X.2.1 59)), (2, .int v2)] [.int t0, .int t1] st := by
  unfold F_X8_faultRooms_28 at hf
  refine x_ior hh dX8_faultRooms_28 29 rfl ?_
  refine x_istore_n hh dX8_faultRooms_29 rfl (by decide) [(1, .int (t1 ||| t0)), (0, .ref (X.2.1 59)), (2, .int v2)] rfl 30 rfl ?_
  refine x_iinc hh dX8_faultRooms_30 2 rfl (v2 + 1) rfl (by decide) [(2, .int (v2 + 1)), (1, .int (t1 ||| t0)), (0, .ref (X.2.1 59))] rfl 33 rfl ?_
  refine x_goto hh dX8_faultRooms_33 4 rfl ?_
  refine x_sub (lv' := [(0, .ref (X.2.1 59)), (1, .int (t1 ||| t0)), (2, .int (v2 + 1))]) [2, 1, 0] rfl ?_
  exact hk4 (t1 ||| t0) (v2 + 1) st hf
def F_X8_faultRooms_4 : Nat → Int32 → Int32 → St → Option (Int32 × St)
  | 0, _, _, _ => none
  | n + 1, v1, v2, st => if (st.1 59 0) ≤ v2 then some (v1, st) else (F_X8_firstFault v2 st).bind (fun q2 => if q2.1 < 0 then F_X8_faultRooms_28 (F_X8_faultRooms_4 n) v2 0 v1 q2.2 else F_X8_faultRooms_28 (F_X8_faultRooms_4 n) v2 (1 <<< (v2 &&& 31)) v1 q2.2)
set_option maxRecDepth 100000 in
set_option maxHeartbeats 4000000 in
theorem Z_X8_faultRooms_4 {l : Launch} {X : Cx} (hX : Ok X) {p : Program} {e : Env} {s : State} {m : MethodId} {args : Array Value} {below : List Frame} {meth : Method} {c : Code} {rr : Int32} {st' : St} (hh : Hy X p s m args meth c cX8_faultRooms 3 RX8) (hr : meth.sig.returnType = some .int) : ∀ (n : Nat) (v1 : Int32) (v2 : Int32) (st : St), F_X8_faultRooms_4 n v1 v2 st = some (rr, st') → Z X p l e (rmk 4) s m args below meth c 3 (MQ below (Qf X (some (.int rr)) st') args s 0 0 (cA X)) 4 [(0, .ref (X.2.1 59)), (1, .int v1), (2, .int v2)] [] st := by
  intro n
  induction n with
  | zero =>
    intro v1 v2 st hf
    cases hf
  | succ n ih =>
    intro v1 v2 st hf
    rw [F_X8_faultRooms_4] at hf
    refine x_iload_n hh dX8_faultRooms_4 rfl 2 rfl 5 rfl ?_
    refine x_aload_n hh dX8_faultRooms_5 rfl 0 rfl 6 rfl ?_
    refine x_getI hh cl_8 dX8_faultRooms_6 sh_59 0 rfl (Nat.le_of_ble_eq_true rfl) wd_800 9 rfl ?_
    refine x_icmp_ge hh dX8_faultRooms_9 36 rfl 12 rfl (fun hc1 => ?_) (fun hc1 => ?_)
    · have hf := t_pos hc1 hf
      refine x_iload_n hh dX8_faultRooms_36 rfl 1 rfl 37 rfl ?_
      obtain ⟨rfl, rfl⟩ := ret2 hf
      exact x_iret hh hr dX8_faultRooms_37
    · have hf := t_neg hc1 hf
      refine x_iload_n hh dX8_faultRooms_12 rfl 1 rfl 13 rfl ?_
      refine x_aload_n hh dX8_faultRooms_13 rfl 0 rfl 14 rfl ?_
      refine x_iload_n hh dX8_faultRooms_14 rfl 2 rfl 15 rfl ?_
      obtain ⟨q2, hq2, hf⟩ := b_some hf
      refine x_callV (rest := [.int v1]) hh mi_X8_firstFault [.int v2] dX8_faultRooms_15 sh_59 wd_1031 (C_X8_firstFault l hX  hq2) rfl rfl ⟨Nat.le_of_ble_eq_true rfl, Nat.le_of_ble_eq_true rfl⟩ (Nat.le_of_ble_eq_true rfl) 18 rfl [.int q2.1, .int v1] rfl ?_
      refine x_if_lt hh dX8_faultRooms_18 27 rfl 21 rfl (fun hc3 => ?_) (fun hc3 => ?_)
      · have hf := t_pos hc3 hf
        refine x_iconst hh dX8_faultRooms_27 0 rfl 28 rfl ?_
        refine x_sub (lv' := [(0, .ref (X.2.1 59)), (2, .int v2)]) [0, 2] rfl ?_
        exact Z_X8_faultRooms_28 hX hh hr ih  v2 0 v1 q2.2 hf
      · have hf := t_neg hc3 hf
        refine x_iconst hh dX8_faultRooms_21 1 rfl 22 rfl ?_
        refine x_iload_n hh dX8_faultRooms_22 rfl 2 rfl 23 rfl ?_
        refine x_ishl hh dX8_faultRooms_23 24 rfl ?_
        refine x_goto hh dX8_faultRooms_24 28 rfl ?_
        refine x_sub (lv' := [(0, .ref (X.2.1 59)), (2, .int v2)]) [0, 2] rfl ?_
        exact Z_X8_faultRooms_28 hX hh hr ih  v2 (1 <<< (v2 &&& 31)) v1 q2.2 hf
def F_X8_faultRooms_0 (st : St) : Option (Int32 × St) := F_X8_faultRooms_4 fN 0 0 st
set_option maxRecDepth 100000 in
set_option maxHeartbeats 4000000 in
theorem Z_X8_faultRooms_0 {l : Launch} {X : Cx} (hX : Ok X) {p : Program} {e : Env} {s : State} {m : MethodId} {args : Array Value} {below : List Frame} {meth : Method} {c : Code} {rr : Int32} {st' : St} (hh : Hy X p s m args meth c cX8_faultRooms 3 RX8) (hr : meth.sig.returnType = some .int) (st : St) (hf : F_X8_faultRooms_0 st = some (rr, st')) : Z X p l e (rmk 4) s m args below meth c 3 (MQ below (Qf X (some (.int rr)) st') args s 0 0 (cA X)) 0 [(0, .ref (X.2.1 59))] [] st := by
  unfold F_X8_faultRooms_0 at hf
  refine x_iconst hh dX8_faultRooms_0 0 rfl 1 rfl ?_
  refine x_istore_n hh dX8_faultRooms_1 rfl (by decide) [(1, .int 0), (0, .ref (X.2.1 59))] rfl 2 rfl ?_
  refine x_iconst hh dX8_faultRooms_2 0 rfl 3 rfl ?_
  refine x_istore_n hh dX8_faultRooms_3 rfl (by decide) [(2, .int 0), (1, .int 0), (0, .ref (X.2.1 59))] rfl 4 rfl ?_
  refine x_sub (lv' := [(0, .ref (X.2.1 59)), (1, .int 0), (2, .int 0)]) [2, 1, 0] rfl ?_
  exact Z_X8_faultRooms_4 hX hh hr fN 0 0 st hf
def F_X8_faultRooms (st : St) : Option (Int32 × St) := F_X8_faultRooms_0  st
set_option maxRecDepth 100000 in
theorem C_X8_faultRooms (l : Launch) {X : Cx} (hX : Ok X) {st : St} {q : Int32 × St} (hf : F_X8_faultRooms st = some q) : Ct l X 4 yX8_faultRooms (.code yX8_faultRooms cX8_faultRooms 3 (some .int)) [.ref (X.2.1 59)] st (some (.int q.1)) q.2 := by
  refine Ct.of hX (by decide) (Nat.le_of_ble_eq_true rfl) ?_
  intro p e s m args below meth c hh hr
  exact Z_X8_faultRooms_0 hX hh hr st hf

def F_X8_yearNow_56 (k2 : Int32 → St → Option (St)) (v1 : Int32) (t0 : Int32) (t1 : Int32) (st : St) : Option (St) := gi t1 6 (bs (sV st 68 t1.toNatClampNeg t0) (fun st8 => gi v1 6 (gi v1 6 (bs (sV st8 67 v1.toNatClampNeg ((st8.1 67 v1.toNatClampNeg) + 1)) (fun st11 => k2 (v1 + 1) st11)))))
set_option maxRecDepth 100000 in
set_option maxHeartbeats 4000000 in
theorem Z_X8_yearNow_56 {l : Launch} {X : Cx} (hX : Ok X) {p : Program} {e : Env} {s : State} {m : MethodId} {args : Array Value} {below : List Frame} {meth : Method} {c : Code} {st' : St} (hh : Hy X p s m args meth c cX8_yearNow 3 RX8) (hr : meth.sig.returnType = none) {k2 : Int32 → St → Option (St)} (hk2 : ∀ (v1 : Int32) (st : St), k2 v1 st = some st' → Z X p l e (rmk 0) s m args below meth c 3 (MQ below (Qf X none st') args s 0 0 (cA X)) 2 [(0, .ref (X.2.1 59)), (1, .int v1)] [] st) (v1 : Int32) (t0 : Int32) (t1 : Int32) (st : St) (hf : F_X8_yearNow_56 k2 v1 t0 t1 st = some st') : Z X p l e (rmk 0) s m args below meth c 3 (MQ below (Qf X none st') args s 0 0 (cA X)) 56 [(0, .ref (X.2.1 59)), (1, .int v1)] [.int t0, .int t1, .ref (X.2.1 68)] st := by
  unfold F_X8_yearNow_56 at hf
  obtain ⟨hi7, hf⟩ := gi_some hf
  obtain ⟨st8, est8, hf⟩ := bs_some hf
  refine x_iastore hh dX8_yearNow_56 sh_68 hi7 57 rfl st8 est8 ?_
  refine x_aload_n hh dX8_yearNow_57 rfl 0 rfl 58 rfl ?_
  refine x_getR hh cl_8 dX8_yearNow_58 sh_59 11 67 rfl (Nat.le_of_ble_eq_true rfl) wd_811 61 rfl ?_
  refine x_iload_n hh dX8_yearNow_61 rfl 1 rfl 62 rfl ?_
  refine x_dup2 hh dX8_yearNow_62 rfl rfl 63 rfl ?_
  obtain ⟨hi9, hf⟩ := gi_some hf
  refine x_iaload hh dX8_yearNow_63 sh_67 hi9 64 rfl ?_
  refine x_iconst hh dX8_yearNow_64 1 rfl 65 rfl ?_
  refine x_iadd hh dX8_yearNow_65 66 rfl ?_
  obtain ⟨hi10, hf⟩ := gi_some hf
  obtain ⟨st11, est11, hf⟩ := bs_some hf
  refine x_iastore hh dX8_yearNow_66 sh_67 hi10 67 rfl st11 est11 ?_
  refine x_iinc hh dX8_yearNow_67 1 rfl (v1 + 1) rfl (by decide) [(1, .int (v1 + 1)), (0, .ref (X.2.1 59))] rfl 70 rfl ?_
  refine x_goto hh dX8_yearNow_70 2 rfl ?_
  refine x_sub (lv' := [(0, .ref (X.2.1 59)), (1, .int (v1 + 1))]) [1, 0] rfl ?_
  exact hk2 (v1 + 1) st11 hf
def F_X8_yearNow_37 (k2 : Int32 → St → Option (St)) (v1 : Int32) (t0 : Int32) (t1 : Int32) (st : St) : Option (St) := if (t1 + t0) ≤ 90 then F_X8_yearNow_56 k2 v1 (t1 + t0) v1 st else F_X8_yearNow_56 k2 v1 90 v1 st
set_option maxRecDepth 100000 in
set_option maxHeartbeats 4000000 in
theorem Z_X8_yearNow_37 {l : Launch} {X : Cx} (hX : Ok X) {p : Program} {e : Env} {s : State} {m : MethodId} {args : Array Value} {below : List Frame} {meth : Method} {c : Code} {st' : St} (hh : Hy X p s m args meth c cX8_yearNow 3 RX8) (hr : meth.sig.returnType = none) {k2 : Int32 → St → Option (St)} (hk2 : ∀ (v1 : Int32) (st : St), k2 v1 st = some st' → Z X p l e (rmk 0) s m args below meth c 3 (MQ below (Qf X none st') args s 0 0 (cA X)) 2 [(0, .ref (X.2.1 59)), (1, .int v1)] [] st) (v1 : Int32) (t0 : Int32) (t1 : Int32) (st : St) (hf : F_X8_yearNow_37 k2 v1 t0 t1 st = some st') : Z X p l e (rmk 0) s m args below meth c 3 (MQ below (Qf X none st') args s 0 0 (cA X)) 37 [(0, .ref (X.2.1 59)), (1, .int v1)] [.int t0, .int t1] st := by
  unfold F_X8_yearNow_37 at hf
  refine x_iadd hh dX8_yearNow_37 38 rfl ?_
  refine x_istore_n hh dX8_yearNow_38 rfl (by decide) [(2, .int (t1 + t0)), (0, .ref (X.2.1 59)), (1, .int v1)] rfl 39 rfl ?_
  refine x_aload_n hh dX8_yearNow_39 rfl 1 rfl 40 rfl ?_
  refine x_getR hh cl_8 dX8_yearNow_40 sh_59 12 68 rfl (Nat.le_of_ble_eq_true rfl) wd_812 43 rfl ?_
  refine x_iload_n hh dX8_yearNow_43 rfl 2 rfl 44 rfl ?_
  refine x_iload_n hh dX8_yearNow_44 rfl 0 rfl 45 rfl ?_
  refine x_bipush hh dX8_yearNow_45 90 rfl 47 rfl ?_
  refine x_icmp_le hh dX8_yearNow_47 55 rfl 50 rfl (fun hc6 => ?_) (fun hc6 => ?_)
  · have hf := t_pos hc6 hf
    refine x_iload_n hh dX8_yearNow_55 rfl 0 rfl 56 rfl ?_
    refine x_sub (lv' := [(0, .ref (X.2.1 59)), (1, .int v1)]) [1, 2] rfl ?_
    exact Z_X8_yearNow_56 hX hh hr hk2  v1 (t1 + t0) v1 st hf
  · have hf := t_neg hc6 hf
    refine x_bipush hh dX8_yearNow_50 90 rfl 52 rfl ?_
    refine x_goto hh dX8_yearNow_52 56 rfl ?_
    refine x_sub (lv' := [(0, .ref (X.2.1 59)), (1, .int v1)]) [1, 2] rfl ?_
    exact Z_X8_yearNow_56 hX hh hr hk2  v1 90 v1 st hf
def F_X8_yearNow_2 : Nat → Int32 → St → Option (St)
  | 0, _, _ => none
  | n + 1, v1, st => if (st.1 59 3) ≤ v1 then some st else gi v1 6 (gi v1 6 (if (20 : Int32) ≤ (st.1 67 v1.toNatClampNeg) then F_X8_yearNow_37 (F_X8_yearNow_2 n) v1 0 (st.1 68 v1.toNatClampNeg) st else gi v1 6 (F_X8_yearNow_37 (F_X8_yearNow_2 n) v1 (st.1 65 v1.toNatClampNeg) (st.1 68 v1.toNatClampNeg) st)))
set_option maxRecDepth 100000 in
set_option maxHeartbeats 4000000 in
theorem Z_X8_yearNow_2 {l : Launch} {X : Cx} (hX : Ok X) {p : Program} {e : Env} {s : State} {m : MethodId} {args : Array Value} {below : List Frame} {meth : Method} {c : Code} {st' : St} (hh : Hy X p s m args meth c cX8_yearNow 3 RX8) (hr : meth.sig.returnType = none) : ∀ (n : Nat) (v1 : Int32) (st : St), F_X8_yearNow_2 n v1 st = some st' → Z X p l e (rmk 0) s m args below meth c 3 (MQ below (Qf X none st') args s 0 0 (cA X)) 2 [(0, .ref (X.2.1 59)), (1, .int v1)] [] st := by
  intro n
  induction n with
  | zero =>
    intro v1 st hf
    cases hf
  | succ n ih =>
    intro v1 st hf
    rw [F_X8_yearNow_2] at hf
    refine x_iload_n hh dX8_yearNow_2 rfl 1 rfl 3 rfl ?_
    refine x_aload_n hh dX8_yearNow_3 rfl 0 rfl 4 rfl ?_
    refine x_getI hh cl_8 dX8_yearNow_4 sh_59 3 rfl (Nat.le_of_ble_eq_true rfl) wd_803 7 rfl ?_
    refine x_icmp_ge hh dX8_yearNow_7 73 rfl 10 rfl (fun hc1 => ?_) (fun hc1 => ?_)
    · have hf := t_pos hc1 hf
      obtain rfl := ret1 hf
      exact x_vret hh hr dX8_yearNow_73
    · have hf := t_neg hc1 hf
      refine x_aload_n hh dX8_yearNow_10 rfl 0 rfl 11 rfl ?_
      refine x_getR hh cl_8 dX8_yearNow_11 sh_59 12 68 rfl (Nat.le_of_ble_eq_true rfl) wd_812 14 rfl ?_
      refine x_iload_n hh dX8_yearNow_14 rfl 1 rfl 15 rfl ?_
      obtain ⟨hi2, hf⟩ := gi_some hf
      refine x_iaload hh dX8_yearNow_15 sh_68 hi2 16 rfl ?_
      refine x_aload_n hh dX8_yearNow_16 rfl 0 rfl 17 rfl ?_
      refine x_getR hh cl_8 dX8_yearNow_17 sh_59 11 67 rfl (Nat.le_of_ble_eq_true rfl) wd_811 20 rfl ?_
      refine x_iload_n hh dX8_yearNow_20 rfl 1 rfl 21 rfl ?_
      obtain ⟨hi3, hf⟩ := gi_some hf
      refine x_iaload hh dX8_yearNow_21 sh_67 hi3 22 rfl ?_
      refine x_bipush hh dX8_yearNow_22 20 rfl 24 rfl ?_
      refine x_icmp_ge hh dX8_yearNow_24 36 rfl 27 rfl (fun hc4 => ?_) (fun hc4 => ?_)
      · have hf := t_pos hc4 hf
        refine x_iconst hh dX8_yearNow_36 0 rfl 37 rfl ?_
        exact Z_X8_yearNow_37 hX hh hr ih  v1 0 (st.1 68 v1.toNatClampNeg) st hf
      · have hf := t_neg hc4 hf
        refine x_aload_n hh dX8_yearNow_27 rfl 0 rfl 28 rfl ?_
        refine x_getR hh cl_8 dX8_yearNow_28 sh_59 7 65 rfl (Nat.le_of_ble_eq_true rfl) wd_807 31 rfl ?_
        refine x_iload_n hh dX8_yearNow_31 rfl 1 rfl 32 rfl ?_
        obtain ⟨hi5, hf⟩ := gi_some hf
        refine x_iaload hh dX8_yearNow_32 sh_65 hi5 33 rfl ?_
        refine x_goto hh dX8_yearNow_33 37 rfl ?_
        exact Z_X8_yearNow_37 hX hh hr ih  v1 (st.1 65 v1.toNatClampNeg) (st.1 68 v1.toNatClampNeg) st hf
def F_X8_yearNow_0 (st : St) : Option (St) := F_X8_yearNow_2 fN 0 st
set_option maxRecDepth 100000 in
set_option maxHeartbeats 4000000 in
theorem Z_X8_yearNow_0 {l : Launch} {X : Cx} (hX : Ok X) {p : Program} {e : Env} {s : State} {m : MethodId} {args : Array Value} {below : List Frame} {meth : Method} {c : Code} {st' : St} (hh : Hy X p s m args meth c cX8_yearNow 3 RX8) (hr : meth.sig.returnType = none) (st : St) (hf : F_X8_yearNow_0 st = some st') : Z X p l e (rmk 0) s m args below meth c 3 (MQ below (Qf X none st') args s 0 0 (cA X)) 0 [(0, .ref (X.2.1 59))] [] st := by
  unfold F_X8_yearNow_0 at hf
  refine x_iconst hh dX8_yearNow_0 0 rfl 1 rfl ?_
  refine x_istore_n hh dX8_yearNow_1 rfl (by decide) [(1, .int 0), (0, .ref (X.2.1 59))] rfl 2 rfl ?_
  refine x_sub (lv' := [(0, .ref (X.2.1 59)), (1, .int 0)]) [1, 0] rfl ?_
  exact Z_X8_yearNow_2 hX hh hr fN 0 st hf
def F_X8_yearNow (st : St) : Option (St) := F_X8_yearNow_0  st
set_option maxRecDepth 100000 in
theorem C_X8_yearNow (l : Launch) {X : Cx} (hX : Ok X) {st : St} {q : St} (hf : F_X8_yearNow st = some q) : Ct l X 0 yX8_yearNow (.code yX8_yearNow cX8_yearNow 3 (none)) [.ref (X.2.1 59)] st none q := by
  refine Ct.of hX (by decide) (Nat.le_of_ble_eq_true rfl) ?_
  intro p e s m args below meth c hh hr
  exact Z_X8_yearNow_0 hX hh hr st hf

def F_X8_year_17 : Nat → Int32 → Int32 → St → Option (Int32 × St)
  | 0, _, _, _ => none
  | n + 1, v1, v2, st => if v1 ≤ v2 then (F_X8_faultRooms st).bind (fun q4 => some (q4.1, q4.2)) else (F_X8_yearNow st).bind (fun q5 => F_X8_year_17 n v1 (v2 + 1) q5)
set_option maxRecDepth 100000 in
set_option maxHeartbeats 4000000 in
theorem Z_X8_year_17 {l : Launch} {X : Cx} (hX : Ok X) {p : Program} {e : Env} {s : State} {m : MethodId} {args : Array Value} {below : List Frame} {meth : Method} {c : Code} {rr : Int32} {st' : St} (hh : Hy X p s m args meth c cX8_year 3 RX8) (hr : meth.sig.returnType = some .int) : ∀ (n : Nat) (v1 : Int32) (v2 : Int32) (st : St), F_X8_year_17 n v1 v2 st = some (rr, st') → Z X p l e (rmk 5) s m args below meth c 3 (MQ below (Qf X (some (.int rr)) st') args s 0 0 (cA X)) 17 [(0, .ref (X.2.1 59)), (1, .int v1), (2, .int v2)] [] st := by
  intro n
  induction n with
  | zero =>
    intro v1 v2 st hf
    cases hf
  | succ n ih =>
    intro v1 v2 st hf
    rw [F_X8_year_17] at hf
    refine x_iload_n hh dX8_year_17 rfl 2 rfl 18 rfl ?_
    refine x_iload_n hh dX8_year_18 rfl 1 rfl 19 rfl ?_
    refine x_icmp_ge hh dX8_year_19 32 rfl 22 rfl (fun hc3 => ?_) (fun hc3 => ?_)
    · have hf := t_pos hc3 hf
      refine x_aload_n hh dX8_year_32 rfl 0 rfl 33 rfl ?_
      obtain ⟨q4, hq4, hf⟩ := b_some hf
      refine x_callV (rest := []) hh mi_X8_faultRooms [] dX8_year_33 sh_59 wd_1065 (C_X8_faultRooms l hX  hq4) rfl rfl ⟨Nat.le_of_ble_eq_true rfl, Nat.le_of_ble_eq_true rfl⟩ (Nat.le_of_ble_eq_true rfl) 36 rfl [.int q4.1] rfl ?_
      obtain ⟨rfl, rfl⟩ := ret2 hf
      exact x_iret hh hr dX8_year_36
    · have hf := t_neg hc3 hf
      refine x_aload_n hh dX8_year_22 rfl 0 rfl 23 rfl ?_
      obtain ⟨q5, hq5, hf⟩ := b_some hf
      refine x_callV (rest := []) hh mi_X8_yearNow [] dX8_year_23 sh_59 wd_1062 (C_X8_yearNow l hX  hq5) rfl rfl ⟨Nat.le_of_ble_eq_true rfl, Nat.le_of_ble_eq_true rfl⟩ (Nat.le_of_ble_eq_true rfl) 26 rfl [] rfl ?_
      refine x_iinc hh dX8_year_26 2 rfl (v2 + 1) rfl (by decide) [(2, .int (v2 + 1)), (0, .ref (X.2.1 59)), (1, .int v1)] rfl 29 rfl ?_
      refine x_goto hh dX8_year_29 17 rfl ?_
      refine x_sub (lv' := [(0, .ref (X.2.1 59)), (1, .int v1), (2, .int (v2 + 1))]) [1, 2, 0] rfl ?_
      exact ih v1 (v2 + 1) q5 hf
def F_X8_year_0 (v1 : Int32) (st : St) : Option (Int32 × St) := (F_X8_in v1.toInt64 1 60 st).bind (fun q1 => if q1.1 = 0 then some ((-1000000002), q1.2) else F_X8_year_17 fN v1 0 q1.2)
set_option maxRecDepth 100000 in
set_option maxHeartbeats 4000000 in
theorem Z_X8_year_0 {l : Launch} {X : Cx} (hX : Ok X) {p : Program} {e : Env} {s : State} {m : MethodId} {args : Array Value} {below : List Frame} {meth : Method} {c : Code} {rr : Int32} {st' : St} (hh : Hy X p s m args meth c cX8_year 3 RX8) (hr : meth.sig.returnType = some .int) (v1 : Int32) (st : St) (hf : F_X8_year_0 v1 st = some (rr, st')) : Z X p l e (rmk 5) s m args below meth c 3 (MQ below (Qf X (some (.int rr)) st') args s 0 0 (cA X)) 0 [(0, .ref (X.2.1 59)), (1, .int v1)] [] st := by
  unfold F_X8_year_0 at hf
  refine x_iload_n hh dX8_year_0 rfl 1 rfl 1 rfl ?_
  refine x_i2l hh dX8_year_1 2 rfl ?_
  refine x_lconst hh dX8_year_2 1 rfl 3 rfl ?_
  refine x_ldc2_w hh dX8_year_3 wd_1061 6 rfl ?_
  obtain ⟨q1, hq1, hf⟩ := b_some hf
  refine x_callS (rest := []) hh ms_X8_in [.long v1.toInt64, .long 1, .long 60] dX8_year_6 wd_907 (C_X8_in l hX  hq1) rfl rfl ⟨Nat.le_of_ble_eq_true rfl, Nat.le_of_ble_eq_true rfl⟩ (Nat.le_of_ble_eq_true rfl) 9 rfl [.int q1.1] rfl ?_
  refine x_if_ne hh dX8_year_9 15 rfl 12 rfl (fun hc2 => ?_) (fun hc2 => ?_)
  · have hf := t_neg hc2 hf
    refine x_iconst hh dX8_year_15 0 rfl 16 rfl ?_
    refine x_istore_n hh dX8_year_16 rfl (by decide) [(2, .int 0), (0, .ref (X.2.1 59)), (1, .int v1)] rfl 17 rfl ?_
    refine x_sub (lv' := [(0, .ref (X.2.1 59)), (1, .int v1), (2, .int 0)]) [1, 2, 0] rfl ?_
    exact Z_X8_year_17 hX hh hr fN v1 0 q1.2 hf
  · have hf := t_pos hc2 hf
    refine x_ldc hh dX8_year_12 wd_910 14 rfl ?_
    obtain ⟨rfl, rfl⟩ := ret2 hf
    exact x_iret hh hr dX8_year_14
def F_X8_year (v1 : Int32) (st : St) : Option (Int32 × St) := F_X8_year_0  v1 st
set_option maxRecDepth 100000 in
theorem C_X8_year (l : Launch) {X : Cx} (hX : Ok X) {v1 : Int32} {st : St} {q : Int32 × St} (hf : F_X8_year v1 st = some q) : Ct l X 5 yX8_year (.code yX8_year cX8_year 3 (some .int)) [.ref (X.2.1 59), .int v1] st (some (.int q.1)) q.2 := by
  refine Ct.of hX (by decide) (Nat.le_of_ble_eq_true rfl) ?_
  intro p e s m args below meth c hh hr
  exact Z_X8_year_0 hX hh hr v1 st hf

def F_X8_lowestFree_69 (k4 : Int32 → Int32 → Int32 → St → Option (Int32 × St)) (v1 : Int32) (v3 : Int32) (t0 : Int32) (st : St) : Option (Int32 × St) := k4 v1 t0 (v3 + 1) st
set_option maxRecDepth 100000 in
set_option maxHeartbeats 4000000 in
theorem Z_X8_lowestFree_69 {l : Launch} {X : Cx} (hX : Ok X) {p : Program} {e : Env} {s : State} {m : MethodId} {args : Array Value} {below : List Frame} {meth : Method} {c : Code} {rr : Int32} {st' : St} (hh : Hy X p s m args meth c cX8_lowestFree 5 RX8) (hr : meth.sig.returnType = some .int) {k4 : Int32 → Int32 → Int32 → St → Option (Int32 × St)} (hk4 : ∀ (v1 : Int32) (v2 : Int32) (v3 : Int32) (st : St), k4 v1 v2 v3 st = some (rr, st') → Z X p l e (rmk 1) s m args below meth c 5 (MQ below (Qf X (some (.int rr)) st') args s 0 0 (cA X)) 4 [(0, .ref (X.2.1 59)), (1, .int v1), (2, .int v2), (3, .int v3)] [] st) (v1 : Int32) (v3 : Int32) (t0 : Int32) (st : St) (hf : F_X8_lowestFree_69 k4 v1 v3 t0 st = some (rr, st')) : Z X p l e (rmk 1) s m args below meth c 5 (MQ below (Qf X (some (.int rr)) st') args s 0 0 (cA X)) 69 [(0, .ref (X.2.1 59)), (1, .int v1), (3, .int v3)] [.int t0] st := by
  unfold F_X8_lowestFree_69 at hf
  refine x_istore_n hh dX8_lowestFree_69 rfl (by decide) [(2, .int t0), (0, .ref (X.2.1 59)), (1, .int v1), (3, .int v3)] rfl 70 rfl ?_
  refine x_iinc hh dX8_lowestFree_70 3 rfl (v3 + 1) rfl (by decide) [(3, .int (v3 + 1)), (2, .int t0), (0, .ref (X.2.1 59)), (1, .int v1)] rfl 73 rfl ?_
  refine x_goto hh dX8_lowestFree_73 4 rfl ?_
  refine x_sub (lv' := [(0, .ref (X.2.1 59)), (1, .int v1), (2, .int t0), (3, .int (v3 + 1))]) [2, 3, 1, 0] rfl ?_
  exact hk4 v1 t0 (v3 + 1) st hf
def F_X8_lowestFree_68 (k4 : Int32 → Int32 → Int32 → St → Option (Int32 × St)) (v1 : Int32) (v2 : Int32) (v3 : Int32) (st : St) : Option (Int32 × St) := F_X8_lowestFree_69 k4 v1 v3 v2 st
set_option maxRecDepth 100000 in
set_option maxHeartbeats 4000000 in
theorem Z_X8_lowestFree_68 {l : Launch} {X : Cx} (hX : Ok X) {p : Program} {e : Env} {s : State} {m : MethodId} {args : Array Value} {below : List Frame} {meth : Method} {c : Code} {rr : Int32} {st' : St} (hh : Hy X p s m args meth c cX8_lowestFree 5 RX8) (hr : meth.sig.returnType = some .int) {k4 : Int32 → Int32 → Int32 → St → Option (Int32 × St)} (hk4 : ∀ (v1 : Int32) (v2 : Int32) (v3 : Int32) (st : St), k4 v1 v2 v3 st = some (rr, st') → Z X p l e (rmk 1) s m args below meth c 5 (MQ below (Qf X (some (.int rr)) st') args s 0 0 (cA X)) 4 [(0, .ref (X.2.1 59)), (1, .int v1), (2, .int v2), (3, .int v3)] [] st) (v1 : Int32) (v2 : Int32) (v3 : Int32) (st : St) (hf : F_X8_lowestFree_68 k4 v1 v2 v3 st = some (rr, st')) : Z X p l e (rmk 1) s m args below meth c 5 (MQ below (Qf X (some (.int rr)) st') args s 0 0 (cA X)) 68 [(0, .ref (X.2.1 59)), (1, .int v1), (2, .int v2), (3, .int v3)] [] st := by
  unfold F_X8_lowestFree_68 at hf
  refine x_iload_n hh dX8_lowestFree_68 rfl 2 rfl 69 rfl ?_
  refine x_sub (lv' := [(0, .ref (X.2.1 59)), (1, .int v1), (3, .int v3)]) [0, 1, 3] rfl ?_
  exact Z_X8_lowestFree_69 hX hh hr hk4  v1 v3 v2 st hf
def F_X8_lowestFree_48 (k4 : Int32 → Int32 → Int32 → St → Option (Int32 × St)) (v1 : Int32) (v2 : Int32) (v3 : Int32) (t0 : Int32) (st : St) : Option (Int32 × St) := (F_X8_whoAt v1 v3 st).bind (fun q7 => if (0 : Int32) ≤ q7.1 then F_X8_lowestFree_68 k4 v1 v2 v3 q7.2 else if t0 = 0 then F_X8_lowestFree_68 k4 v1 v2 v3 q7.2 else F_X8_lowestFree_69 k4 v1 v3 v3 q7.2)
set_option maxRecDepth 100000 in
set_option maxHeartbeats 4000000 in
theorem Z_X8_lowestFree_48 {l : Launch} {X : Cx} (hX : Ok X) {p : Program} {e : Env} {s : State} {m : MethodId} {args : Array Value} {below : List Frame} {meth : Method} {c : Code} {rr : Int32} {st' : St} (hh : Hy X p s m args meth c cX8_lowestFree 5 RX8) (hr : meth.sig.returnType = some .int) {k4 : Int32 → Int32 → Int32 → St → Option (Int32 × St)} (hk4 : ∀ (v1 : Int32) (v2 : Int32) (v3 : Int32) (st : St), k4 v1 v2 v3 st = some (rr, st') → Z X p l e (rmk 1) s m args below meth c 5 (MQ below (Qf X (some (.int rr)) st') args s 0 0 (cA X)) 4 [(0, .ref (X.2.1 59)), (1, .int v1), (2, .int v2), (3, .int v3)] [] st) (v1 : Int32) (v2 : Int32) (v3 : Int32) (t0 : Int32) (st : St) (hf : F_X8_lowestFree_48 k4 v1 v2 v3 t0 st = some (rr, st')) : Z X p l e (rmk 1) s m args below meth c 5 (MQ below (Qf X (some (.int rr)) st') args s 0 0 (cA X)) 48 [(0, .ref (X.2.1 59)), (1, .int v1), (2, .int v2), (3, .int v3)] [.int t0] st := by
  unfold F_X8_lowestFree_48 at hf
  refine x_istore hh dX8_lowestFree_48 (by decide) [(4, .int t0), (0, .ref (X.2.1 59)), (1, .int v1), (2, .int v2), (3, .int v3)] rfl 50 rfl ?_
  refine x_aload_n hh dX8_lowestFree_50 rfl 1 rfl 51 rfl ?_
  refine x_iload_n hh dX8_lowestFree_51 rfl 2 rfl 52 rfl ?_
  refine x_iload_n hh dX8_lowestFree_52 rfl 4 rfl 53 rfl ?_
  obtain ⟨q7, hq7, hf⟩ := b_some hf
  refine x_callV (rest := []) hh mi_X8_whoAt [.int v1, .int v3] dX8_lowestFree_53 sh_59 wd_981 (C_X8_whoAt l hX  hq7) rfl rfl ⟨Nat.le_of_ble_eq_true rfl, Nat.le_of_ble_eq_true rfl⟩ (Nat.le_of_ble_eq_true rfl) 56 rfl [.int q7.1] rfl ?_
  refine x_if_ge hh dX8_lowestFree_56 68 rfl 59 rfl (fun hc8 => ?_) (fun hc8 => ?_)
  · have hf := t_pos hc8 hf
    refine x_sub (lv' := [(0, .ref (X.2.1 59)), (1, .int v1), (2, .int v2), (3, .int v3)]) [1, 2, 3, 4] rfl ?_
    exact Z_X8_lowestFree_68 hX hh hr hk4  v1 v2 v3 q7.2 hf
  · have hf := t_neg hc8 hf
    refine x_iload hh dX8_lowestFree_59 0 rfl 61 rfl ?_
    refine x_if_eq hh dX8_lowestFree_61 68 rfl 64 rfl (fun hc9 => ?_) (fun hc9 => ?_)
    · have hf := t_pos hc9 hf
      refine x_sub (lv' := [(0, .ref (X.2.1 59)), (1, .int v1), (2, .int v2), (3, .int v3)]) [1, 2, 3, 4] rfl ?_
      exact Z_X8_lowestFree_68 hX hh hr hk4  v1 v2 v3 q7.2 hf
    · have hf := t_neg hc9 hf
      refine x_iload_n hh dX8_lowestFree_64 rfl 4 rfl 65 rfl ?_
      refine x_goto hh dX8_lowestFree_65 69 rfl ?_
      refine x_sub (lv' := [(0, .ref (X.2.1 59)), (1, .int v1), (3, .int v3)]) [1, 2, 4] rfl ?_
      exact Z_X8_lowestFree_69 hX hh hr hk4  v1 v3 v3 q7.2 hf
def F_X8_lowestFree_43 (k4 : Int32 → Int32 → Int32 → St → Option (Int32 × St)) (v1 : Int32) (v2 : Int32) (v3 : Int32) (st : St) : Option (Int32 × St) := F_X8_lowestFree_48 k4 v1 v2 v3 1 st
set_option maxRecDepth 100000 in
set_option maxHeartbeats 4000000 in
theorem Z_X8_lowestFree_43 {l : Launch} {X : Cx} (hX : Ok X) {p : Program} {e : Env} {s : State} {m : MethodId} {args : Array Value} {below : List Frame} {meth : Method} {c : Code} {rr : Int32} {st' : St} (hh : Hy X p s m args meth c cX8_lowestFree 5 RX8) (hr : meth.sig.returnType = some .int) {k4 : Int32 → Int32 → Int32 → St → Option (Int32 × St)} (hk4 : ∀ (v1 : Int32) (v2 : Int32) (v3 : Int32) (st : St), k4 v1 v2 v3 st = some (rr, st') → Z X p l e (rmk 1) s m args below meth c 5 (MQ below (Qf X (some (.int rr)) st') args s 0 0 (cA X)) 4 [(0, .ref (X.2.1 59)), (1, .int v1), (2, .int v2), (3, .int v3)] [] st) (v1 : Int32) (v2 : Int32) (v3 : Int32) (st : St) (hf : F_X8_lowestFree_43 k4 v1 v2 v3 st = some (rr, st')) : Z X p l e (rmk 1) s m args below meth c 5 (MQ below (Qf X (some (.int rr)) st') args s 0 0 (cA X)) 43 [(0, .ref (X.2.1 59)), (1, .int v1), (2, .int v2), (3, .int v3)] [] st := by
  unfold F_X8_lowestFree_43 at hf
  refine x_iconst hh dX8_lowestFree_43 1 rfl 44 rfl ?_
  refine x_goto hh dX8_lowestFree_44 48 rfl ?_
  exact Z_X8_lowestFree_48 hX hh hr hk4  v1 v2 v3 1 st hf
def F_X8_lowestFree_4 : Nat → Int32 → Int32 → Int32 → St → Option (Int32 × St)
  | 0, _, _, _, _ => none
  | n + 1, v1, v2, v3, st => gi v1 3 (if (st.1 60 v1.toNatClampNeg) ≤ v3 then some (v2, st) else if v2 < 0 then F_X8_lowestFree_43 (F_X8_lowestFree_4 n) v1 v2 v3 st else gi ((6 * v1) + v3) 18 (gi ((6 * v1) + v2) 18 (if (st.1 61 ((6 * v1) + v2).toNatClampNeg) ≤ (st.1 61 ((6 * v1) + v3).toNatClampNeg) then F_X8_lowestFree_48 (F_X8_lowestFree_4 n) v1 v2 v3 0 st else F_X8_lowestFree_43 (F_X8_lowestFree_4 n) v1 v2 v3 st)))
set_option maxRecDepth 100000 in
set_option maxHeartbeats 4000000 in
theorem Z_X8_lowestFree_4 {l : Launch} {X : Cx} (hX : Ok X) {p : Program} {e : Env} {s : State} {m : MethodId} {args : Array Value} {below : List Frame} {meth : Method} {c : Code} {rr : Int32} {st' : St} (hh : Hy X p s m args meth c cX8_lowestFree 5 RX8) (hr : meth.sig.returnType = some .int) : ∀ (n : Nat) (v1 : Int32) (v2 : Int32) (v3 : Int32) (st : St), F_X8_lowestFree_4 n v1 v2 v3 st = some (rr, st') → Z X p l e (rmk 1) s m args below meth c 5 (MQ below (Qf X (some (.int rr)) st') args s 0 0 (cA X)) 4 [(0, .ref (X.2.1 59)), (1, .int v1), (2, .int v2), (3, .int v3)] [] st := by
  intro n
  induction n with
  | zero =>
    intro v1 v2 v3 st hf
    cases hf
  | succ n ih =>
    intro v1 v2 v3 st hf
    rw [F_X8_lowestFree_4] at hf
    refine x_iload_n hh dX8_lowestFree_4 rfl 3 rfl 5 rfl ?_
    refine x_aload_n hh dX8_lowestFree_5 rfl 0 rfl 6 rfl ?_
    refine x_getR hh cl_8 dX8_lowestFree_6 sh_59 1 60 rfl (Nat.le_of_ble_eq_true rfl) wd_801 9 rfl ?_
    refine x_iload_n hh dX8_lowestFree_9 rfl 1 rfl 10 rfl ?_
    obtain ⟨hi1, hf⟩ := gi_some hf
    refine x_iaload hh dX8_lowestFree_10 sh_60 hi1 11 rfl ?_
    refine x_icmp_ge hh dX8_lowestFree_11 76 rfl 14 rfl (fun hc2 => ?_) (fun hc2 => ?_)
    · have hf := t_pos hc2 hf
      refine x_iload_n hh dX8_lowestFree_76 rfl 2 rfl 77 rfl ?_
      obtain ⟨rfl, rfl⟩ := ret2 hf
      exact x_iret hh hr dX8_lowestFree_77
    · have hf := t_neg hc2 hf
      refine x_iload_n hh dX8_lowestFree_14 rfl 2 rfl 15 rfl ?_
      refine x_if_lt hh dX8_lowestFree_15 43 rfl 18 rfl (fun hc3 => ?_) (fun hc3 => ?_)
      · have hf := t_pos hc3 hf
        exact Z_X8_lowestFree_43 hX hh hr ih  v1 v2 v3 st hf
      · have hf := t_neg hc3 hf
        refine x_aload_n hh dX8_lowestFree_18 rfl 0 rfl 19 rfl ?_
        refine x_getR hh cl_8 dX8_lowestFree_19 sh_59 2 61 rfl (Nat.le_of_ble_eq_true rfl) wd_802 22 rfl ?_
        refine x_bipush hh dX8_lowestFree_22 6 rfl 24 rfl ?_
        refine x_iload_n hh dX8_lowestFree_24 rfl 1 rfl 25 rfl ?_
        refine x_imul hh dX8_lowestFree_25 26 rfl ?_
        refine x_iload_n hh dX8_lowestFree_26 rfl 3 rfl 27 rfl ?_
        refine x_iadd hh dX8_lowestFree_27 28 rfl ?_
        obtain ⟨hi4, hf⟩ := gi_some hf
        refine x_iaload hh dX8_lowestFree_28 sh_61 hi4 29 rfl ?_
        refine x_aload_n hh dX8_lowestFree_29 rfl 0 rfl 30 rfl ?_
        refine x_getR hh cl_8 dX8_lowestFree_30 sh_59 2 61 rfl (Nat.le_of_ble_eq_true rfl) wd_802 33 rfl ?_
        refine x_bipush hh dX8_lowestFree_33 6 rfl 35 rfl ?_
        refine x_iload_n hh dX8_lowestFree_35 rfl 1 rfl 36 rfl ?_
        refine x_imul hh dX8_lowestFree_36 37 rfl ?_
        refine x_iload_n hh dX8_lowestFree_37 rfl 2 rfl 38 rfl ?_
        refine x_iadd hh dX8_lowestFree_38 39 rfl ?_
        obtain ⟨hi5, hf⟩ := gi_some hf
        refine x_iaload hh dX8_lowestFree_39 sh_61 hi5 40 rfl ?_
        refine x_icmp_ge hh dX8_lowestFree_40 47 rfl 43 rfl (fun hc6 => ?_) (fun hc6 => ?_)
        · have hf := t_pos hc6 hf
          refine x_iconst hh dX8_lowestFree_47 0 rfl 48 rfl ?_
          exact Z_X8_lowestFree_48 hX hh hr ih  v1 v2 v3 0 st hf
        · have hf := t_neg hc6 hf
          exact Z_X8_lowestFree_43 hX hh hr ih  v1 v2 v3 st hf
def F_X8_lowestFree_0 (v1 : Int32) (st : St) : Option (Int32 × St) := F_X8_lowestFree_4 fN v1 ((-1)) 0 st
set_option maxRecDepth 100000 in
set_option maxHeartbeats 4000000 in
theorem Z_X8_lowestFree_0 {l : Launch} {X : Cx} (hX : Ok X) {p : Program} {e : Env} {s : State} {m : MethodId} {args : Array Value} {below : List Frame} {meth : Method} {c : Code} {rr : Int32} {st' : St} (hh : Hy X p s m args meth c cX8_lowestFree 5 RX8) (hr : meth.sig.returnType = some .int) (v1 : Int32) (st : St) (hf : F_X8_lowestFree_0 v1 st = some (rr, st')) : Z X p l e (rmk 1) s m args below meth c 5 (MQ below (Qf X (some (.int rr)) st') args s 0 0 (cA X)) 0 [(0, .ref (X.2.1 59)), (1, .int v1)] [] st := by
  unfold F_X8_lowestFree_0 at hf
  refine x_iconst hh dX8_lowestFree_0 (-1) rfl 1 rfl ?_
  refine x_istore_n hh dX8_lowestFree_1 rfl (by decide) [(2, .int ((-1))), (0, .ref (X.2.1 59)), (1, .int v1)] rfl 2 rfl ?_
  refine x_iconst hh dX8_lowestFree_2 0 rfl 3 rfl ?_
  refine x_istore_n hh dX8_lowestFree_3 rfl (by decide) [(3, .int 0), (2, .int ((-1))), (0, .ref (X.2.1 59)), (1, .int v1)] rfl 4 rfl ?_
  refine x_sub (lv' := [(0, .ref (X.2.1 59)), (1, .int v1), (2, .int ((-1))), (3, .int 0)]) [2, 3, 1, 0] rfl ?_
  exact Z_X8_lowestFree_4 hX hh hr fN v1 ((-1)) 0 st hf
def F_X8_lowestFree (v1 : Int32) (st : St) : Option (Int32 × St) := F_X8_lowestFree_0  v1 st
set_option maxRecDepth 100000 in
theorem C_X8_lowestFree (l : Launch) {X : Cx} (hX : Ok X) {v1 : Int32} {st : St} {q : Int32 × St} (hf : F_X8_lowestFree v1 st = some q) : Ct l X 1 yX8_lowestFree (.code yX8_lowestFree cX8_lowestFree 5 (some .int)) [.ref (X.2.1 59), .int v1] st (some (.int q.1)) q.2 := by
  refine Ct.of hX (by decide) (Nat.le_of_ble_eq_true rfl) ?_
  intro p e s m args below meth c hh hr
  exact Z_X8_lowestFree_0 hX hh hr v1 st hf

def F_X8_comeNow_136 (k20 : Int32 → Int32 → Int32 → St → Option (Int32 × St)) (v2 : Int32) (v4 : Int32) (v5 : Int32) (st : St) : Option (Int32 × St) := k20 v2 v4 v5 st
set_option maxRecDepth 100000 in
set_option maxHeartbeats 4000000 in
theorem Z_X8_comeNow_136 {l : Launch} {X : Cx} (hX : Ok X) {p : Program} {e : Env} {s : State} {m : MethodId} {args : Array Value} {below : List Frame} {meth : Method} {c : Code} {rr : Int32} {st' : St} (hh : Hy X p s m args meth c cX8_comeNow 10 RX8) (hr : meth.sig.returnType = some .int) {k20 : Int32 → Int32 → Int32 → St → Option (Int32 × St)} (hk20 : ∀ (v2 : Int32) (v4 : Int32) (v5 : Int32) (st : St), k20 v2 v4 v5 st = some (rr, st') → Z X p l e (rmk 4) s m args below meth c 10 (MQ below (Qf X (some (.int rr)) st') args s 0 0 (cA X)) 20 [(0, .ref (X.2.1 59)), (2, .int v2), (4, .int v4), (5, .int v5)] [] st) (v2 : Int32) (v4 : Int32) (v5 : Int32) (st : St) (hf : F_X8_comeNow_136 k20 v2 v4 v5 st = some (rr, st')) : Z X p l e (rmk 4) s m args below meth c 10 (MQ below (Qf X (some (.int rr)) st') args s 0 0 (cA X)) 136 [(0, .ref (X.2.1 59)), (2, .int v2), (4, .int v4), (5, .int v5)] [] st := by
  unfold F_X8_comeNow_136 at hf
  refine x_goto hh dX8_comeNow_136 20 rfl ?_
  exact hk20 v2 v4 v5 st hf
def F_X8_comeNow_133 (k20 : Int32 → Int32 → Int32 → St → Option (Int32 × St)) (v2 : Int32) (v4 : Int32) (v5 : Int32) (st : St) : Option (Int32 × St) := F_X8_comeNow_136 k20 v2 (v4 + 1) v5 st
set_option maxRecDepth 100000 in
set_option maxHeartbeats 4000000 in
theorem Z_X8_comeNow_133 {l : Launch} {X : Cx} (hX : Ok X) {p : Program} {e : Env} {s : State} {m : MethodId} {args : Array Value} {below : List Frame} {meth : Method} {c : Code} {rr : Int32} {st' : St} (hh : Hy X p s m args meth c cX8_comeNow 10 RX8) (hr : meth.sig.returnType = some .int) {k20 : Int32 → Int32 → Int32 → St → Option (Int32 × St)} (hk20 : ∀ (v2 : Int32) (v4 : Int32) (v5 : Int32) (st : St), k20 v2 v4 v5 st = some (rr, st') → Z X p l e (rmk 4) s m args below meth c 10 (MQ below (Qf X (some (.int rr)) st') args s 0 0 (cA X)) 20 [(0, .ref (X.2.1 59)), (2, .int v2), (4, .int v4), (5, .int v5)] [] st) (v2 : Int32) (v4 : Int32) (v5 : Int32) (st : St) (hf : F_X8_comeNow_133 k20 v2 v4 v5 st = some (rr, st')) : Z X p l e (rmk 4) s m args below meth c 10 (MQ below (Qf X (some (.int rr)) st') args s 0 0 (cA X)) 133 [(0, .ref (X.2.1 59)), (2, .int v2), (4, .int v4), (5, .int v5)] [] st := by
  unfold F_X8_comeNow_133 at hf
  refine x_iinc hh dX8_comeNow_133 2 rfl (v4 + 1) rfl (by decide) [(4, .int (v4 + 1)), (0, .ref (X.2.1 59)), (2, .int v2), (5, .int v5)] rfl 136 rfl ?_
  refine x_sub (lv' := [(0, .ref (X.2.1 59)), (2, .int v2), (4, .int (v4 + 1)), (5, .int v5)]) [1, 2, 0, 3] rfl ?_
  exact Z_X8_comeNow_136 hX hh hr hk20  v2 (v4 + 1) v5 st hf
def F_X8_comeNow_127 (k20 : Int32 → Int32 → Int32 → St → Option (Int32 × St)) (v2 : Int32) (v4 : Int32) (v5 : Int32) (v8 : Int32) (st : St) : Option (Int32 × St) := (F_X8_leaveNow v8 st).bind (fun q21 => F_X8_comeNow_133 k20 v2 v4 v5 q21)
set_option maxRecDepth 100000 in
set_option maxHeartbeats 4000000 in
theorem Z_X8_comeNow_127 {l : Launch} {X : Cx} (hX : Ok X) {p : Program} {e : Env} {s : State} {m : MethodId} {args : Array Value} {below : List Frame} {meth : Method} {c : Code} {rr : Int32} {st' : St} (hh : Hy X p s m args meth c cX8_comeNow 10 RX8) (hr : meth.sig.returnType = some .int) {k20 : Int32 → Int32 → Int32 → St → Option (Int32 × St)} (hk20 : ∀ (v2 : Int32) (v4 : Int32) (v5 : Int32) (st : St), k20 v2 v4 v5 st = some (rr, st') → Z X p l e (rmk 4) s m args below meth c 10 (MQ below (Qf X (some (.int rr)) st') args s 0 0 (cA X)) 20 [(0, .ref (X.2.1 59)), (2, .int v2), (4, .int v4), (5, .int v5)] [] st) (v2 : Int32) (v4 : Int32) (v5 : Int32) (v8 : Int32) (st : St) (hf : F_X8_comeNow_127 k20 v2 v4 v5 v8 st = some (rr, st')) : Z X p l e (rmk 4) s m args below meth c 10 (MQ below (Qf X (some (.int rr)) st') args s 0 0 (cA X)) 127 [(0, .ref (X.2.1 59)), (2, .int v2), (4, .int v4), (5, .int v5), (8, .int v8)] [] st := by
  unfold F_X8_comeNow_127 at hf
  refine x_aload_n hh dX8_comeNow_127 rfl 0 rfl 128 rfl ?_
  refine x_iload hh dX8_comeNow_128 4 rfl 130 rfl ?_
  obtain ⟨q21, hq21, hf⟩ := b_some hf
  refine x_callV (rest := []) hh mi_X8_leaveNow [.int v8] dX8_comeNow_130 sh_59 wd_1020 (C_X8_leaveNow l hX  hq21) rfl rfl ⟨Nat.le_of_ble_eq_true rfl, Nat.le_of_ble_eq_true rfl⟩ (Nat.le_of_ble_eq_true rfl) 133 rfl [] rfl ?_
  refine x_sub (lv' := [(0, .ref (X.2.1 59)), (2, .int v2), (4, .int v4), (5, .int v5)]) [0, 1, 2, 3] rfl ?_
  exact Z_X8_comeNow_133 hX hh hr hk20  v2 v4 v5 q21 hf
def F_X8_comeNow_56 (k20 : Int32 → Int32 → Int32 → St → Option (Int32 × St)) (v2 : Int32) (v4 : Int32) (v7 : Int32) (t0 : Int32) (st : St) : Option (Int32 × St) := if t0 = 0 then F_X8_comeNow_136 k20 v2 v4 t0 st else (F_X8_eldest v7 st).bind (fun q12 => (F_X8_lowestFree v2 q12.2).bind (fun q13 => if q13.1 < 0 then F_X8_comeNow_127 k20 v2 v4 t0 q12.1 q13.2 else gi ((6 * v2) + q13.1) 18 (gi q12.1 6 (gi ((6 * v2) + (q13.2.1 70 q12.1.toNatClampNeg)) 18 (if (q13.2.1 61 ((6 * v2) + (q13.2.1 70 q12.1.toNatClampNeg)).toNatClampNeg) ≤ (q13.2.1 61 ((6 * v2) + q13.1).toNatClampNeg) then F_X8_comeNow_127 k20 v2 v4 t0 q12.1 q13.2 else gi q12.1 6 (bs (sV q13.2 70 q12.1.toNatClampNeg q13.1) (fun st20 => F_X8_comeNow_133 k20 v2 v4 t0 st20)))))))
set_option maxRecDepth 100000 in
set_option maxHeartbeats 4000000 in
theorem Z_X8_comeNow_56 {l : Launch} {X : Cx} (hX : Ok X) {p : Program} {e : Env} {s : State} {m : MethodId} {args : Array Value} {below : List Frame} {meth : Method} {c : Code} {rr : Int32} {st' : St} (hh : Hy X p s m args meth c cX8_comeNow 10 RX8) (hr : meth.sig.returnType = some .int) {k20 : Int32 → Int32 → Int32 → St → Option (Int32 × St)} (hk20 : ∀ (v2 : Int32) (v4 : Int32) (v5 : Int32) (st : St), k20 v2 v4 v5 st = some (rr, st') → Z X p l e (rmk 4) s m args below meth c 10 (MQ below (Qf X (some (.int rr)) st') args s 0 0 (cA X)) 20 [(0, .ref (X.2.1 59)), (2, .int v2), (4, .int v4), (5, .int v5)] [] st) (v2 : Int32) (v4 : Int32) (v7 : Int32) (t0 : Int32) (st : St) (hf : F_X8_comeNow_56 k20 v2 v4 v7 t0 st = some (rr, st')) : Z X p l e (rmk 4) s m args below meth c 10 (MQ below (Qf X (some (.int rr)) st') args s 0 0 (cA X)) 56 [(0, .ref (X.2.1 59)), (2, .int v2), (4, .int v4), (7, .int v7)] [.int t0] st := by
  unfold F_X8_comeNow_56 at hf
  refine x_istore hh dX8_comeNow_56 (by decide) [(5, .int t0), (0, .ref (X.2.1 59)), (2, .int v2), (4, .int v4), (7, .int v7)] rfl 58 rfl ?_
  refine x_iload hh dX8_comeNow_58 0 rfl 60 rfl ?_
  refine x_if_eq hh dX8_comeNow_60 136 rfl 63 rfl (fun hc11 => ?_) (fun hc11 => ?_)
  · have hf := t_pos hc11 hf
    refine x_sub (lv' := [(0, .ref (X.2.1 59)), (2, .int v2), (4, .int v4), (5, .int t0)]) [1, 2, 3, 0] rfl ?_
    exact Z_X8_comeNow_136 hX hh hr hk20  v2 v4 t0 st hf
  · have hf := t_neg hc11 hf
    refine x_aload_n hh dX8_comeNow_63 rfl 1 rfl 64 rfl ?_
    refine x_iload hh dX8_comeNow_64 4 rfl 66 rfl ?_
    obtain ⟨q12, hq12, hf⟩ := b_some hf
    refine x_callV (rest := []) hh mi_X8_eldest [.int v7] dX8_comeNow_66 sh_59 wd_1037 (C_X8_eldest l hX  hq12) rfl rfl ⟨Nat.le_of_ble_eq_true rfl, Nat.le_of_ble_eq_true rfl⟩ (Nat.le_of_ble_eq_true rfl) 69 rfl [.int q12.1] rfl ?_
    refine x_istore hh dX8_comeNow_69 (by decide) [(8, .int q12.1), (5, .int t0), (0, .ref (X.2.1 59)), (2, .int v2), (4, .int v4), (7, .int v7)] rfl 71 rfl ?_
    refine x_aload_n hh dX8_comeNow_71 rfl 2 rfl 72 rfl ?_
    refine x_iload_n hh dX8_comeNow_72 rfl 3 rfl 73 rfl ?_
    obtain ⟨q13, hq13, hf⟩ := b_some hf
    refine x_callV (rest := []) hh mi_X8_lowestFree [.int v2] dX8_comeNow_73 sh_59 wd_1075 (C_X8_lowestFree l hX  hq13) rfl rfl ⟨Nat.le_of_ble_eq_true rfl, Nat.le_of_ble_eq_true rfl⟩ (Nat.le_of_ble_eq_true rfl) 76 rfl [.int q13.1] rfl ?_
    refine x_istore hh dX8_comeNow_76 (by decide) [(9, .int q13.1), (8, .int q12.1), (5, .int t0), (0, .ref (X.2.1 59)), (2, .int v2), (4, .int v4), (7, .int v7)] rfl 78 rfl ?_
    refine x_iload hh dX8_comeNow_78 0 rfl 80 rfl ?_
    refine x_if_lt hh dX8_comeNow_80 127 rfl 83 rfl (fun hc14 => ?_) (fun hc14 => ?_)
    · have hf := t_pos hc14 hf
      refine x_sub (lv' := [(0, .ref (X.2.1 59)), (2, .int v2), (4, .int v4), (5, .int t0), (8, .int q12.1)]) [3, 4, 5, 2, 1] rfl ?_
      exact Z_X8_comeNow_127 hX hh hr hk20  v2 v4 t0 q12.1 q13.2 hf
    · have hf := t_neg hc14 hf
      refine x_aload_n hh dX8_comeNow_83 rfl 3 rfl 84 rfl ?_
      refine x_getR hh cl_8 dX8_comeNow_84 sh_59 2 61 rfl (Nat.le_of_ble_eq_true rfl) wd_802 87 rfl ?_
      refine x_bipush hh dX8_comeNow_87 6 rfl 89 rfl ?_
      refine x_iload_n hh dX8_comeNow_89 rfl 4 rfl 90 rfl ?_
      refine x_imul hh dX8_comeNow_90 91 rfl ?_
      refine x_iload hh dX8_comeNow_91 0 rfl 93 rfl ?_
      refine x_iadd hh dX8_comeNow_93 94 rfl ?_
      obtain ⟨hi15, hf⟩ := gi_some hf
      refine x_iaload hh dX8_comeNow_94 sh_61 hi15 95 rfl ?_
      refine x_aload_n hh dX8_comeNow_95 rfl 3 rfl 96 rfl ?_
      refine x_getR hh cl_8 dX8_comeNow_96 sh_59 2 61 rfl (Nat.le_of_ble_eq_true rfl) wd_802 99 rfl ?_
      refine x_bipush hh dX8_comeNow_99 6 rfl 101 rfl ?_
      refine x_iload_n hh dX8_comeNow_101 rfl 4 rfl 102 rfl ?_
      refine x_imul hh dX8_comeNow_102 103 rfl ?_
      refine x_aload_n hh dX8_comeNow_103 rfl 3 rfl 104 rfl ?_
      refine x_getR hh cl_8 dX8_comeNow_104 sh_59 14 70 rfl (Nat.le_of_ble_eq_true rfl) wd_814 107 rfl ?_
      refine x_iload hh dX8_comeNow_107 1 rfl 109 rfl ?_
      obtain ⟨hi16, hf⟩ := gi_some hf
      refine x_iaload hh dX8_comeNow_109 sh_70 hi16 110 rfl ?_
      refine x_iadd hh dX8_comeNow_110 111 rfl ?_
      obtain ⟨hi17, hf⟩ := gi_some hf
      refine x_iaload hh dX8_comeNow_111 sh_61 hi17 112 rfl ?_
      refine x_icmp_ge hh dX8_comeNow_112 127 rfl 115 rfl (fun hc18 => ?_) (fun hc18 => ?_)
      · have hf := t_pos hc18 hf
        refine x_sub (lv' := [(0, .ref (X.2.1 59)), (2, .int v2), (4, .int v4), (5, .int t0), (8, .int q12.1)]) [3, 4, 5, 2, 1] rfl ?_
        exact Z_X8_comeNow_127 hX hh hr hk20  v2 v4 t0 q12.1 q13.2 hf
      · have hf := t_neg hc18 hf
        refine x_aload_n hh dX8_comeNow_115 rfl 3 rfl 116 rfl ?_
        refine x_getR hh cl_8 dX8_comeNow_116 sh_59 14 70 rfl (Nat.le_of_ble_eq_true rfl) wd_814 119 rfl ?_
        refine x_iload hh dX8_comeNow_119 1 rfl 121 rfl ?_
        refine x_iload hh dX8_comeNow_121 0 rfl 123 rfl ?_
        obtain ⟨hi19, hf⟩ := gi_some hf
        obtain ⟨st20, est20, hf⟩ := bs_some hf
        refine x_iastore hh dX8_comeNow_123 sh_70 hi19 124 rfl st20 est20 ?_
        refine x_goto hh dX8_comeNow_124 133 rfl ?_
        refine x_sub (lv' := [(0, .ref (X.2.1 59)), (2, .int v2), (4, .int v4), (5, .int t0)]) [3, 4, 5, 2] rfl ?_
        exact Z_X8_comeNow_133 hX hh hr hk20  v2 v4 t0 st20 hf
def F_X8_comeNow_20 : Nat → Int32 → Int32 → Int32 → St → Option (Int32 × St)
  | 0, _, _, _, _ => none
  | n + 1, v2, v4, v5, st => if v5 = 0 then (F_X8_bowNow v2 st).bind (fun q6 => some (v4, q6.2)) else (F_X8_isIn v2 st).bind (fun q7 => (F_X8_takeTall q7.1 q7.2).bind (fun q8 => (F_X8_bowAll q7.1 q8).bind (fun q9 => if q9.1 = 0 then F_X8_comeNow_56 (F_X8_comeNow_20 n) v2 v4 q9.1 0 q9.2 else F_X8_comeNow_56 (F_X8_comeNow_20 n) v2 v4 q9.1 1 q9.2)))
set_option maxRecDepth 100000 in
set_option maxHeartbeats 4000000 in
theorem Z_X8_comeNow_20 {l : Launch} {X : Cx} (hX : Ok X) {p : Program} {e : Env} {s : State} {m : MethodId} {args : Array Value} {below : List Frame} {meth : Method} {c : Code} {rr : Int32} {st' : St} (hh : Hy X p s m args meth c cX8_comeNow 10 RX8) (hr : meth.sig.returnType = some .int) : ∀ (n : Nat) (v2 : Int32) (v4 : Int32) (v5 : Int32) (st : St), F_X8_comeNow_20 n v2 v4 v5 st = some (rr, st') → Z X p l e (rmk 4) s m args below meth c 10 (MQ below (Qf X (some (.int rr)) st') args s 0 0 (cA X)) 20 [(0, .ref (X.2.1 59)), (2, .int v2), (4, .int v4), (5, .int v5)] [] st := by
  intro n
  induction n with
  | zero =>
    intro v2 v4 v5 st hf
    cases hf
  | succ n ih =>
    intro v2 v4 v5 st hf
    rw [F_X8_comeNow_20] at hf
    refine x_iload hh dX8_comeNow_20 3 rfl 22 rfl ?_
    refine x_if_eq hh dX8_comeNow_22 139 rfl 25 rfl (fun hc5 => ?_) (fun hc5 => ?_)
    · have hf := t_pos hc5 hf
      refine x_aload_n hh dX8_comeNow_139 rfl 0 rfl 140 rfl ?_
      refine x_iload_n hh dX8_comeNow_140 rfl 1 rfl 141 rfl ?_
      obtain ⟨q6, hq6, hf⟩ := b_some hf
      refine x_callV (rest := []) hh mi_X8_bowNow [.int v2] dX8_comeNow_141 sh_59 wd_1047 (C_X8_bowNow l hX  hq6) rfl rfl ⟨Nat.le_of_ble_eq_true rfl, Nat.le_of_ble_eq_true rfl⟩ (Nat.le_of_ble_eq_true rfl) 144 rfl [.int q6.1] rfl ?_
      refine x_istore hh dX8_comeNow_144 (by decide) [(6, .int q6.1), (0, .ref (X.2.1 59)), (2, .int v2), (4, .int v4), (5, .int v5)] rfl 146 rfl ?_
      refine x_iload hh dX8_comeNow_146 3 rfl 148 rfl ?_
      obtain ⟨rfl, rfl⟩ := ret2 hf
      exact x_iret hh hr dX8_comeNow_148
    · have hf := t_neg hc5 hf
      refine x_aload_n hh dX8_comeNow_25 rfl 0 rfl 26 rfl ?_
      refine x_iload_n hh dX8_comeNow_26 rfl 1 rfl 27 rfl ?_
      obtain ⟨q7, hq7, hf⟩ := b_some hf
      refine x_callV (rest := []) hh mi_X8_isIn [.int v2] dX8_comeNow_27 sh_59 wd_1013 (C_X8_isIn l hX  hq7) rfl rfl ⟨Nat.le_of_ble_eq_true rfl, Nat.le_of_ble_eq_true rfl⟩ (Nat.le_of_ble_eq_true rfl) 30 rfl [.int q7.1] rfl ?_
      refine x_istore hh dX8_comeNow_30 (by decide) [(6, .int q7.1), (0, .ref (X.2.1 59)), (2, .int v2), (4, .int v4), (5, .int v5)] rfl 32 rfl ?_
      refine x_aload_n hh dX8_comeNow_32 rfl 1 rfl 33 rfl ?_
      refine x_iload hh dX8_comeNow_33 0 rfl 35 rfl ?_
      obtain ⟨q8, hq8, hf⟩ := b_some hf
      refine x_callV (rest := []) hh mi_X8_takeTall [.int q7.1] dX8_comeNow_35 sh_59 wd_1050 (C_X8_takeTall l hX  hq8) rfl rfl ⟨Nat.le_of_ble_eq_true rfl, Nat.le_of_ble_eq_true rfl⟩ (Nat.le_of_ble_eq_true rfl) 38 rfl [] rfl ?_
      refine x_aload_n hh dX8_comeNow_38 rfl 1 rfl 39 rfl ?_
      refine x_iload hh dX8_comeNow_39 0 rfl 41 rfl ?_
      obtain ⟨q9, hq9, hf⟩ := b_some hf
      refine x_callV (rest := []) hh mi_X8_bowAll [.int q7.1] dX8_comeNow_41 sh_59 wd_1053 (C_X8_bowAll l hX  hq9) rfl rfl ⟨Nat.le_of_ble_eq_true rfl, Nat.le_of_ble_eq_true rfl⟩ (Nat.le_of_ble_eq_true rfl) 44 rfl [.int q9.1] rfl ?_
      refine x_istore hh dX8_comeNow_44 (by decide) [(7, .int q9.1), (6, .int q7.1), (0, .ref (X.2.1 59)), (2, .int v2), (4, .int v4), (5, .int v5)] rfl 46 rfl ?_
      refine x_iload hh dX8_comeNow_46 0 rfl 48 rfl ?_
      refine x_if_eq hh dX8_comeNow_48 55 rfl 51 rfl (fun hc10 => ?_) (fun hc10 => ?_)
      · have hf := t_pos hc10 hf
        refine x_iconst hh dX8_comeNow_55 0 rfl 56 rfl ?_
        refine x_sub (lv' := [(0, .ref (X.2.1 59)), (2, .int v2), (4, .int v4), (7, .int q9.1)]) [2, 3, 4, 0] rfl ?_
        exact Z_X8_comeNow_56 hX hh hr ih  v2 v4 q9.1 0 q9.2 hf
      · have hf := t_neg hc10 hf
        refine x_iconst hh dX8_comeNow_51 1 rfl 52 rfl ?_
        refine x_goto hh dX8_comeNow_52 56 rfl ?_
        refine x_sub (lv' := [(0, .ref (X.2.1 59)), (2, .int v2), (4, .int v4), (7, .int q9.1)]) [2, 3, 4, 0] rfl ?_
        exact Z_X8_comeNow_56 hX hh hr ih  v2 v4 q9.1 1 q9.2 hf
def F_X8_comeNow_0 (v1 : Int32) (v2 : Int32) (v3 : Int32) (st : St) : Option (Int32 × St) := gi v1 6 (bs (sV st 69 v1.toNatClampNeg v2) (fun st2 => gi v1 6 (bs (sV st2 70 v1.toNatClampNeg v3) (fun st4 => F_X8_comeNow_20 fN v2 0 1 st4))))
set_option maxRecDepth 100000 in
set_option maxHeartbeats 4000000 in
theorem Z_X8_comeNow_0 {l : Launch} {X : Cx} (hX : Ok X) {p : Program} {e : Env} {s : State} {m : MethodId} {args : Array Value} {below : List Frame} {meth : Method} {c : Code} {rr : Int32} {st' : St} (hh : Hy X p s m args meth c cX8_comeNow 10 RX8) (hr : meth.sig.returnType = some .int) (v1 : Int32) (v2 : Int32) (v3 : Int32) (st : St) (hf : F_X8_comeNow_0 v1 v2 v3 st = some (rr, st')) : Z X p l e (rmk 4) s m args below meth c 10 (MQ below (Qf X (some (.int rr)) st') args s 0 0 (cA X)) 0 [(0, .ref (X.2.1 59)), (1, .int v1), (2, .int v2), (3, .int v3)] [] st := by
  unfold F_X8_comeNow_0 at hf
  refine x_aload_n hh dX8_comeNow_0 rfl 0 rfl 1 rfl ?_
  refine x_getR hh cl_8 dX8_comeNow_1 sh_59 13 69 rfl (Nat.le_of_ble_eq_true rfl) wd_813 4 rfl ?_
  refine x_iload_n hh dX8_comeNow_4 rfl 1 rfl 5 rfl ?_
  refine x_iload_n hh dX8_comeNow_5 rfl 2 rfl 6 rfl ?_
  obtain ⟨hi1, hf⟩ := gi_some hf
  obtain ⟨st2, est2, hf⟩ := bs_some hf
  refine x_iastore hh dX8_comeNow_6 sh_69 hi1 7 rfl st2 est2 ?_
  refine x_aload_n hh dX8_comeNow_7 rfl 0 rfl 8 rfl ?_
  refine x_getR hh cl_8 dX8_comeNow_8 sh_59 14 70 rfl (Nat.le_of_ble_eq_true rfl) wd_814 11 rfl ?_
  refine x_iload_n hh dX8_comeNow_11 rfl 1 rfl 12 rfl ?_
  refine x_iload_n hh dX8_comeNow_12 rfl 3 rfl 13 rfl ?_
  obtain ⟨hi3, hf⟩ := gi_some hf
  obtain ⟨st4, est4, hf⟩ := bs_some hf
  refine x_iastore hh dX8_comeNow_13 sh_70 hi3 14 rfl st4 est4 ?_
  refine x_iconst hh dX8_comeNow_14 0 rfl 15 rfl ?_
  refine x_istore hh dX8_comeNow_15 (by decide) [(4, .int 0), (0, .ref (X.2.1 59)), (1, .int v1), (2, .int v2), (3, .int v3)] rfl 17 rfl ?_
  refine x_iconst hh dX8_comeNow_17 1 rfl 18 rfl ?_
  refine x_istore hh dX8_comeNow_18 (by decide) [(5, .int 1), (4, .int 0), (0, .ref (X.2.1 59)), (1, .int v1), (2, .int v2), (3, .int v3)] rfl 20 rfl ?_
  refine x_sub (lv' := [(0, .ref (X.2.1 59)), (2, .int v2), (4, .int 0), (5, .int 1)]) [2, 4, 1, 0] rfl ?_
  exact Z_X8_comeNow_20 hX hh hr fN v2 0 1 st4 hf
def F_X8_comeNow (v1 : Int32) (v2 : Int32) (v3 : Int32) (st : St) : Option (Int32 × St) := F_X8_comeNow_0  v1 v2 v3 st
set_option maxRecDepth 100000 in
theorem C_X8_comeNow (l : Launch) {X : Cx} (hX : Ok X) {v1 : Int32} {v2 : Int32} {v3 : Int32} {st : St} {q : Int32 × St} (hf : F_X8_comeNow v1 v2 v3 st = some q) : Ct l X 4 yX8_comeNow (.code yX8_comeNow cX8_comeNow 10 (some .int)) [.ref (X.2.1 59), .int v1, .int v2, .int v3] st (some (.int q.1)) q.2 := by
  refine Ct.of hX (by decide) (Nat.le_of_ble_eq_true rfl) ?_
  intro p e s m args below meth c hh hr
  exact Z_X8_comeNow_0 hX hh hr v1 v2 v3 st hf

def F_X8_come_17 (st : St) : Option (Int32 × St) := some ((-1000000001), st)
set_option maxRecDepth 100000 in
set_option maxHeartbeats 4000000 in
theorem Z_X8_come_17 {l : Launch} {X : Cx} (hX : Ok X) {p : Program} {e : Env} {s : State} {m : MethodId} {args : Array Value} {below : List Frame} {meth : Method} {c : Code} {rr : Int32} {st' : St} (hh : Hy X p s m args meth c cX8_come 4 RX8) (hr : meth.sig.returnType = some .int) (st : St) (hf : F_X8_come_17 st = some (rr, st')) : Z X p l e (rmk 5) s m args below meth c 4 (MQ below (Qf X (some (.int rr)) st') args s 0 0 (cA X)) 17 [(0, .ref (X.2.1 59))] [] st := by
  unfold F_X8_come_17 at hf
  refine x_ldc hh dX8_come_17 wd_980 19 rfl ?_
  obtain ⟨rfl, rfl⟩ := ret2 hf
  exact x_iret hh hr dX8_come_19
def F_X8_come_43 (t0 : Int32) (st : St) : Option (Int32 × St) := some (t0, st)
set_option maxRecDepth 100000 in
set_option maxHeartbeats 4000000 in
theorem Z_X8_come_43 {l : Launch} {X : Cx} (hX : Ok X) {p : Program} {e : Env} {s : State} {m : MethodId} {args : Array Value} {below : List Frame} {meth : Method} {c : Code} {rr : Int32} {st' : St} (hh : Hy X p s m args meth c cX8_come 4 RX8) (hr : meth.sig.returnType = some .int) (t0 : Int32) (st : St) (hf : F_X8_come_43 t0 st = some (rr, st')) : Z X p l e (rmk 5) s m args below meth c 4 (MQ below (Qf X (some (.int rr)) st') args s 0 0 (cA X)) 43 [(0, .ref (X.2.1 59))] [.int t0] st := by
  unfold F_X8_come_43 at hf
  obtain ⟨rfl, rfl⟩ := ret2 hf
  exact x_iret hh hr dX8_come_43
def F_X8_come_0 (v1 : Int32) (v2 : Int32) (v3 : Int32) (st : St) : Option (Int32 × St) := (F_X8_isPerson v1 st).bind (fun q1 => if q1.1 = 0 then F_X8_come_17 q1.2 else (F_X8_isPlace v2 v3 q1.2).bind (fun q3 => if q3.1 = 0 then F_X8_come_17 q3.2 else (F_X8_mayCome v1 v2 v3 q3.2).bind (fun q5 => if q5.1 = 0 then F_X8_come_43 ((-1000000003)) q5.2 else (F_X8_comeNow v1 v2 v3 q5.2).bind (fun q7 => F_X8_come_43 q7.1 q7.2))))
set_option maxRecDepth 100000 in
set_option maxHeartbeats 4000000 in
theorem Z_X8_come_0 {l : Launch} {X : Cx} (hX : Ok X) {p : Program} {e : Env} {s : State} {m : MethodId} {args : Array Value} {below : List Frame} {meth : Method} {c : Code} {rr : Int32} {st' : St} (hh : Hy X p s m args meth c cX8_come 4 RX8) (hr : meth.sig.returnType = some .int) (v1 : Int32) (v2 : Int32) (v3 : Int32) (st : St) (hf : F_X8_come_0 v1 v2 v3 st = some (rr, st')) : Z X p l e (rmk 5) s m args below meth c 4 (MQ below (Qf X (some (.int rr)) st') args s 0 0 (cA X)) 0 [(0, .ref (X.2.1 59)), (1, .int v1), (2, .int v2), (3, .int v3)] [] st := by
  unfold F_X8_come_0 at hf
  refine x_aload_n hh dX8_come_0 rfl 0 rfl 1 rfl ?_
  refine x_iload_n hh dX8_come_1 rfl 1 rfl 2 rfl ?_
  obtain ⟨q1, hq1, hf⟩ := b_some hf
  refine x_callV (rest := []) hh mi_X8_isPerson [.int v1] dX8_come_2 sh_59 wd_988 (C_X8_isPerson l hX  hq1) rfl rfl ⟨Nat.le_of_ble_eq_true rfl, Nat.le_of_ble_eq_true rfl⟩ (Nat.le_of_ble_eq_true rfl) 5 rfl [.int q1.1] rfl ?_
  refine x_if_eq hh dX8_come_5 17 rfl 8 rfl (fun hc2 => ?_) (fun hc2 => ?_)
  · have hf := t_pos hc2 hf
    refine x_sub (lv' := [(0, .ref (X.2.1 59))]) [0] rfl ?_
    exact Z_X8_come_17 hX hh hr  q1.2 hf
  · have hf := t_neg hc2 hf
    refine x_aload_n hh dX8_come_8 rfl 0 rfl 9 rfl ?_
    refine x_iload_n hh dX8_come_9 rfl 2 rfl 10 rfl ?_
    refine x_iload_n hh dX8_come_10 rfl 3 rfl 11 rfl ?_
    obtain ⟨q3, hq3, hf⟩ := b_some hf
    refine x_callV (rest := []) hh mi_X8_isPlace [.int v2, .int v3] dX8_come_11 sh_59 wd_977 (C_X8_isPlace l hX  hq3) rfl rfl ⟨Nat.le_of_ble_eq_true rfl, Nat.le_of_ble_eq_true rfl⟩ (Nat.le_of_ble_eq_true rfl) 14 rfl [.int q3.1] rfl ?_
    refine x_if_ne hh dX8_come_14 20 rfl 17 rfl (fun hc4 => ?_) (fun hc4 => ?_)
    · have hf := t_neg hc4 hf
      refine x_aload_n hh dX8_come_20 rfl 0 rfl 21 rfl ?_
      refine x_iload_n hh dX8_come_21 rfl 1 rfl 22 rfl ?_
      refine x_iload_n hh dX8_come_22 rfl 2 rfl 23 rfl ?_
      refine x_iload_n hh dX8_come_23 rfl 3 rfl 24 rfl ?_
      obtain ⟨q5, hq5, hf⟩ := b_some hf
      refine x_callV (rest := []) hh mi_X8_mayCome [.int v1, .int v2, .int v3] dX8_come_24 sh_59 wd_1009 (C_X8_mayCome l hX  hq5) rfl rfl ⟨Nat.le_of_ble_eq_true rfl, Nat.le_of_ble_eq_true rfl⟩ (Nat.le_of_ble_eq_true rfl) 27 rfl [.int q5.1] rfl ?_
      refine x_if_eq hh dX8_come_27 40 rfl 30 rfl (fun hc6 => ?_) (fun hc6 => ?_)
      · have hf := t_pos hc6 hf
        refine x_ldc_w hh dX8_come_40 wd_1012 43 rfl ?_
        refine x_sub (lv' := [(0, .ref (X.2.1 59))]) [0] rfl ?_
        exact Z_X8_come_43 hX hh hr  ((-1000000003)) q5.2 hf
      · have hf := t_neg hc6 hf
        refine x_aload_n hh dX8_come_30 rfl 0 rfl 31 rfl ?_
        refine x_iload_n hh dX8_come_31 rfl 1 rfl 32 rfl ?_
        refine x_iload_n hh dX8_come_32 rfl 2 rfl 33 rfl ?_
        refine x_iload_n hh dX8_come_33 rfl 3 rfl 34 rfl ?_
        obtain ⟨q7, hq7, hf⟩ := b_some hf
        refine x_callV (rest := []) hh mi_X8_comeNow [.int v1, .int v2, .int v3] dX8_come_34 sh_59 wd_1072 (C_X8_comeNow l hX  hq7) rfl rfl ⟨Nat.le_of_ble_eq_true rfl, Nat.le_of_ble_eq_true rfl⟩ (Nat.le_of_ble_eq_true rfl) 37 rfl [.int q7.1] rfl ?_
        refine x_goto hh dX8_come_37 43 rfl ?_
        refine x_sub (lv' := [(0, .ref (X.2.1 59))]) [0] rfl ?_
        exact Z_X8_come_43 hX hh hr  q7.1 q7.2 hf
    · have hf := t_pos hc4 hf
      refine x_sub (lv' := [(0, .ref (X.2.1 59))]) [0] rfl ?_
      exact Z_X8_come_17 hX hh hr  q3.2 hf
def F_X8_come (v1 : Int32) (v2 : Int32) (v3 : Int32) (st : St) : Option (Int32 × St) := F_X8_come_0  v1 v2 v3 st
set_option maxRecDepth 100000 in
theorem C_X8_come (l : Launch) {X : Cx} (hX : Ok X) {v1 : Int32} {v2 : Int32} {v3 : Int32} {st : St} {q : Int32 × St} (hf : F_X8_come v1 v2 v3 st = some q) : Ct l X 5 yX8_come (.code yX8_come cX8_come 4 (some .int)) [.ref (X.2.1 59), .int v1, .int v2, .int v3] st (some (.int q.1)) q.2 := by
  refine Ct.of hX (by decide) (Nat.le_of_ble_eq_true rfl) ?_
  intro p e s m args below meth c hh hr
  exact Z_X8_come_0 hX hh hr v1 v2 v3 st hf

def F_X8_isSet_0 (v1 : Int32) (st : St) : Option (Int32 × St) := (F_X8_in v1.toInt64 0 (((1 <<< ((st.1 59 3) &&& 31)) - 1).toInt64) st).bind (fun q1 => gb q1.1 (some (q1.1, q1.2)))
set_option maxRecDepth 100000 in
set_option maxHeartbeats 4000000 in
theorem Z_X8_isSet_0 {l : Launch} {X : Cx} (hX : Ok X) {p : Program} {e : Env} {s : State} {m : MethodId} {args : Array Value} {below : List Frame} {meth : Method} {c : Code} {rr : Int32} {st' : St} (hh : Hy X p s m args meth c cX8_isSet 2 RX8) (hr : meth.sig.returnType = some .boolean) (v1 : Int32) (st : St) (hf : F_X8_isSet_0 v1 st = some (rr, st')) : Z X p l e (rmk 1) s m args below meth c 2 (MQ below (Qf X (some (.int rr)) st') args s 0 0 (cA X)) 0 [(0, .ref (X.2.1 59)), (1, .int v1)] [] st := by
  unfold F_X8_isSet_0 at hf
  refine x_iload_n hh dX8_isSet_0 rfl 1 rfl 1 rfl ?_
  refine x_i2l hh dX8_isSet_1 2 rfl ?_
  refine x_lconst hh dX8_isSet_2 0 rfl 3 rfl ?_
  refine x_iconst hh dX8_isSet_3 1 rfl 4 rfl ?_
  refine x_aload_n hh dX8_isSet_4 rfl 0 rfl 5 rfl ?_
  refine x_getI hh cl_8 dX8_isSet_5 sh_59 3 rfl (Nat.le_of_ble_eq_true rfl) wd_803 8 rfl ?_
  refine x_ishl hh dX8_isSet_8 9 rfl ?_
  refine x_iconst hh dX8_isSet_9 1 rfl 10 rfl ?_
  refine x_isub hh dX8_isSet_10 11 rfl ?_
  refine x_i2l hh dX8_isSet_11 12 rfl ?_
  obtain ⟨q1, hq1, hf⟩ := b_some hf
  refine x_callS (rest := []) hh ms_X8_in [.long v1.toInt64, .long 0, .long (((1 <<< ((st.1 59 3) &&& 31)) - 1).toInt64)] dX8_isSet_12 wd_907 (C_X8_in l hX  hq1) rfl rfl ⟨Nat.le_of_ble_eq_true rfl, Nat.le_of_ble_eq_true rfl⟩ (Nat.le_of_ble_eq_true rfl) 15 rfl [.int q1.1] rfl ?_
  obtain ⟨hb2, hf⟩ := gb_some hf
  obtain ⟨rfl, rfl⟩ := ret2 hf
  exact x_zret hh hr (nb_n hb2) dX8_isSet_15
def F_X8_isSet (v1 : Int32) (st : St) : Option (Int32 × St) := F_X8_isSet_0  v1 st
set_option maxRecDepth 100000 in
theorem C_X8_isSet (l : Launch) {X : Cx} (hX : Ok X) {v1 : Int32} {st : St} {q : Int32 × St} (hf : F_X8_isSet v1 st = some q) : Ct l X 1 yX8_isSet (.code yX8_isSet cX8_isSet 2 (some .boolean)) [.ref (X.2.1 59), .int v1] st (some (.int q.1)) q.2 := by
  refine Ct.of hX (by decide) (Nat.le_of_ble_eq_true rfl) ?_
  intro p e s m args below meth c hh hr
  exact Z_X8_isSet_0 hX hh hr v1 st hf

def F_X8_bits_4 : Nat → Int32 → Int32 → Int32 → St → Option (Int32 × St)
  | 0, _, _, _, _ => none
  | n + 1, v0, v1, v2, st => if (6 : Int32) ≤ v2 then some (v1, st) else F_X8_bits_4 n v0 (v1 + ((v0 >>> (v2 &&& 31)) &&& 1)) (v2 + 1) st
set_option maxRecDepth 100000 in
set_option maxHeartbeats 4000000 in
theorem Z_X8_bits_4 {l : Launch} {X : Cx} (hX : Ok X) {p : Program} {e : Env} {s : State} {m : MethodId} {args : Array Value} {below : List Frame} {meth : Method} {c : Code} {rr : Int32} {st' : St} (hh : Hy X p s m args meth c cX8_bits 3 RX8) (hr : meth.sig.returnType = some .int) : ∀ (n : Nat) (v0 : Int32) (v1 : Int32) (v2 : Int32) (st : St), F_X8_bits_4 n v0 v1 v2 st = some (rr, st') → Z X p l e (rmk 0) s m args below meth c 3 (MQ below (Qf X (some (.int rr)) st') args s 0 0 (cA X)) 4 [(0, .int v0), (1, .int v1), (2, .int v2)] [] st := by
  intro n
  induction n with
  | zero =>
    intro v0 v1 v2 st hf
    cases hf
  | succ n ih =>
    intro v0 v1 v2 st hf
    rw [F_X8_bits_4] at hf
    refine x_iload_n hh dX8_bits_4 rfl 2 rfl 5 rfl ?_
    refine x_bipush hh dX8_bits_5 6 rfl 7 rfl ?_
    refine x_icmp_ge hh dX8_bits_7 24 rfl 10 rfl (fun hc1 => ?_) (fun hc1 => ?_)
    · have hf := t_pos hc1 hf
      refine x_iload_n hh dX8_bits_24 rfl 1 rfl 25 rfl ?_
      obtain ⟨rfl, rfl⟩ := ret2 hf
      exact x_iret hh hr dX8_bits_25
    · have hf := t_neg hc1 hf
      refine x_iload_n hh dX8_bits_10 rfl 1 rfl 11 rfl ?_
      refine x_iload_n hh dX8_bits_11 rfl 0 rfl 12 rfl ?_
      refine x_iload_n hh dX8_bits_12 rfl 2 rfl 13 rfl ?_
      refine x_ishr hh dX8_bits_13 14 rfl ?_
      refine x_iconst hh dX8_bits_14 1 rfl 15 rfl ?_
      refine x_iand hh dX8_bits_15 16 rfl ?_
      refine x_iadd hh dX8_bits_16 17 rfl ?_
      refine x_istore_n hh dX8_bits_17 rfl (by decide) [(1, .int (v1 + ((v0 >>> (v2 &&& 31)) &&& 1))), (0, .int v0), (2, .int v2)] rfl 18 rfl ?_
      refine x_iinc hh dX8_bits_18 2 rfl (v2 + 1) rfl (by decide) [(2, .int (v2 + 1)), (1, .int (v1 + ((v0 >>> (v2 &&& 31)) &&& 1))), (0, .int v0)] rfl 21 rfl ?_
      refine x_goto hh dX8_bits_21 4 rfl ?_
      refine x_sub (lv' := [(0, .int v0), (1, .int (v1 + ((v0 >>> (v2 &&& 31)) &&& 1))), (2, .int (v2 + 1))]) [2, 1, 0] rfl ?_
      exact ih v0 (v1 + ((v0 >>> (v2 &&& 31)) &&& 1)) (v2 + 1) st hf
def F_X8_bits_0 (v0 : Int32) (st : St) : Option (Int32 × St) := F_X8_bits_4 fN v0 0 0 st
set_option maxRecDepth 100000 in
set_option maxHeartbeats 4000000 in
theorem Z_X8_bits_0 {l : Launch} {X : Cx} (hX : Ok X) {p : Program} {e : Env} {s : State} {m : MethodId} {args : Array Value} {below : List Frame} {meth : Method} {c : Code} {rr : Int32} {st' : St} (hh : Hy X p s m args meth c cX8_bits 3 RX8) (hr : meth.sig.returnType = some .int) (v0 : Int32) (st : St) (hf : F_X8_bits_0 v0 st = some (rr, st')) : Z X p l e (rmk 0) s m args below meth c 3 (MQ below (Qf X (some (.int rr)) st') args s 0 0 (cA X)) 0 [(0, .int v0)] [] st := by
  unfold F_X8_bits_0 at hf
  refine x_iconst hh dX8_bits_0 0 rfl 1 rfl ?_
  refine x_istore_n hh dX8_bits_1 rfl (by decide) [(1, .int 0), (0, .int v0)] rfl 2 rfl ?_
  refine x_iconst hh dX8_bits_2 0 rfl 3 rfl ?_
  refine x_istore_n hh dX8_bits_3 rfl (by decide) [(2, .int 0), (1, .int 0), (0, .int v0)] rfl 4 rfl ?_
  refine x_sub (lv' := [(0, .int v0), (1, .int 0), (2, .int 0)]) [2, 1, 0] rfl ?_
  exact Z_X8_bits_4 hX hh hr fN v0 0 0 st hf
def F_X8_bits (v0 : Int32) (st : St) : Option (Int32 × St) := F_X8_bits_0  v0 st
set_option maxRecDepth 100000 in
theorem C_X8_bits (l : Launch) {X : Cx} (hX : Ok X) {v0 : Int32} {st : St} {q : Int32 × St} (hf : F_X8_bits v0 st = some q) : Ct l X 0 yX8_bits (.code yX8_bits cX8_bits 3 (some .int)) [.int v0] st (some (.int q.1)) q.2 := by
  refine Ct.of hX (by decide) (Nat.le_of_ble_eq_true rfl) ?_
  intro p e s m args below meth c hh hr
  exact Z_X8_bits_0 hX hh hr v0 st hf

def F_X8_bowsOf_31 (k4 : Int32 → Int32 → Int32 → St → Option (Int32 × St)) (v1 : Int32) (v3 : Int32) (t0 : Int32) (t1 : Int32) (st : St) : Option (Int32 × St) := k4 v1 (t1 + t0) (v3 + 1) st
set_option maxRecDepth 100000 in
set_option maxHeartbeats 4000000 in
theorem Z_X8_bowsOf_31 {l : Launch} {X : Cx} (hX : Ok X) {p : Program} {e : Env} {s : State} {m : MethodId} {args : Array Value} {below : List Frame} {meth : Method} {c : Code} {rr : Int32} {st' : St} (hh : Hy X p s m args meth c cX8_bowsOf 4 RX8) (hr : meth.sig.returnType = some .int) {k4 : Int32 → Int32 → Int32 → St → Option (Int32 × St)} (hk4 : ∀ (v1 : Int32) (v2 : Int32) (v3 : Int32) (st : St), k4 v1 v2 v3 st = some (rr, st') → Z X p l e (rmk 1) s m args below meth c 4 (MQ below (Qf X (some (.int rr)) st') args s 0 0 (cA X)) 4 [(0, .ref (X.2.1 59)), (1, .int v1), (2, .int v2), (3, .int v3)] [] st) (v1 : Int32) (v3 : Int32) (t0 : Int32) (t1 : Int32) (st : St) (hf : F_X8_bowsOf_31 k4 v1 v3 t0 t1 st = some (rr, st')) : Z X p l e (rmk 1) s m args below meth c 4 (MQ below (Qf X (some (.int rr)) st') args s 0 0 (cA X)) 31 [(0, .ref (X.2.1 59)), (1, .int v1), (3, .int v3)] [.int t0, .int t1] st := by
  unfold F_X8_bowsOf_31 at hf
  refine x_iadd hh dX8_bowsOf_31 32 rfl ?_
  refine x_istore_n hh dX8_bowsOf_32 rfl (by decide) [(2, .int (t1 + t0)), (0, .ref (X.2.1 59)), (1, .int v1), (3, .int v3)] rfl 33 rfl ?_
  refine x_iinc hh dX8_bowsOf_33 3 rfl (v3 + 1) rfl (by decide) [(3, .int (v3 + 1)), (2, .int (t1 + t0)), (0, .ref (X.2.1 59)), (1, .int v1)] rfl 36 rfl ?_
  refine x_goto hh dX8_bowsOf_36 4 rfl ?_
  refine x_sub (lv' := [(0, .ref (X.2.1 59)), (1, .int v1), (2, .int (t1 + t0)), (3, .int (v3 + 1))]) [2, 3, 1, 0] rfl ?_
  exact hk4 v1 (t1 + t0) (v3 + 1) st hf
def F_X8_bowsOf_4 : Nat → Int32 → Int32 → Int32 → St → Option (Int32 × St)
  | 0, _, _, _, _ => none
  | n + 1, v1, v2, v3, st => if (st.1 59 3) ≤ v3 then some (v2, st) else (F_X8_has v1 v3 st).bind (fun q2 => if q2.1 = 0 then F_X8_bowsOf_31 (F_X8_bowsOf_4 n) v1 v3 0 v2 q2.2 else gi v3 6 (F_X8_bowsOf_31 (F_X8_bowsOf_4 n) v1 v3 (q2.2.1 81 v3.toNatClampNeg) v2 q2.2))
set_option maxRecDepth 100000 in
set_option maxHeartbeats 4000000 in
theorem Z_X8_bowsOf_4 {l : Launch} {X : Cx} (hX : Ok X) {p : Program} {e : Env} {s : State} {m : MethodId} {args : Array Value} {below : List Frame} {meth : Method} {c : Code} {rr : Int32} {st' : St} (hh : Hy X p s m args meth c cX8_bowsOf 4 RX8) (hr : meth.sig.returnType = some .int) : ∀ (n : Nat) (v1 : Int32) (v2 : Int32) (v3 : Int32) (st : St), F_X8_bowsOf_4 n v1 v2 v3 st = some (rr, st') → Z X p l e (rmk 1) s m args below meth c 4 (MQ below (Qf X (some (.int rr)) st') args s 0 0 (cA X)) 4 [(0, .ref (X.2.1 59)), (1, .int v1), (2, .int v2), (3, .int v3)] [] st := by
  intro n
  induction n with
  | zero =>
    intro v1 v2 v3 st hf
    cases hf
  | succ n ih =>
    intro v1 v2 v3 st hf
    rw [F_X8_bowsOf_4] at hf
    refine x_iload_n hh dX8_bowsOf_4 rfl 3 rfl 5 rfl ?_
    refine x_aload_n hh dX8_bowsOf_5 rfl 0 rfl 6 rfl ?_
    refine x_getI hh cl_8 dX8_bowsOf_6 sh_59 3 rfl (Nat.le_of_ble_eq_true rfl) wd_803 9 rfl ?_
    refine x_icmp_ge hh dX8_bowsOf_9 39 rfl 12 rfl (fun hc1 => ?_) (fun hc1 => ?_)
    · have hf := t_pos hc1 hf
      refine x_iload_n hh dX8_bowsOf_39 rfl 2 rfl 40 rfl ?_
      obtain ⟨rfl, rfl⟩ := ret2 hf
      exact x_iret hh hr dX8_bowsOf_40
    · have hf := t_neg hc1 hf
      refine x_iload_n hh dX8_bowsOf_12 rfl 2 rfl 13 rfl ?_
      refine x_iload_n hh dX8_bowsOf_13 rfl 1 rfl 14 rfl ?_
      refine x_iload_n hh dX8_bowsOf_14 rfl 3 rfl 15 rfl ?_
      obtain ⟨q2, hq2, hf⟩ := b_some hf
      refine x_callS (rest := [.int v2]) hh ms_X8_has [.int v1, .int v3] dX8_bowsOf_15 wd_1040 (C_X8_has l hX  hq2) rfl rfl ⟨Nat.le_of_ble_eq_true rfl, Nat.le_of_ble_eq_true rfl⟩ (Nat.le_of_ble_eq_true rfl) 18 rfl [.int q2.1, .int v2] rfl ?_
      refine x_if_eq hh dX8_bowsOf_18 30 rfl 21 rfl (fun hc3 => ?_) (fun hc3 => ?_)
      · have hf := t_pos hc3 hf
        refine x_iconst hh dX8_bowsOf_30 0 rfl 31 rfl ?_
        refine x_sub (lv' := [(0, .ref (X.2.1 59)), (1, .int v1), (3, .int v3)]) [0, 1, 3] rfl ?_
        exact Z_X8_bowsOf_31 hX hh hr ih  v1 v3 0 v2 q2.2 hf
      · have hf := t_neg hc3 hf
        refine x_aload_n hh dX8_bowsOf_21 rfl 0 rfl 22 rfl ?_
        refine x_getR hh cl_8 dX8_bowsOf_22 sh_59 36 81 rfl (Nat.le_of_ble_eq_true rfl) wd_836 25 rfl ?_
        refine x_iload_n hh dX8_bowsOf_25 rfl 3 rfl 26 rfl ?_
        obtain ⟨hi4, hf⟩ := gi_some hf
        refine x_iaload hh dX8_bowsOf_26 sh_81 hi4 27 rfl ?_
        refine x_goto hh dX8_bowsOf_27 31 rfl ?_
        refine x_sub (lv' := [(0, .ref (X.2.1 59)), (1, .int v1), (3, .int v3)]) [0, 1, 3] rfl ?_
        exact Z_X8_bowsOf_31 hX hh hr ih  v1 v3 (q2.2.1 81 v3.toNatClampNeg) v2 q2.2 hf
def F_X8_bowsOf_0 (v1 : Int32) (st : St) : Option (Int32 × St) := F_X8_bowsOf_4 fN v1 0 0 st
set_option maxRecDepth 100000 in
set_option maxHeartbeats 4000000 in
theorem Z_X8_bowsOf_0 {l : Launch} {X : Cx} (hX : Ok X) {p : Program} {e : Env} {s : State} {m : MethodId} {args : Array Value} {below : List Frame} {meth : Method} {c : Code} {rr : Int32} {st' : St} (hh : Hy X p s m args meth c cX8_bowsOf 4 RX8) (hr : meth.sig.returnType = some .int) (v1 : Int32) (st : St) (hf : F_X8_bowsOf_0 v1 st = some (rr, st')) : Z X p l e (rmk 1) s m args below meth c 4 (MQ below (Qf X (some (.int rr)) st') args s 0 0 (cA X)) 0 [(0, .ref (X.2.1 59)), (1, .int v1)] [] st := by
  unfold F_X8_bowsOf_0 at hf
  refine x_iconst hh dX8_bowsOf_0 0 rfl 1 rfl ?_
  refine x_istore_n hh dX8_bowsOf_1 rfl (by decide) [(2, .int 0), (0, .ref (X.2.1 59)), (1, .int v1)] rfl 2 rfl ?_
  refine x_iconst hh dX8_bowsOf_2 0 rfl 3 rfl ?_
  refine x_istore_n hh dX8_bowsOf_3 rfl (by decide) [(3, .int 0), (2, .int 0), (0, .ref (X.2.1 59)), (1, .int v1)] rfl 4 rfl ?_
  refine x_sub (lv' := [(0, .ref (X.2.1 59)), (1, .int v1), (2, .int 0), (3, .int 0)]) [2, 3, 1, 0] rfl ?_
  exact Z_X8_bowsOf_4 hX hh hr fN v1 0 0 st hf
def F_X8_bowsOf (v1 : Int32) (st : St) : Option (Int32 × St) := F_X8_bowsOf_0  v1 st
set_option maxRecDepth 100000 in
theorem C_X8_bowsOf (l : Launch) {X : Cx} (hX : Ok X) {v1 : Int32} {st : St} {q : Int32 × St} (hf : F_X8_bowsOf v1 st = some q) : Ct l X 1 yX8_bowsOf (.code yX8_bowsOf cX8_bowsOf 4 (some .int)) [.ref (X.2.1 59), .int v1] st (some (.int q.1)) q.2 := by
  refine Ct.of hX (by decide) (Nat.le_of_ble_eq_true rfl) ?_
  intro p e s m args below meth c hh hr
  exact Z_X8_bowsOf_0 hX hh hr v1 st hf

def F_X8_isParty_99 (k17 : Int32 → Int32 → Int32 → Int32 → Int32 → Int32 → St → Option (Int32 × St)) (v1 : Int32) (v2 : Int32) (v4 : Int32) (v5 : Int32) (v6 : Int32) (v7 : Int32) (st : St) : Option (Int32 × St) := k17 v1 v2 v4 v5 v6 (v7 + (-1)) st
set_option maxRecDepth 100000 in
set_option maxHeartbeats 4000000 in
theorem Z_X8_isParty_99 {l : Launch} {X : Cx} (hX : Ok X) {p : Program} {e : Env} {s : State} {m : MethodId} {args : Array Value} {below : List Frame} {meth : Method} {c : Code} {rr : Int32} {st' : St} (hh : Hy X p s m args meth c cX8_isParty 8 RX8) (hr : meth.sig.returnType = some .boolean) {k17 : Int32 → Int32 → Int32 → Int32 → Int32 → Int32 → St → Option (Int32 × St)} (hk17 : ∀ (v1 : Int32) (v2 : Int32) (v4 : Int32) (v5 : Int32) (v6 : Int32) (v7 : Int32) (st : St), k17 v1 v2 v4 v5 v6 v7 st = some (rr, st') → Z X p l e (rmk 1) s m args below meth c 8 (MQ below (Qf X (some (.int rr)) st') args s 0 0 (cA X)) 17 [(0, .ref (X.2.1 59)), (1, .int v1), (2, .int v2), (4, .int v4), (5, .int v5), (6, .int v6), (7, .int v7)] [] st) (v1 : Int32) (v2 : Int32) (v4 : Int32) (v5 : Int32) (v6 : Int32) (v7 : Int32) (st : St) (hf : F_X8_isParty_99 k17 v1 v2 v4 v5 v6 v7 st = some (rr, st')) : Z X p l e (rmk 1) s m args below meth c 8 (MQ below (Qf X (some (.int rr)) st') args s 0 0 (cA X)) 99 [(0, .ref (X.2.1 59)), (1, .int v1), (2, .int v2), (4, .int v4), (5, .int v5), (6, .int v6), (7, .int v7)] [] st := by
  unfold F_X8_isParty_99 at hf
  refine x_iinc hh dX8_isParty_99 6 rfl (v7 + (-1)) rfl (by decide) [(7, .int (v7 + (-1))), (0, .ref (X.2.1 59)), (1, .int v1), (2, .int v2), (4, .int v4), (5, .int v5), (6, .int v6)] rfl 102 rfl ?_
  refine x_goto hh dX8_isParty_102 17 rfl ?_
  refine x_sub (lv' := [(0, .ref (X.2.1 59)), (1, .int v1), (2, .int v2), (4, .int v4), (5, .int v5), (6, .int v6), (7, .int (v7 + (-1)))]) [1, 2, 3, 4, 5, 6, 0] rfl ?_
  exact hk17 v1 v2 v4 v5 v6 (v7 + (-1)) st hf
def F_X8_isParty_83 (k17 : Int32 → Int32 → Int32 → Int32 → Int32 → Int32 → St → Option (Int32 × St)) (v1 : Int32) (v2 : Int32) (v4 : Int32) (v5 : Int32) (v7 : Int32) (t0 : Int32) (st : St) : Option (Int32 × St) := gi v7 6 (F_X8_isParty_99 k17 v1 v2 v4 (v5 ||| (1 <<< ((st.1 82 v7.toNatClampNeg) &&& 31))) t0 v7 st)
set_option maxRecDepth 100000 in
set_option maxHeartbeats 4000000 in
theorem Z_X8_isParty_83 {l : Launch} {X : Cx} (hX : Ok X) {p : Program} {e : Env} {s : State} {m : MethodId} {args : Array Value} {below : List Frame} {meth : Method} {c : Code} {rr : Int32} {st' : St} (hh : Hy X p s m args meth c cX8_isParty 8 RX8) (hr : meth.sig.returnType = some .boolean) {k17 : Int32 → Int32 → Int32 → Int32 → Int32 → Int32 → St → Option (Int32 × St)} (hk17 : ∀ (v1 : Int32) (v2 : Int32) (v4 : Int32) (v5 : Int32) (v6 : Int32) (v7 : Int32) (st : St), k17 v1 v2 v4 v5 v6 v7 st = some (rr, st') → Z X p l e (rmk 1) s m args below meth c 8 (MQ below (Qf X (some (.int rr)) st') args s 0 0 (cA X)) 17 [(0, .ref (X.2.1 59)), (1, .int v1), (2, .int v2), (4, .int v4), (5, .int v5), (6, .int v6), (7, .int v7)] [] st) (v1 : Int32) (v2 : Int32) (v4 : Int32) (v5 : Int32) (v7 : Int32) (t0 : Int32) (st : St) (hf : F_X8_isParty_83 k17 v1 v2 v4 v5 v7 t0 st = some (rr, st')) : Z X p l e (rmk 1) s m args below meth c 8 (MQ below (Qf X (some (.int rr)) st') args s 0 0 (cA X)) 83 [(0, .ref (X.2.1 59)), (1, .int v1), (2, .int v2), (4, .int v4), (5, .int v5), (7, .int v7)] [.int t0] st := by
  unfold F_X8_isParty_83 at hf
  refine x_istore hh dX8_isParty_83 (by decide) [(6, .int t0), (0, .ref (X.2.1 59)), (1, .int v1), (2, .int v2), (4, .int v4), (5, .int v5), (7, .int v7)] rfl 85 rfl ?_
  refine x_iload hh dX8_isParty_85 5 rfl 87 rfl ?_
  refine x_iconst hh dX8_isParty_87 1 rfl 88 rfl ?_
  refine x_aload_n hh dX8_isParty_88 rfl 1 rfl 89 rfl ?_
  refine x_getR hh cl_8 dX8_isParty_89 sh_59 37 82 rfl (Nat.le_of_ble_eq_true rfl) wd_837 92 rfl ?_
  refine x_iload hh dX8_isParty_92 6 rfl 94 rfl ?_
  obtain ⟨hi15, hf⟩ := gi_some hf
  refine x_iaload hh dX8_isParty_94 sh_82 hi15 95 rfl ?_
  refine x_ishl hh dX8_isParty_95 96 rfl ?_
  refine x_ior hh dX8_isParty_96 97 rfl ?_
  refine x_istore hh dX8_isParty_97 (by decide) [(5, .int (v5 ||| (1 <<< ((st.1 82 v7.toNatClampNeg) &&& 31)))), (6, .int t0), (0, .ref (X.2.1 59)), (1, .int v1), (2, .int v2), (4, .int v4), (7, .int v7)] rfl 99 rfl ?_
  refine x_sub (lv' := [(0, .ref (X.2.1 59)), (1, .int v1), (2, .int v2), (4, .int v4), (5, .int (v5 ||| (1 <<< ((st.1 82 v7.toNatClampNeg) &&& 31)))), (6, .int t0), (7, .int v7)]) [2, 3, 4, 5, 0, 1, 6] rfl ?_
  exact Z_X8_isParty_99 hX hh hr hk17  v1 v2 v4 (v5 ||| (1 <<< ((st.1 82 v7.toNatClampNeg) &&& 31))) t0 v7 st hf
def F_X8_isParty_82 (k17 : Int32 → Int32 → Int32 → Int32 → Int32 → Int32 → St → Option (Int32 × St)) (v1 : Int32) (v2 : Int32) (v4 : Int32) (v5 : Int32) (v7 : Int32) (st : St) : Option (Int32 × St) := F_X8_isParty_83 k17 v1 v2 v4 v5 v7 0 st
set_option maxRecDepth 100000 in
set_option maxHeartbeats 4000000 in
theorem Z_X8_isParty_82 {l : Launch} {X : Cx} (hX : Ok X) {p : Program} {e : Env} {s : State} {m : MethodId} {args : Array Value} {below : List Frame} {meth : Method} {c : Code} {rr : Int32} {st' : St} (hh : Hy X p s m args meth c cX8_isParty 8 RX8) (hr : meth.sig.returnType = some .boolean) {k17 : Int32 → Int32 → Int32 → Int32 → Int32 → Int32 → St → Option (Int32 × St)} (hk17 : ∀ (v1 : Int32) (v2 : Int32) (v4 : Int32) (v5 : Int32) (v6 : Int32) (v7 : Int32) (st : St), k17 v1 v2 v4 v5 v6 v7 st = some (rr, st') → Z X p l e (rmk 1) s m args below meth c 8 (MQ below (Qf X (some (.int rr)) st') args s 0 0 (cA X)) 17 [(0, .ref (X.2.1 59)), (1, .int v1), (2, .int v2), (4, .int v4), (5, .int v5), (6, .int v6), (7, .int v7)] [] st) (v1 : Int32) (v2 : Int32) (v4 : Int32) (v5 : Int32) (v7 : Int32) (st : St) (hf : F_X8_isParty_82 k17 v1 v2 v4 v5 v7 st = some (rr, st')) : Z X p l e (rmk 1) s m args below meth c 8 (MQ below (Qf X (some (.int rr)) st') args s 0 0 (cA X)) 82 [(0, .ref (X.2.1 59)), (1, .int v1), (2, .int v2), (4, .int v4), (5, .int v5), (7, .int v7)] [] st := by
  unfold F_X8_isParty_82 at hf
  refine x_iconst hh dX8_isParty_82 0 rfl 83 rfl ?_
  exact Z_X8_isParty_83 hX hh hr hk17  v1 v2 v4 v5 v7 0 st hf
def F_X8_isParty_17 : Nat → Int32 → Int32 → Int32 → Int32 → Int32 → Int32 → St → Option (Int32 × St)
  | 0, _, _, _, _, _, _, _ => none
  | n + 1, v1, v2, v4, v5, v6, v7, st => if v7 < 0 then gb v6 (some (v6, st)) else (F_X8_has v2 v7 st).bind (fun q3 => if q3.1 = 0 then F_X8_isParty_99 (F_X8_isParty_17 n) v1 v2 v4 v5 v6 v7 q3.2 else gi v1 3 (gz (q3.2.1 60 v1.toNatClampNeg) (gi v7 6 (bs (sV q3.2 82 v7.toNatClampNeg (v4 - v4 / (q3.2.1 60 v1.toNatClampNeg) * (q3.2.1 60 v1.toNatClampNeg))) (fun st8 => gi v1 3 (gz (st8.1 60 v1.toNatClampNeg) (if v6 = 0 then F_X8_isParty_82 (F_X8_isParty_17 n) v1 v2 (v4 / (st8.1 60 v1.toNatClampNeg)) v5 v7 st8 else gi v7 6 ((F_X8_has v5 (st8.1 82 v7.toNatClampNeg) st8).bind (fun q13 => if q13.1 = 0 then F_X8_isParty_83 (F_X8_isParty_17 n) v1 v2 (v4 / (st8.1 60 v1.toNatClampNeg)) v5 v7 1 q13.2 else F_X8_isParty_82 (F_X8_isParty_17 n) v1 v2 (v4 / (st8.1 60 v1.toNatClampNeg)) v5 v7 q13.2)))))))))
set_option maxRecDepth 100000 in
set_option maxHeartbeats 4000000 in
theorem Z_X8_isParty_17 {l : Launch} {X : Cx} (hX : Ok X) {p : Program} {e : Env} {s : State} {m : MethodId} {args : Array Value} {below : List Frame} {meth : Method} {c : Code} {rr : Int32} {st' : St} (hh : Hy X p s m args meth c cX8_isParty 8 RX8) (hr : meth.sig.returnType = some .boolean) : ∀ (n : Nat) (v1 : Int32) (v2 : Int32) (v4 : Int32) (v5 : Int32) (v6 : Int32) (v7 : Int32) (st : St), F_X8_isParty_17 n v1 v2 v4 v5 v6 v7 st = some (rr, st') → Z X p l e (rmk 1) s m args below meth c 8 (MQ below (Qf X (some (.int rr)) st') args s 0 0 (cA X)) 17 [(0, .ref (X.2.1 59)), (1, .int v1), (2, .int v2), (4, .int v4), (5, .int v5), (6, .int v6), (7, .int v7)] [] st := by
  intro n
  induction n with
  | zero =>
    intro v1 v2 v4 v5 v6 v7 st hf
    cases hf
  | succ n ih =>
    intro v1 v2 v4 v5 v6 v7 st hf
    rw [F_X8_isParty_17] at hf
    refine x_iload hh dX8_isParty_17 6 rfl 19 rfl ?_
    refine x_if_lt hh dX8_isParty_19 105 rfl 22 rfl (fun hc1 => ?_) (fun hc1 => ?_)
    · have hf := t_pos hc1 hf
      refine x_iload hh dX8_isParty_105 5 rfl 107 rfl ?_
      obtain ⟨hb2, hf⟩ := gb_some hf
      obtain ⟨rfl, rfl⟩ := ret2 hf
      exact x_zret hh hr (nb_n hb2) dX8_isParty_107
    · have hf := t_neg hc1 hf
      refine x_iload_n hh dX8_isParty_22 rfl 2 rfl 23 rfl ?_
      refine x_iload hh dX8_isParty_23 6 rfl 25 rfl ?_
      obtain ⟨q3, hq3, hf⟩ := b_some hf
      refine x_callS (rest := []) hh ms_X8_has [.int v2, .int v7] dX8_isParty_25 wd_1040 (C_X8_has l hX  hq3) rfl rfl ⟨Nat.le_of_ble_eq_true rfl, Nat.le_of_ble_eq_true rfl⟩ (Nat.le_of_ble_eq_true rfl) 28 rfl [.int q3.1] rfl ?_
      refine x_if_eq hh dX8_isParty_28 99 rfl 31 rfl (fun hc4 => ?_) (fun hc4 => ?_)
      · have hf := t_pos hc4 hf
        exact Z_X8_isParty_99 hX hh hr ih  v1 v2 v4 v5 v6 v7 q3.2 hf
      · have hf := t_neg hc4 hf
        refine x_aload_n hh dX8_isParty_31 rfl 0 rfl 32 rfl ?_
        refine x_getR hh cl_8 dX8_isParty_32 sh_59 37 82 rfl (Nat.le_of_ble_eq_true rfl) wd_837 35 rfl ?_
        refine x_iload hh dX8_isParty_35 6 rfl 37 rfl ?_
        refine x_iload hh dX8_isParty_37 3 rfl 39 rfl ?_
        refine x_aload_n hh dX8_isParty_39 rfl 0 rfl 40 rfl ?_
        refine x_getR hh cl_8 dX8_isParty_40 sh_59 1 60 rfl (Nat.le_of_ble_eq_true rfl) wd_801 43 rfl ?_
        refine x_iload_n hh dX8_isParty_43 rfl 1 rfl 44 rfl ?_
        obtain ⟨hi5, hf⟩ := gi_some hf
        refine x_iaload hh dX8_isParty_44 sh_60 hi5 45 rfl ?_
        obtain ⟨hz6, hf⟩ := gz_some hf
        refine x_irem hh dX8_isParty_45 hz6 46 rfl ?_
        obtain ⟨hi7, hf⟩ := gi_some hf
        obtain ⟨st8, est8, hf⟩ := bs_some hf
        refine x_iastore hh dX8_isParty_46 sh_82 hi7 47 rfl st8 est8 ?_
        refine x_iload hh dX8_isParty_47 3 rfl 49 rfl ?_
        refine x_aload_n hh dX8_isParty_49 rfl 0 rfl 50 rfl ?_
        refine x_getR hh cl_8 dX8_isParty_50 sh_59 1 60 rfl (Nat.le_of_ble_eq_true rfl) wd_801 53 rfl ?_
        refine x_iload_n hh dX8_isParty_53 rfl 1 rfl 54 rfl ?_
        obtain ⟨hi9, hf⟩ := gi_some hf
        refine x_iaload hh dX8_isParty_54 sh_60 hi9 55 rfl ?_
        obtain ⟨hz10, hf⟩ := gz_some hf
        refine x_idiv hh dX8_isParty_55 hz10 56 rfl ?_
        refine x_istore hh dX8_isParty_56 (by decide) [(4, .int (v4 / (st8.1 60 v1.toNatClampNeg))), (0, .ref (X.2.1 59)), (1, .int v1), (2, .int v2), (5, .int v5), (6, .int v6), (7, .int v7)] rfl 58 rfl ?_
        refine x_iload hh dX8_isParty_58 5 rfl 60 rfl ?_
        refine x_if_eq hh dX8_isParty_60 82 rfl 63 rfl (fun hc11 => ?_) (fun hc11 => ?_)
        · have hf := t_pos hc11 hf
          refine x_sub (lv' := [(0, .ref (X.2.1 59)), (1, .int v1), (2, .int v2), (4, .int (v4 / (st8.1 60 v1.toNatClampNeg))), (5, .int v5), (7, .int v7)]) [1, 2, 3, 0, 4, 6] rfl ?_
          exact Z_X8_isParty_82 hX hh hr ih  v1 v2 (v4 / (st8.1 60 v1.toNatClampNeg)) v5 v7 st8 hf
        · have hf := t_neg hc11 hf
          refine x_iload hh dX8_isParty_63 4 rfl 65 rfl ?_
          refine x_aload_n hh dX8_isParty_65 rfl 1 rfl 66 rfl ?_
          refine x_getR hh cl_8 dX8_isParty_66 sh_59 37 82 rfl (Nat.le_of_ble_eq_true rfl) wd_837 69 rfl ?_
          refine x_iload hh dX8_isParty_69 6 rfl 71 rfl ?_
          obtain ⟨hi12, hf⟩ := gi_some hf
          refine x_iaload hh dX8_isParty_71 sh_82 hi12 72 rfl ?_
          obtain ⟨q13, hq13, hf⟩ := b_some hf
          refine x_callS (rest := []) hh ms_X8_has [.int v5, .int (st8.1 82 v7.toNatClampNeg)] dX8_isParty_72 wd_1040 (C_X8_has l hX  hq13) rfl rfl ⟨Nat.le_of_ble_eq_true rfl, Nat.le_of_ble_eq_true rfl⟩ (Nat.le_of_ble_eq_true rfl) 75 rfl [.int q13.1] rfl ?_
          refine x_if_ne hh dX8_isParty_75 82 rfl 78 rfl (fun hc14 => ?_) (fun hc14 => ?_)
          · have hf := t_neg hc14 hf
            refine x_sub (lv' := [(0, .ref (X.2.1 59)), (1, .int v1), (2, .int v2), (4, .int (v4 / (st8.1 60 v1.toNatClampNeg))), (5, .int v5), (7, .int v7)]) [1, 2, 3, 0, 4, 6] rfl ?_
            exact Z_X8_isParty_82 hX hh hr ih  v1 v2 (v4 / (st8.1 60 v1.toNatClampNeg)) v5 v7 q13.2 hf
          · have hf := t_pos hc14 hf
            refine x_iconst hh dX8_isParty_78 1 rfl 79 rfl ?_
            refine x_goto hh dX8_isParty_79 83 rfl ?_
            refine x_sub (lv' := [(0, .ref (X.2.1 59)), (1, .int v1), (2, .int v2), (4, .int (v4 / (st8.1 60 v1.toNatClampNeg))), (5, .int v5), (7, .int v7)]) [1, 2, 3, 0, 4, 6] rfl ?_
            exact Z_X8_isParty_83 hX hh hr ih  v1 v2 (v4 / (st8.1 60 v1.toNatClampNeg)) v5 v7 1 q13.2 hf
def F_X8_isParty_0 (v1 : Int32) (v2 : Int32) (v3 : Int32) (st : St) : Option (Int32 × St) := F_X8_isParty_17 fN v1 v2 v3 0 1 ((st.1 59 3) - 1) st
set_option maxRecDepth 100000 in
set_option maxHeartbeats 4000000 in
theorem Z_X8_isParty_0 {l : Launch} {X : Cx} (hX : Ok X) {p : Program} {e : Env} {s : State} {m : MethodId} {args : Array Value} {below : List Frame} {meth : Method} {c : Code} {rr : Int32} {st' : St} (hh : Hy X p s m args meth c cX8_isParty 8 RX8) (hr : meth.sig.returnType = some .boolean) (v1 : Int32) (v2 : Int32) (v3 : Int32) (st : St) (hf : F_X8_isParty_0 v1 v2 v3 st = some (rr, st')) : Z X p l e (rmk 1) s m args below meth c 8 (MQ below (Qf X (some (.int rr)) st') args s 0 0 (cA X)) 0 [(0, .ref (X.2.1 59)), (1, .int v1), (2, .int v2), (3, .int v3)] [] st := by
  unfold F_X8_isParty_0 at hf
  refine x_iload_n hh dX8_isParty_0 rfl 3 rfl 1 rfl ?_
  refine x_istore hh dX8_isParty_1 (by decide) [(4, .int v3), (0, .ref (X.2.1 59)), (1, .int v1), (2, .int v2), (3, .int v3)] rfl 3 rfl ?_
  refine x_iconst hh dX8_isParty_3 0 rfl 4 rfl ?_
  refine x_istore hh dX8_isParty_4 (by decide) [(5, .int 0), (4, .int v3), (0, .ref (X.2.1 59)), (1, .int v1), (2, .int v2), (3, .int v3)] rfl 6 rfl ?_
  refine x_iconst hh dX8_isParty_6 1 rfl 7 rfl ?_
  refine x_istore hh dX8_isParty_7 (by decide) [(6, .int 1), (5, .int 0), (4, .int v3), (0, .ref (X.2.1 59)), (1, .int v1), (2, .int v2), (3, .int v3)] rfl 9 rfl ?_
  refine x_aload_n hh dX8_isParty_9 rfl 3 rfl 10 rfl ?_
  refine x_getI hh cl_8 dX8_isParty_10 sh_59 3 rfl (Nat.le_of_ble_eq_true rfl) wd_803 13 rfl ?_
  refine x_iconst hh dX8_isParty_13 1 rfl 14 rfl ?_
  refine x_isub hh dX8_isParty_14 15 rfl ?_
  refine x_istore hh dX8_isParty_15 (by decide) [(7, .int ((st.1 59 3) - 1)), (6, .int 1), (5, .int 0), (4, .int v3), (0, .ref (X.2.1 59)), (1, .int v1), (2, .int v2), (3, .int v3)] rfl 17 rfl ?_
  refine x_sub (lv' := [(0, .ref (X.2.1 59)), (1, .int v1), (2, .int v2), (4, .int v3), (5, .int 0), (6, .int 1), (7, .int ((st.1 59 3) - 1))]) [4, 5, 6, 3, 2, 1, 0] rfl ?_
  exact Z_X8_isParty_17 hX hh hr fN v1 v2 v3 0 1 ((st.1 59 3) - 1) st hf
def F_X8_isParty (v1 : Int32) (v2 : Int32) (v3 : Int32) (st : St) : Option (Int32 × St) := F_X8_isParty_0  v1 v2 v3 st
set_option maxRecDepth 100000 in
theorem C_X8_isParty (l : Launch) {X : Cx} (hX : Ok X) {v1 : Int32} {v2 : Int32} {v3 : Int32} {st : St} {q : Int32 × St} (hf : F_X8_isParty v1 v2 v3 st = some q) : Ct l X 1 yX8_isParty (.code yX8_isParty cX8_isParty 8 (some .boolean)) [.ref (X.2.1 59), .int v1, .int v2, .int v3] st (some (.int q.1)) q.2 := by
  refine Ct.of hX (by decide) (Nat.le_of_ble_eq_true rfl) ?_
  intro p e s m args below meth c hh hr
  exact Z_X8_isParty_0 hX hh hr v1 v2 v3 st hf

def F_X8_partyOf_119 (k56 : Int32 → Int32 → Int32 → Int32 → Int32 → St → Option (Int32 × St)) (k77 : Int32 → Int32 → Int32 → Int32 → Int32 → Int32 → St → Option (Int32 × St)) (v1 : Int32) (v2 : Int32) (v4 : Int32) (v5 : Int32) (v6 : Int32) (v7 : Int32) (t0 : Int32) (t1 : Int32) (st : St) : Option (Int32 × St) := gi t1 6 (bs (sV st 80 t1.toNatClampNeg t0) (fun st18 => k77 v1 v2 v4 v5 v6 (v7 + 1) st18))
set_option maxRecDepth 100000 in
set_option maxHeartbeats 4000000 in
theorem Z_X8_partyOf_119 {l : Launch} {X : Cx} (hX : Ok X) {p : Program} {e : Env} {s : State} {m : MethodId} {args : Array Value} {below : List Frame} {meth : Method} {c : Code} {rr : Int32} {st' : St} (hh : Hy X p s m args meth c cX8_partyOf 9 RX8) (hr : meth.sig.returnType = some .int) {k56 : Int32 → Int32 → Int32 → Int32 → Int32 → St → Option (Int32 × St)} (hk56 : ∀ (v1 : Int32) (v2 : Int32) (v4 : Int32) (v5 : Int32) (v6 : Int32) (st : St), k56 v1 v2 v4 v5 v6 st = some (rr, st') → Z X p l e (rmk 3) s m args below meth c 9 (MQ below (Qf X (some (.int rr)) st') args s 0 0 (cA X)) 56 [(0, .ref (X.2.1 59)), (1, .int v1), (2, .int v2), (4, .int v4), (5, .int v5), (6, .int v6)] [] st) {k77 : Int32 → Int32 → Int32 → Int32 → Int32 → Int32 → St → Option (Int32 × St)} (hk77 : ∀ (v1 : Int32) (v2 : Int32) (v4 : Int32) (v5 : Int32) (v6 : Int32) (v7 : Int32) (st : St), k77 v1 v2 v4 v5 v6 v7 st = some (rr, st') → Z X p l e (rmk 3) s m args below meth c 9 (MQ below (Qf X (some (.int rr)) st') args s 0 0 (cA X)) 77 [(0, .ref (X.2.1 59)), (1, .int v1), (2, .int v2), (4, .int v4), (5, .int v5), (6, .int v6), (7, .int v7)] [] st) (v1 : Int32) (v2 : Int32) (v4 : Int32) (v5 : Int32) (v6 : Int32) (v7 : Int32) (t0 : Int32) (t1 : Int32) (st : St) (hf : F_X8_partyOf_119 k56 k77 v1 v2 v4 v5 v6 v7 t0 t1 st = some (rr, st')) : Z X p l e (rmk 3) s m args below meth c 9 (MQ below (Qf X (some (.int rr)) st') args s 0 0 (cA X)) 119 [(0, .ref (X.2.1 59)), (1, .int v1), (2, .int v2), (4, .int v4), (5, .int v5), (6, .int v6), (7, .int v7)] [.int t0, .int t1, .ref (X.2.1 80)] st := by
  unfold F_X8_partyOf_119 at hf
  obtain ⟨hi17, hf⟩ := gi_some hf
  obtain ⟨st18, est18, hf⟩ := bs_some hf
  refine x_iastore hh dX8_partyOf_119 sh_80 hi17 120 rfl st18 est18 ?_
  refine x_iinc hh dX8_partyOf_120 6 rfl (v7 + 1) rfl (by decide) [(7, .int (v7 + 1)), (0, .ref (X.2.1 59)), (1, .int v1), (2, .int v2), (4, .int v4), (5, .int v5), (6, .int v6)] rfl 123 rfl ?_
  refine x_goto hh dX8_partyOf_123 77 rfl ?_
  refine x_sub (lv' := [(0, .ref (X.2.1 59)), (1, .int v1), (2, .int v2), (4, .int v4), (5, .int v5), (6, .int v6), (7, .int (v7 + 1))]) [1, 2, 3, 4, 5, 6, 0] rfl ?_
  exact hk77 v1 v2 v4 v5 v6 (v7 + 1) st18 hf
def F_X8_partyOf_188 (k56 : Int32 → Int32 → Int32 → Int32 → Int32 → St → Option (Int32 × St)) (v1 : Int32) (v2 : Int32) (v4 : Int32) (v5 : Int32) (v6 : Int32) (st : St) : Option (Int32 × St) := k56 v1 v2 v4 v5 (v6 + 1) st
set_option maxRecDepth 100000 in
set_option maxHeartbeats 4000000 in
theorem Z_X8_partyOf_188 {l : Launch} {X : Cx} (hX : Ok X) {p : Program} {e : Env} {s : State} {m : MethodId} {args : Array Value} {below : List Frame} {meth : Method} {c : Code} {rr : Int32} {st' : St} (hh : Hy X p s m args meth c cX8_partyOf 9 RX8) (hr : meth.sig.returnType = some .int) {k56 : Int32 → Int32 → Int32 → Int32 → Int32 → St → Option (Int32 × St)} (hk56 : ∀ (v1 : Int32) (v2 : Int32) (v4 : Int32) (v5 : Int32) (v6 : Int32) (st : St), k56 v1 v2 v4 v5 v6 st = some (rr, st') → Z X p l e (rmk 3) s m args below meth c 9 (MQ below (Qf X (some (.int rr)) st') args s 0 0 (cA X)) 56 [(0, .ref (X.2.1 59)), (1, .int v1), (2, .int v2), (4, .int v4), (5, .int v5), (6, .int v6)] [] st) (v1 : Int32) (v2 : Int32) (v4 : Int32) (v5 : Int32) (v6 : Int32) (st : St) (hf : F_X8_partyOf_188 k56 v1 v2 v4 v5 v6 st = some (rr, st')) : Z X p l e (rmk 3) s m args below meth c 9 (MQ below (Qf X (some (.int rr)) st') args s 0 0 (cA X)) 188 [(0, .ref (X.2.1 59)), (1, .int v1), (2, .int v2), (4, .int v4), (5, .int v5), (6, .int v6)] [] st := by
  unfold F_X8_partyOf_188 at hf
  refine x_iinc hh dX8_partyOf_188 5 rfl (v6 + 1) rfl (by decide) [(6, .int (v6 + 1)), (0, .ref (X.2.1 59)), (1, .int v1), (2, .int v2), (4, .int v4), (5, .int v5)] rfl 191 rfl ?_
  refine x_goto hh dX8_partyOf_191 56 rfl ?_
  refine x_sub (lv' := [(0, .ref (X.2.1 59)), (1, .int v1), (2, .int v2), (4, .int v4), (5, .int v5), (6, .int (v6 + 1))]) [1, 2, 3, 4, 5, 0] rfl ?_
  exact hk56 v1 v2 v4 v5 (v6 + 1) st hf
def F_X8_partyOf_161 (k56 : Int32 → Int32 → Int32 → Int32 → Int32 → St → Option (Int32 × St)) : Nat → Int32 → Int32 → Int32 → Int32 → Int32 → Int32 → St → Option (Int32 × St)
  | 0, _, _, _, _, _, _, _ => none
  | n + 1, v1, v2, v4, v5, v6, v8, st => if (6 : Int32) ≤ v8 then F_X8_partyOf_188 k56 v1 v2 v4 v5 v6 st else gi v8 6 (gi v8 6 (bs (sV st 83 v8.toNatClampNeg (st.1 82 v8.toNatClampNeg)) (fun st23 => F_X8_partyOf_161 k56 n v1 v2 v4 v5 v6 (v8 + 1) st23)))
set_option maxRecDepth 100000 in
set_option maxHeartbeats 4000000 in
theorem Z_X8_partyOf_161 {l : Launch} {X : Cx} (hX : Ok X) {p : Program} {e : Env} {s : State} {m : MethodId} {args : Array Value} {below : List Frame} {meth : Method} {c : Code} {rr : Int32} {st' : St} (hh : Hy X p s m args meth c cX8_partyOf 9 RX8) (hr : meth.sig.returnType = some .int) {k56 : Int32 → Int32 → Int32 → Int32 → Int32 → St → Option (Int32 × St)} (hk56 : ∀ (v1 : Int32) (v2 : Int32) (v4 : Int32) (v5 : Int32) (v6 : Int32) (st : St), k56 v1 v2 v4 v5 v6 st = some (rr, st') → Z X p l e (rmk 3) s m args below meth c 9 (MQ below (Qf X (some (.int rr)) st') args s 0 0 (cA X)) 56 [(0, .ref (X.2.1 59)), (1, .int v1), (2, .int v2), (4, .int v4), (5, .int v5), (6, .int v6)] [] st) : ∀ (n : Nat) (v1 : Int32) (v2 : Int32) (v4 : Int32) (v5 : Int32) (v6 : Int32) (v8 : Int32) (st : St), F_X8_partyOf_161 k56 n v1 v2 v4 v5 v6 v8 st = some (rr, st') → Z X p l e (rmk 3) s m args below meth c 9 (MQ below (Qf X (some (.int rr)) st') args s 0 0 (cA X)) 161 [(0, .ref (X.2.1 59)), (1, .int v1), (2, .int v2), (4, .int v4), (5, .int v5), (6, .int v6), (8, .int v8)] [] st := by
  intro n
  induction n with
  | zero =>
    intro v1 v2 v4 v5 v6 v8 st hf
    cases hf
  | succ n ih =>
    intro v1 v2 v4 v5 v6 v8 st hf
    rw [F_X8_partyOf_161] at hf
    refine x_iload hh dX8_partyOf_161 6 rfl 163 rfl ?_
    refine x_bipush hh dX8_partyOf_163 6 rfl 165 rfl ?_
    refine x_icmp_ge hh dX8_partyOf_165 188 rfl 168 rfl (fun hc20 => ?_) (fun hc20 => ?_)
    · have hf := t_pos hc20 hf
      refine x_sub (lv' := [(0, .ref (X.2.1 59)), (1, .int v1), (2, .int v2), (4, .int v4), (5, .int v5), (6, .int v6)]) [0, 1, 2, 3, 4, 5] rfl ?_
      exact Z_X8_partyOf_188 hX hh hr hk56  v1 v2 v4 v5 v6 st hf
    · have hf := t_neg hc20 hf
      refine x_aload_n hh dX8_partyOf_168 rfl 0 rfl 169 rfl ?_
      refine x_getR hh cl_8 dX8_partyOf_169 sh_59 38 83 rfl (Nat.le_of_ble_eq_true rfl) wd_838 172 rfl ?_
      refine x_iload hh dX8_partyOf_172 6 rfl 174 rfl ?_
      refine x_aload_n hh dX8_partyOf_174 rfl 0 rfl 175 rfl ?_
      refine x_getR hh cl_8 dX8_partyOf_175 sh_59 37 82 rfl (Nat.le_of_ble_eq_true rfl) wd_837 178 rfl ?_
      refine x_iload hh dX8_partyOf_178 6 rfl 180 rfl ?_
      obtain ⟨hi21, hf⟩ := gi_some hf
      refine x_iaload hh dX8_partyOf_180 sh_82 hi21 181 rfl ?_
      obtain ⟨hi22, hf⟩ := gi_some hf
      obtain ⟨st23, est23, hf⟩ := bs_some hf
      refine x_iastore hh dX8_partyOf_181 sh_83 hi22 182 rfl st23 est23 ?_
      refine x_iinc hh dX8_partyOf_182 6 rfl (v8 + 1) rfl (by decide) [(8, .int (v8 + 1)), (0, .ref (X.2.1 59)), (1, .int v1), (2, .int v2), (4, .int v4), (5, .int v5), (6, .int v6)] rfl 185 rfl ?_
      refine x_goto hh dX8_partyOf_185 161 rfl ?_
      refine x_sub (lv' := [(0, .ref (X.2.1 59)), (1, .int v1), (2, .int v2), (4, .int v4), (5, .int v5), (6, .int v6), (8, .int (v8 + 1))]) [1, 2, 3, 4, 5, 6, 0] rfl ?_
      exact ih v1 v2 v4 v5 v6 (v8 + 1) st23 hf
def F_X8_partyOf_145 (k56 : Int32 → Int32 → Int32 → Int32 → Int32 → St → Option (Int32 × St)) (v1 : Int32) (v2 : Int32) (v4 : Int32) (v5 : Int32) (v6 : Int32) (t0 : Int32) (st : St) : Option (Int32 × St) := if v5 ≤ t0 then F_X8_partyOf_188 k56 v1 v2 v4 v5 v6 st else F_X8_partyOf_161 k56 fN v1 v2 v4 t0 v6 0 st
set_option maxRecDepth 100000 in
set_option maxHeartbeats 4000000 in
theorem Z_X8_partyOf_145 {l : Launch} {X : Cx} (hX : Ok X) {p : Program} {e : Env} {s : State} {m : MethodId} {args : Array Value} {below : List Frame} {meth : Method} {c : Code} {rr : Int32} {st' : St} (hh : Hy X p s m args meth c cX8_partyOf 9 RX8) (hr : meth.sig.returnType = some .int) {k56 : Int32 → Int32 → Int32 → Int32 → Int32 → St → Option (Int32 × St)} (hk56 : ∀ (v1 : Int32) (v2 : Int32) (v4 : Int32) (v5 : Int32) (v6 : Int32) (st : St), k56 v1 v2 v4 v5 v6 st = some (rr, st') → Z X p l e (rmk 3) s m args below meth c 9 (MQ below (Qf X (some (.int rr)) st') args s 0 0 (cA X)) 56 [(0, .ref (X.2.1 59)), (1, .int v1), (2, .int v2), (4, .int v4), (5, .int v5), (6, .int v6)] [] st) (v1 : Int32) (v2 : Int32) (v4 : Int32) (v5 : Int32) (v6 : Int32) (t0 : Int32) (st : St) (hf : F_X8_partyOf_145 k56 v1 v2 v4 v5 v6 t0 st = some (rr, st')) : Z X p l e (rmk 3) s m args below meth c 9 (MQ below (Qf X (some (.int rr)) st') args s 0 0 (cA X)) 145 [(0, .ref (X.2.1 59)), (1, .int v1), (2, .int v2), (4, .int v4), (5, .int v5), (6, .int v6)] [.int t0] st := by
  unfold F_X8_partyOf_145 at hf
  refine x_istore hh dX8_partyOf_145 (by decide) [(7, .int t0), (0, .ref (X.2.1 59)), (1, .int v1), (2, .int v2), (4, .int v4), (5, .int v5), (6, .int v6)] rfl 147 rfl ?_
  refine x_iload hh dX8_partyOf_147 0 rfl 149 rfl ?_
  refine x_iload hh dX8_partyOf_149 5 rfl 151 rfl ?_
  refine x_icmp_ge hh dX8_partyOf_151 188 rfl 154 rfl (fun hc19 => ?_) (fun hc19 => ?_)
  · have hf := t_pos hc19 hf
    refine x_sub (lv' := [(0, .ref (X.2.1 59)), (1, .int v1), (2, .int v2), (4, .int v4), (5, .int v5), (6, .int v6)]) [1, 2, 3, 4, 5, 6] rfl ?_
    exact Z_X8_partyOf_188 hX hh hr hk56  v1 v2 v4 v5 v6 st hf
  · have hf := t_neg hc19 hf
    refine x_iload hh dX8_partyOf_154 0 rfl 156 rfl ?_
    refine x_istore hh dX8_partyOf_156 (by decide) [(5, .int t0), (7, .int t0), (0, .ref (X.2.1 59)), (1, .int v1), (2, .int v2), (4, .int v4), (6, .int v6)] rfl 158 rfl ?_
    refine x_iconst hh dX8_partyOf_158 0 rfl 159 rfl ?_
    refine x_istore hh dX8_partyOf_159 (by decide) [(8, .int 0), (5, .int t0), (7, .int t0), (0, .ref (X.2.1 59)), (1, .int v1), (2, .int v2), (4, .int v4), (6, .int v6)] rfl 161 rfl ?_
    refine x_sub (lv' := [(0, .ref (X.2.1 59)), (1, .int v1), (2, .int v2), (4, .int v4), (5, .int t0), (6, .int v6), (8, .int 0)]) [3, 4, 5, 6, 1, 7, 0] rfl ?_
    exact Z_X8_partyOf_161 hX hh hr hk56 fN v1 v2 v4 t0 v6 0 st hf
def F_X8_partyOf_77 (k56 : Int32 → Int32 → Int32 → Int32 → Int32 → St → Option (Int32 × St)) : Nat → Int32 → Int32 → Int32 → Int32 → Int32 → Int32 → St → Option (Int32 × St)
  | 0, _, _, _, _, _, _, _ => none
  | n + 1, v1, v2, v4, v5, v6, v7, st => if (st.1 59 3) ≤ v7 then (F_X8_bowAll v2 st).bind (fun q10 => if q10.1 = 0 then (F_X8_bowsOf v2 q10.2).bind (fun q12 => F_X8_partyOf_145 k56 v1 v2 v4 v5 v6 q12.1 q12.2) else F_X8_partyOf_145 k56 v1 v2 v4 v5 v6 1000000 q10.2) else (F_X8_has v2 v7 st).bind (fun q13 => if q13.1 = 0 then F_X8_partyOf_119 k56 (F_X8_partyOf_77 k56 n) v1 v2 v4 v5 v6 v7 0 v7 q13.2 else gi v7 6 ((F_X8_tallAt v7 v1 (q13.2.1 82 v7.toNatClampNeg) q13.2).bind (fun q16 => F_X8_partyOf_119 k56 (F_X8_partyOf_77 k56 n) v1 v2 v4 v5 v6 v7 q16.1 v7 q16.2)))
set_option maxRecDepth 100000 in
set_option maxHeartbeats 4000000 in
theorem Z_X8_partyOf_77 {l : Launch} {X : Cx} (hX : Ok X) {p : Program} {e : Env} {s : State} {m : MethodId} {args : Array Value} {below : List Frame} {meth : Method} {c : Code} {rr : Int32} {st' : St} (hh : Hy X p s m args meth c cX8_partyOf 9 RX8) (hr : meth.sig.returnType = some .int) {k56 : Int32 → Int32 → Int32 → Int32 → Int32 → St → Option (Int32 × St)} (hk56 : ∀ (v1 : Int32) (v2 : Int32) (v4 : Int32) (v5 : Int32) (v6 : Int32) (st : St), k56 v1 v2 v4 v5 v6 st = some (rr, st') → Z X p l e (rmk 3) s m args below meth c 9 (MQ below (Qf X (some (.int rr)) st') args s 0 0 (cA X)) 56 [(0, .ref (X.2.1 59)), (1, .int v1), (2, .int v2), (4, .int v4), (5, .int v5), (6, .int v6)] [] st) : ∀ (n : Nat) (v1 : Int32) (v2 : Int32) (v4 : Int32) (v5 : Int32) (v6 : Int32) (v7 : Int32) (st : St), F_X8_partyOf_77 k56 n v1 v2 v4 v5 v6 v7 st = some (rr, st') → Z X p l e (rmk 3) s m args below meth c 9 (MQ below (Qf X (some (.int rr)) st') args s 0 0 (cA X)) 77 [(0, .ref (X.2.1 59)), (1, .int v1), (2, .int v2), (4, .int v4), (5, .int v5), (6, .int v6), (7, .int v7)] [] st := by
  intro n
  induction n with
  | zero =>
    intro v1 v2 v4 v5 v6 v7 st hf
    cases hf
  | succ n ih =>
    intro v1 v2 v4 v5 v6 v7 st hf
    rw [F_X8_partyOf_77] at hf
    refine x_iload hh dX8_partyOf_77 6 rfl 79 rfl ?_
    refine x_aload_n hh dX8_partyOf_79 rfl 0 rfl 80 rfl ?_
    refine x_getI hh cl_8 dX8_partyOf_80 sh_59 3 rfl (Nat.le_of_ble_eq_true rfl) wd_803 83 rfl ?_
    refine x_icmp_ge hh dX8_partyOf_83 126 rfl 86 rfl (fun hc9 => ?_) (fun hc9 => ?_)
    · have hf := t_pos hc9 hf
      refine x_aload_n hh dX8_partyOf_126 rfl 0 rfl 127 rfl ?_
      refine x_iload_n hh dX8_partyOf_127 rfl 2 rfl 128 rfl ?_
      obtain ⟨q10, hq10, hf⟩ := b_some hf
      refine x_callV (rest := []) hh mi_X8_bowAll [.int v2] dX8_partyOf_128 sh_59 wd_1053 (C_X8_bowAll l hX  hq10) rfl rfl ⟨Nat.le_of_ble_eq_true rfl, Nat.le_of_ble_eq_true rfl⟩ (Nat.le_of_ble_eq_true rfl) 131 rfl [.int q10.1] rfl ?_
      refine x_if_eq hh dX8_partyOf_131 140 rfl 134 rfl (fun hc11 => ?_) (fun hc11 => ?_)
      · have hf := t_pos hc11 hf
        refine x_aload_n hh dX8_partyOf_140 rfl 0 rfl 141 rfl ?_
        refine x_iload_n hh dX8_partyOf_141 rfl 2 rfl 142 rfl ?_
        obtain ⟨q12, hq12, hf⟩ := b_some hf
        refine x_callV (rest := []) hh mi_X8_bowsOf [.int v2] dX8_partyOf_142 sh_59 wd_1094 (C_X8_bowsOf l hX  hq12) rfl rfl ⟨Nat.le_of_ble_eq_true rfl, Nat.le_of_ble_eq_true rfl⟩ (Nat.le_of_ble_eq_true rfl) 145 rfl [.int q12.1] rfl ?_
        refine x_sub (lv' := [(0, .ref (X.2.1 59)), (1, .int v1), (2, .int v2), (4, .int v4), (5, .int v5), (6, .int v6)]) [0, 1, 2, 3, 4, 5] rfl ?_
        exact Z_X8_partyOf_145 hX hh hr hk56  v1 v2 v4 v5 v6 q12.1 q12.2 hf
      · have hf := t_neg hc11 hf
        refine x_ldc_w hh dX8_partyOf_134 wd_1056 137 rfl ?_
        refine x_goto hh dX8_partyOf_137 145 rfl ?_
        refine x_sub (lv' := [(0, .ref (X.2.1 59)), (1, .int v1), (2, .int v2), (4, .int v4), (5, .int v5), (6, .int v6)]) [0, 1, 2, 3, 4, 5] rfl ?_
        exact Z_X8_partyOf_145 hX hh hr hk56  v1 v2 v4 v5 v6 1000000 q10.2 hf
    · have hf := t_neg hc9 hf
      refine x_aload_n hh dX8_partyOf_86 rfl 0 rfl 87 rfl ?_
      refine x_getR hh cl_8 dX8_partyOf_87 sh_59 35 80 rfl (Nat.le_of_ble_eq_true rfl) wd_835 90 rfl ?_
      refine x_iload hh dX8_partyOf_90 6 rfl 92 rfl ?_
      refine x_iload_n hh dX8_partyOf_92 rfl 2 rfl 93 rfl ?_
      refine x_iload hh dX8_partyOf_93 6 rfl 95 rfl ?_
      obtain ⟨q13, hq13, hf⟩ := b_some hf
      refine x_callS (rest := [.int v7, .ref (X.2.1 80)]) hh ms_X8_has [.int v2, .int v7] dX8_partyOf_95 wd_1040 (C_X8_has l hX  hq13) rfl rfl ⟨Nat.le_of_ble_eq_true rfl, Nat.le_of_ble_eq_true rfl⟩ (Nat.le_of_ble_eq_true rfl) 98 rfl [.int q13.1, .int v7, .ref (X.2.1 80)] rfl ?_
      refine x_if_eq hh dX8_partyOf_98 118 rfl 101 rfl (fun hc14 => ?_) (fun hc14 => ?_)
      · have hf := t_pos hc14 hf
        refine x_iconst hh dX8_partyOf_118 0 rfl 119 rfl ?_
        exact Z_X8_partyOf_119 hX hh hr hk56 ih  v1 v2 v4 v5 v6 v7 0 v7 q13.2 hf
      · have hf := t_neg hc14 hf
        refine x_aload_n hh dX8_partyOf_101 rfl 0 rfl 102 rfl ?_
        refine x_iload hh dX8_partyOf_102 6 rfl 104 rfl ?_
        refine x_iload_n hh dX8_partyOf_104 rfl 1 rfl 105 rfl ?_
        refine x_aload_n hh dX8_partyOf_105 rfl 0 rfl 106 rfl ?_
        refine x_getR hh cl_8 dX8_partyOf_106 sh_59 37 82 rfl (Nat.le_of_ble_eq_true rfl) wd_837 109 rfl ?_
        refine x_iload hh dX8_partyOf_109 6 rfl 111 rfl ?_
        obtain ⟨hi15, hf⟩ := gi_some hf
        refine x_iaload hh dX8_partyOf_111 sh_82 hi15 112 rfl ?_
        obtain ⟨q16, hq16, hf⟩ := b_some hf
        refine x_callV (rest := [.int v7, .ref (X.2.1 80)]) hh mi_X8_tallAt [.int v7, .int v1, .int (q13.2.1 82 v7.toNatClampNeg)] dX8_partyOf_112 sh_59 wd_994 (C_X8_tallAt l hX  hq16) rfl rfl ⟨Nat.le_of_ble_eq_true rfl, Nat.le_of_ble_eq_true rfl⟩ (Nat.le_of_ble_eq_true rfl) 115 rfl [.int q16.1, .int v7, .ref (X.2.1 80)] rfl ?_
        refine x_goto hh dX8_partyOf_115 119 rfl ?_
        exact Z_X8_partyOf_119 hX hh hr hk56 ih  v1 v2 v4 v5 v6 v7 q16.1 v7 q16.2 hf
def F_X8_partyOf_56 : Nat → Int32 → Int32 → Int32 → Int32 → Int32 → St → Option (Int32 × St)
  | 0, _, _, _, _, _, _ => none
  | n + 1, v1, v2, v4, v5, v6, st => if v4 ≤ v6 then some (v5, st) else (F_X8_isParty v1 v2 v6 st).bind (fun q7 => if q7.1 = 0 then F_X8_partyOf_188 (F_X8_partyOf_56 n) v1 v2 v4 v5 v6 q7.2 else F_X8_partyOf_77 (F_X8_partyOf_56 n) fN v1 v2 v4 v5 v6 0 q7.2)
set_option maxRecDepth 100000 in
set_option maxHeartbeats 4000000 in
theorem Z_X8_partyOf_56 {l : Launch} {X : Cx} (hX : Ok X) {p : Program} {e : Env} {s : State} {m : MethodId} {args : Array Value} {below : List Frame} {meth : Method} {c : Code} {rr : Int32} {st' : St} (hh : Hy X p s m args meth c cX8_partyOf 9 RX8) (hr : meth.sig.returnType = some .int) : ∀ (n : Nat) (v1 : Int32) (v2 : Int32) (v4 : Int32) (v5 : Int32) (v6 : Int32) (st : St), F_X8_partyOf_56 n v1 v2 v4 v5 v6 st = some (rr, st') → Z X p l e (rmk 3) s m args below meth c 9 (MQ below (Qf X (some (.int rr)) st') args s 0 0 (cA X)) 56 [(0, .ref (X.2.1 59)), (1, .int v1), (2, .int v2), (4, .int v4), (5, .int v5), (6, .int v6)] [] st := by
  intro n
  induction n with
  | zero =>
    intro v1 v2 v4 v5 v6 st hf
    cases hf
  | succ n ih =>
    intro v1 v2 v4 v5 v6 st hf
    rw [F_X8_partyOf_56] at hf
    refine x_iload hh dX8_partyOf_56 5 rfl 58 rfl ?_
    refine x_iload hh dX8_partyOf_58 3 rfl 60 rfl ?_
    refine x_icmp_ge hh dX8_partyOf_60 194 rfl 63 rfl (fun hc6 => ?_) (fun hc6 => ?_)
    · have hf := t_pos hc6 hf
      refine x_iload hh dX8_partyOf_194 4 rfl 196 rfl ?_
      obtain ⟨rfl, rfl⟩ := ret2 hf
      exact x_iret hh hr dX8_partyOf_196
    · have hf := t_neg hc6 hf
      refine x_aload_n hh dX8_partyOf_63 rfl 0 rfl 64 rfl ?_
      refine x_iload_n hh dX8_partyOf_64 rfl 1 rfl 65 rfl ?_
      refine x_iload_n hh dX8_partyOf_65 rfl 2 rfl 66 rfl ?_
      refine x_iload hh dX8_partyOf_66 5 rfl 68 rfl ?_
      obtain ⟨q7, hq7, hf⟩ := b_some hf
      refine x_callV (rest := []) hh mi_X8_isParty [.int v1, .int v2, .int v6] dX8_partyOf_68 sh_59 wd_1091 (C_X8_isParty l hX  hq7) rfl rfl ⟨Nat.le_of_ble_eq_true rfl, Nat.le_of_ble_eq_true rfl⟩ (Nat.le_of_ble_eq_true rfl) 71 rfl [.int q7.1] rfl ?_
      refine x_if_eq hh dX8_partyOf_71 188 rfl 74 rfl (fun hc8 => ?_) (fun hc8 => ?_)
      · have hf := t_pos hc8 hf
        exact Z_X8_partyOf_188 hX hh hr ih  v1 v2 v4 v5 v6 q7.2 hf
      · have hf := t_neg hc8 hf
        refine x_iconst hh dX8_partyOf_74 0 rfl 75 rfl ?_
        refine x_istore hh dX8_partyOf_75 (by decide) [(7, .int 0), (0, .ref (X.2.1 59)), (1, .int v1), (2, .int v2), (4, .int v4), (5, .int v5), (6, .int v6)] rfl 77 rfl ?_
        refine x_sub (lv' := [(0, .ref (X.2.1 59)), (1, .int v1), (2, .int v2), (4, .int v4), (5, .int v5), (6, .int v6), (7, .int 0)]) [1, 2, 3, 4, 5, 6, 0] rfl ?_
        exact Z_X8_partyOf_77 hX hh hr ih fN v1 v2 v4 v5 v6 0 q7.2 hf
def F_X8_partyOf_25 : Nat → Int32 → Int32 → Int32 → Int32 → Int32 → St → Option (Int32 × St)
  | 0, _, _, _, _, _, _ => none
  | n + 1, v1, v2, v3, v4, v5, st => if v3 ≤ v5 then F_X8_partyOf_56 fN v1 v2 v4 1000000 0 st else gi v1 3 (F_X8_partyOf_25 n v1 v2 v3 (v4 * (st.1 60 v1.toNatClampNeg)) (v5 + 1) st)
set_option maxRecDepth 100000 in
set_option maxHeartbeats 4000000 in
theorem Z_X8_partyOf_25 {l : Launch} {X : Cx} (hX : Ok X) {p : Program} {e : Env} {s : State} {m : MethodId} {args : Array Value} {below : List Frame} {meth : Method} {c : Code} {rr : Int32} {st' : St} (hh : Hy X p s m args meth c cX8_partyOf 9 RX8) (hr : meth.sig.returnType = some .int) : ∀ (n : Nat) (v1 : Int32) (v2 : Int32) (v3 : Int32) (v4 : Int32) (v5 : Int32) (st : St), F_X8_partyOf_25 n v1 v2 v3 v4 v5 st = some (rr, st') → Z X p l e (rmk 3) s m args below meth c 9 (MQ below (Qf X (some (.int rr)) st') args s 0 0 (cA X)) 25 [(0, .ref (X.2.1 59)), (1, .int v1), (2, .int v2), (3, .int v3), (4, .int v4), (5, .int v5)] [] st := by
  intro n
  induction n with
  | zero =>
    intro v1 v2 v3 v4 v5 st hf
    cases hf
  | succ n ih =>
    intro v1 v2 v3 v4 v5 st hf
    rw [F_X8_partyOf_25] at hf
    refine x_iload hh dX8_partyOf_25 5 rfl 27 rfl ?_
    refine x_iload_n hh dX8_partyOf_27 rfl 3 rfl 28 rfl ?_
    refine x_icmp_ge hh dX8_partyOf_28 48 rfl 31 rfl (fun hc4 => ?_) (fun hc4 => ?_)
    · have hf := t_pos hc4 hf
      refine x_ldc_w hh dX8_partyOf_48 wd_1056 51 rfl ?_
      refine x_istore hh dX8_partyOf_51 (by decide) [(5, .int 1000000), (0, .ref (X.2.1 59)), (1, .int v1), (2, .int v2), (3, .int v3), (4, .int v4)] rfl 53 rfl ?_
      refine x_iconst hh dX8_partyOf_53 0 rfl 54 rfl ?_
      refine x_istore hh dX8_partyOf_54 (by decide) [(6, .int 0), (5, .int 1000000), (0, .ref (X.2.1 59)), (1, .int v1), (2, .int v2), (3, .int v3), (4, .int v4)] rfl 56 rfl ?_
      refine x_sub (lv' := [(0, .ref (X.2.1 59)), (1, .int v1), (2, .int v2), (4, .int v4), (5, .int 1000000), (6, .int 0)]) [2, 3, 4, 6, 1, 0] rfl ?_
      exact Z_X8_partyOf_56 hX hh hr fN v1 v2 v4 1000000 0 st hf
    · have hf := t_neg hc4 hf
      refine x_iload hh dX8_partyOf_31 4 rfl 33 rfl ?_
      refine x_aload_n hh dX8_partyOf_33 rfl 0 rfl 34 rfl ?_
      refine x_getR hh cl_8 dX8_partyOf_34 sh_59 1 60 rfl (Nat.le_of_ble_eq_true rfl) wd_801 37 rfl ?_
      refine x_iload_n hh dX8_partyOf_37 rfl 1 rfl 38 rfl ?_
      obtain ⟨hi5, hf⟩ := gi_some hf
      refine x_iaload hh dX8_partyOf_38 sh_60 hi5 39 rfl ?_
      refine x_imul hh dX8_partyOf_39 40 rfl ?_
      refine x_istore hh dX8_partyOf_40 (by decide) [(4, .int (v4 * (st.1 60 v1.toNatClampNeg))), (0, .ref (X.2.1 59)), (1, .int v1), (2, .int v2), (3, .int v3), (5, .int v5)] rfl 42 rfl ?_
      refine x_iinc hh dX8_partyOf_42 5 rfl (v5 + 1) rfl (by decide) [(5, .int (v5 + 1)), (4, .int (v4 * (st.1 60 v1.toNatClampNeg))), (0, .ref (X.2.1 59)), (1, .int v1), (2, .int v2), (3, .int v3)] rfl 45 rfl ?_
      refine x_goto hh dX8_partyOf_45 25 rfl ?_
      refine x_sub (lv' := [(0, .ref (X.2.1 59)), (1, .int v1), (2, .int v2), (3, .int v3), (4, .int (v4 * (st.1 60 v1.toNatClampNeg))), (5, .int (v5 + 1))]) [2, 3, 4, 5, 1, 0] rfl ?_
      exact ih v1 v2 v3 (v4 * (st.1 60 v1.toNatClampNeg)) (v5 + 1) st hf
def F_X8_partyOf_0 (v1 : Int32) (v2 : Int32) (st : St) : Option (Int32 × St) := (F_X8_bits v2 st).bind (fun q1 => gi v1 3 (if q1.1 ≤ (q1.2.1 60 v1.toNatClampNeg) then F_X8_partyOf_25 fN v1 v2 q1.1 1 0 q1.2 else some (1000000, q1.2)))
set_option maxRecDepth 100000 in
set_option maxHeartbeats 4000000 in
theorem Z_X8_partyOf_0 {l : Launch} {X : Cx} (hX : Ok X) {p : Program} {e : Env} {s : State} {m : MethodId} {args : Array Value} {below : List Frame} {meth : Method} {c : Code} {rr : Int32} {st' : St} (hh : Hy X p s m args meth c cX8_partyOf 9 RX8) (hr : meth.sig.returnType = some .int) (v1 : Int32) (v2 : Int32) (st : St) (hf : F_X8_partyOf_0 v1 v2 st = some (rr, st')) : Z X p l e (rmk 3) s m args below meth c 9 (MQ below (Qf X (some (.int rr)) st') args s 0 0 (cA X)) 0 [(0, .ref (X.2.1 59)), (1, .int v1), (2, .int v2)] [] st := by
  unfold F_X8_partyOf_0 at hf
  refine x_iload_n hh dX8_partyOf_0 rfl 2 rfl 1 rfl ?_
  obtain ⟨q1, hq1, hf⟩ := b_some hf
  refine x_callS (rest := []) hh ms_X8_bits [.int v2] dX8_partyOf_1 wd_1088 (C_X8_bits l hX  hq1) rfl rfl ⟨Nat.le_of_ble_eq_true rfl, Nat.le_of_ble_eq_true rfl⟩ (Nat.le_of_ble_eq_true rfl) 4 rfl [.int q1.1] rfl ?_
  refine x_istore_n hh dX8_partyOf_4 rfl (by decide) [(3, .int q1.1), (0, .ref (X.2.1 59)), (1, .int v1), (2, .int v2)] rfl 5 rfl ?_
  refine x_iload_n hh dX8_partyOf_5 rfl 0 rfl 6 rfl ?_
  refine x_aload_n hh dX8_partyOf_6 rfl 1 rfl 7 rfl ?_
  refine x_getR hh cl_8 dX8_partyOf_7 sh_59 1 60 rfl (Nat.le_of_ble_eq_true rfl) wd_801 10 rfl ?_
  refine x_iload_n hh dX8_partyOf_10 rfl 2 rfl 11 rfl ?_
  obtain ⟨hi2, hf⟩ := gi_some hf
  refine x_iaload hh dX8_partyOf_11 sh_60 hi2 12 rfl ?_
  refine x_icmp_le hh dX8_partyOf_12 19 rfl 15 rfl (fun hc3 => ?_) (fun hc3 => ?_)
  · have hf := t_pos hc3 hf
    refine x_iconst hh dX8_partyOf_19 1 rfl 20 rfl ?_
    refine x_istore hh dX8_partyOf_20 (by decide) [(4, .int 1), (3, .int q1.1), (0, .ref (X.2.1 59)), (1, .int v1), (2, .int v2)] rfl 22 rfl ?_
    refine x_iconst hh dX8_partyOf_22 0 rfl 23 rfl ?_
    refine x_istore hh dX8_partyOf_23 (by decide) [(5, .int 0), (4, .int 1), (3, .int q1.1), (0, .ref (X.2.1 59)), (1, .int v1), (2, .int v2)] rfl 25 rfl ?_
    refine x_sub (lv' := [(0, .ref (X.2.1 59)), (1, .int v1), (2, .int v2), (3, .int q1.1), (4, .int 1), (5, .int 0)]) [3, 4, 5, 2, 1, 0] rfl ?_
    exact Z_X8_partyOf_25 hX hh hr fN v1 v2 q1.1 1 0 q1.2 hf
  · have hf := t_neg hc3 hf
    refine x_ldc_w hh dX8_partyOf_15 wd_1056 18 rfl ?_
    obtain ⟨rfl, rfl⟩ := ret2 hf
    exact x_iret hh hr dX8_partyOf_18
def F_X8_partyOf (v1 : Int32) (v2 : Int32) (st : St) : Option (Int32 × St) := F_X8_partyOf_0  v1 v2 st
set_option maxRecDepth 100000 in
theorem C_X8_partyOf (l : Launch) {X : Cx} (hX : Ok X) {v1 : Int32} {v2 : Int32} {st : St} {q : Int32 × St} (hf : F_X8_partyOf v1 v2 st = some q) : Ct l X 3 yX8_partyOf (.code yX8_partyOf cX8_partyOf 9 (some .int)) [.ref (X.2.1 59), .int v1, .int v2] st (some (.int q.1)) q.2 := by
  refine Ct.of hX (by decide) (Nat.le_of_ble_eq_true rfl) ?_
  intro p e s m args below meth c hh hr
  exact Z_X8_partyOf_0 hX hh hr v1 v2 st hf

def F_X8_party_29 (st : St) : Option (Int32 × St) := some ((-1000000001), st)
set_option maxRecDepth 100000 in
set_option maxHeartbeats 4000000 in
theorem Z_X8_party_29 {l : Launch} {X : Cx} (hX : Ok X) {p : Program} {e : Env} {s : State} {m : MethodId} {args : Array Value} {below : List Frame} {meth : Method} {c : Code} {rr : Int32} {st' : St} (hh : Hy X p s m args meth c cX8_party 5 RX8) (hr : meth.sig.returnType = some .int) (st : St) (hf : F_X8_party_29 st = some (rr, st')) : Z X p l e (rmk 4) s m args below meth c 5 (MQ below (Qf X (some (.int rr)) st') args s 0 0 (cA X)) 29 [(0, .ref (X.2.1 59))] [] st := by
  unfold F_X8_party_29 at hf
  refine x_ldc hh dX8_party_29 wd_980 31 rfl ?_
  obtain ⟨rfl, rfl⟩ := ret2 hf
  exact x_iret hh hr dX8_party_31
def F_X8_party_67 (t0 : Int32) (st : St) : Option (Int32 × St) := some (t0, st)
set_option maxRecDepth 100000 in
set_option maxHeartbeats 4000000 in
theorem Z_X8_party_67 {l : Launch} {X : Cx} (hX : Ok X) {p : Program} {e : Env} {s : State} {m : MethodId} {args : Array Value} {below : List Frame} {meth : Method} {c : Code} {rr : Int32} {st' : St} (hh : Hy X p s m args meth c cX8_party 5 RX8) (hr : meth.sig.returnType = some .int) (t0 : Int32) (st : St) (hf : F_X8_party_67 t0 st = some (rr, st')) : Z X p l e (rmk 4) s m args below meth c 5 (MQ below (Qf X (some (.int rr)) st') args s 0 0 (cA X)) 67 [(0, .ref (X.2.1 59))] [.int t0] st := by
  unfold F_X8_party_67 at hf
  obtain ⟨rfl, rfl⟩ := ret2 hf
  exact x_iret hh hr dX8_party_67
def F_X8_party_53 (v4 : Int32) (st : St) : Option (Int32 × St) := if v4 < 1000000 then F_X8_party_67 v4 st else F_X8_party_67 ((-1)) st
set_option maxRecDepth 100000 in
set_option maxHeartbeats 4000000 in
theorem Z_X8_party_53 {l : Launch} {X : Cx} (hX : Ok X) {p : Program} {e : Env} {s : State} {m : MethodId} {args : Array Value} {below : List Frame} {meth : Method} {c : Code} {rr : Int32} {st' : St} (hh : Hy X p s m args meth c cX8_party 5 RX8) (hr : meth.sig.returnType = some .int) (v4 : Int32) (st : St) (hf : F_X8_party_53 v4 st = some (rr, st')) : Z X p l e (rmk 4) s m args below meth c 5 (MQ below (Qf X (some (.int rr)) st') args s 0 0 (cA X)) 53 [(0, .ref (X.2.1 59)), (4, .int v4)] [] st := by
  unfold F_X8_party_53 at hf
  refine x_iload hh dX8_party_53 1 rfl 55 rfl ?_
  refine x_ldc_w hh dX8_party_55 wd_1056 58 rfl ?_
  refine x_icmp_lt hh dX8_party_58 65 rfl 61 rfl (fun hc14 => ?_) (fun hc14 => ?_)
  · have hf := t_pos hc14 hf
    refine x_iload hh dX8_party_65 1 rfl 67 rfl ?_
    refine x_sub (lv' := [(0, .ref (X.2.1 59))]) [0] rfl ?_
    exact Z_X8_party_67 hX hh hr  v4 st hf
  · have hf := t_neg hc14 hf
    refine x_iconst hh dX8_party_61 (-1) rfl 62 rfl ?_
    refine x_goto hh dX8_party_62 67 rfl ?_
    refine x_sub (lv' := [(0, .ref (X.2.1 59))]) [0] rfl ?_
    exact Z_X8_party_67 hX hh hr  ((-1)) st hf
def F_X8_party_86 (t0 : Int32) (st : St) : Option (Int32 × St) := some (t0, st)
set_option maxRecDepth 100000 in
set_option maxHeartbeats 4000000 in
theorem Z_X8_party_86 {l : Launch} {X : Cx} (hX : Ok X) {p : Program} {e : Env} {s : State} {m : MethodId} {args : Array Value} {below : List Frame} {meth : Method} {c : Code} {rr : Int32} {st' : St} (hh : Hy X p s m args meth c cX8_party 5 RX8) (hr : meth.sig.returnType = some .int) (t0 : Int32) (st : St) (hf : F_X8_party_86 t0 st = some (rr, st')) : Z X p l e (rmk 4) s m args below meth c 5 (MQ below (Qf X (some (.int rr)) st') args s 0 0 (cA X)) 86 [(0, .ref (X.2.1 59))] [.int t0] st := by
  unfold F_X8_party_86 at hf
  obtain ⟨rfl, rfl⟩ := ret2 hf
  exact x_iret hh hr dX8_party_86
def F_X8_party_32 (v1 : Int32) (v2 : Int32) (v3 : Int32) (st : St) : Option (Int32 × St) := (F_X8_partyOf v1 v2 st).bind (fun q8 => if (1000000 : Int32) ≤ q8.1 then F_X8_party_53 q8.1 q8.2 else if v3 = ((-1)) then F_X8_party_53 q8.1 q8.2 else (F_X8_has v2 v3 q8.2).bind (fun q11 => if q11.1 = 0 then F_X8_party_86 ((-1)) q11.2 else gi v3 6 (F_X8_party_86 (q11.2.1 83 v3.toNatClampNeg) q11.2)))
set_option maxRecDepth 100000 in
set_option maxHeartbeats 4000000 in
theorem Z_X8_party_32 {l : Launch} {X : Cx} (hX : Ok X) {p : Program} {e : Env} {s : State} {m : MethodId} {args : Array Value} {below : List Frame} {meth : Method} {c : Code} {rr : Int32} {st' : St} (hh : Hy X p s m args meth c cX8_party 5 RX8) (hr : meth.sig.returnType = some .int) (v1 : Int32) (v2 : Int32) (v3 : Int32) (st : St) (hf : F_X8_party_32 v1 v2 v3 st = some (rr, st')) : Z X p l e (rmk 4) s m args below meth c 5 (MQ below (Qf X (some (.int rr)) st') args s 0 0 (cA X)) 32 [(0, .ref (X.2.1 59)), (1, .int v1), (2, .int v2), (3, .int v3)] [] st := by
  unfold F_X8_party_32 at hf
  refine x_aload_n hh dX8_party_32 rfl 0 rfl 33 rfl ?_
  refine x_iload_n hh dX8_party_33 rfl 1 rfl 34 rfl ?_
  refine x_iload_n hh dX8_party_34 rfl 2 rfl 35 rfl ?_
  obtain ⟨q8, hq8, hf⟩ := b_some hf
  refine x_callV (rest := []) hh mi_X8_partyOf [.int v1, .int v2] dX8_party_35 sh_59 wd_1085 (C_X8_partyOf l hX  hq8) rfl rfl ⟨Nat.le_of_ble_eq_true rfl, Nat.le_of_ble_eq_true rfl⟩ (Nat.le_of_ble_eq_true rfl) 38 rfl [.int q8.1] rfl ?_
  refine x_istore hh dX8_party_38 (by decide) [(4, .int q8.1), (0, .ref (X.2.1 59)), (1, .int v1), (2, .int v2), (3, .int v3)] rfl 40 rfl ?_
  refine x_iload hh dX8_party_40 0 rfl 42 rfl ?_
  refine x_ldc_w hh dX8_party_42 wd_1056 45 rfl ?_
  refine x_icmp_ge hh dX8_party_45 53 rfl 48 rfl (fun hc9 => ?_) (fun hc9 => ?_)
  · have hf := t_pos hc9 hf
    refine x_sub (lv' := [(0, .ref (X.2.1 59)), (4, .int q8.1)]) [1, 0] rfl ?_
    exact Z_X8_party_53 hX hh hr  q8.1 q8.2 hf
  · have hf := t_neg hc9 hf
    refine x_iload_n hh dX8_party_48 rfl 4 rfl 49 rfl ?_
    refine x_iconst hh dX8_party_49 (-1) rfl 50 rfl ?_
    refine x_icmp_ne hh dX8_party_50 68 rfl 53 rfl (fun hc10 => ?_) (fun hc10 => ?_)
    · have hf := t_neg hc10 hf
      refine x_iload_n hh dX8_party_68 rfl 3 rfl 69 rfl ?_
      refine x_iload_n hh dX8_party_69 rfl 4 rfl 70 rfl ?_
      obtain ⟨q11, hq11, hf⟩ := b_some hf
      refine x_callS (rest := []) hh ms_X8_has [.int v2, .int v3] dX8_party_70 wd_1040 (C_X8_has l hX  hq11) rfl rfl ⟨Nat.le_of_ble_eq_true rfl, Nat.le_of_ble_eq_true rfl⟩ (Nat.le_of_ble_eq_true rfl) 73 rfl [.int q11.1] rfl ?_
      refine x_if_eq hh dX8_party_73 85 rfl 76 rfl (fun hc12 => ?_) (fun hc12 => ?_)
      · have hf := t_pos hc12 hf
        refine x_iconst hh dX8_party_85 (-1) rfl 86 rfl ?_
        refine x_sub (lv' := [(0, .ref (X.2.1 59))]) [1] rfl ?_
        exact Z_X8_party_86 hX hh hr  ((-1)) q11.2 hf
      · have hf := t_neg hc12 hf
        refine x_aload_n hh dX8_party_76 rfl 1 rfl 77 rfl ?_
        refine x_getR hh cl_8 dX8_party_77 sh_59 38 83 rfl (Nat.le_of_ble_eq_true rfl) wd_838 80 rfl ?_
        refine x_iload_n hh dX8_party_80 rfl 4 rfl 81 rfl ?_
        obtain ⟨hi13, hf⟩ := gi_some hf
        refine x_iaload hh dX8_party_81 sh_83 hi13 82 rfl ?_
        refine x_goto hh dX8_party_82 86 rfl ?_
        refine x_sub (lv' := [(0, .ref (X.2.1 59))]) [1] rfl ?_
        exact Z_X8_party_86 hX hh hr  (q11.2.1 83 v3.toNatClampNeg) q11.2 hf
    · have hf := t_pos hc10 hf
      refine x_sub (lv' := [(0, .ref (X.2.1 59)), (4, .int q8.1)]) [1, 0] rfl ?_
      exact Z_X8_party_53 hX hh hr  q8.1 q8.2 hf
def F_X8_party_0 (v1 : Int32) (v2 : Int32) (v3 : Int32) (st : St) : Option (Int32 × St) := (F_X8_isRoom v1 st).bind (fun q1 => if q1.1 = 0 then F_X8_party_29 q1.2 else (F_X8_isSet v2 q1.2).bind (fun q3 => if q3.1 = 0 then F_X8_party_29 q3.2 else if v3 = ((-1)) then F_X8_party_32 v1 v2 v3 q3.2 else (F_X8_isPerson v3 q3.2).bind (fun q6 => if q6.1 = 0 then F_X8_party_29 q6.2 else F_X8_party_32 v1 v2 v3 q6.2)))
set_option maxRecDepth 100000 in
set_option maxHeartbeats 4000000 in
theorem Z_X8_party_0 {l : Launch} {X : Cx} (hX : Ok X) {p : Program} {e : Env} {s : State} {m : MethodId} {args : Array Value} {below : List Frame} {meth : Method} {c : Code} {rr : Int32} {st' : St} (hh : Hy X p s m args meth c cX8_party 5 RX8) (hr : meth.sig.returnType = some .int) (v1 : Int32) (v2 : Int32) (v3 : Int32) (st : St) (hf : F_X8_party_0 v1 v2 v3 st = some (rr, st')) : Z X p l e (rmk 4) s m args below meth c 5 (MQ below (Qf X (some (.int rr)) st') args s 0 0 (cA X)) 0 [(0, .ref (X.2.1 59)), (1, .int v1), (2, .int v2), (3, .int v3)] [] st := by
  unfold F_X8_party_0 at hf
  refine x_aload_n hh dX8_party_0 rfl 0 rfl 1 rfl ?_
  refine x_iload_n hh dX8_party_1 rfl 1 rfl 2 rfl ?_
  obtain ⟨q1, hq1, hf⟩ := b_some hf
  refine x_callV (rest := []) hh mi_X8_isRoom [.int v1] dX8_party_2 sh_59 wd_974 (C_X8_isRoom l hX  hq1) rfl rfl ⟨Nat.le_of_ble_eq_true rfl, Nat.le_of_ble_eq_true rfl⟩ (Nat.le_of_ble_eq_true rfl) 5 rfl [.int q1.1] rfl ?_
  refine x_if_eq hh dX8_party_5 29 rfl 8 rfl (fun hc2 => ?_) (fun hc2 => ?_)
  · have hf := t_pos hc2 hf
    refine x_sub (lv' := [(0, .ref (X.2.1 59))]) [0] rfl ?_
    exact Z_X8_party_29 hX hh hr  q1.2 hf
  · have hf := t_neg hc2 hf
    refine x_aload_n hh dX8_party_8 rfl 0 rfl 9 rfl ?_
    refine x_iload_n hh dX8_party_9 rfl 2 rfl 10 rfl ?_
    obtain ⟨q3, hq3, hf⟩ := b_some hf
    refine x_callV (rest := []) hh mi_X8_isSet [.int v2] dX8_party_10 sh_59 wd_1082 (C_X8_isSet l hX  hq3) rfl rfl ⟨Nat.le_of_ble_eq_true rfl, Nat.le_of_ble_eq_true rfl⟩ (Nat.le_of_ble_eq_true rfl) 13 rfl [.int q3.1] rfl ?_
    refine x_if_eq hh dX8_party_13 29 rfl 16 rfl (fun hc4 => ?_) (fun hc4 => ?_)
    · have hf := t_pos hc4 hf
      refine x_sub (lv' := [(0, .ref (X.2.1 59))]) [0] rfl ?_
      exact Z_X8_party_29 hX hh hr  q3.2 hf
    · have hf := t_neg hc4 hf
      refine x_iload_n hh dX8_party_16 rfl 3 rfl 17 rfl ?_
      refine x_iconst hh dX8_party_17 (-1) rfl 18 rfl ?_
      refine x_icmp_eq hh dX8_party_18 32 rfl 21 rfl (fun hc5 => ?_) (fun hc5 => ?_)
      · have hf := t_pos hc5 hf
        exact Z_X8_party_32 hX hh hr  v1 v2 v3 q3.2 hf
      · have hf := t_neg hc5 hf
        refine x_aload_n hh dX8_party_21 rfl 0 rfl 22 rfl ?_
        refine x_iload_n hh dX8_party_22 rfl 3 rfl 23 rfl ?_
        obtain ⟨q6, hq6, hf⟩ := b_some hf
        refine x_callV (rest := []) hh mi_X8_isPerson [.int v3] dX8_party_23 sh_59 wd_988 (C_X8_isPerson l hX  hq6) rfl rfl ⟨Nat.le_of_ble_eq_true rfl, Nat.le_of_ble_eq_true rfl⟩ (Nat.le_of_ble_eq_true rfl) 26 rfl [.int q6.1] rfl ?_
        refine x_if_ne hh dX8_party_26 32 rfl 29 rfl (fun hc7 => ?_) (fun hc7 => ?_)
        · have hf := t_neg hc7 hf
          exact Z_X8_party_32 hX hh hr  v1 v2 v3 q6.2 hf
        · have hf := t_pos hc7 hf
          refine x_sub (lv' := [(0, .ref (X.2.1 59))]) [0] rfl ?_
          exact Z_X8_party_29 hX hh hr  q6.2 hf
def F_X8_party (v1 : Int32) (v2 : Int32) (v3 : Int32) (st : St) : Option (Int32 × St) := F_X8_party_0  v1 v2 v3 st
set_option maxRecDepth 100000 in
theorem C_X8_party (l : Launch) {X : Cx} (hX : Ok X) {v1 : Int32} {v2 : Int32} {v3 : Int32} {st : St} {q : Int32 × St} (hf : F_X8_party v1 v2 v3 st = some q) : Ct l X 4 yX8_party (.code yX8_party cX8_party 5 (some .int)) [.ref (X.2.1 59), .int v1, .int v2, .int v3] st (some (.int q.1)) q.2 := by
  refine Ct.of hX (by decide) (Nat.le_of_ble_eq_true rfl) ?_
  intro p e s m args below meth c hh hr
  exact Z_X8_party_0 hX hh hr v1 v2 v3 st hf

def F_X8_deal_59 (k10 : Int32 → Int32 → Int32 → St → Option (St)) (v1 : Int32) (v4 : Int32) (t0 : Int32) (t1 : Int32) (st : St) : Option (St) := gz t0 (k10 v1 (t1 / t0) (v4 + (-1)) st)
set_option maxRecDepth 100000 in
set_option maxHeartbeats 4000000 in
theorem Z_X8_deal_59 {l : Launch} {X : Cx} (hX : Ok X) {p : Program} {e : Env} {s : State} {m : MethodId} {args : Array Value} {below : List Frame} {meth : Method} {c : Code} {st' : St} (hh : Hy X p s m args meth c cX8_deal 5 RX8) (hr : meth.sig.returnType = none) {k10 : Int32 → Int32 → Int32 → St → Option (St)} (hk10 : ∀ (v1 : Int32) (v3 : Int32) (v4 : Int32) (st : St), k10 v1 v3 v4 st = some st' → Z X p l e (rmk 1) s m args below meth c 5 (MQ below (Qf X none st') args s 0 0 (cA X)) 10 [(0, .ref (X.2.1 59)), (1, .int v1), (3, .int v3), (4, .int v4)] [] st) (v1 : Int32) (v4 : Int32) (t0 : Int32) (t1 : Int32) (st : St) (hf : F_X8_deal_59 k10 v1 v4 t0 t1 st = some st') : Z X p l e (rmk 1) s m args below meth c 5 (MQ below (Qf X none st') args s 0 0 (cA X)) 59 [(0, .ref (X.2.1 59)), (1, .int v1), (4, .int v4)] [.int t0, .int t1] st := by
  unfold F_X8_deal_59 at hf
  obtain ⟨hz9, hf⟩ := gz_some hf
  refine x_idiv hh dX8_deal_59 hz9 60 rfl ?_
  refine x_istore_n hh dX8_deal_60 rfl (by decide) [(3, .int (t1 / t0)), (0, .ref (X.2.1 59)), (1, .int v1), (4, .int v4)] rfl 61 rfl ?_
  refine x_iinc hh dX8_deal_61 3 rfl (v4 + (-1)) rfl (by decide) [(4, .int (v4 + (-1))), (3, .int (t1 / t0)), (0, .ref (X.2.1 59)), (1, .int v1)] rfl 64 rfl ?_
  refine x_goto hh dX8_deal_64 10 rfl ?_
  refine x_sub (lv' := [(0, .ref (X.2.1 59)), (1, .int v1), (3, .int (t1 / t0)), (4, .int (v4 + (-1)))]) [2, 3, 1, 0] rfl ?_
  exact hk10 v1 (t1 / t0) (v4 + (-1)) st hf
def F_X8_deal_40 (k10 : Int32 → Int32 → Int32 → St → Option (St)) (v1 : Int32) (v3 : Int32) (v4 : Int32) (t0 : Int32) (t1 : Int32) (st : St) : Option (St) := gi t1 6 (bs (sV st 85 t1.toNatClampNeg t0) (fun st6 => (F_X8_has v1 v4 st6).bind (fun q7 => if q7.1 = 0 then F_X8_deal_59 k10 v1 v4 1 v3 q7.2 else F_X8_deal_59 k10 v1 v4 (q7.2.1 59 0) v3 q7.2)))
set_option maxRecDepth 100000 in
set_option maxHeartbeats 4000000 in
theorem Z_X8_deal_40 {l : Launch} {X : Cx} (hX : Ok X) {p : Program} {e : Env} {s : State} {m : MethodId} {args : Array Value} {below : List Frame} {meth : Method} {c : Code} {st' : St} (hh : Hy X p s m args meth c cX8_deal 5 RX8) (hr : meth.sig.returnType = none) {k10 : Int32 → Int32 → Int32 → St → Option (St)} (hk10 : ∀ (v1 : Int32) (v3 : Int32) (v4 : Int32) (st : St), k10 v1 v3 v4 st = some st' → Z X p l e (rmk 1) s m args below meth c 5 (MQ below (Qf X none st') args s 0 0 (cA X)) 10 [(0, .ref (X.2.1 59)), (1, .int v1), (3, .int v3), (4, .int v4)] [] st) (v1 : Int32) (v3 : Int32) (v4 : Int32) (t0 : Int32) (t1 : Int32) (st : St) (hf : F_X8_deal_40 k10 v1 v3 v4 t0 t1 st = some st') : Z X p l e (rmk 1) s m args below meth c 5 (MQ below (Qf X none st') args s 0 0 (cA X)) 40 [(0, .ref (X.2.1 59)), (1, .int v1), (3, .int v3), (4, .int v4)] [.int t0, .int t1, .ref (X.2.1 85)] st := by
  unfold F_X8_deal_40 at hf
  obtain ⟨hi5, hf⟩ := gi_some hf
  obtain ⟨st6, est6, hf⟩ := bs_some hf
  refine x_iastore hh dX8_deal_40 sh_85 hi5 41 rfl st6 est6 ?_
  refine x_iload_n hh dX8_deal_41 rfl 2 rfl 42 rfl ?_
  refine x_iload_n hh dX8_deal_42 rfl 1 rfl 43 rfl ?_
  refine x_iload hh dX8_deal_43 3 rfl 45 rfl ?_
  obtain ⟨q7, hq7, hf⟩ := b_some hf
  refine x_callS (rest := [.int v3]) hh ms_X8_has [.int v1, .int v4] dX8_deal_45 wd_1040 (C_X8_has l hX  hq7) rfl rfl ⟨Nat.le_of_ble_eq_true rfl, Nat.le_of_ble_eq_true rfl⟩ (Nat.le_of_ble_eq_true rfl) 48 rfl [.int q7.1, .int v3] rfl ?_
  refine x_if_eq hh dX8_deal_48 58 rfl 51 rfl (fun hc8 => ?_) (fun hc8 => ?_)
  · have hf := t_pos hc8 hf
    refine x_iconst hh dX8_deal_58 1 rfl 59 rfl ?_
    refine x_sub (lv' := [(0, .ref (X.2.1 59)), (1, .int v1), (4, .int v4)]) [0, 1, 3] rfl ?_
    exact Z_X8_deal_59 hX hh hr hk10  v1 v4 1 v3 q7.2 hf
  · have hf := t_neg hc8 hf
    refine x_aload_n hh dX8_deal_51 rfl 0 rfl 52 rfl ?_
    refine x_getI hh cl_8 dX8_deal_52 sh_59 0 rfl (Nat.le_of_ble_eq_true rfl) wd_800 55 rfl ?_
    refine x_goto hh dX8_deal_55 59 rfl ?_
    refine x_sub (lv' := [(0, .ref (X.2.1 59)), (1, .int v1), (4, .int v4)]) [0, 1, 3] rfl ?_
    exact Z_X8_deal_59 hX hh hr hk10  v1 v4 (q7.2.1 59 0) v3 q7.2 hf
def F_X8_deal_10 : Nat → Int32 → Int32 → Int32 → St → Option (St)
  | 0, _, _, _, _ => none
  | n + 1, v1, v3, v4, st => if v4 < 0 then some st else (F_X8_has v1 v4 st).bind (fun q2 => if q2.1 = 0 then F_X8_deal_40 (F_X8_deal_10 n) v1 v3 v4 ((-1)) v4 q2.2 else gz (q2.2.1 59 0) (F_X8_deal_40 (F_X8_deal_10 n) v1 v3 v4 (v3 - v3 / (q2.2.1 59 0) * (q2.2.1 59 0)) v4 q2.2))
set_option maxRecDepth 100000 in
set_option maxHeartbeats 4000000 in
theorem Z_X8_deal_10 {l : Launch} {X : Cx} (hX : Ok X) {p : Program} {e : Env} {s : State} {m : MethodId} {args : Array Value} {below : List Frame} {meth : Method} {c : Code} {st' : St} (hh : Hy X p s m args meth c cX8_deal 5 RX8) (hr : meth.sig.returnType = none) : ∀ (n : Nat) (v1 : Int32) (v3 : Int32) (v4 : Int32) (st : St), F_X8_deal_10 n v1 v3 v4 st = some st' → Z X p l e (rmk 1) s m args below meth c 5 (MQ below (Qf X none st') args s 0 0 (cA X)) 10 [(0, .ref (X.2.1 59)), (1, .int v1), (3, .int v3), (4, .int v4)] [] st := by
  intro n
  induction n with
  | zero =>
    intro v1 v3 v4 st hf
    cases hf
  | succ n ih =>
    intro v1 v3 v4 st hf
    rw [F_X8_deal_10] at hf
    refine x_iload hh dX8_deal_10 3 rfl 12 rfl ?_
    refine x_if_lt hh dX8_deal_12 67 rfl 15 rfl (fun hc1 => ?_) (fun hc1 => ?_)
    · have hf := t_pos hc1 hf
      obtain rfl := ret1 hf
      exact x_vret hh hr dX8_deal_67
    · have hf := t_neg hc1 hf
      refine x_aload_n hh dX8_deal_15 rfl 0 rfl 16 rfl ?_
      refine x_getR hh cl_8 dX8_deal_16 sh_59 40 85 rfl (Nat.le_of_ble_eq_true rfl) wd_840 19 rfl ?_
      refine x_iload hh dX8_deal_19 3 rfl 21 rfl ?_
      refine x_iload_n hh dX8_deal_21 rfl 1 rfl 22 rfl ?_
      refine x_iload hh dX8_deal_22 3 rfl 24 rfl ?_
      obtain ⟨q2, hq2, hf⟩ := b_some hf
      refine x_callS (rest := [.int v4, .ref (X.2.1 85)]) hh ms_X8_has [.int v1, .int v4] dX8_deal_24 wd_1040 (C_X8_has l hX  hq2) rfl rfl ⟨Nat.le_of_ble_eq_true rfl, Nat.le_of_ble_eq_true rfl⟩ (Nat.le_of_ble_eq_true rfl) 27 rfl [.int q2.1, .int v4, .ref (X.2.1 85)] rfl ?_
      refine x_if_eq hh dX8_deal_27 39 rfl 30 rfl (fun hc3 => ?_) (fun hc3 => ?_)
      · have hf := t_pos hc3 hf
        refine x_iconst hh dX8_deal_39 (-1) rfl 40 rfl ?_
        exact Z_X8_deal_40 hX hh hr ih  v1 v3 v4 ((-1)) v4 q2.2 hf
      · have hf := t_neg hc3 hf
        refine x_iload_n hh dX8_deal_30 rfl 2 rfl 31 rfl ?_
        refine x_aload_n hh dX8_deal_31 rfl 0 rfl 32 rfl ?_
        refine x_getI hh cl_8 dX8_deal_32 sh_59 0 rfl (Nat.le_of_ble_eq_true rfl) wd_800 35 rfl ?_
        obtain ⟨hz4, hf⟩ := gz_some hf
        refine x_irem hh dX8_deal_35 hz4 36 rfl ?_
        refine x_goto hh dX8_deal_36 40 rfl ?_
        exact Z_X8_deal_40 hX hh hr ih  v1 v3 v4 (v3 - v3 / (q2.2.1 59 0) * (q2.2.1 59 0)) v4 q2.2 hf
def F_X8_deal_0 (v1 : Int32) (v2 : Int32) (st : St) : Option (St) := F_X8_deal_10 fN v1 v2 ((st.1 59 3) - 1) st
set_option maxRecDepth 100000 in
set_option maxHeartbeats 4000000 in
theorem Z_X8_deal_0 {l : Launch} {X : Cx} (hX : Ok X) {p : Program} {e : Env} {s : State} {m : MethodId} {args : Array Value} {below : List Frame} {meth : Method} {c : Code} {st' : St} (hh : Hy X p s m args meth c cX8_deal 5 RX8) (hr : meth.sig.returnType = none) (v1 : Int32) (v2 : Int32) (st : St) (hf : F_X8_deal_0 v1 v2 st = some st') : Z X p l e (rmk 1) s m args below meth c 5 (MQ below (Qf X none st') args s 0 0 (cA X)) 0 [(0, .ref (X.2.1 59)), (1, .int v1), (2, .int v2)] [] st := by
  unfold F_X8_deal_0 at hf
  refine x_iload_n hh dX8_deal_0 rfl 2 rfl 1 rfl ?_
  refine x_istore_n hh dX8_deal_1 rfl (by decide) [(3, .int v2), (0, .ref (X.2.1 59)), (1, .int v1), (2, .int v2)] rfl 2 rfl ?_
  refine x_aload_n hh dX8_deal_2 rfl 1 rfl 3 rfl ?_
  refine x_getI hh cl_8 dX8_deal_3 sh_59 3 rfl (Nat.le_of_ble_eq_true rfl) wd_803 6 rfl ?_
  refine x_iconst hh dX8_deal_6 1 rfl 7 rfl ?_
  refine x_isub hh dX8_deal_7 8 rfl ?_
  refine x_istore hh dX8_deal_8 (by decide) [(4, .int ((st.1 59 3) - 1)), (3, .int v2), (0, .ref (X.2.1 59)), (1, .int v1), (2, .int v2)] rfl 10 rfl ?_
  refine x_sub (lv' := [(0, .ref (X.2.1 59)), (1, .int v1), (3, .int v2), (4, .int ((st.1 59 3) - 1))]) [2, 3, 1, 0] rfl ?_
  exact Z_X8_deal_10 hX hh hr fN v1 v2 ((st.1 59 3) - 1) st hf
def F_X8_deal (v1 : Int32) (v2 : Int32) (st : St) : Option (St) := F_X8_deal_0  v1 v2 st
set_option maxRecDepth 100000 in
theorem C_X8_deal (l : Launch) {X : Cx} (hX : Ok X) {v1 : Int32} {v2 : Int32} {st : St} {q : St} (hf : F_X8_deal v1 v2 st = some q) : Ct l X 1 yX8_deal (.code yX8_deal cX8_deal 5 (none)) [.ref (X.2.1 59), .int v1, .int v2] st none q := by
  refine Ct.of hX (by decide) (Nat.le_of_ble_eq_true rfl) ?_
  intro p e s m args below meth c hh hr
  exact Z_X8_deal_0 hX hh hr v1 v2 st hf

def F_X8_sumOf_57 (k4 : Int32 → Int32 → Int32 → St → Option (Int32 × St)) (k18 : Int32 → Int32 → Int32 → Int32 → Int32 → St → Option (Int32 × St)) (v1 : Int32) (v2 : Int32) (v3 : Int32) (v5 : Int32) (t0 : Int32) (t1 : Int32) (st : St) : Option (Int32 × St) := k18 v1 v2 v3 (t1 ||| t0) (v5 + 1) st
set_option maxRecDepth 100000 in
set_option maxHeartbeats 4000000 in
theorem Z_X8_sumOf_57 {l : Launch} {X : Cx} (hX : Ok X) {p : Program} {e : Env} {s : State} {m : MethodId} {args : Array Value} {below : List Frame} {meth : Method} {c : Code} {rr : Int32} {st' : St} (hh : Hy X p s m args meth c cX8_sumOf 6 RX8) (hr : meth.sig.returnType = some .int) {k4 : Int32 → Int32 → Int32 → St → Option (Int32 × St)} (hk4 : ∀ (v1 : Int32) (v2 : Int32) (v3 : Int32) (st : St), k4 v1 v2 v3 st = some (rr, st') → Z X p l e (rmk 1) s m args below meth c 6 (MQ below (Qf X (some (.int rr)) st') args s 0 0 (cA X)) 4 [(0, .ref (X.2.1 59)), (1, .int v1), (2, .int v2), (3, .int v3)] [] st) {k18 : Int32 → Int32 → Int32 → Int32 → Int32 → St → Option (Int32 × St)} (hk18 : ∀ (v1 : Int32) (v2 : Int32) (v3 : Int32) (v4 : Int32) (v5 : Int32) (st : St), k18 v1 v2 v3 v4 v5 st = some (rr, st') → Z X p l e (rmk 1) s m args below meth c 6 (MQ below (Qf X (some (.int rr)) st') args s 0 0 (cA X)) 18 [(0, .ref (X.2.1 59)), (1, .int v1), (2, .int v2), (3, .int v3), (4, .int v4), (5, .int v5)] [] st) (v1 : Int32) (v2 : Int32) (v3 : Int32) (v5 : Int32) (t0 : Int32) (t1 : Int32) (st : St) (hf : F_X8_sumOf_57 k4 k18 v1 v2 v3 v5 t0 t1 st = some (rr, st')) : Z X p l e (rmk 1) s m args below meth c 6 (MQ below (Qf X (some (.int rr)) st') args s 0 0 (cA X)) 57 [(0, .ref (X.2.1 59)), (1, .int v1), (2, .int v2), (3, .int v3), (5, .int v5)] [.int t0, .int t1] st := by
  unfold F_X8_sumOf_57 at hf
  refine x_ior hh dX8_sumOf_57 58 rfl ?_
  refine x_istore hh dX8_sumOf_58 (by decide) [(4, .int (t1 ||| t0)), (0, .ref (X.2.1 59)), (1, .int v1), (2, .int v2), (3, .int v3), (5, .int v5)] rfl 60 rfl ?_
  refine x_iinc hh dX8_sumOf_60 5 rfl (v5 + 1) rfl (by decide) [(5, .int (v5 + 1)), (4, .int (t1 ||| t0)), (0, .ref (X.2.1 59)), (1, .int v1), (2, .int v2), (3, .int v3)] rfl 63 rfl ?_
  refine x_goto hh dX8_sumOf_63 18 rfl ?_
  refine x_sub (lv' := [(0, .ref (X.2.1 59)), (1, .int v1), (2, .int v2), (3, .int v3), (4, .int (t1 ||| t0)), (5, .int (v5 + 1))]) [2, 3, 4, 5, 1, 0] rfl ?_
  exact hk18 v1 v2 v3 (t1 ||| t0) (v5 + 1) st hf
def F_X8_sumOf_56 (k4 : Int32 → Int32 → Int32 → St → Option (Int32 × St)) (k18 : Int32 → Int32 → Int32 → Int32 → Int32 → St → Option (Int32 × St)) (v1 : Int32) (v2 : Int32) (v3 : Int32) (v5 : Int32) (t0 : Int32) (st : St) : Option (Int32 × St) := F_X8_sumOf_57 k4 k18 v1 v2 v3 v5 0 t0 st
set_option maxRecDepth 100000 in
set_option maxHeartbeats 4000000 in
theorem Z_X8_sumOf_56 {l : Launch} {X : Cx} (hX : Ok X) {p : Program} {e : Env} {s : State} {m : MethodId} {args : Array Value} {below : List Frame} {meth : Method} {c : Code} {rr : Int32} {st' : St} (hh : Hy X p s m args meth c cX8_sumOf 6 RX8) (hr : meth.sig.returnType = some .int) {k4 : Int32 → Int32 → Int32 → St → Option (Int32 × St)} (hk4 : ∀ (v1 : Int32) (v2 : Int32) (v3 : Int32) (st : St), k4 v1 v2 v3 st = some (rr, st') → Z X p l e (rmk 1) s m args below meth c 6 (MQ below (Qf X (some (.int rr)) st') args s 0 0 (cA X)) 4 [(0, .ref (X.2.1 59)), (1, .int v1), (2, .int v2), (3, .int v3)] [] st) {k18 : Int32 → Int32 → Int32 → Int32 → Int32 → St → Option (Int32 × St)} (hk18 : ∀ (v1 : Int32) (v2 : Int32) (v3 : Int32) (v4 : Int32) (v5 : Int32) (st : St), k18 v1 v2 v3 v4 v5 st = some (rr, st') → Z X p l e (rmk 1) s m args below meth c 6 (MQ below (Qf X (some (.int rr)) st') args s 0 0 (cA X)) 18 [(0, .ref (X.2.1 59)), (1, .int v1), (2, .int v2), (3, .int v3), (4, .int v4), (5, .int v5)] [] st) (v1 : Int32) (v2 : Int32) (v3 : Int32) (v5 : Int32) (t0 : Int32) (st : St) (hf : F_X8_sumOf_56 k4 k18 v1 v2 v3 v5 t0 st = some (rr, st')) : Z X p l e (rmk 1) s m args below meth c 6 (MQ below (Qf X (some (.int rr)) st') args s 0 0 (cA X)) 56 [(0, .ref (X.2.1 59)), (1, .int v1), (2, .int v2), (3, .int v3), (5, .int v5)] [.int t0] st := by
  unfold F_X8_sumOf_56 at hf
  refine x_iconst hh dX8_sumOf_56 0 rfl 57 rfl ?_
  exact Z_X8_sumOf_57 hX hh hr hk4 hk18  v1 v2 v3 v5 0 t0 st hf
def F_X8_sumOf_18 (k4 : Int32 → Int32 → Int32 → St → Option (Int32 × St)) : Nat → Int32 → Int32 → Int32 → Int32 → Int32 → St → Option (Int32 × St)
  | 0, _, _, _, _, _, _ => none
  | n + 1, v1, v2, v3, v4, v5, st => if (st.1 59 3) ≤ v5 then gi ((64 * v3) + v4) 192 (k4 v1 (v2 + (st.1 84 ((64 * v3) + v4).toNatClampNeg)) (v3 + 1) st) else (F_X8_has v1 v5 st).bind (fun q4 => if q4.1 = 0 then F_X8_sumOf_56 k4 (F_X8_sumOf_18 k4 n) v1 v2 v3 v5 v4 q4.2 else gi v5 6 (if (q4.2.1 85 v5.toNatClampNeg) = v3 then F_X8_sumOf_57 k4 (F_X8_sumOf_18 k4 n) v1 v2 v3 v5 (1 <<< (v5 &&& 31)) v4 q4.2 else F_X8_sumOf_56 k4 (F_X8_sumOf_18 k4 n) v1 v2 v3 v5 v4 q4.2))
set_option maxRecDepth 100000 in
set_option maxHeartbeats 4000000 in
theorem Z_X8_sumOf_18 {l : Launch} {X : Cx} (hX : Ok X) {p : Program} {e : Env} {s : State} {m : MethodId} {args : Array Value} {below : List Frame} {meth : Method} {c : Code} {rr : Int32} {st' : St} (hh : Hy X p s m args meth c cX8_sumOf 6 RX8) (hr : meth.sig.returnType = some .int) {k4 : Int32 → Int32 → Int32 → St → Option (Int32 × St)} (hk4 : ∀ (v1 : Int32) (v2 : Int32) (v3 : Int32) (st : St), k4 v1 v2 v3 st = some (rr, st') → Z X p l e (rmk 1) s m args below meth c 6 (MQ below (Qf X (some (.int rr)) st') args s 0 0 (cA X)) 4 [(0, .ref (X.2.1 59)), (1, .int v1), (2, .int v2), (3, .int v3)] [] st) : ∀ (n : Nat) (v1 : Int32) (v2 : Int32) (v3 : Int32) (v4 : Int32) (v5 : Int32) (st : St), F_X8_sumOf_18 k4 n v1 v2 v3 v4 v5 st = some (rr, st') → Z X p l e (rmk 1) s m args below meth c 6 (MQ below (Qf X (some (.int rr)) st') args s 0 0 (cA X)) 18 [(0, .ref (X.2.1 59)), (1, .int v1), (2, .int v2), (3, .int v3), (4, .int v4), (5, .int v5)] [] st := by
  intro n
  induction n with
  | zero =>
    intro v1 v2 v3 v4 v5 st hf
    cases hf
  | succ n ih =>
    intro v1 v2 v3 v4 v5 st hf
    rw [F_X8_sumOf_18] at hf
    refine x_iload hh dX8_sumOf_18 5 rfl 20 rfl ?_
    refine x_aload_n hh dX8_sumOf_20 rfl 0 rfl 21 rfl ?_
    refine x_getI hh cl_8 dX8_sumOf_21 sh_59 3 rfl (Nat.le_of_ble_eq_true rfl) wd_803 24 rfl ?_
    refine x_icmp_ge hh dX8_sumOf_24 66 rfl 27 rfl (fun hc2 => ?_) (fun hc2 => ?_)
    · have hf := t_pos hc2 hf
      refine x_iload_n hh dX8_sumOf_66 rfl 2 rfl 67 rfl ?_
      refine x_aload_n hh dX8_sumOf_67 rfl 0 rfl 68 rfl ?_
      refine x_getR hh cl_8 dX8_sumOf_68 sh_59 39 84 rfl (Nat.le_of_ble_eq_true rfl) wd_839 71 rfl ?_
      refine x_bipush hh dX8_sumOf_71 64 rfl 73 rfl ?_
      refine x_iload_n hh dX8_sumOf_73 rfl 3 rfl 74 rfl ?_
      refine x_imul hh dX8_sumOf_74 75 rfl ?_
      refine x_iload hh dX8_sumOf_75 4 rfl 77 rfl ?_
      refine x_iadd hh dX8_sumOf_77 78 rfl ?_
      obtain ⟨hi3, hf⟩ := gi_some hf
      refine x_iaload hh dX8_sumOf_78 sh_84 hi3 79 rfl ?_
      refine x_iadd hh dX8_sumOf_79 80 rfl ?_
      refine x_istore_n hh dX8_sumOf_80 rfl (by decide) [(2, .int (v2 + (st.1 84 ((64 * v3) + v4).toNatClampNeg))), (0, .ref (X.2.1 59)), (1, .int v1), (3, .int v3), (4, .int v4), (5, .int v5)] rfl 81 rfl ?_
      refine x_iinc hh dX8_sumOf_81 3 rfl (v3 + 1) rfl (by decide) [(3, .int (v3 + 1)), (2, .int (v2 + (st.1 84 ((64 * v3) + v4).toNatClampNeg))), (0, .ref (X.2.1 59)), (1, .int v1), (4, .int v4), (5, .int v5)] rfl 84 rfl ?_
      refine x_goto hh dX8_sumOf_84 4 rfl ?_
      refine x_sub (lv' := [(0, .ref (X.2.1 59)), (1, .int v1), (2, .int (v2 + (st.1 84 ((64 * v3) + v4).toNatClampNeg))), (3, .int (v3 + 1))]) [2, 3, 1, 0] rfl ?_
      exact hk4 v1 (v2 + (st.1 84 ((64 * v3) + v4).toNatClampNeg)) (v3 + 1) st hf
    · have hf := t_neg hc2 hf
      refine x_iload hh dX8_sumOf_27 4 rfl 29 rfl ?_
      refine x_iload_n hh dX8_sumOf_29 rfl 1 rfl 30 rfl ?_
      refine x_iload hh dX8_sumOf_30 5 rfl 32 rfl ?_
      obtain ⟨q4, hq4, hf⟩ := b_some hf
      refine x_callS (rest := [.int v4]) hh ms_X8_has [.int v1, .int v5] dX8_sumOf_32 wd_1040 (C_X8_has l hX  hq4) rfl rfl ⟨Nat.le_of_ble_eq_true rfl, Nat.le_of_ble_eq_true rfl⟩ (Nat.le_of_ble_eq_true rfl) 35 rfl [.int q4.1, .int v4] rfl ?_
      refine x_if_eq hh dX8_sumOf_35 56 rfl 38 rfl (fun hc5 => ?_) (fun hc5 => ?_)
      · have hf := t_pos hc5 hf
        refine x_sub (lv' := [(0, .ref (X.2.1 59)), (1, .int v1), (2, .int v2), (3, .int v3), (5, .int v5)]) [0, 1, 2, 3, 5] rfl ?_
        exact Z_X8_sumOf_56 hX hh hr hk4 ih  v1 v2 v3 v5 v4 q4.2 hf
      · have hf := t_neg hc5 hf
        refine x_aload_n hh dX8_sumOf_38 rfl 0 rfl 39 rfl ?_
        refine x_getR hh cl_8 dX8_sumOf_39 sh_59 40 85 rfl (Nat.le_of_ble_eq_true rfl) wd_840 42 rfl ?_
        refine x_iload hh dX8_sumOf_42 5 rfl 44 rfl ?_
        obtain ⟨hi6, hf⟩ := gi_some hf
        refine x_iaload hh dX8_sumOf_44 sh_85 hi6 45 rfl ?_
        refine x_iload_n hh dX8_sumOf_45 rfl 3 rfl 46 rfl ?_
        refine x_icmp_ne hh dX8_sumOf_46 56 rfl 49 rfl (fun hc7 => ?_) (fun hc7 => ?_)
        · have hf := t_neg hc7 hf
          refine x_sub (lv' := [(0, .ref (X.2.1 59)), (1, .int v1), (2, .int v2), (3, .int v3), (5, .int v5)]) [0, 1, 2, 3, 5] rfl ?_
          exact Z_X8_sumOf_56 hX hh hr hk4 ih  v1 v2 v3 v5 v4 q4.2 hf
        · have hf := t_pos hc7 hf
          refine x_iconst hh dX8_sumOf_49 1 rfl 50 rfl ?_
          refine x_iload hh dX8_sumOf_50 5 rfl 52 rfl ?_
          refine x_ishl hh dX8_sumOf_52 53 rfl ?_
          refine x_goto hh dX8_sumOf_53 57 rfl ?_
          refine x_sub (lv' := [(0, .ref (X.2.1 59)), (1, .int v1), (2, .int v2), (3, .int v3), (5, .int v5)]) [0, 1, 2, 3, 5] rfl ?_
          exact Z_X8_sumOf_57 hX hh hr hk4 ih  v1 v2 v3 v5 (1 <<< (v5 &&& 31)) v4 q4.2 hf
def F_X8_sumOf_4 : Nat → Int32 → Int32 → Int32 → St → Option (Int32 × St)
  | 0, _, _, _, _ => none
  | n + 1, v1, v2, v3, st => if (st.1 59 0) ≤ v3 then some (v2, st) else F_X8_sumOf_18 (F_X8_sumOf_4 n) fN v1 v2 v3 0 0 st
set_option maxRecDepth 100000 in
set_option maxHeartbeats 4000000 in
theorem Z_X8_sumOf_4 {l : Launch} {X : Cx} (hX : Ok X) {p : Program} {e : Env} {s : State} {m : MethodId} {args : Array Value} {below : List Frame} {meth : Method} {c : Code} {rr : Int32} {st' : St} (hh : Hy X p s m args meth c cX8_sumOf 6 RX8) (hr : meth.sig.returnType = some .int) : ∀ (n : Nat) (v1 : Int32) (v2 : Int32) (v3 : Int32) (st : St), F_X8_sumOf_4 n v1 v2 v3 st = some (rr, st') → Z X p l e (rmk 1) s m args below meth c 6 (MQ below (Qf X (some (.int rr)) st') args s 0 0 (cA X)) 4 [(0, .ref (X.2.1 59)), (1, .int v1), (2, .int v2), (3, .int v3)] [] st := by
  intro n
  induction n with
  | zero =>
    intro v1 v2 v3 st hf
    cases hf
  | succ n ih =>
    intro v1 v2 v3 st hf
    rw [F_X8_sumOf_4] at hf
    refine x_iload_n hh dX8_sumOf_4 rfl 3 rfl 5 rfl ?_
    refine x_aload_n hh dX8_sumOf_5 rfl 0 rfl 6 rfl ?_
    refine x_getI hh cl_8 dX8_sumOf_6 sh_59 0 rfl (Nat.le_of_ble_eq_true rfl) wd_800 9 rfl ?_
    refine x_icmp_ge hh dX8_sumOf_9 87 rfl 12 rfl (fun hc1 => ?_) (fun hc1 => ?_)
    · have hf := t_pos hc1 hf
      refine x_iload_n hh dX8_sumOf_87 rfl 2 rfl 88 rfl ?_
      obtain ⟨rfl, rfl⟩ := ret2 hf
      exact x_iret hh hr dX8_sumOf_88
    · have hf := t_neg hc1 hf
      refine x_iconst hh dX8_sumOf_12 0 rfl 13 rfl ?_
      refine x_istore hh dX8_sumOf_13 (by decide) [(4, .int 0), (0, .ref (X.2.1 59)), (1, .int v1), (2, .int v2), (3, .int v3)] rfl 15 rfl ?_
      refine x_iconst hh dX8_sumOf_15 0 rfl 16 rfl ?_
      refine x_istore hh dX8_sumOf_16 (by decide) [(5, .int 0), (4, .int 0), (0, .ref (X.2.1 59)), (1, .int v1), (2, .int v2), (3, .int v3)] rfl 18 rfl ?_
      refine x_sub (lv' := [(0, .ref (X.2.1 59)), (1, .int v1), (2, .int v2), (3, .int v3), (4, .int 0), (5, .int 0)]) [2, 3, 4, 5, 1, 0] rfl ?_
      exact Z_X8_sumOf_18 hX hh hr ih fN v1 v2 v3 0 0 st hf
def F_X8_sumOf_0 (v1 : Int32) (st : St) : Option (Int32 × St) := F_X8_sumOf_4 fN v1 0 0 st
set_option maxRecDepth 100000 in
set_option maxHeartbeats 4000000 in
theorem Z_X8_sumOf_0 {l : Launch} {X : Cx} (hX : Ok X) {p : Program} {e : Env} {s : State} {m : MethodId} {args : Array Value} {below : List Frame} {meth : Method} {c : Code} {rr : Int32} {st' : St} (hh : Hy X p s m args meth c cX8_sumOf 6 RX8) (hr : meth.sig.returnType = some .int) (v1 : Int32) (st : St) (hf : F_X8_sumOf_0 v1 st = some (rr, st')) : Z X p l e (rmk 1) s m args below meth c 6 (MQ below (Qf X (some (.int rr)) st') args s 0 0 (cA X)) 0 [(0, .ref (X.2.1 59)), (1, .int v1)] [] st := by
  unfold F_X8_sumOf_0 at hf
  refine x_iconst hh dX8_sumOf_0 0 rfl 1 rfl ?_
  refine x_istore_n hh dX8_sumOf_1 rfl (by decide) [(2, .int 0), (0, .ref (X.2.1 59)), (1, .int v1)] rfl 2 rfl ?_
  refine x_iconst hh dX8_sumOf_2 0 rfl 3 rfl ?_
  refine x_istore_n hh dX8_sumOf_3 rfl (by decide) [(3, .int 0), (2, .int 0), (0, .ref (X.2.1 59)), (1, .int v1)] rfl 4 rfl ?_
  refine x_sub (lv' := [(0, .ref (X.2.1 59)), (1, .int v1), (2, .int 0), (3, .int 0)]) [2, 3, 1, 0] rfl ?_
  exact Z_X8_sumOf_4 hX hh hr fN v1 0 0 st hf
def F_X8_sumOf (v1 : Int32) (st : St) : Option (Int32 × St) := F_X8_sumOf_0  v1 st
set_option maxRecDepth 100000 in
theorem C_X8_sumOf (l : Launch) {X : Cx} (hX : Ok X) {v1 : Int32} {st : St} {q : Int32 × St} (hf : F_X8_sumOf v1 st = some q) : Ct l X 1 yX8_sumOf (.code yX8_sumOf cX8_sumOf 6 (some .int)) [.ref (X.2.1 59), .int v1] st (some (.int q.1)) q.2 := by
  refine Ct.of hX (by decide) (Nat.le_of_ble_eq_true rfl) ?_
  intro p e s m args below meth c hh hr
  exact Z_X8_sumOf_0 hX hh hr v1 st hf

def F_X8_weightOf_71 (k4 : Int32 → Int32 → Int32 → St → Option (Int32 × St)) (k15 : Int32 → Int32 → Int32 → Int32 → St → Option (Int32 × St)) (v1 : Int32) (v3 : Int32) (v4 : Int32) (t0 : Int32) (t1 : Int32) (st : St) : Option (Int32 × St) := k15 v1 (t1 + t0) v3 (v4 + 1) st
set_option maxRecDepth 100000 in
set_option maxHeartbeats 4000000 in
theorem Z_X8_weightOf_71 {l : Launch} {X : Cx} (hX : Ok X) {p : Program} {e : Env} {s : State} {m : MethodId} {args : Array Value} {below : List Frame} {meth : Method} {c : Code} {rr : Int32} {st' : St} (hh : Hy X p s m args meth c cX8_weightOf 5 RX8) (hr : meth.sig.returnType = some .int) {k4 : Int32 → Int32 → Int32 → St → Option (Int32 × St)} (hk4 : ∀ (v1 : Int32) (v2 : Int32) (v3 : Int32) (st : St), k4 v1 v2 v3 st = some (rr, st') → Z X p l e (rmk 1) s m args below meth c 5 (MQ below (Qf X (some (.int rr)) st') args s 0 0 (cA X)) 4 [(0, .ref (X.2.1 59)), (1, .int v1), (2, .int v2), (3, .int v3)] [] st) {k15 : Int32 → Int32 → Int32 → Int32 → St → Option (Int32 × St)} (hk15 : ∀ (v1 : Int32) (v2 : Int32) (v3 : Int32) (v4 : Int32) (st : St), k15 v1 v2 v3 v4 st = some (rr, st') → Z X p l e (rmk 1) s m args below meth c 5 (MQ below (Qf X (some (.int rr)) st') args s 0 0 (cA X)) 15 [(0, .ref (X.2.1 59)), (1, .int v1), (2, .int v2), (3, .int v3), (4, .int v4)] [] st) (v1 : Int32) (v3 : Int32) (v4 : Int32) (t0 : Int32) (t1 : Int32) (st : St) (hf : F_X8_weightOf_71 k4 k15 v1 v3 v4 t0 t1 st = some (rr, st')) : Z X p l e (rmk 1) s m args below meth c 5 (MQ below (Qf X (some (.int rr)) st') args s 0 0 (cA X)) 71 [(0, .ref (X.2.1 59)), (1, .int v1), (3, .int v3), (4, .int v4)] [.int t0, .int t1] st := by
  unfold F_X8_weightOf_71 at hf
  refine x_iadd hh dX8_weightOf_71 72 rfl ?_
  refine x_istore_n hh dX8_weightOf_72 rfl (by decide) [(2, .int (t1 + t0)), (0, .ref (X.2.1 59)), (1, .int v1), (3, .int v3), (4, .int v4)] rfl 73 rfl ?_
  refine x_iinc hh dX8_weightOf_73 4 rfl (v4 + 1) rfl (by decide) [(4, .int (v4 + 1)), (2, .int (t1 + t0)), (0, .ref (X.2.1 59)), (1, .int v1), (3, .int v3)] rfl 76 rfl ?_
  refine x_goto hh dX8_weightOf_76 15 rfl ?_
  refine x_sub (lv' := [(0, .ref (X.2.1 59)), (1, .int v1), (2, .int (t1 + t0)), (3, .int v3), (4, .int (v4 + 1))]) [2, 3, 1, 4, 0] rfl ?_
  exact hk15 v1 (t1 + t0) v3 (v4 + 1) st hf
def F_X8_weightOf_70 (k4 : Int32 → Int32 → Int32 → St → Option (Int32 × St)) (k15 : Int32 → Int32 → Int32 → Int32 → St → Option (Int32 × St)) (v1 : Int32) (v3 : Int32) (v4 : Int32) (t0 : Int32) (st : St) : Option (Int32 × St) := F_X8_weightOf_71 k4 k15 v1 v3 v4 0 t0 st
set_option maxRecDepth 100000 in
set_option maxHeartbeats 4000000 in
theorem Z_X8_weightOf_70 {l : Launch} {X : Cx} (hX : Ok X) {p : Program} {e : Env} {s : State} {m : MethodId} {args : Array Value} {below : List Frame} {meth : Method} {c : Code} {rr : Int32} {st' : St} (hh : Hy X p s m args meth c cX8_weightOf 5 RX8) (hr : meth.sig.returnType = some .int) {k4 : Int32 → Int32 → Int32 → St → Option (Int32 × St)} (hk4 : ∀ (v1 : Int32) (v2 : Int32) (v3 : Int32) (st : St), k4 v1 v2 v3 st = some (rr, st') → Z X p l e (rmk 1) s m args below meth c 5 (MQ below (Qf X (some (.int rr)) st') args s 0 0 (cA X)) 4 [(0, .ref (X.2.1 59)), (1, .int v1), (2, .int v2), (3, .int v3)] [] st) {k15 : Int32 → Int32 → Int32 → Int32 → St → Option (Int32 × St)} (hk15 : ∀ (v1 : Int32) (v2 : Int32) (v3 : Int32) (v4 : Int32) (st : St), k15 v1 v2 v3 v4 st = some (rr, st') → Z X p l e (rmk 1) s m args below meth c 5 (MQ below (Qf X (some (.int rr)) st') args s 0 0 (cA X)) 15 [(0, .ref (X.2.1 59)), (1, .int v1), (2, .int v2), (3, .int v3), (4, .int v4)] [] st) (v1 : Int32) (v3 : Int32) (v4 : Int32) (t0 : Int32) (st : St) (hf : F_X8_weightOf_70 k4 k15 v1 v3 v4 t0 st = some (rr, st')) : Z X p l e (rmk 1) s m args below meth c 5 (MQ below (Qf X (some (.int rr)) st') args s 0 0 (cA X)) 70 [(0, .ref (X.2.1 59)), (1, .int v1), (3, .int v3), (4, .int v4)] [.int t0] st := by
  unfold F_X8_weightOf_70 at hf
  refine x_iconst hh dX8_weightOf_70 0 rfl 71 rfl ?_
  exact Z_X8_weightOf_71 hX hh hr hk4 hk15  v1 v3 v4 0 t0 st hf
def F_X8_weightOf_15 (k4 : Int32 → Int32 → Int32 → St → Option (Int32 × St)) : Nat → Int32 → Int32 → Int32 → Int32 → St → Option (Int32 × St)
  | 0, _, _, _, _, _ => none
  | n + 1, v1, v2, v3, v4, st => if v3 ≤ v4 then k4 v1 v2 (v3 + 1) st else (F_X8_has v1 v3 st).bind (fun q3 => if q3.1 = 0 then F_X8_weightOf_70 k4 (F_X8_weightOf_15 k4 n) v1 v3 v4 v2 q3.2 else (F_X8_has v1 v4 q3.2).bind (fun q5 => if q5.1 = 0 then F_X8_weightOf_70 k4 (F_X8_weightOf_15 k4 n) v1 v3 v4 v2 q5.2 else gi v3 6 (gi v4 6 (if (q5.2.1 85 v3.toNatClampNeg) = (q5.2.1 85 v4.toNatClampNeg) then gi ((6 * v3) + v4) 36 (F_X8_weightOf_71 k4 (F_X8_weightOf_15 k4 n) v1 v3 v4 (q5.2.1 66 ((6 * v3) + v4).toNatClampNeg) v2 q5.2) else F_X8_weightOf_70 k4 (F_X8_weightOf_15 k4 n) v1 v3 v4 v2 q5.2))))
set_option maxRecDepth 100000 in
set_option maxHeartbeats 4000000 in
theorem Z_X8_weightOf_15 {l : Launch} {X : Cx} (hX : Ok X) {p : Program} {e : Env} {s : State} {m : MethodId} {args : Array Value} {below : List Frame} {meth : Method} {c : Code} {rr : Int32} {st' : St} (hh : Hy X p s m args meth c cX8_weightOf 5 RX8) (hr : meth.sig.returnType = some .int) {k4 : Int32 → Int32 → Int32 → St → Option (Int32 × St)} (hk4 : ∀ (v1 : Int32) (v2 : Int32) (v3 : Int32) (st : St), k4 v1 v2 v3 st = some (rr, st') → Z X p l e (rmk 1) s m args below meth c 5 (MQ below (Qf X (some (.int rr)) st') args s 0 0 (cA X)) 4 [(0, .ref (X.2.1 59)), (1, .int v1), (2, .int v2), (3, .int v3)] [] st) : ∀ (n : Nat) (v1 : Int32) (v2 : Int32) (v3 : Int32) (v4 : Int32) (st : St), F_X8_weightOf_15 k4 n v1 v2 v3 v4 st = some (rr, st') → Z X p l e (rmk 1) s m args below meth c 5 (MQ below (Qf X (some (.int rr)) st') args s 0 0 (cA X)) 15 [(0, .ref (X.2.1 59)), (1, .int v1), (2, .int v2), (3, .int v3), (4, .int v4)] [] st := by
  intro n
  induction n with
  | zero =>
    intro v1 v2 v3 v4 st hf
    cases hf
  | succ n ih =>
    intro v1 v2 v3 v4 st hf
    rw [F_X8_weightOf_15] at hf
    refine x_iload hh dX8_weightOf_15 4 rfl 17 rfl ?_
    refine x_iload_n hh dX8_weightOf_17 rfl 3 rfl 18 rfl ?_
    refine x_icmp_ge hh dX8_weightOf_18 79 rfl 21 rfl (fun hc2 => ?_) (fun hc2 => ?_)
    · have hf := t_pos hc2 hf
      refine x_iinc hh dX8_weightOf_79 3 rfl (v3 + 1) rfl (by decide) [(3, .int (v3 + 1)), (0, .ref (X.2.1 59)), (1, .int v1), (2, .int v2), (4, .int v4)] rfl 82 rfl ?_
      refine x_goto hh dX8_weightOf_82 4 rfl ?_
      refine x_sub (lv' := [(0, .ref (X.2.1 59)), (1, .int v1), (2, .int v2), (3, .int (v3 + 1))]) [1, 2, 3, 0] rfl ?_
      exact hk4 v1 v2 (v3 + 1) st hf
    · have hf := t_neg hc2 hf
      refine x_iload_n hh dX8_weightOf_21 rfl 2 rfl 22 rfl ?_
      refine x_iload_n hh dX8_weightOf_22 rfl 1 rfl 23 rfl ?_
      refine x_iload_n hh dX8_weightOf_23 rfl 3 rfl 24 rfl ?_
      obtain ⟨q3, hq3, hf⟩ := b_some hf
      refine x_callS (rest := [.int v2]) hh ms_X8_has [.int v1, .int v3] dX8_weightOf_24 wd_1040 (C_X8_has l hX  hq3) rfl rfl ⟨Nat.le_of_ble_eq_true rfl, Nat.le_of_ble_eq_true rfl⟩ (Nat.le_of_ble_eq_true rfl) 27 rfl [.int q3.1, .int v2] rfl ?_
      refine x_if_eq hh dX8_weightOf_27 70 rfl 30 rfl (fun hc4 => ?_) (fun hc4 => ?_)
      · have hf := t_pos hc4 hf
        refine x_sub (lv' := [(0, .ref (X.2.1 59)), (1, .int v1), (3, .int v3), (4, .int v4)]) [0, 1, 3, 4] rfl ?_
        exact Z_X8_weightOf_70 hX hh hr hk4 ih  v1 v3 v4 v2 q3.2 hf
      · have hf := t_neg hc4 hf
        refine x_iload_n hh dX8_weightOf_30 rfl 1 rfl 31 rfl ?_
        refine x_iload hh dX8_weightOf_31 4 rfl 33 rfl ?_
        obtain ⟨q5, hq5, hf⟩ := b_some hf
        refine x_callS (rest := [.int v2]) hh ms_X8_has [.int v1, .int v4] dX8_weightOf_33 wd_1040 (C_X8_has l hX  hq5) rfl rfl ⟨Nat.le_of_ble_eq_true rfl, Nat.le_of_ble_eq_true rfl⟩ (Nat.le_of_ble_eq_true rfl) 36 rfl [.int q5.1, .int v2] rfl ?_
        refine x_if_eq hh dX8_weightOf_36 70 rfl 39 rfl (fun hc6 => ?_) (fun hc6 => ?_)
        · have hf := t_pos hc6 hf
          refine x_sub (lv' := [(0, .ref (X.2.1 59)), (1, .int v1), (3, .int v3), (4, .int v4)]) [0, 1, 3, 4] rfl ?_
          exact Z_X8_weightOf_70 hX hh hr hk4 ih  v1 v3 v4 v2 q5.2 hf
        · have hf := t_neg hc6 hf
          refine x_aload_n hh dX8_weightOf_39 rfl 0 rfl 40 rfl ?_
          refine x_getR hh cl_8 dX8_weightOf_40 sh_59 40 85 rfl (Nat.le_of_ble_eq_true rfl) wd_840 43 rfl ?_
          refine x_iload_n hh dX8_weightOf_43 rfl 3 rfl 44 rfl ?_
          obtain ⟨hi7, hf⟩ := gi_some hf
          refine x_iaload hh dX8_weightOf_44 sh_85 hi7 45 rfl ?_
          refine x_aload_n hh dX8_weightOf_45 rfl 0 rfl 46 rfl ?_
          refine x_getR hh cl_8 dX8_weightOf_46 sh_59 40 85 rfl (Nat.le_of_ble_eq_true rfl) wd_840 49 rfl ?_
          refine x_iload hh dX8_weightOf_49 4 rfl 51 rfl ?_
          obtain ⟨hi8, hf⟩ := gi_some hf
          refine x_iaload hh dX8_weightOf_51 sh_85 hi8 52 rfl ?_
          refine x_icmp_ne hh dX8_weightOf_52 70 rfl 55 rfl (fun hc9 => ?_) (fun hc9 => ?_)
          · have hf := t_neg hc9 hf
            refine x_sub (lv' := [(0, .ref (X.2.1 59)), (1, .int v1), (3, .int v3), (4, .int v4)]) [0, 1, 3, 4] rfl ?_
            exact Z_X8_weightOf_70 hX hh hr hk4 ih  v1 v3 v4 v2 q5.2 hf
          · have hf := t_pos hc9 hf
            refine x_aload_n hh dX8_weightOf_55 rfl 0 rfl 56 rfl ?_
            refine x_getR hh cl_8 dX8_weightOf_56 sh_59 9 66 rfl (Nat.le_of_ble_eq_true rfl) wd_809 59 rfl ?_
            refine x_bipush hh dX8_weightOf_59 6 rfl 61 rfl ?_
            refine x_iload_n hh dX8_weightOf_61 rfl 3 rfl 62 rfl ?_
            refine x_imul hh dX8_weightOf_62 63 rfl ?_
            refine x_iload hh dX8_weightOf_63 4 rfl 65 rfl ?_
            refine x_iadd hh dX8_weightOf_65 66 rfl ?_
            obtain ⟨hi10, hf⟩ := gi_some hf
            refine x_iaload hh dX8_weightOf_66 sh_66 hi10 67 rfl ?_
            refine x_goto hh dX8_weightOf_67 71 rfl ?_
            refine x_sub (lv' := [(0, .ref (X.2.1 59)), (1, .int v1), (3, .int v3), (4, .int v4)]) [0, 1, 3, 4] rfl ?_
            exact Z_X8_weightOf_71 hX hh hr hk4 ih  v1 v3 v4 (q5.2.1 66 ((6 * v3) + v4).toNatClampNeg) v2 q5.2 hf
def F_X8_weightOf_4 : Nat → Int32 → Int32 → Int32 → St → Option (Int32 × St)
  | 0, _, _, _, _ => none
  | n + 1, v1, v2, v3, st => if (st.1 59 3) ≤ v3 then some (v2, st) else F_X8_weightOf_15 (F_X8_weightOf_4 n) fN v1 v2 v3 0 st
set_option maxRecDepth 100000 in
set_option maxHeartbeats 4000000 in
theorem Z_X8_weightOf_4 {l : Launch} {X : Cx} (hX : Ok X) {p : Program} {e : Env} {s : State} {m : MethodId} {args : Array Value} {below : List Frame} {meth : Method} {c : Code} {rr : Int32} {st' : St} (hh : Hy X p s m args meth c cX8_weightOf 5 RX8) (hr : meth.sig.returnType = some .int) : ∀ (n : Nat) (v1 : Int32) (v2 : Int32) (v3 : Int32) (st : St), F_X8_weightOf_4 n v1 v2 v3 st = some (rr, st') → Z X p l e (rmk 1) s m args below meth c 5 (MQ below (Qf X (some (.int rr)) st') args s 0 0 (cA X)) 4 [(0, .ref (X.2.1 59)), (1, .int v1), (2, .int v2), (3, .int v3)] [] st := by
  intro n
  induction n with
  | zero =>
    intro v1 v2 v3 st hf
    cases hf
  | succ n ih =>
    intro v1 v2 v3 st hf
    rw [F_X8_weightOf_4] at hf
    refine x_iload_n hh dX8_weightOf_4 rfl 3 rfl 5 rfl ?_
    refine x_aload_n hh dX8_weightOf_5 rfl 0 rfl 6 rfl ?_
    refine x_getI hh cl_8 dX8_weightOf_6 sh_59 3 rfl (Nat.le_of_ble_eq_true rfl) wd_803 9 rfl ?_
    refine x_icmp_ge hh dX8_weightOf_9 85 rfl 12 rfl (fun hc1 => ?_) (fun hc1 => ?_)
    · have hf := t_pos hc1 hf
      refine x_iload_n hh dX8_weightOf_85 rfl 2 rfl 86 rfl ?_
      obtain ⟨rfl, rfl⟩ := ret2 hf
      exact x_iret hh hr dX8_weightOf_86
    · have hf := t_neg hc1 hf
      refine x_iconst hh dX8_weightOf_12 0 rfl 13 rfl ?_
      refine x_istore hh dX8_weightOf_13 (by decide) [(4, .int 0), (0, .ref (X.2.1 59)), (1, .int v1), (2, .int v2), (3, .int v3)] rfl 15 rfl ?_
      refine x_sub (lv' := [(0, .ref (X.2.1 59)), (1, .int v1), (2, .int v2), (3, .int v3), (4, .int 0)]) [1, 2, 3, 4, 0] rfl ?_
      exact Z_X8_weightOf_15 hX hh hr ih fN v1 v2 v3 0 st hf
def F_X8_weightOf_0 (v1 : Int32) (st : St) : Option (Int32 × St) := F_X8_weightOf_4 fN v1 0 0 st
set_option maxRecDepth 100000 in
set_option maxHeartbeats 4000000 in
theorem Z_X8_weightOf_0 {l : Launch} {X : Cx} (hX : Ok X) {p : Program} {e : Env} {s : State} {m : MethodId} {args : Array Value} {below : List Frame} {meth : Method} {c : Code} {rr : Int32} {st' : St} (hh : Hy X p s m args meth c cX8_weightOf 5 RX8) (hr : meth.sig.returnType = some .int) (v1 : Int32) (st : St) (hf : F_X8_weightOf_0 v1 st = some (rr, st')) : Z X p l e (rmk 1) s m args below meth c 5 (MQ below (Qf X (some (.int rr)) st') args s 0 0 (cA X)) 0 [(0, .ref (X.2.1 59)), (1, .int v1)] [] st := by
  unfold F_X8_weightOf_0 at hf
  refine x_iconst hh dX8_weightOf_0 0 rfl 1 rfl ?_
  refine x_istore_n hh dX8_weightOf_1 rfl (by decide) [(2, .int 0), (0, .ref (X.2.1 59)), (1, .int v1)] rfl 2 rfl ?_
  refine x_iconst hh dX8_weightOf_2 0 rfl 3 rfl ?_
  refine x_istore_n hh dX8_weightOf_3 rfl (by decide) [(3, .int 0), (2, .int 0), (0, .ref (X.2.1 59)), (1, .int v1)] rfl 4 rfl ?_
  refine x_sub (lv' := [(0, .ref (X.2.1 59)), (1, .int v1), (2, .int 0), (3, .int 0)]) [2, 3, 1, 0] rfl ?_
  exact Z_X8_weightOf_4 hX hh hr fN v1 0 0 st hf
def F_X8_weightOf (v1 : Int32) (st : St) : Option (Int32 × St) := F_X8_weightOf_0  v1 st
set_option maxRecDepth 100000 in
theorem C_X8_weightOf (l : Launch) {X : Cx} (hX : Ok X) {v1 : Int32} {st : St} {q : Int32 × St} (hf : F_X8_weightOf v1 st = some q) : Ct l X 1 yX8_weightOf (.code yX8_weightOf cX8_weightOf 5 (some .int)) [.ref (X.2.1 59), .int v1] st (some (.int q.1)) q.2 := by
  refine Ct.of hX (by decide) (Nat.le_of_ble_eq_true rfl) ?_
  intro p e s m args below meth c hh hr
  exact Z_X8_weightOf_0 hX hh hr v1 st hf

def F_X8_findFeast_29 (k4 : Int32 → Int32 → Int32 → St → Option (Int32 × St)) (v1 : Int32) (v3 : Int32) (t0 : Int32) (t1 : Int32) (st : St) : Option (Int32 × St) := k4 v1 (t1 * t0) (v3 + 1) st
set_option maxRecDepth 100000 in
set_option maxHeartbeats 4000000 in
theorem Z_X8_findFeast_29 {l : Launch} {X : Cx} (hX : Ok X) {p : Program} {e : Env} {s : State} {m : MethodId} {args : Array Value} {below : List Frame} {meth : Method} {c : Code} {rr : Int32} {st' : St} (hh : Hy X p s m args meth c cX8_findFeast 8 RX8) (hr : meth.sig.returnType = some .int) {k4 : Int32 → Int32 → Int32 → St → Option (Int32 × St)} (hk4 : ∀ (v1 : Int32) (v2 : Int32) (v3 : Int32) (st : St), k4 v1 v2 v3 st = some (rr, st') → Z X p l e (rmk 4) s m args below meth c 8 (MQ below (Qf X (some (.int rr)) st') args s 0 0 (cA X)) 4 [(0, .ref (X.2.1 59)), (1, .int v1), (2, .int v2), (3, .int v3)] [] st) (v1 : Int32) (v3 : Int32) (t0 : Int32) (t1 : Int32) (st : St) (hf : F_X8_findFeast_29 k4 v1 v3 t0 t1 st = some (rr, st')) : Z X p l e (rmk 4) s m args below meth c 8 (MQ below (Qf X (some (.int rr)) st') args s 0 0 (cA X)) 29 [(0, .ref (X.2.1 59)), (1, .int v1), (3, .int v3)] [.int t0, .int t1] st := by
  unfold F_X8_findFeast_29 at hf
  refine x_imul hh dX8_findFeast_29 30 rfl ?_
  refine x_istore_n hh dX8_findFeast_30 rfl (by decide) [(2, .int (t1 * t0)), (0, .ref (X.2.1 59)), (1, .int v1), (3, .int v3)] rfl 31 rfl ?_
  refine x_iinc hh dX8_findFeast_31 3 rfl (v3 + 1) rfl (by decide) [(3, .int (v3 + 1)), (2, .int (t1 * t0)), (0, .ref (X.2.1 59)), (1, .int v1)] rfl 34 rfl ?_
  refine x_goto hh dX8_findFeast_34 4 rfl ?_
  refine x_sub (lv' := [(0, .ref (X.2.1 59)), (1, .int v1), (2, .int (t1 * t0)), (3, .int (v3 + 1))]) [2, 3, 1, 0] rfl ?_
  exact hk4 v1 (t1 * t0) (v3 + 1) st hf
def F_X8_findFeast_94 (k39 : Int32 → Int32 → Int32 → St → Option (Int32 × St)) (k50 : Int32 → Int32 → Int32 → Int32 → St → Option (Int32 × St)) (v1 : Int32) (v2 : Int32) (v3 : Int32) (v4 : Int32) (t0 : Int32) (t1 : Int32) (st : St) : Option (Int32 × St) := gi t1 192 (bs (sV st 84 t1.toNatClampNeg t0) (fun st10 => k50 v1 v2 v3 (v4 + 1) st10))
set_option maxRecDepth 100000 in
set_option maxHeartbeats 4000000 in
theorem Z_X8_findFeast_94 {l : Launch} {X : Cx} (hX : Ok X) {p : Program} {e : Env} {s : State} {m : MethodId} {args : Array Value} {below : List Frame} {meth : Method} {c : Code} {rr : Int32} {st' : St} (hh : Hy X p s m args meth c cX8_findFeast 8 RX8) (hr : meth.sig.returnType = some .int) {k39 : Int32 → Int32 → Int32 → St → Option (Int32 × St)} (hk39 : ∀ (v1 : Int32) (v2 : Int32) (v3 : Int32) (st : St), k39 v1 v2 v3 st = some (rr, st') → Z X p l e (rmk 4) s m args below meth c 8 (MQ below (Qf X (some (.int rr)) st') args s 0 0 (cA X)) 39 [(0, .ref (X.2.1 59)), (1, .int v1), (2, .int v2), (3, .int v3)] [] st) {k50 : Int32 → Int32 → Int32 → Int32 → St → Option (Int32 × St)} (hk50 : ∀ (v1 : Int32) (v2 : Int32) (v3 : Int32) (v4 : Int32) (st : St), k50 v1 v2 v3 v4 st = some (rr, st') → Z X p l e (rmk 4) s m args below meth c 8 (MQ below (Qf X (some (.int rr)) st') args s 0 0 (cA X)) 50 [(0, .ref (X.2.1 59)), (1, .int v1), (2, .int v2), (3, .int v3), (4, .int v4)] [] st) (v1 : Int32) (v2 : Int32) (v3 : Int32) (v4 : Int32) (t0 : Int32) (t1 : Int32) (st : St) (hf : F_X8_findFeast_94 k39 k50 v1 v2 v3 v4 t0 t1 st = some (rr, st')) : Z X p l e (rmk 4) s m args below meth c 8 (MQ below (Qf X (some (.int rr)) st') args s 0 0 (cA X)) 94 [(0, .ref (X.2.1 59)), (1, .int v1), (2, .int v2), (3, .int v3), (4, .int v4)] [.int t0, .int t1, .ref (X.2.1 84)] st := by
  unfold F_X8_findFeast_94 at hf
  obtain ⟨hi9, hf⟩ := gi_some hf
  obtain ⟨st10, est10, hf⟩ := bs_some hf
  refine x_iastore hh dX8_findFeast_94 sh_84 hi9 95 rfl st10 est10 ?_
  refine x_iinc hh dX8_findFeast_95 4 rfl (v4 + 1) rfl (by decide) [(4, .int (v4 + 1)), (0, .ref (X.2.1 59)), (1, .int v1), (2, .int v2), (3, .int v3)] rfl 98 rfl ?_
  refine x_goto hh dX8_findFeast_98 50 rfl ?_
  refine x_sub (lv' := [(0, .ref (X.2.1 59)), (1, .int v1), (2, .int v2), (3, .int v3), (4, .int (v4 + 1))]) [1, 2, 3, 4, 0] rfl ?_
  exact hk50 v1 v2 v3 (v4 + 1) st10 hf
def F_X8_findFeast_50 (k39 : Int32 → Int32 → Int32 → St → Option (Int32 × St)) : Nat → Int32 → Int32 → Int32 → Int32 → St → Option (Int32 × St)
  | 0, _, _, _, _, _ => none
  | n + 1, v1, v2, v3, v4, st => if ((1 : Int32) <<< ((st.1 59 3) &&& 31)) ≤ v4 then k39 v1 v2 (v3 + 1) st else if (v4 &&& (v1 ^^^ ((-1)))) = 0 then (F_X8_partyOf v3 v4 st).bind (fun q8 => F_X8_findFeast_94 k39 (F_X8_findFeast_50 k39 n) v1 v2 v3 v4 q8.1 ((64 * v3) + v4) q8.2) else F_X8_findFeast_94 k39 (F_X8_findFeast_50 k39 n) v1 v2 v3 v4 1000000 ((64 * v3) + v4) st
set_option maxRecDepth 100000 in
set_option maxHeartbeats 4000000 in
theorem Z_X8_findFeast_50 {l : Launch} {X : Cx} (hX : Ok X) {p : Program} {e : Env} {s : State} {m : MethodId} {args : Array Value} {below : List Frame} {meth : Method} {c : Code} {rr : Int32} {st' : St} (hh : Hy X p s m args meth c cX8_findFeast 8 RX8) (hr : meth.sig.returnType = some .int) {k39 : Int32 → Int32 → Int32 → St → Option (Int32 × St)} (hk39 : ∀ (v1 : Int32) (v2 : Int32) (v3 : Int32) (st : St), k39 v1 v2 v3 st = some (rr, st') → Z X p l e (rmk 4) s m args below meth c 8 (MQ below (Qf X (some (.int rr)) st') args s 0 0 (cA X)) 39 [(0, .ref (X.2.1 59)), (1, .int v1), (2, .int v2), (3, .int v3)] [] st) : ∀ (n : Nat) (v1 : Int32) (v2 : Int32) (v3 : Int32) (v4 : Int32) (st : St), F_X8_findFeast_50 k39 n v1 v2 v3 v4 st = some (rr, st') → Z X p l e (rmk 4) s m args below meth c 8 (MQ below (Qf X (some (.int rr)) st') args s 0 0 (cA X)) 50 [(0, .ref (X.2.1 59)), (1, .int v1), (2, .int v2), (3, .int v3), (4, .int v4)] [] st := by
  intro n
  induction n with
  | zero =>
    intro v1 v2 v3 v4 st hf
    cases hf
  | succ n ih =>
    intro v1 v2 v3 v4 st hf
    rw [F_X8_findFeast_50] at hf
    refine x_iload hh dX8_findFeast_50 4 rfl 52 rfl ?_
    refine x_iconst hh dX8_findFeast_52 1 rfl 53 rfl ?_
    refine x_aload_n hh dX8_findFeast_53 rfl 0 rfl 54 rfl ?_
    refine x_getI hh cl_8 dX8_findFeast_54 sh_59 3 rfl (Nat.le_of_ble_eq_true rfl) wd_803 57 rfl ?_
    refine x_ishl hh dX8_findFeast_57 58 rfl ?_
    refine x_icmp_ge hh dX8_findFeast_58 101 rfl 61 rfl (fun hc6 => ?_) (fun hc6 => ?_)
    · have hf := t_pos hc6 hf
      refine x_iinc hh dX8_findFeast_101 3 rfl (v3 + 1) rfl (by decide) [(3, .int (v3 + 1)), (0, .ref (X.2.1 59)), (1, .int v1), (2, .int v2), (4, .int v4)] rfl 104 rfl ?_
      refine x_goto hh dX8_findFeast_104 39 rfl ?_
      refine x_sub (lv' := [(0, .ref (X.2.1 59)), (1, .int v1), (2, .int v2), (3, .int (v3 + 1))]) [1, 2, 3, 0] rfl ?_
      exact hk39 v1 v2 (v3 + 1) st hf
    · have hf := t_neg hc6 hf
      refine x_aload_n hh dX8_findFeast_61 rfl 0 rfl 62 rfl ?_
      refine x_getR hh cl_8 dX8_findFeast_62 sh_59 39 84 rfl (Nat.le_of_ble_eq_true rfl) wd_839 65 rfl ?_
      refine x_bipush hh dX8_findFeast_65 64 rfl 67 rfl ?_
      refine x_iload_n hh dX8_findFeast_67 rfl 3 rfl 68 rfl ?_
      refine x_imul hh dX8_findFeast_68 69 rfl ?_
      refine x_iload hh dX8_findFeast_69 4 rfl 71 rfl ?_
      refine x_iadd hh dX8_findFeast_71 72 rfl ?_
      refine x_iload hh dX8_findFeast_72 4 rfl 74 rfl ?_
      refine x_iload_n hh dX8_findFeast_74 rfl 1 rfl 75 rfl ?_
      refine x_iconst hh dX8_findFeast_75 (-1) rfl 76 rfl ?_
      refine x_ixor hh dX8_findFeast_76 77 rfl ?_
      refine x_iand hh dX8_findFeast_77 78 rfl ?_
      refine x_if_ne hh dX8_findFeast_78 91 rfl 81 rfl (fun hc7 => ?_) (fun hc7 => ?_)
      · have hf := t_neg hc7 hf
        refine x_ldc_w hh dX8_findFeast_91 wd_1056 94 rfl ?_
        exact Z_X8_findFeast_94 hX hh hr hk39 ih  v1 v2 v3 v4 1000000 ((64 * v3) + v4) st hf
      · have hf := t_pos hc7 hf
        refine x_aload_n hh dX8_findFeast_81 rfl 0 rfl 82 rfl ?_
        refine x_iload_n hh dX8_findFeast_82 rfl 3 rfl 83 rfl ?_
        refine x_iload hh dX8_findFeast_83 4 rfl 85 rfl ?_
        obtain ⟨q8, hq8, hf⟩ := b_some hf
        refine x_callV (rest := [.int ((64 * v3) + v4), .ref (X.2.1 84)]) hh mi_X8_partyOf [.int v3, .int v4] dX8_findFeast_85 sh_59 wd_1085 (C_X8_partyOf l hX  hq8) rfl rfl ⟨Nat.le_of_ble_eq_true rfl, Nat.le_of_ble_eq_true rfl⟩ (Nat.le_of_ble_eq_true rfl) 88 rfl [.int q8.1, .int ((64 * v3) + v4), .ref (X.2.1 84)] rfl ?_
        refine x_goto hh dX8_findFeast_88 94 rfl ?_
        exact Z_X8_findFeast_94 hX hh hr hk39 ih  v1 v2 v3 v4 q8.1 ((64 * v3) + v4) q8.2 hf
def F_X8_findFeast_214 (k119 : Int32 → Int32 → Int32 → Int32 → St → Option (Int32 × St)) (v1 : Int32) (v2 : Int32) (v3 : Int32) (v4 : Int32) (st : St) : Option (Int32 × St) := k119 v1 v2 v3 (v4 + 1) st
set_option maxRecDepth 100000 in
set_option maxHeartbeats 4000000 in
theorem Z_X8_findFeast_214 {l : Launch} {X : Cx} (hX : Ok X) {p : Program} {e : Env} {s : State} {m : MethodId} {args : Array Value} {below : List Frame} {meth : Method} {c : Code} {rr : Int32} {st' : St} (hh : Hy X p s m args meth c cX8_findFeast 8 RX8) (hr : meth.sig.returnType = some .int) {k119 : Int32 → Int32 → Int32 → Int32 → St → Option (Int32 × St)} (hk119 : ∀ (v1 : Int32) (v2 : Int32) (v3 : Int32) (v4 : Int32) (st : St), k119 v1 v2 v3 v4 st = some (rr, st') → Z X p l e (rmk 4) s m args below meth c 8 (MQ below (Qf X (some (.int rr)) st') args s 0 0 (cA X)) 119 [(0, .ref (X.2.1 59)), (1, .int v1), (2, .int v2), (3, .int v3), (4, .int v4)] [] st) (v1 : Int32) (v2 : Int32) (v3 : Int32) (v4 : Int32) (st : St) (hf : F_X8_findFeast_214 k119 v1 v2 v3 v4 st = some (rr, st')) : Z X p l e (rmk 4) s m args below meth c 8 (MQ below (Qf X (some (.int rr)) st') args s 0 0 (cA X)) 214 [(0, .ref (X.2.1 59)), (1, .int v1), (2, .int v2), (3, .int v3), (4, .int v4)] [] st := by
  unfold F_X8_findFeast_214 at hf
  refine x_iinc hh dX8_findFeast_214 4 rfl (v4 + 1) rfl (by decide) [(4, .int (v4 + 1)), (0, .ref (X.2.1 59)), (1, .int v1), (2, .int v2), (3, .int v3)] rfl 217 rfl ?_
  refine x_goto hh dX8_findFeast_217 119 rfl ?_
  refine x_sub (lv' := [(0, .ref (X.2.1 59)), (1, .int v1), (2, .int v2), (3, .int v3), (4, .int (v4 + 1))]) [1, 2, 3, 4, 0] rfl ?_
  exact hk119 v1 v2 v3 (v4 + 1) st hf
def F_X8_findFeast_187 (k119 : Int32 → Int32 → Int32 → Int32 → St → Option (Int32 × St)) : Nat → Int32 → Int32 → Int32 → Int32 → Int32 → St → Option (Int32 × St)
  | 0, _, _, _, _, _, _ => none
  | n + 1, v1, v2, v3, v4, v7, st => if (6 : Int32) ≤ v7 then F_X8_findFeast_214 k119 v1 v2 v3 v4 st else gi v7 6 (gi v7 6 (bs (sV st 86 v7.toNatClampNeg (st.1 85 v7.toNatClampNeg)) (fun st23 => F_X8_findFeast_187 k119 n v1 v2 v3 v4 (v7 + 1) st23)))
set_option maxRecDepth 100000 in
set_option maxHeartbeats 4000000 in
theorem Z_X8_findFeast_187 {l : Launch} {X : Cx} (hX : Ok X) {p : Program} {e : Env} {s : State} {m : MethodId} {args : Array Value} {below : List Frame} {meth : Method} {c : Code} {rr : Int32} {st' : St} (hh : Hy X p s m args meth c cX8_findFeast 8 RX8) (hr : meth.sig.returnType = some .int) {k119 : Int32 → Int32 → Int32 → Int32 → St → Option (Int32 × St)} (hk119 : ∀ (v1 : Int32) (v2 : Int32) (v3 : Int32) (v4 : Int32) (st : St), k119 v1 v2 v3 v4 st = some (rr, st') → Z X p l e (rmk 4) s m args below meth c 8 (MQ below (Qf X (some (.int rr)) st') args s 0 0 (cA X)) 119 [(0, .ref (X.2.1 59)), (1, .int v1), (2, .int v2), (3, .int v3), (4, .int v4)] [] st) : ∀ (n : Nat) (v1 : Int32) (v2 : Int32) (v3 : Int32) (v4 : Int32) (v7 : Int32) (st : St), F_X8_findFeast_187 k119 n v1 v2 v3 v4 v7 st = some (rr, st') → Z X p l e (rmk 4) s m args below meth c 8 (MQ below (Qf X (some (.int rr)) st') args s 0 0 (cA X)) 187 [(0, .ref (X.2.1 59)), (1, .int v1), (2, .int v2), (3, .int v3), (4, .int v4), (7, .int v7)] [] st := by
  intro n
  induction n with
  | zero =>
    intro v1 v2 v3 v4 v7 st hf
    cases hf
  | succ n ih =>
    intro v1 v2 v3 v4 v7 st hf
    rw [F_X8_findFeast_187] at hf
    refine x_iload hh dX8_findFeast_187 5 rfl 189 rfl ?_
    refine x_bipush hh dX8_findFeast_189 6 rfl 191 rfl ?_
    refine x_icmp_ge hh dX8_findFeast_191 214 rfl 194 rfl (fun hc20 => ?_) (fun hc20 => ?_)
    · have hf := t_pos hc20 hf
      refine x_sub (lv' := [(0, .ref (X.2.1 59)), (1, .int v1), (2, .int v2), (3, .int v3), (4, .int v4)]) [0, 1, 2, 3, 4] rfl ?_
      exact Z_X8_findFeast_214 hX hh hr hk119  v1 v2 v3 v4 st hf
    · have hf := t_neg hc20 hf
      refine x_aload_n hh dX8_findFeast_194 rfl 0 rfl 195 rfl ?_
      refine x_getR hh cl_8 dX8_findFeast_195 sh_59 41 86 rfl (Nat.le_of_ble_eq_true rfl) wd_841 198 rfl ?_
      refine x_iload hh dX8_findFeast_198 5 rfl 200 rfl ?_
      refine x_aload_n hh dX8_findFeast_200 rfl 0 rfl 201 rfl ?_
      refine x_getR hh cl_8 dX8_findFeast_201 sh_59 40 85 rfl (Nat.le_of_ble_eq_true rfl) wd_840 204 rfl ?_
      refine x_iload hh dX8_findFeast_204 5 rfl 206 rfl ?_
      obtain ⟨hi21, hf⟩ := gi_some hf
      refine x_iaload hh dX8_findFeast_206 sh_85 hi21 207 rfl ?_
      obtain ⟨hi22, hf⟩ := gi_some hf
      obtain ⟨st23, est23, hf⟩ := bs_some hf
      refine x_iastore hh dX8_findFeast_207 sh_86 hi22 208 rfl st23 est23 ?_
      refine x_iinc hh dX8_findFeast_208 5 rfl (v7 + 1) rfl (by decide) [(7, .int (v7 + 1)), (0, .ref (X.2.1 59)), (1, .int v1), (2, .int v2), (3, .int v3), (4, .int v4)] rfl 211 rfl ?_
      refine x_goto hh dX8_findFeast_211 187 rfl ?_
      refine x_sub (lv' := [(0, .ref (X.2.1 59)), (1, .int v1), (2, .int v2), (3, .int v3), (4, .int v4), (7, .int (v7 + 1))]) [1, 2, 3, 4, 5, 0] rfl ?_
      exact ih v1 v2 v3 v4 (v7 + 1) st23 hf
def F_X8_findFeast_175 (k119 : Int32 → Int32 → Int32 → Int32 → St → Option (Int32 × St)) (v1 : Int32) (v2 : Int32) (v4 : Int32) (v5 : Int32) (v6 : Int32) (st : St) : Option (Int32 × St) := bs (sV st 59 42 v6) (fun st19 => F_X8_findFeast_187 k119 fN v1 v2 v5 v4 0 st19)
set_option maxRecDepth 100000 in
set_option maxHeartbeats 4000000 in
theorem Z_X8_findFeast_175 {l : Launch} {X : Cx} (hX : Ok X) {p : Program} {e : Env} {s : State} {m : MethodId} {args : Array Value} {below : List Frame} {meth : Method} {c : Code} {rr : Int32} {st' : St} (hh : Hy X p s m args meth c cX8_findFeast 8 RX8) (hr : meth.sig.returnType = some .int) {k119 : Int32 → Int32 → Int32 → Int32 → St → Option (Int32 × St)} (hk119 : ∀ (v1 : Int32) (v2 : Int32) (v3 : Int32) (v4 : Int32) (st : St), k119 v1 v2 v3 v4 st = some (rr, st') → Z X p l e (rmk 4) s m args below meth c 8 (MQ below (Qf X (some (.int rr)) st') args s 0 0 (cA X)) 119 [(0, .ref (X.2.1 59)), (1, .int v1), (2, .int v2), (3, .int v3), (4, .int v4)] [] st) (v1 : Int32) (v2 : Int32) (v4 : Int32) (v5 : Int32) (v6 : Int32) (st : St) (hf : F_X8_findFeast_175 k119 v1 v2 v4 v5 v6 st = some (rr, st')) : Z X p l e (rmk 4) s m args below meth c 8 (MQ below (Qf X (some (.int rr)) st') args s 0 0 (cA X)) 175 [(0, .ref (X.2.1 59)), (1, .int v1), (2, .int v2), (4, .int v4), (5, .int v5), (6, .int v6)] [] st := by
  unfold F_X8_findFeast_175 at hf
  refine x_iload hh dX8_findFeast_175 4 rfl 177 rfl ?_
  refine x_istore_n hh dX8_findFeast_177 rfl (by decide) [(3, .int v5), (0, .ref (X.2.1 59)), (1, .int v1), (2, .int v2), (4, .int v4), (5, .int v5), (6, .int v6)] rfl 178 rfl ?_
  refine x_aload_n hh dX8_findFeast_178 rfl 1 rfl 179 rfl ?_
  refine x_iload hh dX8_findFeast_179 6 rfl 181 rfl ?_
  obtain ⟨st19, est19, hf⟩ := bs_some hf
  refine x_putI hh cl_8 dX8_findFeast_181 sh_59 42 rfl (Nat.le_of_ble_eq_true rfl) wd_842 rfl rfl rfl 184 rfl st19 est19 ?_
  refine x_iconst hh dX8_findFeast_184 0 rfl 185 rfl ?_
  refine x_istore hh dX8_findFeast_185 (by decide) [(7, .int 0), (3, .int v5), (0, .ref (X.2.1 59)), (1, .int v1), (2, .int v2), (4, .int v4), (5, .int v5), (6, .int v6)] rfl 187 rfl ?_
  refine x_sub (lv' := [(0, .ref (X.2.1 59)), (1, .int v1), (2, .int v2), (3, .int v5), (4, .int v4), (7, .int 0)]) [2, 3, 4, 1, 5, 0] rfl ?_
  exact Z_X8_findFeast_187 hX hh hr hk119 fN v1 v2 v5 v4 0 st19 hf
def F_X8_findFeast_119 : Nat → Int32 → Int32 → Int32 → Int32 → St → Option (Int32 × St)
  | 0, _, _, _, _, _ => none
  | n + 1, v1, v2, v3, v4, st => if v2 ≤ v4 then some (v3, st) else (F_X8_deal v1 v4 st).bind (fun q12 => (F_X8_sumOf v1 q12).bind (fun q13 => (F_X8_weightOf v1 q13.2).bind (fun q14 => if q13.1 < v3 then F_X8_findFeast_175 (F_X8_findFeast_119 n) v1 v2 v4 q13.1 q14.1 q14.2 else if q13.1 = v3 then if (1000000 : Int32) ≤ q13.1 then F_X8_findFeast_214 (F_X8_findFeast_119 n) v1 v2 v3 v4 q14.2 else if q14.1 ≤ (q14.2.1 59 42) then F_X8_findFeast_214 (F_X8_findFeast_119 n) v1 v2 v3 v4 q14.2 else F_X8_findFeast_175 (F_X8_findFeast_119 n) v1 v2 v4 q13.1 q14.1 q14.2 else F_X8_findFeast_214 (F_X8_findFeast_119 n) v1 v2 v3 v4 q14.2)))
set_option maxRecDepth 100000 in
set_option maxHeartbeats 4000000 in
theorem Z_X8_findFeast_119 {l : Launch} {X : Cx} (hX : Ok X) {p : Program} {e : Env} {s : State} {m : MethodId} {args : Array Value} {below : List Frame} {meth : Method} {c : Code} {rr : Int32} {st' : St} (hh : Hy X p s m args meth c cX8_findFeast 8 RX8) (hr : meth.sig.returnType = some .int) : ∀ (n : Nat) (v1 : Int32) (v2 : Int32) (v3 : Int32) (v4 : Int32) (st : St), F_X8_findFeast_119 n v1 v2 v3 v4 st = some (rr, st') → Z X p l e (rmk 4) s m args below meth c 8 (MQ below (Qf X (some (.int rr)) st') args s 0 0 (cA X)) 119 [(0, .ref (X.2.1 59)), (1, .int v1), (2, .int v2), (3, .int v3), (4, .int v4)] [] st := by
  intro n
  induction n with
  | zero =>
    intro v1 v2 v3 v4 st hf
    cases hf
  | succ n ih =>
    intro v1 v2 v3 v4 st hf
    rw [F_X8_findFeast_119] at hf
    refine x_iload hh dX8_findFeast_119 4 rfl 121 rfl ?_
    refine x_iload_n hh dX8_findFeast_121 rfl 2 rfl 122 rfl ?_
    refine x_icmp_ge hh dX8_findFeast_122 220 rfl 125 rfl (fun hc11 => ?_) (fun hc11 => ?_)
    · have hf := t_pos hc11 hf
      refine x_iload_n hh dX8_findFeast_220 rfl 3 rfl 221 rfl ?_
      obtain ⟨rfl, rfl⟩ := ret2 hf
      exact x_iret hh hr dX8_findFeast_221
    · have hf := t_neg hc11 hf
      refine x_aload_n hh dX8_findFeast_125 rfl 0 rfl 126 rfl ?_
      refine x_iload_n hh dX8_findFeast_126 rfl 1 rfl 127 rfl ?_
      refine x_iload hh dX8_findFeast_127 4 rfl 129 rfl ?_
      obtain ⟨q12, hq12, hf⟩ := b_some hf
      refine x_callV (rest := []) hh mi_X8_deal [.int v1, .int v4] dX8_findFeast_129 sh_59 wd_1104 (C_X8_deal l hX  hq12) rfl rfl ⟨Nat.le_of_ble_eq_true rfl, Nat.le_of_ble_eq_true rfl⟩ (Nat.le_of_ble_eq_true rfl) 132 rfl [] rfl ?_
      refine x_aload_n hh dX8_findFeast_132 rfl 0 rfl 133 rfl ?_
      refine x_iload_n hh dX8_findFeast_133 rfl 1 rfl 134 rfl ?_
      obtain ⟨q13, hq13, hf⟩ := b_some hf
      refine x_callV (rest := []) hh mi_X8_sumOf [.int v1] dX8_findFeast_134 sh_59 wd_1107 (C_X8_sumOf l hX  hq13) rfl rfl ⟨Nat.le_of_ble_eq_true rfl, Nat.le_of_ble_eq_true rfl⟩ (Nat.le_of_ble_eq_true rfl) 137 rfl [.int q13.1] rfl ?_
      refine x_istore hh dX8_findFeast_137 (by decide) [(5, .int q13.1), (0, .ref (X.2.1 59)), (1, .int v1), (2, .int v2), (3, .int v3), (4, .int v4)] rfl 139 rfl ?_
      refine x_aload_n hh dX8_findFeast_139 rfl 1 rfl 140 rfl ?_
      refine x_iload_n hh dX8_findFeast_140 rfl 2 rfl 141 rfl ?_
      obtain ⟨q14, hq14, hf⟩ := b_some hf
      refine x_callV (rest := []) hh mi_X8_weightOf [.int v1] dX8_findFeast_141 sh_59 wd_1110 (C_X8_weightOf l hX  hq14) rfl rfl ⟨Nat.le_of_ble_eq_true rfl, Nat.le_of_ble_eq_true rfl⟩ (Nat.le_of_ble_eq_true rfl) 144 rfl [.int q14.1] rfl ?_
      refine x_istore hh dX8_findFeast_144 (by decide) [(6, .int q14.1), (5, .int q13.1), (0, .ref (X.2.1 59)), (1, .int v1), (2, .int v2), (3, .int v3), (4, .int v4)] rfl 146 rfl ?_
      refine x_iload hh dX8_findFeast_146 1 rfl 148 rfl ?_
      refine x_iload_n hh dX8_findFeast_148 rfl 5 rfl 149 rfl ?_
      refine x_icmp_lt hh dX8_findFeast_149 175 rfl 152 rfl (fun hc15 => ?_) (fun hc15 => ?_)
      · have hf := t_pos hc15 hf
        refine x_sub (lv' := [(0, .ref (X.2.1 59)), (1, .int v1), (2, .int v2), (4, .int v4), (5, .int q13.1), (6, .int q14.1)]) [2, 3, 4, 6, 1, 0] rfl ?_
        exact Z_X8_findFeast_175 hX hh hr ih  v1 v2 v4 q13.1 q14.1 q14.2 hf
      · have hf := t_neg hc15 hf
        refine x_iload hh dX8_findFeast_152 1 rfl 154 rfl ?_
        refine x_iload_n hh dX8_findFeast_154 rfl 5 rfl 155 rfl ?_
        refine x_icmp_ne hh dX8_findFeast_155 214 rfl 158 rfl (fun hc16 => ?_) (fun hc16 => ?_)
        · have hf := t_neg hc16 hf
          refine x_sub (lv' := [(0, .ref (X.2.1 59)), (1, .int v1), (2, .int v2), (3, .int v3), (4, .int v4)]) [2, 3, 4, 5, 6] rfl ?_
          exact Z_X8_findFeast_214 hX hh hr ih  v1 v2 v3 v4 q14.2 hf
        · have hf := t_pos hc16 hf
          refine x_iload hh dX8_findFeast_158 1 rfl 160 rfl ?_
          refine x_ldc_w hh dX8_findFeast_160 wd_1056 163 rfl ?_
          refine x_icmp_ge hh dX8_findFeast_163 214 rfl 166 rfl (fun hc17 => ?_) (fun hc17 => ?_)
          · have hf := t_pos hc17 hf
            refine x_sub (lv' := [(0, .ref (X.2.1 59)), (1, .int v1), (2, .int v2), (3, .int v3), (4, .int v4)]) [2, 3, 4, 5, 6] rfl ?_
            exact Z_X8_findFeast_214 hX hh hr ih  v1 v2 v3 v4 q14.2 hf
          · have hf := t_neg hc17 hf
            refine x_iload hh dX8_findFeast_166 0 rfl 168 rfl ?_
            refine x_aload_n hh dX8_findFeast_168 rfl 2 rfl 169 rfl ?_
            refine x_getI hh cl_8 dX8_findFeast_169 sh_59 42 rfl (Nat.le_of_ble_eq_true rfl) wd_842 172 rfl ?_
            refine x_icmp_le hh dX8_findFeast_172 214 rfl 175 rfl (fun hc18 => ?_) (fun hc18 => ?_)
            · have hf := t_pos hc18 hf
              refine x_sub (lv' := [(0, .ref (X.2.1 59)), (1, .int v1), (2, .int v2), (3, .int v3), (4, .int v4)]) [2, 3, 4, 5, 6] rfl ?_
              exact Z_X8_findFeast_214 hX hh hr ih  v1 v2 v3 v4 q14.2 hf
            · have hf := t_neg hc18 hf
              refine x_sub (lv' := [(0, .ref (X.2.1 59)), (1, .int v1), (2, .int v2), (4, .int v4), (5, .int q13.1), (6, .int q14.1)]) [2, 3, 4, 6, 1, 0] rfl ?_
              exact Z_X8_findFeast_175 hX hh hr ih  v1 v2 v4 q13.1 q14.1 q14.2 hf
def F_X8_findFeast_39 : Nat → Int32 → Int32 → Int32 → St → Option (Int32 × St)
  | 0, _, _, _, _ => none
  | n + 1, v1, v2, v3, st => if (st.1 59 0) ≤ v3 then bs (sV st 59 42 ((-1))) (fun st5 => F_X8_findFeast_119 fN v1 v2 1000000 0 st5) else F_X8_findFeast_50 (F_X8_findFeast_39 n) fN v1 v2 v3 0 st
set_option maxRecDepth 100000 in
set_option maxHeartbeats 4000000 in
theorem Z_X8_findFeast_39 {l : Launch} {X : Cx} (hX : Ok X) {p : Program} {e : Env} {s : State} {m : MethodId} {args : Array Value} {below : List Frame} {meth : Method} {c : Code} {rr : Int32} {st' : St} (hh : Hy X p s m args meth c cX8_findFeast 8 RX8) (hr : meth.sig.returnType = some .int) : ∀ (n : Nat) (v1 : Int32) (v2 : Int32) (v3 : Int32) (st : St), F_X8_findFeast_39 n v1 v2 v3 st = some (rr, st') → Z X p l e (rmk 4) s m args below meth c 8 (MQ below (Qf X (some (.int rr)) st') args s 0 0 (cA X)) 39 [(0, .ref (X.2.1 59)), (1, .int v1), (2, .int v2), (3, .int v3)] [] st := by
  intro n
  induction n with
  | zero =>
    intro v1 v2 v3 st hf
    cases hf
  | succ n ih =>
    intro v1 v2 v3 st hf
    rw [F_X8_findFeast_39] at hf
    refine x_iload_n hh dX8_findFeast_39 rfl 3 rfl 40 rfl ?_
    refine x_aload_n hh dX8_findFeast_40 rfl 0 rfl 41 rfl ?_
    refine x_getI hh cl_8 dX8_findFeast_41 sh_59 0 rfl (Nat.le_of_ble_eq_true rfl) wd_800 44 rfl ?_
    refine x_icmp_ge hh dX8_findFeast_44 107 rfl 47 rfl (fun hc4 => ?_) (fun hc4 => ?_)
    · have hf := t_pos hc4 hf
      refine x_ldc_w hh dX8_findFeast_107 wd_1056 110 rfl ?_
      refine x_istore_n hh dX8_findFeast_110 rfl (by decide) [(3, .int 1000000), (0, .ref (X.2.1 59)), (1, .int v1), (2, .int v2)] rfl 111 rfl ?_
      refine x_aload_n hh dX8_findFeast_111 rfl 1 rfl 112 rfl ?_
      refine x_iconst hh dX8_findFeast_112 (-1) rfl 113 rfl ?_
      obtain ⟨st5, est5, hf⟩ := bs_some hf
      refine x_putI hh cl_8 dX8_findFeast_113 sh_59 42 rfl (Nat.le_of_ble_eq_true rfl) wd_842 rfl rfl rfl 116 rfl st5 est5 ?_
      refine x_iconst hh dX8_findFeast_116 0 rfl 117 rfl ?_
      refine x_istore hh dX8_findFeast_117 (by decide) [(4, .int 0), (3, .int 1000000), (0, .ref (X.2.1 59)), (1, .int v1), (2, .int v2)] rfl 119 rfl ?_
      refine x_sub (lv' := [(0, .ref (X.2.1 59)), (1, .int v1), (2, .int v2), (3, .int 1000000), (4, .int 0)]) [2, 3, 4, 1, 0] rfl ?_
      exact Z_X8_findFeast_119 hX hh hr fN v1 v2 1000000 0 st5 hf
    · have hf := t_neg hc4 hf
      refine x_iconst hh dX8_findFeast_47 0 rfl 48 rfl ?_
      refine x_istore hh dX8_findFeast_48 (by decide) [(4, .int 0), (0, .ref (X.2.1 59)), (1, .int v1), (2, .int v2), (3, .int v3)] rfl 50 rfl ?_
      refine x_sub (lv' := [(0, .ref (X.2.1 59)), (1, .int v1), (2, .int v2), (3, .int v3), (4, .int 0)]) [1, 2, 3, 4, 0] rfl ?_
      exact Z_X8_findFeast_50 hX hh hr ih fN v1 v2 v3 0 st hf
def F_X8_findFeast_4 : Nat → Int32 → Int32 → Int32 → St → Option (Int32 × St)
  | 0, _, _, _, _ => none
  | n + 1, v1, v2, v3, st => if (st.1 59 3) ≤ v3 then F_X8_findFeast_39 fN v1 v2 0 st else (F_X8_has v1 v3 st).bind (fun q2 => if q2.1 = 0 then F_X8_findFeast_29 (F_X8_findFeast_4 n) v1 v3 1 v2 q2.2 else F_X8_findFeast_29 (F_X8_findFeast_4 n) v1 v3 (q2.2.1 59 0) v2 q2.2)
set_option maxRecDepth 100000 in
set_option maxHeartbeats 4000000 in
theorem Z_X8_findFeast_4 {l : Launch} {X : Cx} (hX : Ok X) {p : Program} {e : Env} {s : State} {m : MethodId} {args : Array Value} {below : List Frame} {meth : Method} {c : Code} {rr : Int32} {st' : St} (hh : Hy X p s m args meth c cX8_findFeast 8 RX8) (hr : meth.sig.returnType = some .int) : ∀ (n : Nat) (v1 : Int32) (v2 : Int32) (v3 : Int32) (st : St), F_X8_findFeast_4 n v1 v2 v3 st = some (rr, st') → Z X p l e (rmk 4) s m args below meth c 8 (MQ below (Qf X (some (.int rr)) st') args s 0 0 (cA X)) 4 [(0, .ref (X.2.1 59)), (1, .int v1), (2, .int v2), (3, .int v3)] [] st := by
  intro n
  induction n with
  | zero =>
    intro v1 v2 v3 st hf
    cases hf
  | succ n ih =>
    intro v1 v2 v3 st hf
    rw [F_X8_findFeast_4] at hf
    refine x_iload_n hh dX8_findFeast_4 rfl 3 rfl 5 rfl ?_
    refine x_aload_n hh dX8_findFeast_5 rfl 0 rfl 6 rfl ?_
    refine x_getI hh cl_8 dX8_findFeast_6 sh_59 3 rfl (Nat.le_of_ble_eq_true rfl) wd_803 9 rfl ?_
    refine x_icmp_ge hh dX8_findFeast_9 37 rfl 12 rfl (fun hc1 => ?_) (fun hc1 => ?_)
    · have hf := t_pos hc1 hf
      refine x_iconst hh dX8_findFeast_37 0 rfl 38 rfl ?_
      refine x_istore_n hh dX8_findFeast_38 rfl (by decide) [(3, .int 0), (0, .ref (X.2.1 59)), (1, .int v1), (2, .int v2)] rfl 39 rfl ?_
      refine x_sub (lv' := [(0, .ref (X.2.1 59)), (1, .int v1), (2, .int v2), (3, .int 0)]) [1, 2, 3, 0] rfl ?_
      exact Z_X8_findFeast_39 hX hh hr fN v1 v2 0 st hf
    · have hf := t_neg hc1 hf
      refine x_iload_n hh dX8_findFeast_12 rfl 2 rfl 13 rfl ?_
      refine x_iload_n hh dX8_findFeast_13 rfl 1 rfl 14 rfl ?_
      refine x_iload_n hh dX8_findFeast_14 rfl 3 rfl 15 rfl ?_
      obtain ⟨q2, hq2, hf⟩ := b_some hf
      refine x_callS (rest := [.int v2]) hh ms_X8_has [.int v1, .int v3] dX8_findFeast_15 wd_1040 (C_X8_has l hX  hq2) rfl rfl ⟨Nat.le_of_ble_eq_true rfl, Nat.le_of_ble_eq_true rfl⟩ (Nat.le_of_ble_eq_true rfl) 18 rfl [.int q2.1, .int v2] rfl ?_
      refine x_if_eq hh dX8_findFeast_18 28 rfl 21 rfl (fun hc3 => ?_) (fun hc3 => ?_)
      · have hf := t_pos hc3 hf
        refine x_iconst hh dX8_findFeast_28 1 rfl 29 rfl ?_
        refine x_sub (lv' := [(0, .ref (X.2.1 59)), (1, .int v1), (3, .int v3)]) [0, 1, 3] rfl ?_
        exact Z_X8_findFeast_29 hX hh hr ih  v1 v3 1 v2 q2.2 hf
      · have hf := t_neg hc3 hf
        refine x_aload_n hh dX8_findFeast_21 rfl 0 rfl 22 rfl ?_
        refine x_getI hh cl_8 dX8_findFeast_22 sh_59 0 rfl (Nat.le_of_ble_eq_true rfl) wd_800 25 rfl ?_
        refine x_goto hh dX8_findFeast_25 29 rfl ?_
        refine x_sub (lv' := [(0, .ref (X.2.1 59)), (1, .int v1), (3, .int v3)]) [0, 1, 3] rfl ?_
        exact Z_X8_findFeast_29 hX hh hr ih  v1 v3 (q2.2.1 59 0) v2 q2.2 hf
def F_X8_findFeast_0 (v1 : Int32) (st : St) : Option (Int32 × St) := F_X8_findFeast_4 fN v1 1 0 st
set_option maxRecDepth 100000 in
set_option maxHeartbeats 4000000 in
theorem Z_X8_findFeast_0 {l : Launch} {X : Cx} (hX : Ok X) {p : Program} {e : Env} {s : State} {m : MethodId} {args : Array Value} {below : List Frame} {meth : Method} {c : Code} {rr : Int32} {st' : St} (hh : Hy X p s m args meth c cX8_findFeast 8 RX8) (hr : meth.sig.returnType = some .int) (v1 : Int32) (st : St) (hf : F_X8_findFeast_0 v1 st = some (rr, st')) : Z X p l e (rmk 4) s m args below meth c 8 (MQ below (Qf X (some (.int rr)) st') args s 0 0 (cA X)) 0 [(0, .ref (X.2.1 59)), (1, .int v1)] [] st := by
  unfold F_X8_findFeast_0 at hf
  refine x_iconst hh dX8_findFeast_0 1 rfl 1 rfl ?_
  refine x_istore_n hh dX8_findFeast_1 rfl (by decide) [(2, .int 1), (0, .ref (X.2.1 59)), (1, .int v1)] rfl 2 rfl ?_
  refine x_iconst hh dX8_findFeast_2 0 rfl 3 rfl ?_
  refine x_istore_n hh dX8_findFeast_3 rfl (by decide) [(3, .int 0), (2, .int 1), (0, .ref (X.2.1 59)), (1, .int v1)] rfl 4 rfl ?_
  refine x_sub (lv' := [(0, .ref (X.2.1 59)), (1, .int v1), (2, .int 1), (3, .int 0)]) [2, 3, 1, 0] rfl ?_
  exact Z_X8_findFeast_4 hX hh hr fN v1 1 0 st hf
def F_X8_findFeast (v1 : Int32) (st : St) : Option (Int32 × St) := F_X8_findFeast_0  v1 st
set_option maxRecDepth 100000 in
theorem C_X8_findFeast (l : Launch) {X : Cx} (hX : Ok X) {v1 : Int32} {st : St} {q : Int32 × St} (hf : F_X8_findFeast v1 st = some q) : Ct l X 4 yX8_findFeast (.code yX8_findFeast cX8_findFeast 8 (some .int)) [.ref (X.2.1 59), .int v1] st (some (.int q.1)) q.2 := by
  refine Ct.of hX (by decide) (Nat.le_of_ble_eq_true rfl) ?_
  intro p e s m args below meth c hh hr
  exact Z_X8_findFeast_0 hX hh hr v1 st hf

def F_X8_feast_27 (st : St) : Option (Int32 × St) := some ((-1000000001), st)
set_option maxRecDepth 100000 in
set_option maxHeartbeats 4000000 in
theorem Z_X8_feast_27 {l : Launch} {X : Cx} (hX : Ok X) {p : Program} {e : Env} {s : State} {m : MethodId} {args : Array Value} {below : List Frame} {meth : Method} {c : Code} {rr : Int32} {st' : St} (hh : Hy X p s m args meth c cX8_feast 4 RX8) (hr : meth.sig.returnType = some .int) (st : St) (hf : F_X8_feast_27 st = some (rr, st')) : Z X p l e (rmk 5) s m args below meth c 4 (MQ below (Qf X (some (.int rr)) st') args s 0 0 (cA X)) 27 [(0, .ref (X.2.1 59))] [] st := by
  unfold F_X8_feast_27 at hf
  refine x_ldc hh dX8_feast_27 wd_980 29 rfl ?_
  obtain ⟨rfl, rfl⟩ := ret2 hf
  exact x_iret hh hr dX8_feast_29
def F_X8_feast_85 (t0 : Int32) (st : St) : Option (Int32 × St) := some (t0, st)
set_option maxRecDepth 100000 in
set_option maxHeartbeats 4000000 in
theorem Z_X8_feast_85 {l : Launch} {X : Cx} (hX : Ok X) {p : Program} {e : Env} {s : State} {m : MethodId} {args : Array Value} {below : List Frame} {meth : Method} {c : Code} {rr : Int32} {st' : St} (hh : Hy X p s m args meth c cX8_feast 4 RX8) (hr : meth.sig.returnType = some .int) (t0 : Int32) (st : St) (hf : F_X8_feast_85 t0 st = some (rr, st')) : Z X p l e (rmk 5) s m args below meth c 4 (MQ below (Qf X (some (.int rr)) st') args s 0 0 (cA X)) 85 [(0, .ref (X.2.1 59))] [.int t0] st := by
  unfold F_X8_feast_85 at hf
  obtain ⟨rfl, rfl⟩ := ret2 hf
  exact x_iret hh hr dX8_feast_85
def F_X8_feast_30 (v1 : Int32) (v2 : Int32) (st : St) : Option (Int32 × St) := (F_X8_findFeast v1 st).bind (fun q7 => if q7.1 < 1000000 then if v2 = ((-1)) then F_X8_feast_85 q7.1 q7.2 else if v2 = ((-2)) then F_X8_feast_85 (q7.2.1 59 42) q7.2 else (F_X8_has v1 v2 q7.2).bind (fun q11 => if q11.1 = 0 then F_X8_feast_85 ((-1)) q11.2 else gi v2 6 (F_X8_feast_85 (q11.2.1 86 v2.toNatClampNeg) q11.2)) else some ((-1), q7.2))
set_option maxRecDepth 100000 in
set_option maxHeartbeats 4000000 in
theorem Z_X8_feast_30 {l : Launch} {X : Cx} (hX : Ok X) {p : Program} {e : Env} {s : State} {m : MethodId} {args : Array Value} {below : List Frame} {meth : Method} {c : Code} {rr : Int32} {st' : St} (hh : Hy X p s m args meth c cX8_feast 4 RX8) (hr : meth.sig.returnType = some .int) (v1 : Int32) (v2 : Int32) (st : St) (hf : F_X8_feast_30 v1 v2 st = some (rr, st')) : Z X p l e (rmk 5) s m args below meth c 4 (MQ below (Qf X (some (.int rr)) st') args s 0 0 (cA X)) 30 [(0, .ref (X.2.1 59)), (1, .int v1), (2, .int v2)] [] st := by
  unfold F_X8_feast_30 at hf
  refine x_aload_n hh dX8_feast_30 rfl 0 rfl 31 rfl ?_
  refine x_iload_n hh dX8_feast_31 rfl 1 rfl 32 rfl ?_
  obtain ⟨q7, hq7, hf⟩ := b_some hf
  refine x_callV (rest := []) hh mi_X8_findFeast [.int v1] dX8_feast_32 sh_59 wd_1101 (C_X8_findFeast l hX  hq7) rfl rfl ⟨Nat.le_of_ble_eq_true rfl, Nat.le_of_ble_eq_true rfl⟩ (Nat.le_of_ble_eq_true rfl) 35 rfl [.int q7.1] rfl ?_
  refine x_istore_n hh dX8_feast_35 rfl (by decide) [(3, .int q7.1), (0, .ref (X.2.1 59)), (1, .int v1), (2, .int v2)] rfl 36 rfl ?_
  refine x_iload_n hh dX8_feast_36 rfl 0 rfl 37 rfl ?_
  refine x_ldc_w hh dX8_feast_37 wd_1056 40 rfl ?_
  refine x_icmp_lt hh dX8_feast_40 45 rfl 43 rfl (fun hc8 => ?_) (fun hc8 => ?_)
  · have hf := t_pos hc8 hf
    refine x_iload_n hh dX8_feast_45 rfl 3 rfl 46 rfl ?_
    refine x_iconst hh dX8_feast_46 (-1) rfl 47 rfl ?_
    refine x_icmp_ne hh dX8_feast_47 54 rfl 50 rfl (fun hc9 => ?_) (fun hc9 => ?_)
    · have hf := t_neg hc9 hf
      refine x_iload_n hh dX8_feast_54 rfl 3 rfl 55 rfl ?_
      refine x_bipush hh dX8_feast_55 (-2) rfl 57 rfl ?_
      refine x_icmp_ne hh dX8_feast_57 67 rfl 60 rfl (fun hc10 => ?_) (fun hc10 => ?_)
      · have hf := t_neg hc10 hf
        refine x_iload_n hh dX8_feast_67 rfl 2 rfl 68 rfl ?_
        refine x_iload_n hh dX8_feast_68 rfl 3 rfl 69 rfl ?_
        obtain ⟨q11, hq11, hf⟩ := b_some hf
        refine x_callS (rest := []) hh ms_X8_has [.int v1, .int v2] dX8_feast_69 wd_1040 (C_X8_has l hX  hq11) rfl rfl ⟨Nat.le_of_ble_eq_true rfl, Nat.le_of_ble_eq_true rfl⟩ (Nat.le_of_ble_eq_true rfl) 72 rfl [.int q11.1] rfl ?_
        refine x_if_eq hh dX8_feast_72 84 rfl 75 rfl (fun hc12 => ?_) (fun hc12 => ?_)
        · have hf := t_pos hc12 hf
          refine x_iconst hh dX8_feast_84 (-1) rfl 85 rfl ?_
          refine x_sub (lv' := [(0, .ref (X.2.1 59))]) [1] rfl ?_
          exact Z_X8_feast_85 hX hh hr  ((-1)) q11.2 hf
        · have hf := t_neg hc12 hf
          refine x_aload_n hh dX8_feast_75 rfl 1 rfl 76 rfl ?_
          refine x_getR hh cl_8 dX8_feast_76 sh_59 41 86 rfl (Nat.le_of_ble_eq_true rfl) wd_841 79 rfl ?_
          refine x_iload_n hh dX8_feast_79 rfl 3 rfl 80 rfl ?_
          obtain ⟨hi13, hf⟩ := gi_some hf
          refine x_iaload hh dX8_feast_80 sh_86 hi13 81 rfl ?_
          refine x_goto hh dX8_feast_81 85 rfl ?_
          refine x_sub (lv' := [(0, .ref (X.2.1 59))]) [1] rfl ?_
          exact Z_X8_feast_85 hX hh hr  (q11.2.1 86 v2.toNatClampNeg) q11.2 hf
      · have hf := t_pos hc10 hf
        refine x_aload_n hh dX8_feast_60 rfl 1 rfl 61 rfl ?_
        refine x_getI hh cl_8 dX8_feast_61 sh_59 42 rfl (Nat.le_of_ble_eq_true rfl) wd_842 64 rfl ?_
        refine x_goto hh dX8_feast_64 85 rfl ?_
        refine x_sub (lv' := [(0, .ref (X.2.1 59))]) [1] rfl ?_
        exact Z_X8_feast_85 hX hh hr  (q7.2.1 59 42) q7.2 hf
    · have hf := t_pos hc9 hf
      refine x_iload_n hh dX8_feast_50 rfl 0 rfl 51 rfl ?_
      refine x_goto hh dX8_feast_51 85 rfl ?_
      refine x_sub (lv' := [(0, .ref (X.2.1 59))]) [1] rfl ?_
      exact Z_X8_feast_85 hX hh hr  q7.1 q7.2 hf
  · have hf := t_neg hc8 hf
    refine x_iconst hh dX8_feast_43 (-1) rfl 44 rfl ?_
    obtain ⟨rfl, rfl⟩ := ret2 hf
    exact x_iret hh hr dX8_feast_44
def F_X8_feast_0 (v1 : Int32) (v2 : Int32) (st : St) : Option (Int32 × St) := (F_X8_isSet v1 st).bind (fun q1 => if q1.1 = 0 then F_X8_feast_27 q1.2 else if v2 = ((-1)) then F_X8_feast_30 v1 v2 q1.2 else if v2 = ((-2)) then F_X8_feast_30 v1 v2 q1.2 else (F_X8_isPerson v2 q1.2).bind (fun q5 => if q5.1 = 0 then F_X8_feast_27 q5.2 else F_X8_feast_30 v1 v2 q5.2))
set_option maxRecDepth 100000 in
set_option maxHeartbeats 4000000 in
theorem Z_X8_feast_0 {l : Launch} {X : Cx} (hX : Ok X) {p : Program} {e : Env} {s : State} {m : MethodId} {args : Array Value} {below : List Frame} {meth : Method} {c : Code} {rr : Int32} {st' : St} (hh : Hy X p s m args meth c cX8_feast 4 RX8) (hr : meth.sig.returnType = some .int) (v1 : Int32) (v2 : Int32) (st : St) (hf : F_X8_feast_0 v1 v2 st = some (rr, st')) : Z X p l e (rmk 5) s m args below meth c 4 (MQ below (Qf X (some (.int rr)) st') args s 0 0 (cA X)) 0 [(0, .ref (X.2.1 59)), (1, .int v1), (2, .int v2)] [] st := by
  unfold F_X8_feast_0 at hf
  refine x_aload_n hh dX8_feast_0 rfl 0 rfl 1 rfl ?_
  refine x_iload_n hh dX8_feast_1 rfl 1 rfl 2 rfl ?_
  obtain ⟨q1, hq1, hf⟩ := b_some hf
  refine x_callV (rest := []) hh mi_X8_isSet [.int v1] dX8_feast_2 sh_59 wd_1082 (C_X8_isSet l hX  hq1) rfl rfl ⟨Nat.le_of_ble_eq_true rfl, Nat.le_of_ble_eq_true rfl⟩ (Nat.le_of_ble_eq_true rfl) 5 rfl [.int q1.1] rfl ?_
  refine x_if_eq hh dX8_feast_5 27 rfl 8 rfl (fun hc2 => ?_) (fun hc2 => ?_)
  · have hf := t_pos hc2 hf
    refine x_sub (lv' := [(0, .ref (X.2.1 59))]) [0] rfl ?_
    exact Z_X8_feast_27 hX hh hr  q1.2 hf
  · have hf := t_neg hc2 hf
    refine x_iload_n hh dX8_feast_8 rfl 2 rfl 9 rfl ?_
    refine x_iconst hh dX8_feast_9 (-1) rfl 10 rfl ?_
    refine x_icmp_eq hh dX8_feast_10 30 rfl 13 rfl (fun hc3 => ?_) (fun hc3 => ?_)
    · have hf := t_pos hc3 hf
      exact Z_X8_feast_30 hX hh hr  v1 v2 q1.2 hf
    · have hf := t_neg hc3 hf
      refine x_iload_n hh dX8_feast_13 rfl 2 rfl 14 rfl ?_
      refine x_bipush hh dX8_feast_14 (-2) rfl 16 rfl ?_
      refine x_icmp_eq hh dX8_feast_16 30 rfl 19 rfl (fun hc4 => ?_) (fun hc4 => ?_)
      · have hf := t_pos hc4 hf
        exact Z_X8_feast_30 hX hh hr  v1 v2 q1.2 hf
      · have hf := t_neg hc4 hf
        refine x_aload_n hh dX8_feast_19 rfl 0 rfl 20 rfl ?_
        refine x_iload_n hh dX8_feast_20 rfl 2 rfl 21 rfl ?_
        obtain ⟨q5, hq5, hf⟩ := b_some hf
        refine x_callV (rest := []) hh mi_X8_isPerson [.int v2] dX8_feast_21 sh_59 wd_988 (C_X8_isPerson l hX  hq5) rfl rfl ⟨Nat.le_of_ble_eq_true rfl, Nat.le_of_ble_eq_true rfl⟩ (Nat.le_of_ble_eq_true rfl) 24 rfl [.int q5.1] rfl ?_
        refine x_if_ne hh dX8_feast_24 30 rfl 27 rfl (fun hc6 => ?_) (fun hc6 => ?_)
        · have hf := t_neg hc6 hf
          exact Z_X8_feast_30 hX hh hr  v1 v2 q5.2 hf
        · have hf := t_pos hc6 hf
          refine x_sub (lv' := [(0, .ref (X.2.1 59))]) [0] rfl ?_
          exact Z_X8_feast_27 hX hh hr  q5.2 hf
def F_X8_feast (v1 : Int32) (v2 : Int32) (st : St) : Option (Int32 × St) := F_X8_feast_0  v1 v2 st
set_option maxRecDepth 100000 in
theorem C_X8_feast (l : Launch) {X : Cx} (hX : Ok X) {v1 : Int32} {v2 : Int32} {st : St} {q : Int32 × St} (hf : F_X8_feast v1 v2 st = some q) : Ct l X 5 yX8_feast (.code yX8_feast cX8_feast 4 (some .int)) [.ref (X.2.1 59), .int v1, .int v2] st (some (.int q.1)) q.2 := by
  refine Ct.of hX (by decide) (Nat.le_of_ble_eq_true rfl) ?_
  intro p e s m args below meth c hh hr
  exact Z_X8_feast_0 hX hh hr v1 v2 st hf

def F_X8_cuts_16 (st : St) : Option (Int32 × St) := some ((-1000000001), st)
set_option maxRecDepth 100000 in
set_option maxHeartbeats 4000000 in
theorem Z_X8_cuts_16 {l : Launch} {X : Cx} (hX : Ok X) {p : Program} {e : Env} {s : State} {m : MethodId} {args : Array Value} {below : List Frame} {meth : Method} {c : Code} {rr : Int32} {st' : St} (hh : Hy X p s m args meth c cX8_cuts 10 RX8) (hr : meth.sig.returnType = some .int) (st : St) (hf : F_X8_cuts_16 st = some (rr, st')) : Z X p l e (rmk 2) s m args below meth c 10 (MQ below (Qf X (some (.int rr)) st') args s 0 0 (cA X)) 16 [(0, .ref (X.2.1 59))] [] st := by
  unfold F_X8_cuts_16 at hf
  refine x_ldc hh dX8_cuts_16 wd_980 18 rfl ?_
  obtain ⟨rfl, rfl⟩ := ret2 hf
  exact x_iret hh hr dX8_cuts_18
def F_X8_cuts_91 (k39 : Int32 → Int32 → Int32 → Int32 → St → Option (Int32 × St)) (v1 : Int32) (v2 : Int32) (v4 : Int32) (t0 : Int32) (t1 : Int32) (st : St) : Option (Int32 × St) := k39 v1 v2 (t1 + t0) (v4 + 1) st
set_option maxRecDepth 100000 in
set_option maxHeartbeats 4000000 in
theorem Z_X8_cuts_91 {l : Launch} {X : Cx} (hX : Ok X) {p : Program} {e : Env} {s : State} {m : MethodId} {args : Array Value} {below : List Frame} {meth : Method} {c : Code} {rr : Int32} {st' : St} (hh : Hy X p s m args meth c cX8_cuts 10 RX8) (hr : meth.sig.returnType = some .int) {k39 : Int32 → Int32 → Int32 → Int32 → St → Option (Int32 × St)} (hk39 : ∀ (v1 : Int32) (v2 : Int32) (v3 : Int32) (v4 : Int32) (st : St), k39 v1 v2 v3 v4 st = some (rr, st') → Z X p l e (rmk 2) s m args below meth c 10 (MQ below (Qf X (some (.int rr)) st') args s 0 0 (cA X)) 39 [(0, .ref (X.2.1 59)), (1, .int v1), (2, .int v2), (3, .int v3), (4, .int v4)] [] st) (v1 : Int32) (v2 : Int32) (v4 : Int32) (t0 : Int32) (t1 : Int32) (st : St) (hf : F_X8_cuts_91 k39 v1 v2 v4 t0 t1 st = some (rr, st')) : Z X p l e (rmk 2) s m args below meth c 10 (MQ below (Qf X (some (.int rr)) st') args s 0 0 (cA X)) 91 [(0, .ref (X.2.1 59)), (1, .int v1), (2, .int v2), (4, .int v4)] [.int t0, .int t1] st := by
  unfold F_X8_cuts_91 at hf
  refine x_iadd hh dX8_cuts_91 92 rfl ?_
  refine x_istore_n hh dX8_cuts_92 rfl (by decide) [(3, .int (t1 + t0)), (0, .ref (X.2.1 59)), (1, .int v1), (2, .int v2), (4, .int v4)] rfl 93 rfl ?_
  refine x_iinc hh dX8_cuts_93 4 rfl (v4 + 1) rfl (by decide) [(4, .int (v4 + 1)), (3, .int (t1 + t0)), (0, .ref (X.2.1 59)), (1, .int v1), (2, .int v2)] rfl 96 rfl ?_
  refine x_goto hh dX8_cuts_96 39 rfl ?_
  refine x_sub (lv' := [(0, .ref (X.2.1 59)), (1, .int v1), (2, .int v2), (3, .int (t1 + t0)), (4, .int (v4 + 1))]) [2, 3, 4, 1, 0] rfl ?_
  exact hk39 v1 v2 (t1 + t0) (v4 + 1) st hf
def F_X8_cuts_75 (k39 : Int32 → Int32 → Int32 → Int32 → St → Option (Int32 × St)) (v1 : Int32) (v2 : Int32) (v3 : Int32) (v4 : Int32) (t0 : Int32) (t1 : Int32) (st : St) : Option (Int32 × St) := gi t1 6 (bs (sV st 80 t1.toNatClampNeg t0) (fun st13 => (F_X8_has v2 v4 st13).bind (fun q14 => if q14.1 = 0 then F_X8_cuts_91 k39 v1 v2 v4 0 v3 q14.2 else F_X8_cuts_91 k39 v1 v2 v4 1 v3 q14.2)))
set_option maxRecDepth 100000 in
set_option maxHeartbeats 4000000 in
theorem Z_X8_cuts_75 {l : Launch} {X : Cx} (hX : Ok X) {p : Program} {e : Env} {s : State} {m : MethodId} {args : Array Value} {below : List Frame} {meth : Method} {c : Code} {rr : Int32} {st' : St} (hh : Hy X p s m args meth c cX8_cuts 10 RX8) (hr : meth.sig.returnType = some .int) {k39 : Int32 → Int32 → Int32 → Int32 → St → Option (Int32 × St)} (hk39 : ∀ (v1 : Int32) (v2 : Int32) (v3 : Int32) (v4 : Int32) (st : St), k39 v1 v2 v3 v4 st = some (rr, st') → Z X p l e (rmk 2) s m args below meth c 10 (MQ below (Qf X (some (.int rr)) st') args s 0 0 (cA X)) 39 [(0, .ref (X.2.1 59)), (1, .int v1), (2, .int v2), (3, .int v3), (4, .int v4)] [] st) (v1 : Int32) (v2 : Int32) (v3 : Int32) (v4 : Int32) (t0 : Int32) (t1 : Int32) (st : St) (hf : F_X8_cuts_75 k39 v1 v2 v3 v4 t0 t1 st = some (rr, st')) : Z X p l e (rmk 2) s m args below meth c 10 (MQ below (Qf X (some (.int rr)) st') args s 0 0 (cA X)) 75 [(0, .ref (X.2.1 59)), (1, .int v1), (2, .int v2), (3, .int v3), (4, .int v4)] [.int t0, .int t1, .ref (X.2.1 80)] st := by
  unfold F_X8_cuts_75 at hf
  obtain ⟨hi12, hf⟩ := gi_some hf
  obtain ⟨st13, est13, hf⟩ := bs_some hf
  refine x_iastore hh dX8_cuts_75 sh_80 hi12 76 rfl st13 est13 ?_
  refine x_iload_n hh dX8_cuts_76 rfl 3 rfl 77 rfl ?_
  refine x_iload_n hh dX8_cuts_77 rfl 2 rfl 78 rfl ?_
  refine x_iload hh dX8_cuts_78 4 rfl 80 rfl ?_
  obtain ⟨q14, hq14, hf⟩ := b_some hf
  refine x_callS (rest := [.int v3]) hh ms_X8_has [.int v2, .int v4] dX8_cuts_80 wd_1040 (C_X8_has l hX  hq14) rfl rfl ⟨Nat.le_of_ble_eq_true rfl, Nat.le_of_ble_eq_true rfl⟩ (Nat.le_of_ble_eq_true rfl) 83 rfl [.int q14.1, .int v3] rfl ?_
  refine x_if_eq hh dX8_cuts_83 90 rfl 86 rfl (fun hc15 => ?_) (fun hc15 => ?_)
  · have hf := t_pos hc15 hf
    refine x_iconst hh dX8_cuts_90 0 rfl 91 rfl ?_
    refine x_sub (lv' := [(0, .ref (X.2.1 59)), (1, .int v1), (2, .int v2), (4, .int v4)]) [0, 1, 2, 4] rfl ?_
    exact Z_X8_cuts_91 hX hh hr hk39  v1 v2 v4 0 v3 q14.2 hf
  · have hf := t_neg hc15 hf
    refine x_iconst hh dX8_cuts_86 1 rfl 87 rfl ?_
    refine x_goto hh dX8_cuts_87 91 rfl ?_
    refine x_sub (lv' := [(0, .ref (X.2.1 59)), (1, .int v1), (2, .int v2), (4, .int v4)]) [0, 1, 2, 4] rfl ?_
    exact Z_X8_cuts_91 hX hh hr hk39  v1 v2 v4 1 v3 q14.2 hf
def F_X8_cuts_219 (k110 : Int32 → Int32 → Int32 → St → Option (Int32 × St)) (v4 : Int32) (v6 : Int32) (t0 : Int32) (st : St) : Option (Int32 × St) := k110 v4 t0 v6 st
set_option maxRecDepth 100000 in
set_option maxHeartbeats 4000000 in
theorem Z_X8_cuts_219 {l : Launch} {X : Cx} (hX : Ok X) {p : Program} {e : Env} {s : State} {m : MethodId} {args : Array Value} {below : List Frame} {meth : Method} {c : Code} {rr : Int32} {st' : St} (hh : Hy X p s m args meth c cX8_cuts 10 RX8) (hr : meth.sig.returnType = some .int) {k110 : Int32 → Int32 → Int32 → St → Option (Int32 × St)} (hk110 : ∀ (v4 : Int32) (v5 : Int32) (v6 : Int32) (st : St), k110 v4 v5 v6 st = some (rr, st') → Z X p l e (rmk 2) s m args below meth c 10 (MQ below (Qf X (some (.int rr)) st') args s 0 0 (cA X)) 110 [(0, .ref (X.2.1 59)), (4, .int v4), (5, .int v5), (6, .int v6)] [] st) (v4 : Int32) (v6 : Int32) (t0 : Int32) (st : St) (hf : F_X8_cuts_219 k110 v4 v6 t0 st = some (rr, st')) : Z X p l e (rmk 2) s m args below meth c 10 (MQ below (Qf X (some (.int rr)) st') args s 0 0 (cA X)) 219 [(0, .ref (X.2.1 59)), (4, .int v4), (6, .int v6)] [.int t0] st := by
  unfold F_X8_cuts_219 at hf
  refine x_istore hh dX8_cuts_219 (by decide) [(5, .int t0), (0, .ref (X.2.1 59)), (4, .int v4), (6, .int v6)] rfl 221 rfl ?_
  refine x_goto hh dX8_cuts_221 110 rfl ?_
  refine x_sub (lv' := [(0, .ref (X.2.1 59)), (4, .int v4), (5, .int t0), (6, .int v6)]) [1, 2, 0, 3] rfl ?_
  exact hk110 v4 t0 v6 st hf
def F_X8_cuts_212 (k110 : Int32 → Int32 → Int32 → St → Option (Int32 × St)) (v4 : Int32) (v6 : Int32) (v9 : Int32) (st : St) : Option (Int32 × St) := F_X8_cuts_219 k110 v4 v6 v9 st
set_option maxRecDepth 100000 in
set_option maxHeartbeats 4000000 in
theorem Z_X8_cuts_212 {l : Launch} {X : Cx} (hX : Ok X) {p : Program} {e : Env} {s : State} {m : MethodId} {args : Array Value} {below : List Frame} {meth : Method} {c : Code} {rr : Int32} {st' : St} (hh : Hy X p s m args meth c cX8_cuts 10 RX8) (hr : meth.sig.returnType = some .int) {k110 : Int32 → Int32 → Int32 → St → Option (Int32 × St)} (hk110 : ∀ (v4 : Int32) (v5 : Int32) (v6 : Int32) (st : St), k110 v4 v5 v6 st = some (rr, st') → Z X p l e (rmk 2) s m args below meth c 10 (MQ below (Qf X (some (.int rr)) st') args s 0 0 (cA X)) 110 [(0, .ref (X.2.1 59)), (4, .int v4), (5, .int v5), (6, .int v6)] [] st) (v4 : Int32) (v6 : Int32) (v9 : Int32) (st : St) (hf : F_X8_cuts_212 k110 v4 v6 v9 st = some (rr, st')) : Z X p l e (rmk 2) s m args below meth c 10 (MQ below (Qf X (some (.int rr)) st') args s 0 0 (cA X)) 212 [(0, .ref (X.2.1 59)), (4, .int v4), (6, .int v6), (9, .int v9)] [] st := by
  unfold F_X8_cuts_212 at hf
  refine x_iload hh dX8_cuts_212 3 rfl 214 rfl ?_
  refine x_goto hh dX8_cuts_214 219 rfl ?_
  refine x_sub (lv' := [(0, .ref (X.2.1 59)), (4, .int v4), (6, .int v6)]) [0, 1, 2] rfl ?_
  exact Z_X8_cuts_219 hX hh hr hk110  v4 v6 v9 st hf
def F_X8_cuts_194 (k110 : Int32 → Int32 → Int32 → St → Option (Int32 × St)) (v4 : Int32) (v5 : Int32) (v6 : Int32) (t0 : Int32) (st : St) : Option (Int32 × St) := if v5 = 1000000 then F_X8_cuts_212 k110 v4 v6 t0 st else if (st.1 59 10) = 1 then F_X8_cuts_212 k110 v4 v6 t0 st else F_X8_cuts_219 k110 v4 v6 v5 st
set_option maxRecDepth 100000 in
set_option maxHeartbeats 4000000 in
theorem Z_X8_cuts_194 {l : Launch} {X : Cx} (hX : Ok X) {p : Program} {e : Env} {s : State} {m : MethodId} {args : Array Value} {below : List Frame} {meth : Method} {c : Code} {rr : Int32} {st' : St} (hh : Hy X p s m args meth c cX8_cuts 10 RX8) (hr : meth.sig.returnType = some .int) {k110 : Int32 → Int32 → Int32 → St → Option (Int32 × St)} (hk110 : ∀ (v4 : Int32) (v5 : Int32) (v6 : Int32) (st : St), k110 v4 v5 v6 st = some (rr, st') → Z X p l e (rmk 2) s m args below meth c 10 (MQ below (Qf X (some (.int rr)) st') args s 0 0 (cA X)) 110 [(0, .ref (X.2.1 59)), (4, .int v4), (5, .int v5), (6, .int v6)] [] st) (v4 : Int32) (v5 : Int32) (v6 : Int32) (t0 : Int32) (st : St) (hf : F_X8_cuts_194 k110 v4 v5 v6 t0 st = some (rr, st')) : Z X p l e (rmk 2) s m args below meth c 10 (MQ below (Qf X (some (.int rr)) st') args s 0 0 (cA X)) 194 [(0, .ref (X.2.1 59)), (4, .int v4), (5, .int v5), (6, .int v6)] [.int t0] st := by
  unfold F_X8_cuts_194 at hf
  refine x_istore hh dX8_cuts_194 (by decide) [(9, .int t0), (0, .ref (X.2.1 59)), (4, .int v4), (5, .int v5), (6, .int v6)] rfl 196 rfl ?_
  refine x_iload hh dX8_cuts_196 3 rfl 198 rfl ?_
  refine x_ldc_w hh dX8_cuts_198 wd_1056 201 rfl ?_
  refine x_icmp_eq hh dX8_cuts_201 212 rfl 204 rfl (fun hc24 => ?_) (fun hc24 => ?_)
  · have hf := t_pos hc24 hf
    refine x_sub (lv' := [(0, .ref (X.2.1 59)), (4, .int v4), (6, .int v6), (9, .int t0)]) [1, 2, 4, 0] rfl ?_
    exact Z_X8_cuts_212 hX hh hr hk110  v4 v6 t0 st hf
  · have hf := t_neg hc24 hf
    refine x_aload_n hh dX8_cuts_204 rfl 1 rfl 205 rfl ?_
    refine x_getI hh cl_8 dX8_cuts_205 sh_59 10 rfl (Nat.le_of_ble_eq_true rfl) wd_810 208 rfl ?_
    refine x_iconst hh dX8_cuts_208 1 rfl 209 rfl ?_
    refine x_icmp_ne hh dX8_cuts_209 217 rfl 212 rfl (fun hc25 => ?_) (fun hc25 => ?_)
    · have hf := t_neg hc25 hf
      refine x_iload hh dX8_cuts_217 3 rfl 219 rfl ?_
      refine x_sub (lv' := [(0, .ref (X.2.1 59)), (4, .int v4), (6, .int v6)]) [1, 2, 4] rfl ?_
      exact Z_X8_cuts_219 hX hh hr hk110  v4 v6 v5 st hf
    · have hf := t_pos hc25 hf
      refine x_sub (lv' := [(0, .ref (X.2.1 59)), (4, .int v4), (6, .int v6), (9, .int t0)]) [1, 2, 4, 0] rfl ?_
      exact Z_X8_cuts_212 hX hh hr hk110  v4 v6 t0 st hf
def F_X8_cuts_167 (k110 : Int32 → Int32 → Int32 → St → Option (Int32 × St)) (v4 : Int32) (v5 : Int32) (v7 : Int32) (t0 : Int32) (t1 : Int32) (st : St) : Option (Int32 × St) := gi v7 6 (if v5 ≤ (st.1 80 v7.toNatClampNeg) then F_X8_cuts_194 k110 v4 v5 (t1 + t0) v5 st else gi v7 6 (F_X8_cuts_194 k110 v4 v5 (t1 + t0) (st.1 80 v7.toNatClampNeg) st))
set_option maxRecDepth 100000 in
set_option maxHeartbeats 4000000 in
theorem Z_X8_cuts_167 {l : Launch} {X : Cx} (hX : Ok X) {p : Program} {e : Env} {s : State} {m : MethodId} {args : Array Value} {below : List Frame} {meth : Method} {c : Code} {rr : Int32} {st' : St} (hh : Hy X p s m args meth c cX8_cuts 10 RX8) (hr : meth.sig.returnType = some .int) {k110 : Int32 → Int32 → Int32 → St → Option (Int32 × St)} (hk110 : ∀ (v4 : Int32) (v5 : Int32) (v6 : Int32) (st : St), k110 v4 v5 v6 st = some (rr, st') → Z X p l e (rmk 2) s m args below meth c 10 (MQ below (Qf X (some (.int rr)) st') args s 0 0 (cA X)) 110 [(0, .ref (X.2.1 59)), (4, .int v4), (5, .int v5), (6, .int v6)] [] st) (v4 : Int32) (v5 : Int32) (v7 : Int32) (t0 : Int32) (t1 : Int32) (st : St) (hf : F_X8_cuts_167 k110 v4 v5 v7 t0 t1 st = some (rr, st')) : Z X p l e (rmk 2) s m args below meth c 10 (MQ below (Qf X (some (.int rr)) st') args s 0 0 (cA X)) 167 [(0, .ref (X.2.1 59)), (4, .int v4), (5, .int v5), (7, .int v7)] [.int t0, .int t1] st := by
  unfold F_X8_cuts_167 at hf
  refine x_iadd hh dX8_cuts_167 168 rfl ?_
  refine x_istore hh dX8_cuts_168 (by decide) [(6, .int (t1 + t0)), (0, .ref (X.2.1 59)), (4, .int v4), (5, .int v5), (7, .int v7)] rfl 170 rfl ?_
  refine x_aload_n hh dX8_cuts_170 rfl 1 rfl 171 rfl ?_
  refine x_getR hh cl_8 dX8_cuts_171 sh_59 35 80 rfl (Nat.le_of_ble_eq_true rfl) wd_835 174 rfl ?_
  refine x_iload hh dX8_cuts_174 4 rfl 176 rfl ?_
  obtain ⟨hi21, hf⟩ := gi_some hf
  refine x_iaload hh dX8_cuts_176 sh_80 hi21 177 rfl ?_
  refine x_iload hh dX8_cuts_177 3 rfl 179 rfl ?_
  refine x_icmp_ge hh dX8_cuts_179 192 rfl 182 rfl (fun hc22 => ?_) (fun hc22 => ?_)
  · have hf := t_pos hc22 hf
    refine x_iload hh dX8_cuts_192 3 rfl 194 rfl ?_
    refine x_sub (lv' := [(0, .ref (X.2.1 59)), (4, .int v4), (5, .int v5), (6, .int (t1 + t0))]) [1, 2, 3, 0] rfl ?_
    exact Z_X8_cuts_194 hX hh hr hk110  v4 v5 (t1 + t0) v5 st hf
  · have hf := t_neg hc22 hf
    refine x_aload_n hh dX8_cuts_182 rfl 1 rfl 183 rfl ?_
    refine x_getR hh cl_8 dX8_cuts_183 sh_59 35 80 rfl (Nat.le_of_ble_eq_true rfl) wd_835 186 rfl ?_
    refine x_iload hh dX8_cuts_186 4 rfl 188 rfl ?_
    obtain ⟨hi23, hf⟩ := gi_some hf
    refine x_iaload hh dX8_cuts_188 sh_80 hi23 189 rfl ?_
    refine x_goto hh dX8_cuts_189 194 rfl ?_
    refine x_sub (lv' := [(0, .ref (X.2.1 59)), (4, .int v4), (5, .int v5), (6, .int (t1 + t0))]) [1, 2, 3, 0] rfl ?_
    exact Z_X8_cuts_194 hX hh hr hk110  v4 v5 (t1 + t0) (st.1 80 v7.toNatClampNeg) st hf
def F_X8_cuts_110 : Nat → Int32 → Int32 → Int32 → St → Option (Int32 × St)
  | 0, _, _, _, _ => none
  | n + 1, v4, v5, v6, st => if v4 = 0 then some (v6, st) else (F_X8_eldest v4 st).bind (fun q17 => gi q17.1 6 (gi q17.1 6 (if (((q17.2.1 80 q17.1.toNatClampNeg) - (q17.2.1 64 q17.1.toNatClampNeg)) - v5) ≤ 0 then F_X8_cuts_167 (F_X8_cuts_110 n) (v4 &&& ((1 <<< (q17.1 &&& 31)) ^^^ ((-1)))) v5 q17.1 0 v6 q17.2 else F_X8_cuts_167 (F_X8_cuts_110 n) (v4 &&& ((1 <<< (q17.1 &&& 31)) ^^^ ((-1)))) v5 q17.1 (((q17.2.1 80 q17.1.toNatClampNeg) - (q17.2.1 64 q17.1.toNatClampNeg)) - v5) v6 q17.2)))
set_option maxRecDepth 100000 in
set_option maxHeartbeats 4000000 in
theorem Z_X8_cuts_110 {l : Launch} {X : Cx} (hX : Ok X) {p : Program} {e : Env} {s : State} {m : MethodId} {args : Array Value} {below : List Frame} {meth : Method} {c : Code} {rr : Int32} {st' : St} (hh : Hy X p s m args meth c cX8_cuts 10 RX8) (hr : meth.sig.returnType = some .int) : ∀ (n : Nat) (v4 : Int32) (v5 : Int32) (v6 : Int32) (st : St), F_X8_cuts_110 n v4 v5 v6 st = some (rr, st') → Z X p l e (rmk 2) s m args below meth c 10 (MQ below (Qf X (some (.int rr)) st') args s 0 0 (cA X)) 110 [(0, .ref (X.2.1 59)), (4, .int v4), (5, .int v5), (6, .int v6)] [] st := by
  intro n
  induction n with
  | zero =>
    intro v4 v5 v6 st hf
    cases hf
  | succ n ih =>
    intro v4 v5 v6 st hf
    rw [F_X8_cuts_110] at hf
    refine x_iload hh dX8_cuts_110 1 rfl 112 rfl ?_
    refine x_if_eq hh dX8_cuts_112 224 rfl 115 rfl (fun hc16 => ?_) (fun hc16 => ?_)
    · have hf := t_pos hc16 hf
      refine x_iload hh dX8_cuts_224 3 rfl 226 rfl ?_
      obtain ⟨rfl, rfl⟩ := ret2 hf
      exact x_iret hh hr dX8_cuts_226
    · have hf := t_neg hc16 hf
      refine x_aload_n hh dX8_cuts_115 rfl 0 rfl 116 rfl ?_
      refine x_iload hh dX8_cuts_116 1 rfl 118 rfl ?_
      obtain ⟨q17, hq17, hf⟩ := b_some hf
      refine x_callV (rest := []) hh mi_X8_eldest [.int v4] dX8_cuts_118 sh_59 wd_1037 (C_X8_eldest l hX  hq17) rfl rfl ⟨Nat.le_of_ble_eq_true rfl, Nat.le_of_ble_eq_true rfl⟩ (Nat.le_of_ble_eq_true rfl) 121 rfl [.int q17.1] rfl ?_
      refine x_istore hh dX8_cuts_121 (by decide) [(7, .int q17.1), (0, .ref (X.2.1 59)), (4, .int v4), (5, .int v5), (6, .int v6)] rfl 123 rfl ?_
      refine x_iload hh dX8_cuts_123 2 rfl 125 rfl ?_
      refine x_iconst hh dX8_cuts_125 1 rfl 126 rfl ?_
      refine x_iload hh dX8_cuts_126 0 rfl 128 rfl ?_
      refine x_ishl hh dX8_cuts_128 129 rfl ?_
      refine x_iconst hh dX8_cuts_129 (-1) rfl 130 rfl ?_
      refine x_ixor hh dX8_cuts_130 131 rfl ?_
      refine x_iand hh dX8_cuts_131 132 rfl ?_
      refine x_istore hh dX8_cuts_132 (by decide) [(4, .int (v4 &&& ((1 <<< (q17.1 &&& 31)) ^^^ ((-1))))), (7, .int q17.1), (0, .ref (X.2.1 59)), (5, .int v5), (6, .int v6)] rfl 134 rfl ?_
      refine x_aload_n hh dX8_cuts_134 rfl 2 rfl 135 rfl ?_
      refine x_getR hh cl_8 dX8_cuts_135 sh_59 35 80 rfl (Nat.le_of_ble_eq_true rfl) wd_835 138 rfl ?_
      refine x_iload hh dX8_cuts_138 1 rfl 140 rfl ?_
      obtain ⟨hi18, hf⟩ := gi_some hf
      refine x_iaload hh dX8_cuts_140 sh_80 hi18 141 rfl ?_
      refine x_aload_n hh dX8_cuts_141 rfl 2 rfl 142 rfl ?_
      refine x_getR hh cl_8 dX8_cuts_142 sh_59 6 64 rfl (Nat.le_of_ble_eq_true rfl) wd_806 145 rfl ?_
      refine x_iload hh dX8_cuts_145 1 rfl 147 rfl ?_
      obtain ⟨hi19, hf⟩ := gi_some hf
      refine x_iaload hh dX8_cuts_147 sh_64 hi19 148 rfl ?_
      refine x_isub hh dX8_cuts_148 149 rfl ?_
      refine x_iload hh dX8_cuts_149 3 rfl 151 rfl ?_
      refine x_isub hh dX8_cuts_151 152 rfl ?_
      refine x_istore hh dX8_cuts_152 (by decide) [(8, .int (((q17.2.1 80 q17.1.toNatClampNeg) - (q17.2.1 64 q17.1.toNatClampNeg)) - v5)), (4, .int (v4 &&& ((1 <<< (q17.1 &&& 31)) ^^^ ((-1))))), (7, .int q17.1), (0, .ref (X.2.1 59)), (5, .int v5), (6, .int v6)] rfl 154 rfl ?_
      refine x_iload hh dX8_cuts_154 5 rfl 156 rfl ?_
      refine x_iload hh dX8_cuts_156 0 rfl 158 rfl ?_
      refine x_if_le hh dX8_cuts_158 166 rfl 161 rfl (fun hc20 => ?_) (fun hc20 => ?_)
      · have hf := t_pos hc20 hf
        refine x_iconst hh dX8_cuts_166 0 rfl 167 rfl ?_
        refine x_sub (lv' := [(0, .ref (X.2.1 59)), (4, .int (v4 &&& ((1 <<< (q17.1 &&& 31)) ^^^ ((-1))))), (5, .int v5), (7, .int q17.1)]) [3, 1, 4, 2] rfl ?_
        exact Z_X8_cuts_167 hX hh hr ih  (v4 &&& ((1 <<< (q17.1 &&& 31)) ^^^ ((-1)))) v5 q17.1 0 v6 q17.2 hf
      · have hf := t_neg hc20 hf
        refine x_iload hh dX8_cuts_161 0 rfl 163 rfl ?_
        refine x_goto hh dX8_cuts_163 167 rfl ?_
        refine x_sub (lv' := [(0, .ref (X.2.1 59)), (4, .int (v4 &&& ((1 <<< (q17.1 &&& 31)) ^^^ ((-1))))), (5, .int v5), (7, .int q17.1)]) [3, 1, 4, 2] rfl ?_
        exact Z_X8_cuts_167 hX hh hr ih  (v4 &&& ((1 <<< (q17.1 &&& 31)) ^^^ ((-1)))) v5 q17.1 (((q17.2.1 80 q17.1.toNatClampNeg) - (q17.2.1 64 q17.1.toNatClampNeg)) - v5) v6 q17.2 hf
def F_X8_cuts_39 : Nat → Int32 → Int32 → Int32 → Int32 → St → Option (Int32 × St)
  | 0, _, _, _, _, _ => none
  | n + 1, v1, v2, v3, v4, st => if (st.1 59 3) ≤ v4 then F_X8_cuts_110 fN v2 1000000 0 st else (F_X8_has v2 v4 st).bind (fun q9 => if q9.1 = 0 then F_X8_cuts_75 (F_X8_cuts_39 n) v1 v2 v3 v4 0 v4 q9.2 else (F_X8_tallAt v4 v1 v3 q9.2).bind (fun q11 => F_X8_cuts_75 (F_X8_cuts_39 n) v1 v2 v3 v4 q11.1 v4 q11.2))
set_option maxRecDepth 100000 in
set_option maxHeartbeats 4000000 in
theorem Z_X8_cuts_39 {l : Launch} {X : Cx} (hX : Ok X) {p : Program} {e : Env} {s : State} {m : MethodId} {args : Array Value} {below : List Frame} {meth : Method} {c : Code} {rr : Int32} {st' : St} (hh : Hy X p s m args meth c cX8_cuts 10 RX8) (hr : meth.sig.returnType = some .int) : ∀ (n : Nat) (v1 : Int32) (v2 : Int32) (v3 : Int32) (v4 : Int32) (st : St), F_X8_cuts_39 n v1 v2 v3 v4 st = some (rr, st') → Z X p l e (rmk 2) s m args below meth c 10 (MQ below (Qf X (some (.int rr)) st') args s 0 0 (cA X)) 39 [(0, .ref (X.2.1 59)), (1, .int v1), (2, .int v2), (3, .int v3), (4, .int v4)] [] st := by
  intro n
  induction n with
  | zero =>
    intro v1 v2 v3 v4 st hf
    cases hf
  | succ n ih =>
    intro v1 v2 v3 v4 st hf
    rw [F_X8_cuts_39] at hf
    refine x_iload hh dX8_cuts_39 4 rfl 41 rfl ?_
    refine x_aload_n hh dX8_cuts_41 rfl 0 rfl 42 rfl ?_
    refine x_getI hh cl_8 dX8_cuts_42 sh_59 3 rfl (Nat.le_of_ble_eq_true rfl) wd_803 45 rfl ?_
    refine x_icmp_ge hh dX8_cuts_45 99 rfl 48 rfl (fun hc8 => ?_) (fun hc8 => ?_)
    · have hf := t_pos hc8 hf
      refine x_iload_n hh dX8_cuts_99 rfl 2 rfl 100 rfl ?_
      refine x_istore hh dX8_cuts_100 (by decide) [(4, .int v2), (0, .ref (X.2.1 59)), (1, .int v1), (2, .int v2), (3, .int v3)] rfl 102 rfl ?_
      refine x_ldc_w hh dX8_cuts_102 wd_1056 105 rfl ?_
      refine x_istore hh dX8_cuts_105 (by decide) [(5, .int 1000000), (4, .int v2), (0, .ref (X.2.1 59)), (1, .int v1), (2, .int v2), (3, .int v3)] rfl 107 rfl ?_
      refine x_iconst hh dX8_cuts_107 0 rfl 108 rfl ?_
      refine x_istore hh dX8_cuts_108 (by decide) [(6, .int 0), (5, .int 1000000), (4, .int v2), (0, .ref (X.2.1 59)), (1, .int v1), (2, .int v2), (3, .int v3)] rfl 110 rfl ?_
      refine x_sub (lv' := [(0, .ref (X.2.1 59)), (4, .int v2), (5, .int 1000000), (6, .int 0)]) [3, 2, 1, 0] rfl ?_
      exact Z_X8_cuts_110 hX hh hr fN v2 1000000 0 st hf
    · have hf := t_neg hc8 hf
      refine x_aload_n hh dX8_cuts_48 rfl 0 rfl 49 rfl ?_
      refine x_getR hh cl_8 dX8_cuts_49 sh_59 35 80 rfl (Nat.le_of_ble_eq_true rfl) wd_835 52 rfl ?_
      refine x_iload hh dX8_cuts_52 4 rfl 54 rfl ?_
      refine x_iload_n hh dX8_cuts_54 rfl 2 rfl 55 rfl ?_
      refine x_iload hh dX8_cuts_55 4 rfl 57 rfl ?_
      obtain ⟨q9, hq9, hf⟩ := b_some hf
      refine x_callS (rest := [.int v4, .ref (X.2.1 80)]) hh ms_X8_has [.int v2, .int v4] dX8_cuts_57 wd_1040 (C_X8_has l hX  hq9) rfl rfl ⟨Nat.le_of_ble_eq_true rfl, Nat.le_of_ble_eq_true rfl⟩ (Nat.le_of_ble_eq_true rfl) 60 rfl [.int q9.1, .int v4, .ref (X.2.1 80)] rfl ?_
      refine x_if_eq hh dX8_cuts_60 74 rfl 63 rfl (fun hc10 => ?_) (fun hc10 => ?_)
      · have hf := t_pos hc10 hf
        refine x_iconst hh dX8_cuts_74 0 rfl 75 rfl ?_
        exact Z_X8_cuts_75 hX hh hr ih  v1 v2 v3 v4 0 v4 q9.2 hf
      · have hf := t_neg hc10 hf
        refine x_aload_n hh dX8_cuts_63 rfl 0 rfl 64 rfl ?_
        refine x_iload hh dX8_cuts_64 4 rfl 66 rfl ?_
        refine x_iload_n hh dX8_cuts_66 rfl 1 rfl 67 rfl ?_
        refine x_iload_n hh dX8_cuts_67 rfl 3 rfl 68 rfl ?_
        obtain ⟨q11, hq11, hf⟩ := b_some hf
        refine x_callV (rest := [.int v4, .ref (X.2.1 80)]) hh mi_X8_tallAt [.int v4, .int v1, .int v3] dX8_cuts_68 sh_59 wd_994 (C_X8_tallAt l hX  hq11) rfl rfl ⟨Nat.le_of_ble_eq_true rfl, Nat.le_of_ble_eq_true rfl⟩ (Nat.le_of_ble_eq_true rfl) 71 rfl [.int q11.1, .int v4, .ref (X.2.1 80)] rfl ?_
        refine x_goto hh dX8_cuts_71 75 rfl ?_
        exact Z_X8_cuts_75 hX hh hr ih  v1 v2 v3 v4 q11.1 v4 q11.2 hf
def F_X8_cuts_0 (v1 : Int32) (v2 : Int32) (st : St) : Option (Int32 × St) := (F_X8_isRoom v1 st).bind (fun q1 => if q1.1 = 0 then F_X8_cuts_16 q1.2 else (F_X8_isSet v2 q1.2).bind (fun q3 => if q3.1 = 0 then F_X8_cuts_16 q3.2 else (F_X8_bits v2 q3.2).bind (fun q5 => gi v1 3 (if q5.1 ≤ (q5.2.1 60 v1.toNatClampNeg) then F_X8_cuts_39 fN v1 v2 0 0 q5.2 else some ((-1), q5.2)))))
set_option maxRecDepth 100000 in
set_option maxHeartbeats 4000000 in
theorem Z_X8_cuts_0 {l : Launch} {X : Cx} (hX : Ok X) {p : Program} {e : Env} {s : State} {m : MethodId} {args : Array Value} {below : List Frame} {meth : Method} {c : Code} {rr : Int32} {st' : St} (hh : Hy X p s m args meth c cX8_cuts 10 RX8) (hr : meth.sig.returnType = some .int) (v1 : Int32) (v2 : Int32) (st : St) (hf : F_X8_cuts_0 v1 v2 st = some (rr, st')) : Z X p l e (rmk 2) s m args below meth c 10 (MQ below (Qf X (some (.int rr)) st') args s 0 0 (cA X)) 0 [(0, .ref (X.2.1 59)), (1, .int v1), (2, .int v2)] [] st := by
  unfold F_X8_cuts_0 at hf
  refine x_aload_n hh dX8_cuts_0 rfl 0 rfl 1 rfl ?_
  refine x_iload_n hh dX8_cuts_1 rfl 1 rfl 2 rfl ?_
  obtain ⟨q1, hq1, hf⟩ := b_some hf
  refine x_callV (rest := []) hh mi_X8_isRoom [.int v1] dX8_cuts_2 sh_59 wd_974 (C_X8_isRoom l hX  hq1) rfl rfl ⟨Nat.le_of_ble_eq_true rfl, Nat.le_of_ble_eq_true rfl⟩ (Nat.le_of_ble_eq_true rfl) 5 rfl [.int q1.1] rfl ?_
  refine x_if_eq hh dX8_cuts_5 16 rfl 8 rfl (fun hc2 => ?_) (fun hc2 => ?_)
  · have hf := t_pos hc2 hf
    refine x_sub (lv' := [(0, .ref (X.2.1 59))]) [0] rfl ?_
    exact Z_X8_cuts_16 hX hh hr  q1.2 hf
  · have hf := t_neg hc2 hf
    refine x_aload_n hh dX8_cuts_8 rfl 0 rfl 9 rfl ?_
    refine x_iload_n hh dX8_cuts_9 rfl 2 rfl 10 rfl ?_
    obtain ⟨q3, hq3, hf⟩ := b_some hf
    refine x_callV (rest := []) hh mi_X8_isSet [.int v2] dX8_cuts_10 sh_59 wd_1082 (C_X8_isSet l hX  hq3) rfl rfl ⟨Nat.le_of_ble_eq_true rfl, Nat.le_of_ble_eq_true rfl⟩ (Nat.le_of_ble_eq_true rfl) 13 rfl [.int q3.1] rfl ?_
    refine x_if_ne hh dX8_cuts_13 19 rfl 16 rfl (fun hc4 => ?_) (fun hc4 => ?_)
    · have hf := t_neg hc4 hf
      refine x_iload_n hh dX8_cuts_19 rfl 2 rfl 20 rfl ?_
      obtain ⟨q5, hq5, hf⟩ := b_some hf
      refine x_callS (rest := []) hh ms_X8_bits [.int v2] dX8_cuts_20 wd_1088 (C_X8_bits l hX  hq5) rfl rfl ⟨Nat.le_of_ble_eq_true rfl, Nat.le_of_ble_eq_true rfl⟩ (Nat.le_of_ble_eq_true rfl) 23 rfl [.int q5.1] rfl ?_
      refine x_aload_n hh dX8_cuts_23 rfl 0 rfl 24 rfl ?_
      refine x_getR hh cl_8 dX8_cuts_24 sh_59 1 60 rfl (Nat.le_of_ble_eq_true rfl) wd_801 27 rfl ?_
      refine x_iload_n hh dX8_cuts_27 rfl 1 rfl 28 rfl ?_
      obtain ⟨hi6, hf⟩ := gi_some hf
      refine x_iaload hh dX8_cuts_28 sh_60 hi6 29 rfl ?_
      refine x_icmp_le hh dX8_cuts_29 34 rfl 32 rfl (fun hc7 => ?_) (fun hc7 => ?_)
      · have hf := t_pos hc7 hf
        refine x_iconst hh dX8_cuts_34 0 rfl 35 rfl ?_
        refine x_istore_n hh dX8_cuts_35 rfl (by decide) [(3, .int 0), (0, .ref (X.2.1 59)), (1, .int v1), (2, .int v2)] rfl 36 rfl ?_
        refine x_iconst hh dX8_cuts_36 0 rfl 37 rfl ?_
        refine x_istore hh dX8_cuts_37 (by decide) [(4, .int 0), (3, .int 0), (0, .ref (X.2.1 59)), (1, .int v1), (2, .int v2)] rfl 39 rfl ?_
        refine x_sub (lv' := [(0, .ref (X.2.1 59)), (1, .int v1), (2, .int v2), (3, .int 0), (4, .int 0)]) [2, 3, 4, 1, 0] rfl ?_
        exact Z_X8_cuts_39 hX hh hr fN v1 v2 0 0 q5.2 hf
      · have hf := t_neg hc7 hf
        refine x_iconst hh dX8_cuts_32 (-1) rfl 33 rfl ?_
        obtain ⟨rfl, rfl⟩ := ret2 hf
        exact x_iret hh hr dX8_cuts_33
    · have hf := t_pos hc4 hf
      refine x_sub (lv' := [(0, .ref (X.2.1 59))]) [0] rfl ?_
      exact Z_X8_cuts_16 hX hh hr  q3.2 hf
def F_X8_cuts (v1 : Int32) (v2 : Int32) (st : St) : Option (Int32 × St) := F_X8_cuts_0  v1 v2 st
set_option maxRecDepth 100000 in
theorem C_X8_cuts (l : Launch) {X : Cx} (hX : Ok X) {v1 : Int32} {v2 : Int32} {st : St} {q : Int32 × St} (hf : F_X8_cuts v1 v2 st = some q) : Ct l X 2 yX8_cuts (.code yX8_cuts cX8_cuts 10 (some .int)) [.ref (X.2.1 59), .int v1, .int v2] st (some (.int q.1)) q.2 := by
  refine Ct.of hX (by decide) (Nat.le_of_ble_eq_true rfl) ?_
  intro p e s m args below meth c hh hr
  exact Z_X8_cuts_0 hX hh hr v1 v2 st hf

def F_X8_till_65 : Nat → Int32 → Int32 → St → Option (Int32 × St)
  | 0, _, _, _ => none
  | n + 1, v1, v2, st => if (6 : Int32) ≤ v2 then some (v1, st) else gi v2 6 (gi v2 6 (bs (sV st 67 v2.toNatClampNeg (st.1 87 v2.toNatClampNeg)) (fun st15 => gi v2 6 (gi v2 6 (bs (sV st15 68 v2.toNatClampNeg (st15.1 88 v2.toNatClampNeg)) (fun st18 => F_X8_till_65 n v1 (v2 + 1) st18))))))
set_option maxRecDepth 100000 in
set_option maxHeartbeats 4000000 in
theorem Z_X8_till_65 {l : Launch} {X : Cx} (hX : Ok X) {p : Program} {e : Env} {s : State} {m : MethodId} {args : Array Value} {below : List Frame} {meth : Method} {c : Code} {rr : Int32} {st' : St} (hh : Hy X p s m args meth c cX8_till 3 RX8) (hr : meth.sig.returnType = some .int) : ∀ (n : Nat) (v1 : Int32) (v2 : Int32) (st : St), F_X8_till_65 n v1 v2 st = some (rr, st') → Z X p l e (rmk 5) s m args below meth c 3 (MQ below (Qf X (some (.int rr)) st') args s 0 0 (cA X)) 65 [(0, .ref (X.2.1 59)), (1, .int v1), (2, .int v2)] [] st := by
  intro n
  induction n with
  | zero =>
    intro v1 v2 st hf
    cases hf
  | succ n ih =>
    intro v1 v2 st hf
    rw [F_X8_till_65] at hf
    refine x_iload_n hh dX8_till_65 rfl 2 rfl 66 rfl ?_
    refine x_bipush hh dX8_till_66 6 rfl 68 rfl ?_
    refine x_icmp_ge hh dX8_till_68 101 rfl 71 rfl (fun hc12 => ?_) (fun hc12 => ?_)
    · have hf := t_pos hc12 hf
      refine x_iload_n hh dX8_till_101 rfl 1 rfl 102 rfl ?_
      obtain ⟨rfl, rfl⟩ := ret2 hf
      exact x_iret hh hr dX8_till_102
    · have hf := t_neg hc12 hf
      refine x_aload_n hh dX8_till_71 rfl 0 rfl 72 rfl ?_
      refine x_getR hh cl_8 dX8_till_72 sh_59 11 67 rfl (Nat.le_of_ble_eq_true rfl) wd_811 75 rfl ?_
      refine x_iload_n hh dX8_till_75 rfl 2 rfl 76 rfl ?_
      refine x_aload_n hh dX8_till_76 rfl 0 rfl 77 rfl ?_
      refine x_getR hh cl_8 dX8_till_77 sh_59 43 87 rfl (Nat.le_of_ble_eq_true rfl) wd_843 80 rfl ?_
      refine x_iload_n hh dX8_till_80 rfl 2 rfl 81 rfl ?_
      obtain ⟨hi13, hf⟩ := gi_some hf
      refine x_iaload hh dX8_till_81 sh_87 hi13 82 rfl ?_
      obtain ⟨hi14, hf⟩ := gi_some hf
      obtain ⟨st15, est15, hf⟩ := bs_some hf
      refine x_iastore hh dX8_till_82 sh_67 hi14 83 rfl st15 est15 ?_
      refine x_aload_n hh dX8_till_83 rfl 0 rfl 84 rfl ?_
      refine x_getR hh cl_8 dX8_till_84 sh_59 12 68 rfl (Nat.le_of_ble_eq_true rfl) wd_812 87 rfl ?_
      refine x_iload_n hh dX8_till_87 rfl 2 rfl 88 rfl ?_
      refine x_aload_n hh dX8_till_88 rfl 0 rfl 89 rfl ?_
      refine x_getR hh cl_8 dX8_till_89 sh_59 44 88 rfl (Nat.le_of_ble_eq_true rfl) wd_844 92 rfl ?_
      refine x_iload_n hh dX8_till_92 rfl 2 rfl 93 rfl ?_
      obtain ⟨hi16, hf⟩ := gi_some hf
      refine x_iaload hh dX8_till_93 sh_88 hi16 94 rfl ?_
      obtain ⟨hi17, hf⟩ := gi_some hf
      obtain ⟨st18, est18, hf⟩ := bs_some hf
      refine x_iastore hh dX8_till_94 sh_68 hi17 95 rfl st18 est18 ?_
      refine x_iinc hh dX8_till_95 2 rfl (v2 + 1) rfl (by decide) [(2, .int (v2 + 1)), (0, .ref (X.2.1 59)), (1, .int v1)] rfl 98 rfl ?_
      refine x_goto hh dX8_till_98 65 rfl ?_
      refine x_sub (lv' := [(0, .ref (X.2.1 59)), (1, .int v1), (2, .int (v2 + 1))]) [1, 2, 0] rfl ?_
      exact ih v1 (v2 + 1) st18 hf
def F_X8_till_63 (v1 : Int32) (st : St) : Option (Int32 × St) := F_X8_till_65 fN v1 0 st
set_option maxRecDepth 100000 in
set_option maxHeartbeats 4000000 in
theorem Z_X8_till_63 {l : Launch} {X : Cx} (hX : Ok X) {p : Program} {e : Env} {s : State} {m : MethodId} {args : Array Value} {below : List Frame} {meth : Method} {c : Code} {rr : Int32} {st' : St} (hh : Hy X p s m args meth c cX8_till 3 RX8) (hr : meth.sig.returnType = some .int) (v1 : Int32) (st : St) (hf : F_X8_till_63 v1 st = some (rr, st')) : Z X p l e (rmk 5) s m args below meth c 3 (MQ below (Qf X (some (.int rr)) st') args s 0 0 (cA X)) 63 [(0, .ref (X.2.1 59)), (1, .int v1)] [] st := by
  unfold F_X8_till_63 at hf
  refine x_iconst hh dX8_till_63 0 rfl 64 rfl ?_
  refine x_istore_n hh dX8_till_64 rfl (by decide) [(2, .int 0), (0, .ref (X.2.1 59)), (1, .int v1)] rfl 65 rfl ?_
  refine x_sub (lv' := [(0, .ref (X.2.1 59)), (1, .int v1), (2, .int 0)]) [1, 2, 0] rfl ?_
  exact Z_X8_till_65 hX hh hr fN v1 0 st hf
def F_X8_till_40 : Nat → Int32 → St → Option (Int32 × St)
  | 0, _, _ => none
  | n + 1, v1, st => if (60 : Int32) ≤ v1 then F_X8_till_63 v1 st else (F_X8_faultRooms st).bind (fun q9 => if q9.1 = 0 then (F_X8_yearNow q9.2).bind (fun q11 => F_X8_till_40 n (v1 + 1) q11) else F_X8_till_63 v1 q9.2)
set_option maxRecDepth 100000 in
set_option maxHeartbeats 4000000 in
theorem Z_X8_till_40 {l : Launch} {X : Cx} (hX : Ok X) {p : Program} {e : Env} {s : State} {m : MethodId} {args : Array Value} {below : List Frame} {meth : Method} {c : Code} {rr : Int32} {st' : St} (hh : Hy X p s m args meth c cX8_till 3 RX8) (hr : meth.sig.returnType = some .int) : ∀ (n : Nat) (v1 : Int32) (st : St), F_X8_till_40 n v1 st = some (rr, st') → Z X p l e (rmk 5) s m args below meth c 3 (MQ below (Qf X (some (.int rr)) st') args s 0 0 (cA X)) 40 [(0, .ref (X.2.1 59)), (1, .int v1)] [] st := by
  intro n
  induction n with
  | zero =>
    intro v1 st hf
    cases hf
  | succ n ih =>
    intro v1 st hf
    rw [F_X8_till_40] at hf
    refine x_iload_n hh dX8_till_40 rfl 1 rfl 41 rfl ?_
    refine x_bipush hh dX8_till_41 60 rfl 43 rfl ?_
    refine x_icmp_ge hh dX8_till_43 63 rfl 46 rfl (fun hc8 => ?_) (fun hc8 => ?_)
    · have hf := t_pos hc8 hf
      exact Z_X8_till_63 hX hh hr  v1 st hf
    · have hf := t_neg hc8 hf
      refine x_aload_n hh dX8_till_46 rfl 0 rfl 47 rfl ?_
      obtain ⟨q9, hq9, hf⟩ := b_some hf
      refine x_callV (rest := []) hh mi_X8_faultRooms [] dX8_till_47 sh_59 wd_1065 (C_X8_faultRooms l hX  hq9) rfl rfl ⟨Nat.le_of_ble_eq_true rfl, Nat.le_of_ble_eq_true rfl⟩ (Nat.le_of_ble_eq_true rfl) 50 rfl [.int q9.1] rfl ?_
      refine x_if_ne hh dX8_till_50 63 rfl 53 rfl (fun hc10 => ?_) (fun hc10 => ?_)
      · have hf := t_neg hc10 hf
        exact Z_X8_till_63 hX hh hr  v1 q9.2 hf
      · have hf := t_pos hc10 hf
        refine x_aload_n hh dX8_till_53 rfl 0 rfl 54 rfl ?_
        obtain ⟨q11, hq11, hf⟩ := b_some hf
        refine x_callV (rest := []) hh mi_X8_yearNow [] dX8_till_54 sh_59 wd_1062 (C_X8_yearNow l hX  hq11) rfl rfl ⟨Nat.le_of_ble_eq_true rfl, Nat.le_of_ble_eq_true rfl⟩ (Nat.le_of_ble_eq_true rfl) 57 rfl [] rfl ?_
        refine x_iinc hh dX8_till_57 1 rfl (v1 + 1) rfl (by decide) [(1, .int (v1 + 1)), (0, .ref (X.2.1 59))] rfl 60 rfl ?_
        refine x_goto hh dX8_till_60 40 rfl ?_
        refine x_sub (lv' := [(0, .ref (X.2.1 59)), (1, .int (v1 + 1))]) [1, 0] rfl ?_
        exact ih (v1 + 1) q11 hf
def F_X8_till_2 : Nat → Int32 → St → Option (Int32 × St)
  | 0, _, _ => none
  | n + 1, v1, st => if (6 : Int32) ≤ v1 then F_X8_till_40 fN 0 st else gi v1 6 (gi v1 6 (bs (sV st 87 v1.toNatClampNeg (st.1 67 v1.toNatClampNeg)) (fun st4 => gi v1 6 (gi v1 6 (bs (sV st4 88 v1.toNatClampNeg (st4.1 68 v1.toNatClampNeg)) (fun st7 => F_X8_till_2 n (v1 + 1) st7))))))
set_option maxRecDepth 100000 in
set_option maxHeartbeats 4000000 in
theorem Z_X8_till_2 {l : Launch} {X : Cx} (hX : Ok X) {p : Program} {e : Env} {s : State} {m : MethodId} {args : Array Value} {below : List Frame} {meth : Method} {c : Code} {rr : Int32} {st' : St} (hh : Hy X p s m args meth c cX8_till 3 RX8) (hr : meth.sig.returnType = some .int) : ∀ (n : Nat) (v1 : Int32) (st : St), F_X8_till_2 n v1 st = some (rr, st') → Z X p l e (rmk 5) s m args below meth c 3 (MQ below (Qf X (some (.int rr)) st') args s 0 0 (cA X)) 2 [(0, .ref (X.2.1 59)), (1, .int v1)] [] st := by
  intro n
  induction n with
  | zero =>
    intro v1 st hf
    cases hf
  | succ n ih =>
    intro v1 st hf
    rw [F_X8_till_2] at hf
    refine x_iload_n hh dX8_till_2 rfl 1 rfl 3 rfl ?_
    refine x_bipush hh dX8_till_3 6 rfl 5 rfl ?_
    refine x_icmp_ge hh dX8_till_5 38 rfl 8 rfl (fun hc1 => ?_) (fun hc1 => ?_)
    · have hf := t_pos hc1 hf
      refine x_iconst hh dX8_till_38 0 rfl 39 rfl ?_
      refine x_istore_n hh dX8_till_39 rfl (by decide) [(1, .int 0), (0, .ref (X.2.1 59))] rfl 40 rfl ?_
      refine x_sub (lv' := [(0, .ref (X.2.1 59)), (1, .int 0)]) [1, 0] rfl ?_
      exact Z_X8_till_40 hX hh hr fN 0 st hf
    · have hf := t_neg hc1 hf
      refine x_aload_n hh dX8_till_8 rfl 0 rfl 9 rfl ?_
      refine x_getR hh cl_8 dX8_till_9 sh_59 43 87 rfl (Nat.le_of_ble_eq_true rfl) wd_843 12 rfl ?_
      refine x_iload_n hh dX8_till_12 rfl 1 rfl 13 rfl ?_
      refine x_aload_n hh dX8_till_13 rfl 0 rfl 14 rfl ?_
      refine x_getR hh cl_8 dX8_till_14 sh_59 11 67 rfl (Nat.le_of_ble_eq_true rfl) wd_811 17 rfl ?_
      refine x_iload_n hh dX8_till_17 rfl 1 rfl 18 rfl ?_
      obtain ⟨hi2, hf⟩ := gi_some hf
      refine x_iaload hh dX8_till_18 sh_67 hi2 19 rfl ?_
      obtain ⟨hi3, hf⟩ := gi_some hf
      obtain ⟨st4, est4, hf⟩ := bs_some hf
      refine x_iastore hh dX8_till_19 sh_87 hi3 20 rfl st4 est4 ?_
      refine x_aload_n hh dX8_till_20 rfl 0 rfl 21 rfl ?_
      refine x_getR hh cl_8 dX8_till_21 sh_59 44 88 rfl (Nat.le_of_ble_eq_true rfl) wd_844 24 rfl ?_
      refine x_iload_n hh dX8_till_24 rfl 1 rfl 25 rfl ?_
      refine x_aload_n hh dX8_till_25 rfl 0 rfl 26 rfl ?_
      refine x_getR hh cl_8 dX8_till_26 sh_59 12 68 rfl (Nat.le_of_ble_eq_true rfl) wd_812 29 rfl ?_
      refine x_iload_n hh dX8_till_29 rfl 1 rfl 30 rfl ?_
      obtain ⟨hi5, hf⟩ := gi_some hf
      refine x_iaload hh dX8_till_30 sh_68 hi5 31 rfl ?_
      obtain ⟨hi6, hf⟩ := gi_some hf
      obtain ⟨st7, est7, hf⟩ := bs_some hf
      refine x_iastore hh dX8_till_31 sh_88 hi6 32 rfl st7 est7 ?_
      refine x_iinc hh dX8_till_32 1 rfl (v1 + 1) rfl (by decide) [(1, .int (v1 + 1)), (0, .ref (X.2.1 59))] rfl 35 rfl ?_
      refine x_goto hh dX8_till_35 2 rfl ?_
      refine x_sub (lv' := [(0, .ref (X.2.1 59)), (1, .int (v1 + 1))]) [1, 0] rfl ?_
      exact ih (v1 + 1) st7 hf
def F_X8_till_0 (st : St) : Option (Int32 × St) := F_X8_till_2 fN 0 st
set_option maxRecDepth 100000 in
set_option maxHeartbeats 4000000 in
theorem Z_X8_till_0 {l : Launch} {X : Cx} (hX : Ok X) {p : Program} {e : Env} {s : State} {m : MethodId} {args : Array Value} {below : List Frame} {meth : Method} {c : Code} {rr : Int32} {st' : St} (hh : Hy X p s m args meth c cX8_till 3 RX8) (hr : meth.sig.returnType = some .int) (st : St) (hf : F_X8_till_0 st = some (rr, st')) : Z X p l e (rmk 5) s m args below meth c 3 (MQ below (Qf X (some (.int rr)) st') args s 0 0 (cA X)) 0 [(0, .ref (X.2.1 59))] [] st := by
  unfold F_X8_till_0 at hf
  refine x_iconst hh dX8_till_0 0 rfl 1 rfl ?_
  refine x_istore_n hh dX8_till_1 rfl (by decide) [(1, .int 0), (0, .ref (X.2.1 59))] rfl 2 rfl ?_
  refine x_sub (lv' := [(0, .ref (X.2.1 59)), (1, .int 0)]) [1, 0] rfl ?_
  exact Z_X8_till_2 hX hh hr fN 0 st hf
def F_X8_till (st : St) : Option (Int32 × St) := F_X8_till_0  st
set_option maxRecDepth 100000 in
theorem C_X8_till (l : Launch) {X : Cx} (hX : Ok X) {st : St} {q : Int32 × St} (hf : F_X8_till st = some q) : Ct l X 5 yX8_till (.code yX8_till cX8_till 3 (some .int)) [.ref (X.2.1 59)] st (some (.int q.1)) q.2 := by
  refine Ct.of hX (by decide) (Nat.le_of_ble_eq_true rfl) ?_
  intro p e s m args below meth c hh hr
  exact Z_X8_till_0 hX hh hr st hf

def F_X8_isHeeled_23 (v1 : Int32) (t0 : Int32) (st : St) : Option (Int32 × St) := gi v1 6 (gi v1 6 (bs (sV st 68 v1.toNatClampNeg ((st.1 68 v1.toNatClampNeg) + 1)) (fun st8 => gb t0 (some (t0, st8)))))
set_option maxRecDepth 100000 in
set_option maxHeartbeats 4000000 in
theorem Z_X8_isHeeled_23 {l : Launch} {X : Cx} (hX : Ok X) {p : Program} {e : Env} {s : State} {m : MethodId} {args : Array Value} {below : List Frame} {meth : Method} {c : Code} {rr : Int32} {st' : St} (hh : Hy X p s m args meth c cX8_isHeeled 4 RX8) (hr : meth.sig.returnType = some .boolean) (v1 : Int32) (t0 : Int32) (st : St) (hf : F_X8_isHeeled_23 v1 t0 st = some (rr, st')) : Z X p l e (rmk 4) s m args below meth c 4 (MQ below (Qf X (some (.int rr)) st') args s 0 0 (cA X)) 23 [(0, .ref (X.2.1 59)), (1, .int v1)] [.int t0] st := by
  unfold F_X8_isHeeled_23 at hf
  refine x_istore_n hh dX8_isHeeled_23 rfl (by decide) [(3, .int t0), (0, .ref (X.2.1 59)), (1, .int v1)] rfl 24 rfl ?_
  refine x_aload_n hh dX8_isHeeled_24 rfl 1 rfl 25 rfl ?_
  refine x_getR hh cl_8 dX8_isHeeled_25 sh_59 12 68 rfl (Nat.le_of_ble_eq_true rfl) wd_812 28 rfl ?_
  refine x_iload_n hh dX8_isHeeled_28 rfl 2 rfl 29 rfl ?_
  refine x_dup2 hh dX8_isHeeled_29 rfl rfl 30 rfl ?_
  obtain ⟨hi6, hf⟩ := gi_some hf
  refine x_iaload hh dX8_isHeeled_30 sh_68 hi6 31 rfl ?_
  refine x_iconst hh dX8_isHeeled_31 1 rfl 32 rfl ?_
  refine x_iadd hh dX8_isHeeled_32 33 rfl ?_
  obtain ⟨hi7, hf⟩ := gi_some hf
  obtain ⟨st8, est8, hf⟩ := bs_some hf
  refine x_iastore hh dX8_isHeeled_33 sh_68 hi7 34 rfl st8 est8 ?_
  refine x_iload_n hh dX8_isHeeled_34 rfl 0 rfl 35 rfl ?_
  obtain ⟨hb9, hf⟩ := gb_some hf
  obtain ⟨rfl, rfl⟩ := ret2 hf
  exact x_zret hh hr (nb_n hb9) dX8_isHeeled_35
def F_X8_isHeeled_0 (v1 : Int32) (v2 : Int32) (st : St) : Option (Int32 × St) := gi v1 6 (gi v1 6 (bs (sV st 68 v1.toNatClampNeg ((st.1 68 v1.toNatClampNeg) - 1)) (fun st3 => (F_X8_firstFault v2 st3).bind (fun q4 => if (0 : Int32) ≤ q4.1 then F_X8_isHeeled_23 v1 0 q4.2 else F_X8_isHeeled_23 v1 1 q4.2))))
set_option maxRecDepth 100000 in
set_option maxHeartbeats 4000000 in
theorem Z_X8_isHeeled_0 {l : Launch} {X : Cx} (hX : Ok X) {p : Program} {e : Env} {s : State} {m : MethodId} {args : Array Value} {below : List Frame} {meth : Method} {c : Code} {rr : Int32} {st' : St} (hh : Hy X p s m args meth c cX8_isHeeled 4 RX8) (hr : meth.sig.returnType = some .boolean) (v1 : Int32) (v2 : Int32) (st : St) (hf : F_X8_isHeeled_0 v1 v2 st = some (rr, st')) : Z X p l e (rmk 4) s m args below meth c 4 (MQ below (Qf X (some (.int rr)) st') args s 0 0 (cA X)) 0 [(0, .ref (X.2.1 59)), (1, .int v1), (2, .int v2)] [] st := by
  unfold F_X8_isHeeled_0 at hf
  refine x_aload_n hh dX8_isHeeled_0 rfl 0 rfl 1 rfl ?_
  refine x_getR hh cl_8 dX8_isHeeled_1 sh_59 12 68 rfl (Nat.le_of_ble_eq_true rfl) wd_812 4 rfl ?_
  refine x_iload_n hh dX8_isHeeled_4 rfl 1 rfl 5 rfl ?_
  refine x_dup2 hh dX8_isHeeled_5 rfl rfl 6 rfl ?_
  obtain ⟨hi1, hf⟩ := gi_some hf
  refine x_iaload hh dX8_isHeeled_6 sh_68 hi1 7 rfl ?_
  refine x_iconst hh dX8_isHeeled_7 1 rfl 8 rfl ?_
  refine x_isub hh dX8_isHeeled_8 9 rfl ?_
  obtain ⟨hi2, hf⟩ := gi_some hf
  obtain ⟨st3, est3, hf⟩ := bs_some hf
  refine x_iastore hh dX8_isHeeled_9 sh_68 hi2 10 rfl st3 est3 ?_
  refine x_aload_n hh dX8_isHeeled_10 rfl 0 rfl 11 rfl ?_
  refine x_iload_n hh dX8_isHeeled_11 rfl 2 rfl 12 rfl ?_
  obtain ⟨q4, hq4, hf⟩ := b_some hf
  refine x_callV (rest := []) hh mi_X8_firstFault [.int v2] dX8_isHeeled_12 sh_59 wd_1031 (C_X8_firstFault l hX  hq4) rfl rfl ⟨Nat.le_of_ble_eq_true rfl, Nat.le_of_ble_eq_true rfl⟩ (Nat.le_of_ble_eq_true rfl) 15 rfl [.int q4.1] rfl ?_
  refine x_if_ge hh dX8_isHeeled_15 22 rfl 18 rfl (fun hc5 => ?_) (fun hc5 => ?_)
  · have hf := t_pos hc5 hf
    refine x_iconst hh dX8_isHeeled_22 0 rfl 23 rfl ?_
    refine x_sub (lv' := [(0, .ref (X.2.1 59)), (1, .int v1)]) [0, 1] rfl ?_
    exact Z_X8_isHeeled_23 hX hh hr  v1 0 q4.2 hf
  · have hf := t_neg hc5 hf
    refine x_iconst hh dX8_isHeeled_18 1 rfl 19 rfl ?_
    refine x_goto hh dX8_isHeeled_19 23 rfl ?_
    refine x_sub (lv' := [(0, .ref (X.2.1 59)), (1, .int v1)]) [0, 1] rfl ?_
    exact Z_X8_isHeeled_23 hX hh hr  v1 1 q4.2 hf
def F_X8_isHeeled (v1 : Int32) (v2 : Int32) (st : St) : Option (Int32 × St) := F_X8_isHeeled_0  v1 v2 st
set_option maxRecDepth 100000 in
theorem C_X8_isHeeled (l : Launch) {X : Cx} (hX : Ok X) {v1 : Int32} {v2 : Int32} {st : St} {q : Int32 × St} (hf : F_X8_isHeeled v1 v2 st = some q) : Ct l X 4 yX8_isHeeled (.code yX8_isHeeled cX8_isHeeled 4 (some .boolean)) [.ref (X.2.1 59), .int v1, .int v2] st (some (.int q.1)) q.2 := by
  refine Ct.of hX (by decide) (Nat.le_of_ble_eq_true rfl) ?_
  intro p e s m args below meth c hh hr
  exact Z_X8_isHeeled_0 hX hh hr v1 v2 st hf

def F_X8_isAged_45 (k5 : Int32 → Int32 → Int32 → Int32 → St → Option (Int32 × St)) (v1 : Int32) (v2 : Int32) (v4 : Int32) (t0 : Int32) (st : St) : Option (Int32 × St) := k5 v1 v2 t0 (v4 + 1) st
set_option maxRecDepth 100000 in
set_option maxHeartbeats 4000000 in
theorem Z_X8_isAged_45 {l : Launch} {X : Cx} (hX : Ok X) {p : Program} {e : Env} {s : State} {m : MethodId} {args : Array Value} {below : List Frame} {meth : Method} {c : Code} {rr : Int32} {st' : St} (hh : Hy X p s m args meth c cX8_isAged 5 RX8) (hr : meth.sig.returnType = some .boolean) {k5 : Int32 → Int32 → Int32 → Int32 → St → Option (Int32 × St)} (hk5 : ∀ (v1 : Int32) (v2 : Int32) (v3 : Int32) (v4 : Int32) (st : St), k5 v1 v2 v3 v4 st = some (rr, st') → Z X p l e (rmk 0) s m args below meth c 5 (MQ below (Qf X (some (.int rr)) st') args s 0 0 (cA X)) 5 [(0, .ref (X.2.1 59)), (1, .int v1), (2, .int v2), (3, .int v3), (4, .int v4)] [] st) (v1 : Int32) (v2 : Int32) (v4 : Int32) (t0 : Int32) (st : St) (hf : F_X8_isAged_45 k5 v1 v2 v4 t0 st = some (rr, st')) : Z X p l e (rmk 0) s m args below meth c 5 (MQ below (Qf X (some (.int rr)) st') args s 0 0 (cA X)) 45 [(0, .ref (X.2.1 59)), (1, .int v1), (2, .int v2), (4, .int v4)] [.int t0] st := by
  unfold F_X8_isAged_45 at hf
  refine x_istore_n hh dX8_isAged_45 rfl (by decide) [(3, .int t0), (0, .ref (X.2.1 59)), (1, .int v1), (2, .int v2), (4, .int v4)] rfl 46 rfl ?_
  refine x_iinc hh dX8_isAged_46 4 rfl (v4 + 1) rfl (by decide) [(4, .int (v4 + 1)), (3, .int t0), (0, .ref (X.2.1 59)), (1, .int v1), (2, .int v2)] rfl 49 rfl ?_
  refine x_goto hh dX8_isAged_49 5 rfl ?_
  refine x_sub (lv' := [(0, .ref (X.2.1 59)), (1, .int v1), (2, .int v2), (3, .int t0), (4, .int (v4 + 1))]) [2, 3, 4, 1, 0] rfl ?_
  exact hk5 v1 v2 t0 (v4 + 1) st hf
def F_X8_isAged_40 (k5 : Int32 → Int32 → Int32 → Int32 → St → Option (Int32 × St)) (v1 : Int32) (v2 : Int32) (v4 : Int32) (st : St) : Option (Int32 × St) := F_X8_isAged_45 k5 v1 v2 v4 1 st
set_option maxRecDepth 100000 in
set_option maxHeartbeats 4000000 in
theorem Z_X8_isAged_40 {l : Launch} {X : Cx} (hX : Ok X) {p : Program} {e : Env} {s : State} {m : MethodId} {args : Array Value} {below : List Frame} {meth : Method} {c : Code} {rr : Int32} {st' : St} (hh : Hy X p s m args meth c cX8_isAged 5 RX8) (hr : meth.sig.returnType = some .boolean) {k5 : Int32 → Int32 → Int32 → Int32 → St → Option (Int32 × St)} (hk5 : ∀ (v1 : Int32) (v2 : Int32) (v3 : Int32) (v4 : Int32) (st : St), k5 v1 v2 v3 v4 st = some (rr, st') → Z X p l e (rmk 0) s m args below meth c 5 (MQ below (Qf X (some (.int rr)) st') args s 0 0 (cA X)) 5 [(0, .ref (X.2.1 59)), (1, .int v1), (2, .int v2), (3, .int v3), (4, .int v4)] [] st) (v1 : Int32) (v2 : Int32) (v4 : Int32) (st : St) (hf : F_X8_isAged_40 k5 v1 v2 v4 st = some (rr, st')) : Z X p l e (rmk 0) s m args below meth c 5 (MQ below (Qf X (some (.int rr)) st') args s 0 0 (cA X)) 40 [(0, .ref (X.2.1 59)), (1, .int v1), (2, .int v2), (4, .int v4)] [] st := by
  unfold F_X8_isAged_40 at hf
  refine x_iconst hh dX8_isAged_40 1 rfl 41 rfl ?_
  refine x_goto hh dX8_isAged_41 45 rfl ?_
  exact Z_X8_isAged_45 hX hh hr hk5  v1 v2 v4 1 st hf
def F_X8_isAged_44 (k5 : Int32 → Int32 → Int32 → Int32 → St → Option (Int32 × St)) (v1 : Int32) (v2 : Int32) (v4 : Int32) (st : St) : Option (Int32 × St) := F_X8_isAged_45 k5 v1 v2 v4 0 st
set_option maxRecDepth 100000 in
set_option maxHeartbeats 4000000 in
theorem Z_X8_isAged_44 {l : Launch} {X : Cx} (hX : Ok X) {p : Program} {e : Env} {s : State} {m : MethodId} {args : Array Value} {below : List Frame} {meth : Method} {c : Code} {rr : Int32} {st' : St} (hh : Hy X p s m args meth c cX8_isAged 5 RX8) (hr : meth.sig.returnType = some .boolean) {k5 : Int32 → Int32 → Int32 → Int32 → St → Option (Int32 × St)} (hk5 : ∀ (v1 : Int32) (v2 : Int32) (v3 : Int32) (v4 : Int32) (st : St), k5 v1 v2 v3 v4 st = some (rr, st') → Z X p l e (rmk 0) s m args below meth c 5 (MQ below (Qf X (some (.int rr)) st') args s 0 0 (cA X)) 5 [(0, .ref (X.2.1 59)), (1, .int v1), (2, .int v2), (3, .int v3), (4, .int v4)] [] st) (v1 : Int32) (v2 : Int32) (v4 : Int32) (st : St) (hf : F_X8_isAged_44 k5 v1 v2 v4 st = some (rr, st')) : Z X p l e (rmk 0) s m args below meth c 5 (MQ below (Qf X (some (.int rr)) st') args s 0 0 (cA X)) 44 [(0, .ref (X.2.1 59)), (1, .int v1), (2, .int v2), (4, .int v4)] [] st := by
  unfold F_X8_isAged_44 at hf
  refine x_iconst hh dX8_isAged_44 0 rfl 45 rfl ?_
  exact Z_X8_isAged_45 hX hh hr hk5  v1 v2 v4 0 st hf
def F_X8_isAged_5 : Nat → Int32 → Int32 → Int32 → Int32 → St → Option (Int32 × St)
  | 0, _, _, _, _, _ => none
  | n + 1, v1, v2, v3, v4, st => if (st.1 59 3) ≤ v4 then gb v3 (some (v3, st)) else if v3 = 0 then gi v4 6 (if (st.1 69 v4.toNatClampNeg) = v1 then gi v4 6 (if (st.1 67 v4.toNatClampNeg) = v2 then F_X8_isAged_40 (F_X8_isAged_5 n) v1 v2 v4 st else F_X8_isAged_44 (F_X8_isAged_5 n) v1 v2 v4 st) else F_X8_isAged_44 (F_X8_isAged_5 n) v1 v2 v4 st) else F_X8_isAged_40 (F_X8_isAged_5 n) v1 v2 v4 st
set_option maxRecDepth 100000 in
set_option maxHeartbeats 4000000 in
theorem Z_X8_isAged_5 {l : Launch} {X : Cx} (hX : Ok X) {p : Program} {e : Env} {s : State} {m : MethodId} {args : Array Value} {below : List Frame} {meth : Method} {c : Code} {rr : Int32} {st' : St} (hh : Hy X p s m args meth c cX8_isAged 5 RX8) (hr : meth.sig.returnType = some .boolean) : ∀ (n : Nat) (v1 : Int32) (v2 : Int32) (v3 : Int32) (v4 : Int32) (st : St), F_X8_isAged_5 n v1 v2 v3 v4 st = some (rr, st') → Z X p l e (rmk 0) s m args below meth c 5 (MQ below (Qf X (some (.int rr)) st') args s 0 0 (cA X)) 5 [(0, .ref (X.2.1 59)), (1, .int v1), (2, .int v2), (3, .int v3), (4, .int v4)] [] st := by
  intro n
  induction n with
  | zero =>
    intro v1 v2 v3 v4 st hf
    cases hf
  | succ n ih =>
    intro v1 v2 v3 v4 st hf
    rw [F_X8_isAged_5] at hf
    refine x_iload hh dX8_isAged_5 4 rfl 7 rfl ?_
    refine x_aload_n hh dX8_isAged_7 rfl 0 rfl 8 rfl ?_
    refine x_getI hh cl_8 dX8_isAged_8 sh_59 3 rfl (Nat.le_of_ble_eq_true rfl) wd_803 11 rfl ?_
    refine x_icmp_ge hh dX8_isAged_11 52 rfl 14 rfl (fun hc1 => ?_) (fun hc1 => ?_)
    · have hf := t_pos hc1 hf
      refine x_iload_n hh dX8_isAged_52 rfl 3 rfl 53 rfl ?_
      obtain ⟨hb2, hf⟩ := gb_some hf
      obtain ⟨rfl, rfl⟩ := ret2 hf
      exact x_zret hh hr (nb_n hb2) dX8_isAged_53
    · have hf := t_neg hc1 hf
      refine x_iload_n hh dX8_isAged_14 rfl 3 rfl 15 rfl ?_
      refine x_if_ne hh dX8_isAged_15 40 rfl 18 rfl (fun hc3 => ?_) (fun hc3 => ?_)
      · have hf := t_neg hc3 hf
        refine x_sub (lv' := [(0, .ref (X.2.1 59)), (1, .int v1), (2, .int v2), (4, .int v4)]) [0, 1, 2, 4] rfl ?_
        exact Z_X8_isAged_40 hX hh hr ih  v1 v2 v4 st hf
      · have hf := t_pos hc3 hf
        refine x_aload_n hh dX8_isAged_18 rfl 0 rfl 19 rfl ?_
        refine x_getR hh cl_8 dX8_isAged_19 sh_59 13 69 rfl (Nat.le_of_ble_eq_true rfl) wd_813 22 rfl ?_
        refine x_iload hh dX8_isAged_22 4 rfl 24 rfl ?_
        obtain ⟨hi4, hf⟩ := gi_some hf
        refine x_iaload hh dX8_isAged_24 sh_69 hi4 25 rfl ?_
        refine x_iload_n hh dX8_isAged_25 rfl 1 rfl 26 rfl ?_
        refine x_icmp_ne hh dX8_isAged_26 44 rfl 29 rfl (fun hc5 => ?_) (fun hc5 => ?_)
        · have hf := t_neg hc5 hf
          refine x_sub (lv' := [(0, .ref (X.2.1 59)), (1, .int v1), (2, .int v2), (4, .int v4)]) [0, 1, 2, 4] rfl ?_
          exact Z_X8_isAged_44 hX hh hr ih  v1 v2 v4 st hf
        · have hf := t_pos hc5 hf
          refine x_aload_n hh dX8_isAged_29 rfl 0 rfl 30 rfl ?_
          refine x_getR hh cl_8 dX8_isAged_30 sh_59 11 67 rfl (Nat.le_of_ble_eq_true rfl) wd_811 33 rfl ?_
          refine x_iload hh dX8_isAged_33 4 rfl 35 rfl ?_
          obtain ⟨hi6, hf⟩ := gi_some hf
          refine x_iaload hh dX8_isAged_35 sh_67 hi6 36 rfl ?_
          refine x_iload_n hh dX8_isAged_36 rfl 2 rfl 37 rfl ?_
          refine x_icmp_ne hh dX8_isAged_37 44 rfl 40 rfl (fun hc7 => ?_) (fun hc7 => ?_)
          · have hf := t_neg hc7 hf
            refine x_sub (lv' := [(0, .ref (X.2.1 59)), (1, .int v1), (2, .int v2), (4, .int v4)]) [0, 1, 2, 4] rfl ?_
            exact Z_X8_isAged_44 hX hh hr ih  v1 v2 v4 st hf
          · have hf := t_pos hc7 hf
            refine x_sub (lv' := [(0, .ref (X.2.1 59)), (1, .int v1), (2, .int v2), (4, .int v4)]) [0, 1, 2, 4] rfl ?_
            exact Z_X8_isAged_40 hX hh hr ih  v1 v2 v4 st hf
def F_X8_isAged_0 (v1 : Int32) (v2 : Int32) (st : St) : Option (Int32 × St) := F_X8_isAged_5 fN v1 v2 0 0 st
set_option maxRecDepth 100000 in
set_option maxHeartbeats 4000000 in
theorem Z_X8_isAged_0 {l : Launch} {X : Cx} (hX : Ok X) {p : Program} {e : Env} {s : State} {m : MethodId} {args : Array Value} {below : List Frame} {meth : Method} {c : Code} {rr : Int32} {st' : St} (hh : Hy X p s m args meth c cX8_isAged 5 RX8) (hr : meth.sig.returnType = some .boolean) (v1 : Int32) (v2 : Int32) (st : St) (hf : F_X8_isAged_0 v1 v2 st = some (rr, st')) : Z X p l e (rmk 0) s m args below meth c 5 (MQ below (Qf X (some (.int rr)) st') args s 0 0 (cA X)) 0 [(0, .ref (X.2.1 59)), (1, .int v1), (2, .int v2)] [] st := by
  unfold F_X8_isAged_0 at hf
  refine x_iconst hh dX8_isAged_0 0 rfl 1 rfl ?_
  refine x_istore_n hh dX8_isAged_1 rfl (by decide) [(3, .int 0), (0, .ref (X.2.1 59)), (1, .int v1), (2, .int v2)] rfl 2 rfl ?_
  refine x_iconst hh dX8_isAged_2 0 rfl 3 rfl ?_
  refine x_istore hh dX8_isAged_3 (by decide) [(4, .int 0), (3, .int 0), (0, .ref (X.2.1 59)), (1, .int v1), (2, .int v2)] rfl 5 rfl ?_
  refine x_sub (lv' := [(0, .ref (X.2.1 59)), (1, .int v1), (2, .int v2), (3, .int 0), (4, .int 0)]) [2, 3, 4, 1, 0] rfl ?_
  exact Z_X8_isAged_5 hX hh hr fN v1 v2 0 0 st hf
def F_X8_isAged (v1 : Int32) (v2 : Int32) (st : St) : Option (Int32 × St) := F_X8_isAged_0  v1 v2 st
set_option maxRecDepth 100000 in
theorem C_X8_isAged (l : Launch) {X : Cx} (hX : Ok X) {v1 : Int32} {v2 : Int32} {st : St} {q : Int32 × St} (hf : F_X8_isAged v1 v2 st = some q) : Ct l X 0 yX8_isAged (.code yX8_isAged cX8_isAged 5 (some .boolean)) [.ref (X.2.1 59), .int v1, .int v2] st (some (.int q.1)) q.2 := by
  refine Ct.of hX (by decide) (Nat.le_of_ble_eq_true rfl) ?_
  intro p e s m args below meth c hh hr
  exact Z_X8_isAged_0 hX hh hr v1 v2 st hf

def F_X8_isSuspect_65 (k13 : Int32 → Int32 → Int32 → Int32 → Int32 → St → Option (Int32 × St)) (v1 : Int32) (v2 : Int32) (v3 : Int32) (v4 : Int32) (v5 : Int32) (st : St) : Option (Int32 × St) := k13 v1 v2 v3 v4 (v5 + 1) st
set_option maxRecDepth 100000 in
set_option maxHeartbeats 4000000 in
theorem Z_X8_isSuspect_65 {l : Launch} {X : Cx} (hX : Ok X) {p : Program} {e : Env} {s : State} {m : MethodId} {args : Array Value} {below : List Frame} {meth : Method} {c : Code} {rr : Int32} {st' : St} (hh : Hy X p s m args meth c cX8_isSuspect 6 RX8) (hr : meth.sig.returnType = some .boolean) {k13 : Int32 → Int32 → Int32 → Int32 → Int32 → St → Option (Int32 × St)} (hk13 : ∀ (v1 : Int32) (v2 : Int32) (v3 : Int32) (v4 : Int32) (v5 : Int32) (st : St), k13 v1 v2 v3 v4 v5 st = some (rr, st') → Z X p l e (rmk 4) s m args below meth c 6 (MQ below (Qf X (some (.int rr)) st') args s 0 0 (cA X)) 13 [(0, .ref (X.2.1 59)), (1, .int v1), (2, .int v2), (3, .int v3), (4, .int v4), (5, .int v5)] [] st) (v1 : Int32) (v2 : Int32) (v3 : Int32) (v4 : Int32) (v5 : Int32) (st : St) (hf : F_X8_isSuspect_65 k13 v1 v2 v3 v4 v5 st = some (rr, st')) : Z X p l e (rmk 4) s m args below meth c 6 (MQ below (Qf X (some (.int rr)) st') args s 0 0 (cA X)) 65 [(0, .ref (X.2.1 59)), (1, .int v1), (2, .int v2), (3, .int v3), (4, .int v4), (5, .int v5)] [] st := by
  unfold F_X8_isSuspect_65 at hf
  refine x_iinc hh dX8_isSuspect_65 5 rfl (v5 + 1) rfl (by decide) [(5, .int (v5 + 1)), (0, .ref (X.2.1 59)), (1, .int v1), (2, .int v2), (3, .int v3), (4, .int v4)] rfl 68 rfl ?_
  refine x_goto hh dX8_isSuspect_68 13 rfl ?_
  refine x_sub (lv' := [(0, .ref (X.2.1 59)), (1, .int v1), (2, .int v2), (3, .int v3), (4, .int v4), (5, .int (v5 + 1))]) [1, 2, 3, 4, 5, 0] rfl ?_
  exact hk13 v1 v2 v3 v4 (v5 + 1) st hf
def F_X8_isSuspect_56 (k13 : Int32 → Int32 → Int32 → Int32 → Int32 → St → Option (Int32 × St)) (v1 : Int32) (v2 : Int32) (v3 : Int32) (v5 : Int32) (t0 : Int32) (st : St) : Option (Int32 × St) := gi v1 6 (bs (sV st 67 v1.toNatClampNeg v3) (fun st11 => F_X8_isSuspect_65 k13 v1 v2 v3 t0 v5 st11))
set_option maxRecDepth 100000 in
set_option maxHeartbeats 4000000 in
theorem Z_X8_isSuspect_56 {l : Launch} {X : Cx} (hX : Ok X) {p : Program} {e : Env} {s : State} {m : MethodId} {args : Array Value} {below : List Frame} {meth : Method} {c : Code} {rr : Int32} {st' : St} (hh : Hy X p s m args meth c cX8_isSuspect 6 RX8) (hr : meth.sig.returnType = some .boolean) {k13 : Int32 → Int32 → Int32 → Int32 → Int32 → St → Option (Int32 × St)} (hk13 : ∀ (v1 : Int32) (v2 : Int32) (v3 : Int32) (v4 : Int32) (v5 : Int32) (st : St), k13 v1 v2 v3 v4 v5 st = some (rr, st') → Z X p l e (rmk 4) s m args below meth c 6 (MQ below (Qf X (some (.int rr)) st') args s 0 0 (cA X)) 13 [(0, .ref (X.2.1 59)), (1, .int v1), (2, .int v2), (3, .int v3), (4, .int v4), (5, .int v5)] [] st) (v1 : Int32) (v2 : Int32) (v3 : Int32) (v5 : Int32) (t0 : Int32) (st : St) (hf : F_X8_isSuspect_56 k13 v1 v2 v3 v5 t0 st = some (rr, st')) : Z X p l e (rmk 4) s m args below meth c 6 (MQ below (Qf X (some (.int rr)) st') args s 0 0 (cA X)) 56 [(0, .ref (X.2.1 59)), (1, .int v1), (2, .int v2), (3, .int v3), (5, .int v5)] [.int t0] st := by
  unfold F_X8_isSuspect_56 at hf
  refine x_istore hh dX8_isSuspect_56 (by decide) [(4, .int t0), (0, .ref (X.2.1 59)), (1, .int v1), (2, .int v2), (3, .int v3), (5, .int v5)] rfl 58 rfl ?_
  refine x_aload_n hh dX8_isSuspect_58 rfl 1 rfl 59 rfl ?_
  refine x_getR hh cl_8 dX8_isSuspect_59 sh_59 11 67 rfl (Nat.le_of_ble_eq_true rfl) wd_811 62 rfl ?_
  refine x_iload_n hh dX8_isSuspect_62 rfl 2 rfl 63 rfl ?_
  refine x_iload_n hh dX8_isSuspect_63 rfl 4 rfl 64 rfl ?_
  obtain ⟨hi10, hf⟩ := gi_some hf
  obtain ⟨st11, est11, hf⟩ := bs_some hf
  refine x_iastore hh dX8_isSuspect_64 sh_67 hi10 65 rfl st11 est11 ?_
  refine x_sub (lv' := [(0, .ref (X.2.1 59)), (1, .int v1), (2, .int v2), (3, .int v3), (4, .int t0), (5, .int v5)]) [1, 2, 3, 4, 0, 5] rfl ?_
  exact Z_X8_isSuspect_65 hX hh hr hk13  v1 v2 v3 t0 v5 st11 hf
def F_X8_isSuspect_71 (v4 : Int32) (st : St) : Option (Int32 × St) := gb v4 (some (v4, st))
set_option maxRecDepth 100000 in
set_option maxHeartbeats 4000000 in
theorem Z_X8_isSuspect_71 {l : Launch} {X : Cx} (hX : Ok X) {p : Program} {e : Env} {s : State} {m : MethodId} {args : Array Value} {below : List Frame} {meth : Method} {c : Code} {rr : Int32} {st' : St} (hh : Hy X p s m args meth c cX8_isSuspect 6 RX8) (hr : meth.sig.returnType = some .boolean) (v4 : Int32) (st : St) (hf : F_X8_isSuspect_71 v4 st = some (rr, st')) : Z X p l e (rmk 4) s m args below meth c 6 (MQ below (Qf X (some (.int rr)) st') args s 0 0 (cA X)) 71 [(0, .ref (X.2.1 59)), (4, .int v4)] [] st := by
  unfold F_X8_isSuspect_71 at hf
  refine x_iload hh dX8_isSuspect_71 1 rfl 73 rfl ?_
  obtain ⟨hb12, hf⟩ := gb_some hf
  obtain ⟨rfl, rfl⟩ := ret2 hf
  exact x_zret hh hr (nb_n hb12) dX8_isSuspect_73
def F_X8_isSuspect_13 : Nat → Int32 → Int32 → Int32 → Int32 → Int32 → St → Option (Int32 × St)
  | 0, _, _, _, _, _, _ => none
  | n + 1, v1, v2, v3, v4, v5, st => if (100 : Int32) ≤ v5 then F_X8_isSuspect_71 v4 st else if v4 = 0 then (F_X8_isAged v2 v5 st).bind (fun q4 => if q4.1 = 0 then gi v1 6 (bs (sV q4.2 67 v1.toNatClampNeg v5) (fun st7 => (F_X8_firstFault v2 st7).bind (fun q8 => if (0 : Int32) ≤ q8.1 then F_X8_isSuspect_56 (F_X8_isSuspect_13 n) v1 v2 v3 v5 0 q8.2 else F_X8_isSuspect_56 (F_X8_isSuspect_13 n) v1 v2 v3 v5 1 q8.2))) else F_X8_isSuspect_65 (F_X8_isSuspect_13 n) v1 v2 v3 v4 v5 q4.2) else F_X8_isSuspect_71 v4 st
set_option maxRecDepth 100000 in
set_option maxHeartbeats 4000000 in
theorem Z_X8_isSuspect_13 {l : Launch} {X : Cx} (hX : Ok X) {p : Program} {e : Env} {s : State} {m : MethodId} {args : Array Value} {below : List Frame} {meth : Method} {c : Code} {rr : Int32} {st' : St} (hh : Hy X p s m args meth c cX8_isSuspect 6 RX8) (hr : meth.sig.returnType = some .boolean) : ∀ (n : Nat) (v1 : Int32) (v2 : Int32) (v3 : Int32) (v4 : Int32) (v5 : Int32) (st : St), F_X8_isSuspect_13 n v1 v2 v3 v4 v5 st = some (rr, st') → Z X p l e (rmk 4) s m args below meth c 6 (MQ below (Qf X (some (.int rr)) st') args s 0 0 (cA X)) 13 [(0, .ref (X.2.1 59)), (1, .int v1), (2, .int v2), (3, .int v3), (4, .int v4), (5, .int v5)] [] st := by
  intro n
  induction n with
  | zero =>
    intro v1 v2 v3 v4 v5 st hf
    cases hf
  | succ n ih =>
    intro v1 v2 v3 v4 v5 st hf
    rw [F_X8_isSuspect_13] at hf
    refine x_iload hh dX8_isSuspect_13 5 rfl 15 rfl ?_
    refine x_bipush hh dX8_isSuspect_15 100 rfl 17 rfl ?_
    refine x_icmp_ge hh dX8_isSuspect_17 71 rfl 20 rfl (fun hc2 => ?_) (fun hc2 => ?_)
    · have hf := t_pos hc2 hf
      refine x_sub (lv' := [(0, .ref (X.2.1 59)), (4, .int v4)]) [0, 4] rfl ?_
      exact Z_X8_isSuspect_71 hX hh hr  v4 st hf
    · have hf := t_neg hc2 hf
      refine x_iload hh dX8_isSuspect_20 4 rfl 22 rfl ?_
      refine x_if_ne hh dX8_isSuspect_22 71 rfl 25 rfl (fun hc3 => ?_) (fun hc3 => ?_)
      · have hf := t_neg hc3 hf
        refine x_sub (lv' := [(0, .ref (X.2.1 59)), (4, .int v4)]) [0, 4] rfl ?_
        exact Z_X8_isSuspect_71 hX hh hr  v4 st hf
      · have hf := t_pos hc3 hf
        refine x_aload_n hh dX8_isSuspect_25 rfl 0 rfl 26 rfl ?_
        refine x_iload_n hh dX8_isSuspect_26 rfl 2 rfl 27 rfl ?_
        refine x_iload hh dX8_isSuspect_27 5 rfl 29 rfl ?_
        obtain ⟨q4, hq4, hf⟩ := b_some hf
        refine x_callV (rest := []) hh mi_X8_isAged [.int v2, .int v5] dX8_isSuspect_29 sh_59 wd_1128 (C_X8_isAged l hX  hq4) rfl rfl ⟨Nat.le_of_ble_eq_true rfl, Nat.le_of_ble_eq_true rfl⟩ (Nat.le_of_ble_eq_true rfl) 32 rfl [.int q4.1] rfl ?_
        refine x_if_ne hh dX8_isSuspect_32 65 rfl 35 rfl (fun hc5 => ?_) (fun hc5 => ?_)
        · have hf := t_neg hc5 hf
          exact Z_X8_isSuspect_65 hX hh hr ih  v1 v2 v3 v4 v5 q4.2 hf
        · have hf := t_pos hc5 hf
          refine x_aload_n hh dX8_isSuspect_35 rfl 0 rfl 36 rfl ?_
          refine x_getR hh cl_8 dX8_isSuspect_36 sh_59 11 67 rfl (Nat.le_of_ble_eq_true rfl) wd_811 39 rfl ?_
          refine x_iload_n hh dX8_isSuspect_39 rfl 1 rfl 40 rfl ?_
          refine x_iload hh dX8_isSuspect_40 5 rfl 42 rfl ?_
          obtain ⟨hi6, hf⟩ := gi_some hf
          obtain ⟨st7, est7, hf⟩ := bs_some hf
          refine x_iastore hh dX8_isSuspect_42 sh_67 hi6 43 rfl st7 est7 ?_
          refine x_aload_n hh dX8_isSuspect_43 rfl 0 rfl 44 rfl ?_
          refine x_iload_n hh dX8_isSuspect_44 rfl 2 rfl 45 rfl ?_
          obtain ⟨q8, hq8, hf⟩ := b_some hf
          refine x_callV (rest := []) hh mi_X8_firstFault [.int v2] dX8_isSuspect_45 sh_59 wd_1031 (C_X8_firstFault l hX  hq8) rfl rfl ⟨Nat.le_of_ble_eq_true rfl, Nat.le_of_ble_eq_true rfl⟩ (Nat.le_of_ble_eq_true rfl) 48 rfl [.int q8.1] rfl ?_
          refine x_if_ge hh dX8_isSuspect_48 55 rfl 51 rfl (fun hc9 => ?_) (fun hc9 => ?_)
          · have hf := t_pos hc9 hf
            refine x_iconst hh dX8_isSuspect_55 0 rfl 56 rfl ?_
            refine x_sub (lv' := [(0, .ref (X.2.1 59)), (1, .int v1), (2, .int v2), (3, .int v3), (5, .int v5)]) [0, 1, 2, 3, 5] rfl ?_
            exact Z_X8_isSuspect_56 hX hh hr ih  v1 v2 v3 v5 0 q8.2 hf
          · have hf := t_neg hc9 hf
            refine x_iconst hh dX8_isSuspect_51 1 rfl 52 rfl ?_
            refine x_goto hh dX8_isSuspect_52 56 rfl ?_
            refine x_sub (lv' := [(0, .ref (X.2.1 59)), (1, .int v1), (2, .int v2), (3, .int v3), (5, .int v5)]) [0, 1, 2, 3, 5] rfl ?_
            exact Z_X8_isSuspect_56 hX hh hr ih  v1 v2 v3 v5 1 q8.2 hf
def F_X8_isSuspect_0 (v1 : Int32) (v2 : Int32) (st : St) : Option (Int32 × St) := gi v1 6 (F_X8_isSuspect_13 fN v1 v2 (st.1 67 v1.toNatClampNeg) 0 0 st)
set_option maxRecDepth 100000 in
set_option maxHeartbeats 4000000 in
theorem Z_X8_isSuspect_0 {l : Launch} {X : Cx} (hX : Ok X) {p : Program} {e : Env} {s : State} {m : MethodId} {args : Array Value} {below : List Frame} {meth : Method} {c : Code} {rr : Int32} {st' : St} (hh : Hy X p s m args meth c cX8_isSuspect 6 RX8) (hr : meth.sig.returnType = some .boolean) (v1 : Int32) (v2 : Int32) (st : St) (hf : F_X8_isSuspect_0 v1 v2 st = some (rr, st')) : Z X p l e (rmk 4) s m args below meth c 6 (MQ below (Qf X (some (.int rr)) st') args s 0 0 (cA X)) 0 [(0, .ref (X.2.1 59)), (1, .int v1), (2, .int v2)] [] st := by
  unfold F_X8_isSuspect_0 at hf
  refine x_aload_n hh dX8_isSuspect_0 rfl 0 rfl 1 rfl ?_
  refine x_getR hh cl_8 dX8_isSuspect_1 sh_59 11 67 rfl (Nat.le_of_ble_eq_true rfl) wd_811 4 rfl ?_
  refine x_iload_n hh dX8_isSuspect_4 rfl 1 rfl 5 rfl ?_
  obtain ⟨hi1, hf⟩ := gi_some hf
  refine x_iaload hh dX8_isSuspect_5 sh_67 hi1 6 rfl ?_
  refine x_istore_n hh dX8_isSuspect_6 rfl (by decide) [(3, .int (st.1 67 v1.toNatClampNeg)), (0, .ref (X.2.1 59)), (1, .int v1), (2, .int v2)] rfl 7 rfl ?_
  refine x_iconst hh dX8_isSuspect_7 0 rfl 8 rfl ?_
  refine x_istore hh dX8_isSuspect_8 (by decide) [(4, .int 0), (3, .int (st.1 67 v1.toNatClampNeg)), (0, .ref (X.2.1 59)), (1, .int v1), (2, .int v2)] rfl 10 rfl ?_
  refine x_iconst hh dX8_isSuspect_10 0 rfl 11 rfl ?_
  refine x_istore hh dX8_isSuspect_11 (by decide) [(5, .int 0), (4, .int 0), (3, .int (st.1 67 v1.toNatClampNeg)), (0, .ref (X.2.1 59)), (1, .int v1), (2, .int v2)] rfl 13 rfl ?_
  refine x_sub (lv' := [(0, .ref (X.2.1 59)), (1, .int v1), (2, .int v2), (3, .int (st.1 67 v1.toNatClampNeg)), (4, .int 0), (5, .int 0)]) [3, 4, 5, 2, 1, 0] rfl ?_
  exact Z_X8_isSuspect_13 hX hh hr fN v1 v2 (st.1 67 v1.toNatClampNeg) 0 0 st hf
def F_X8_isSuspect (v1 : Int32) (v2 : Int32) (st : St) : Option (Int32 × St) := F_X8_isSuspect_0  v1 v2 st
set_option maxRecDepth 100000 in
theorem C_X8_isSuspect (l : Launch) {X : Cx} (hX : Ok X) {v1 : Int32} {v2 : Int32} {st : St} {q : Int32 × St} (hf : F_X8_isSuspect v1 v2 st = some q) : Ct l X 4 yX8_isSuspect (.code yX8_isSuspect cX8_isSuspect 6 (some .boolean)) [.ref (X.2.1 59), .int v1, .int v2] st (some (.int q.1)) q.2 := by
  refine Ct.of hX (by decide) (Nat.le_of_ble_eq_true rfl) ?_
  intro p e s m args below meth c hh hr
  exact Z_X8_isSuspect_0 hX hh hr v1 v2 st hf

def F_X8_seen_107 (k39 : Int32 → Int32 → Int32 → Int32 → St → Option (Int32 × St)) (v1 : Int32) (v2 : Int32) (v4 : Int32) (t0 : Int32) (t1 : Int32) (st : St) : Option (Int32 × St) := k39 v1 v2 (t1 ||| t0) (v4 + 1) st
set_option maxRecDepth 100000 in
set_option maxHeartbeats 4000000 in
theorem Z_X8_seen_107 {l : Launch} {X : Cx} (hX : Ok X) {p : Program} {e : Env} {s : State} {m : MethodId} {args : Array Value} {below : List Frame} {meth : Method} {c : Code} {rr : Int32} {st' : St} (hh : Hy X p s m args meth c cX8_seen 6 RX8) (hr : meth.sig.returnType = some .int) {k39 : Int32 → Int32 → Int32 → Int32 → St → Option (Int32 × St)} (hk39 : ∀ (v1 : Int32) (v2 : Int32) (v3 : Int32) (v4 : Int32) (st : St), k39 v1 v2 v3 v4 st = some (rr, st') → Z X p l e (rmk 5) s m args below meth c 6 (MQ below (Qf X (some (.int rr)) st') args s 0 0 (cA X)) 39 [(0, .ref (X.2.1 59)), (1, .int v1), (2, .int v2), (3, .int v3), (4, .int v4)] [] st) (v1 : Int32) (v2 : Int32) (v4 : Int32) (t0 : Int32) (t1 : Int32) (st : St) (hf : F_X8_seen_107 k39 v1 v2 v4 t0 t1 st = some (rr, st')) : Z X p l e (rmk 5) s m args below meth c 6 (MQ below (Qf X (some (.int rr)) st') args s 0 0 (cA X)) 107 [(0, .ref (X.2.1 59)), (1, .int v1), (2, .int v2), (4, .int v4)] [.int t0, .int t1] st := by
  unfold F_X8_seen_107 at hf
  refine x_ior hh dX8_seen_107 108 rfl ?_
  refine x_istore_n hh dX8_seen_108 rfl (by decide) [(3, .int (t1 ||| t0)), (0, .ref (X.2.1 59)), (1, .int v1), (2, .int v2), (4, .int v4)] rfl 109 rfl ?_
  refine x_iinc hh dX8_seen_109 4 rfl (v4 + 1) rfl (by decide) [(4, .int (v4 + 1)), (3, .int (t1 ||| t0)), (0, .ref (X.2.1 59)), (1, .int v1), (2, .int v2)] rfl 112 rfl ?_
  refine x_goto hh dX8_seen_112 39 rfl ?_
  refine x_sub (lv' := [(0, .ref (X.2.1 59)), (1, .int v1), (2, .int v2), (3, .int (t1 ||| t0)), (4, .int (v4 + 1))]) [2, 3, 4, 1, 0] rfl ?_
  exact hk39 v1 v2 (t1 ||| t0) (v4 + 1) st hf
def F_X8_seen_91 (k39 : Int32 → Int32 → Int32 → Int32 → St → Option (Int32 × St)) (v1 : Int32) (v2 : Int32) (v3 : Int32) (v4 : Int32) (t0 : Int32) (st : St) : Option (Int32 × St) := if t0 = 0 then F_X8_seen_107 k39 v1 v2 v4 0 v3 st else F_X8_seen_107 k39 v1 v2 v4 (1 <<< (v4 &&& 31)) v3 st
set_option maxRecDepth 100000 in
set_option maxHeartbeats 4000000 in
theorem Z_X8_seen_91 {l : Launch} {X : Cx} (hX : Ok X) {p : Program} {e : Env} {s : State} {m : MethodId} {args : Array Value} {below : List Frame} {meth : Method} {c : Code} {rr : Int32} {st' : St} (hh : Hy X p s m args meth c cX8_seen 6 RX8) (hr : meth.sig.returnType = some .int) {k39 : Int32 → Int32 → Int32 → Int32 → St → Option (Int32 × St)} (hk39 : ∀ (v1 : Int32) (v2 : Int32) (v3 : Int32) (v4 : Int32) (st : St), k39 v1 v2 v3 v4 st = some (rr, st') → Z X p l e (rmk 5) s m args below meth c 6 (MQ below (Qf X (some (.int rr)) st') args s 0 0 (cA X)) 39 [(0, .ref (X.2.1 59)), (1, .int v1), (2, .int v2), (3, .int v3), (4, .int v4)] [] st) (v1 : Int32) (v2 : Int32) (v3 : Int32) (v4 : Int32) (t0 : Int32) (st : St) (hf : F_X8_seen_91 k39 v1 v2 v3 v4 t0 st = some (rr, st')) : Z X p l e (rmk 5) s m args below meth c 6 (MQ below (Qf X (some (.int rr)) st') args s 0 0 (cA X)) 91 [(0, .ref (X.2.1 59)), (1, .int v1), (2, .int v2), (3, .int v3), (4, .int v4)] [.int t0] st := by
  unfold F_X8_seen_91 at hf
  refine x_istore hh dX8_seen_91 (by decide) [(5, .int t0), (0, .ref (X.2.1 59)), (1, .int v1), (2, .int v2), (3, .int v3), (4, .int v4)] rfl 93 rfl ?_
  refine x_iload_n hh dX8_seen_93 rfl 4 rfl 94 rfl ?_
  refine x_iload hh dX8_seen_94 0 rfl 96 rfl ?_
  refine x_if_eq hh dX8_seen_96 106 rfl 99 rfl (fun hc15 => ?_) (fun hc15 => ?_)
  · have hf := t_pos hc15 hf
    refine x_iconst hh dX8_seen_106 0 rfl 107 rfl ?_
    refine x_sub (lv' := [(0, .ref (X.2.1 59)), (1, .int v1), (2, .int v2), (4, .int v4)]) [1, 2, 3, 5] rfl ?_
    exact Z_X8_seen_107 hX hh hr hk39  v1 v2 v4 0 v3 st hf
  · have hf := t_neg hc15 hf
    refine x_iconst hh dX8_seen_99 1 rfl 100 rfl ?_
    refine x_iload hh dX8_seen_100 5 rfl 102 rfl ?_
    refine x_ishl hh dX8_seen_102 103 rfl ?_
    refine x_goto hh dX8_seen_103 107 rfl ?_
    refine x_sub (lv' := [(0, .ref (X.2.1 59)), (1, .int v1), (2, .int v2), (4, .int v4)]) [1, 2, 3, 5] rfl ?_
    exact Z_X8_seen_107 hX hh hr hk39  v1 v2 v4 (1 <<< (v4 &&& 31)) v3 st hf
def F_X8_seen_86 (k39 : Int32 → Int32 → Int32 → Int32 → St → Option (Int32 × St)) (v1 : Int32) (v2 : Int32) (v3 : Int32) (v4 : Int32) (st : St) : Option (Int32 × St) := F_X8_seen_91 k39 v1 v2 v3 v4 1 st
set_option maxRecDepth 100000 in
set_option maxHeartbeats 4000000 in
theorem Z_X8_seen_86 {l : Launch} {X : Cx} (hX : Ok X) {p : Program} {e : Env} {s : State} {m : MethodId} {args : Array Value} {below : List Frame} {meth : Method} {c : Code} {rr : Int32} {st' : St} (hh : Hy X p s m args meth c cX8_seen 6 RX8) (hr : meth.sig.returnType = some .int) {k39 : Int32 → Int32 → Int32 → Int32 → St → Option (Int32 × St)} (hk39 : ∀ (v1 : Int32) (v2 : Int32) (v3 : Int32) (v4 : Int32) (st : St), k39 v1 v2 v3 v4 st = some (rr, st') → Z X p l e (rmk 5) s m args below meth c 6 (MQ below (Qf X (some (.int rr)) st') args s 0 0 (cA X)) 39 [(0, .ref (X.2.1 59)), (1, .int v1), (2, .int v2), (3, .int v3), (4, .int v4)] [] st) (v1 : Int32) (v2 : Int32) (v3 : Int32) (v4 : Int32) (st : St) (hf : F_X8_seen_86 k39 v1 v2 v3 v4 st = some (rr, st')) : Z X p l e (rmk 5) s m args below meth c 6 (MQ below (Qf X (some (.int rr)) st') args s 0 0 (cA X)) 86 [(0, .ref (X.2.1 59)), (1, .int v1), (2, .int v2), (3, .int v3), (4, .int v4)] [] st := by
  unfold F_X8_seen_86 at hf
  refine x_iconst hh dX8_seen_86 1 rfl 87 rfl ?_
  refine x_goto hh dX8_seen_87 91 rfl ?_
  exact Z_X8_seen_91 hX hh hr hk39  v1 v2 v3 v4 1 st hf
def F_X8_seen_90 (k39 : Int32 → Int32 → Int32 → Int32 → St → Option (Int32 × St)) (v1 : Int32) (v2 : Int32) (v3 : Int32) (v4 : Int32) (st : St) : Option (Int32 × St) := F_X8_seen_91 k39 v1 v2 v3 v4 0 st
set_option maxRecDepth 100000 in
set_option maxHeartbeats 4000000 in
theorem Z_X8_seen_90 {l : Launch} {X : Cx} (hX : Ok X) {p : Program} {e : Env} {s : State} {m : MethodId} {args : Array Value} {below : List Frame} {meth : Method} {c : Code} {rr : Int32} {st' : St} (hh : Hy X p s m args meth c cX8_seen 6 RX8) (hr : meth.sig.returnType = some .int) {k39 : Int32 → Int32 → Int32 → Int32 → St → Option (Int32 × St)} (hk39 : ∀ (v1 : Int32) (v2 : Int32) (v3 : Int32) (v4 : Int32) (st : St), k39 v1 v2 v3 v4 st = some (rr, st') → Z X p l e (rmk 5) s m args below meth c 6 (MQ below (Qf X (some (.int rr)) st') args s 0 0 (cA X)) 39 [(0, .ref (X.2.1 59)), (1, .int v1), (2, .int v2), (3, .int v3), (4, .int v4)] [] st) (v1 : Int32) (v2 : Int32) (v3 : Int32) (v4 : Int32) (st : St) (hf : F_X8_seen_90 k39 v1 v2 v3 v4 st = some (rr, st')) : Z X p l e (rmk 5) s m args below meth c 6 (MQ below (Qf X (some (.int rr)) st') args s 0 0 (cA X)) 90 [(0, .ref (X.2.1 59)), (1, .int v1), (2, .int v2), (3, .int v3), (4, .int v4)] [] st := by
  unfold F_X8_seen_90 at hf
  refine x_iconst hh dX8_seen_90 0 rfl 91 rfl ?_
  exact Z_X8_seen_91 hX hh hr hk39  v1 v2 v3 v4 0 st hf
def F_X8_seen_39 : Nat → Int32 → Int32 → Int32 → Int32 → St → Option (Int32 × St)
  | 0, _, _, _, _, _ => none
  | n + 1, v1, v2, v3, v4, st => if (st.1 59 3) ≤ v4 then some (v3, st) else gi v4 6 (if (st.1 69 v4.toNatClampNeg) = v1 then if v2 = 0 then (F_X8_isSuspect v4 v1 st).bind (fun q13 => if q13.1 = 0 then F_X8_seen_90 (F_X8_seen_39 n) v1 v2 v3 v4 q13.2 else F_X8_seen_86 (F_X8_seen_39 n) v1 v2 v3 v4 q13.2) else (F_X8_isHeeled v4 v1 st).bind (fun q11 => if q11.1 = 0 then F_X8_seen_90 (F_X8_seen_39 n) v1 v2 v3 v4 q11.2 else F_X8_seen_86 (F_X8_seen_39 n) v1 v2 v3 v4 q11.2) else F_X8_seen_90 (F_X8_seen_39 n) v1 v2 v3 v4 st)
set_option maxRecDepth 100000 in
set_option maxHeartbeats 4000000 in
theorem Z_X8_seen_39 {l : Launch} {X : Cx} (hX : Ok X) {p : Program} {e : Env} {s : State} {m : MethodId} {args : Array Value} {below : List Frame} {meth : Method} {c : Code} {rr : Int32} {st' : St} (hh : Hy X p s m args meth c cX8_seen 6 RX8) (hr : meth.sig.returnType = some .int) : ∀ (n : Nat) (v1 : Int32) (v2 : Int32) (v3 : Int32) (v4 : Int32) (st : St), F_X8_seen_39 n v1 v2 v3 v4 st = some (rr, st') → Z X p l e (rmk 5) s m args below meth c 6 (MQ below (Qf X (some (.int rr)) st') args s 0 0 (cA X)) 39 [(0, .ref (X.2.1 59)), (1, .int v1), (2, .int v2), (3, .int v3), (4, .int v4)] [] st := by
  intro n
  induction n with
  | zero =>
    intro v1 v2 v3 v4 st hf
    cases hf
  | succ n ih =>
    intro v1 v2 v3 v4 st hf
    rw [F_X8_seen_39] at hf
    refine x_iload hh dX8_seen_39 4 rfl 41 rfl ?_
    refine x_aload_n hh dX8_seen_41 rfl 0 rfl 42 rfl ?_
    refine x_getI hh cl_8 dX8_seen_42 sh_59 3 rfl (Nat.le_of_ble_eq_true rfl) wd_803 45 rfl ?_
    refine x_icmp_ge hh dX8_seen_45 115 rfl 48 rfl (fun hc7 => ?_) (fun hc7 => ?_)
    · have hf := t_pos hc7 hf
      refine x_iload_n hh dX8_seen_115 rfl 3 rfl 116 rfl ?_
      obtain ⟨rfl, rfl⟩ := ret2 hf
      exact x_iret hh hr dX8_seen_116
    · have hf := t_neg hc7 hf
      refine x_aload_n hh dX8_seen_48 rfl 0 rfl 49 rfl ?_
      refine x_getR hh cl_8 dX8_seen_49 sh_59 13 69 rfl (Nat.le_of_ble_eq_true rfl) wd_813 52 rfl ?_
      refine x_iload hh dX8_seen_52 4 rfl 54 rfl ?_
      obtain ⟨hi8, hf⟩ := gi_some hf
      refine x_iaload hh dX8_seen_54 sh_69 hi8 55 rfl ?_
      refine x_iload_n hh dX8_seen_55 rfl 1 rfl 56 rfl ?_
      refine x_icmp_ne hh dX8_seen_56 90 rfl 59 rfl (fun hc9 => ?_) (fun hc9 => ?_)
      · have hf := t_neg hc9 hf
        exact Z_X8_seen_90 hX hh hr ih  v1 v2 v3 v4 st hf
      · have hf := t_pos hc9 hf
        refine x_iload_n hh dX8_seen_59 rfl 2 rfl 60 rfl ?_
        refine x_if_ne hh dX8_seen_60 76 rfl 63 rfl (fun hc10 => ?_) (fun hc10 => ?_)
        · have hf := t_neg hc10 hf
          refine x_aload_n hh dX8_seen_76 rfl 0 rfl 77 rfl ?_
          refine x_iload hh dX8_seen_77 4 rfl 79 rfl ?_
          refine x_iload_n hh dX8_seen_79 rfl 1 rfl 80 rfl ?_
          obtain ⟨q11, hq11, hf⟩ := b_some hf
          refine x_callV (rest := []) hh mi_X8_isHeeled [.int v4, .int v1] dX8_seen_80 sh_59 wd_1131 (C_X8_isHeeled l hX  hq11) rfl rfl ⟨Nat.le_of_ble_eq_true rfl, Nat.le_of_ble_eq_true rfl⟩ (Nat.le_of_ble_eq_true rfl) 83 rfl [.int q11.1] rfl ?_
          refine x_if_eq hh dX8_seen_83 90 rfl 86 rfl (fun hc12 => ?_) (fun hc12 => ?_)
          · have hf := t_pos hc12 hf
            exact Z_X8_seen_90 hX hh hr ih  v1 v2 v3 v4 q11.2 hf
          · have hf := t_neg hc12 hf
            exact Z_X8_seen_86 hX hh hr ih  v1 v2 v3 v4 q11.2 hf
        · have hf := t_pos hc10 hf
          refine x_aload_n hh dX8_seen_63 rfl 0 rfl 64 rfl ?_
          refine x_iload hh dX8_seen_64 4 rfl 66 rfl ?_
          refine x_iload_n hh dX8_seen_66 rfl 1 rfl 67 rfl ?_
          obtain ⟨q13, hq13, hf⟩ := b_some hf
          refine x_callV (rest := []) hh mi_X8_isSuspect [.int v4, .int v1] dX8_seen_67 sh_59 wd_1125 (C_X8_isSuspect l hX  hq13) rfl rfl ⟨Nat.le_of_ble_eq_true rfl, Nat.le_of_ble_eq_true rfl⟩ (Nat.le_of_ble_eq_true rfl) 70 rfl [.int q13.1] rfl ?_
          refine x_if_eq hh dX8_seen_70 90 rfl 73 rfl (fun hc14 => ?_) (fun hc14 => ?_)
          · have hf := t_pos hc14 hf
            exact Z_X8_seen_90 hX hh hr ih  v1 v2 v3 v4 q13.2 hf
          · have hf := t_neg hc14 hf
            refine x_goto hh dX8_seen_73 86 rfl ?_
            exact Z_X8_seen_86 hX hh hr ih  v1 v2 v3 v4 q13.2 hf
def F_X8_seen_0 (v1 : Int32) (v2 : Int32) (st : St) : Option (Int32 × St) := (F_X8_isRoom v1 st).bind (fun q1 => if q1.1 = 0 then some ((-1000000001), q1.2) else (F_X8_in v2.toInt64 0 1 q1.2).bind (fun q3 => if q3.1 = 0 then some ((-1000000002), q3.2) else (F_X8_firstFault v1 q3.2).bind (fun q5 => if (0 : Int32) ≤ q5.1 then F_X8_seen_39 fN v1 v2 0 0 q5.2 else some (0, q5.2))))
set_option maxRecDepth 100000 in
set_option maxHeartbeats 4000000 in
theorem Z_X8_seen_0 {l : Launch} {X : Cx} (hX : Ok X) {p : Program} {e : Env} {s : State} {m : MethodId} {args : Array Value} {below : List Frame} {meth : Method} {c : Code} {rr : Int32} {st' : St} (hh : Hy X p s m args meth c cX8_seen 6 RX8) (hr : meth.sig.returnType = some .int) (v1 : Int32) (v2 : Int32) (st : St) (hf : F_X8_seen_0 v1 v2 st = some (rr, st')) : Z X p l e (rmk 5) s m args below meth c 6 (MQ below (Qf X (some (.int rr)) st') args s 0 0 (cA X)) 0 [(0, .ref (X.2.1 59)), (1, .int v1), (2, .int v2)] [] st := by
  unfold F_X8_seen_0 at hf
  refine x_aload_n hh dX8_seen_0 rfl 0 rfl 1 rfl ?_
  refine x_iload_n hh dX8_seen_1 rfl 1 rfl 2 rfl ?_
  obtain ⟨q1, hq1, hf⟩ := b_some hf
  refine x_callV (rest := []) hh mi_X8_isRoom [.int v1] dX8_seen_2 sh_59 wd_974 (C_X8_isRoom l hX  hq1) rfl rfl ⟨Nat.le_of_ble_eq_true rfl, Nat.le_of_ble_eq_true rfl⟩ (Nat.le_of_ble_eq_true rfl) 5 rfl [.int q1.1] rfl ?_
  refine x_if_ne hh dX8_seen_5 11 rfl 8 rfl (fun hc2 => ?_) (fun hc2 => ?_)
  · have hf := t_neg hc2 hf
    refine x_iload_n hh dX8_seen_11 rfl 2 rfl 12 rfl ?_
    refine x_i2l hh dX8_seen_12 13 rfl ?_
    refine x_lconst hh dX8_seen_13 0 rfl 14 rfl ?_
    refine x_lconst hh dX8_seen_14 1 rfl 15 rfl ?_
    obtain ⟨q3, hq3, hf⟩ := b_some hf
    refine x_callS (rest := []) hh ms_X8_in [.long v2.toInt64, .long 0, .long 1] dX8_seen_15 wd_907 (C_X8_in l hX  hq3) rfl rfl ⟨Nat.le_of_ble_eq_true rfl, Nat.le_of_ble_eq_true rfl⟩ (Nat.le_of_ble_eq_true rfl) 18 rfl [.int q3.1] rfl ?_
    refine x_if_ne hh dX8_seen_18 24 rfl 21 rfl (fun hc4 => ?_) (fun hc4 => ?_)
    · have hf := t_neg hc4 hf
      refine x_aload_n hh dX8_seen_24 rfl 0 rfl 25 rfl ?_
      refine x_iload_n hh dX8_seen_25 rfl 1 rfl 26 rfl ?_
      obtain ⟨q5, hq5, hf⟩ := b_some hf
      refine x_callV (rest := []) hh mi_X8_firstFault [.int v1] dX8_seen_26 sh_59 wd_1031 (C_X8_firstFault l hX  hq5) rfl rfl ⟨Nat.le_of_ble_eq_true rfl, Nat.le_of_ble_eq_true rfl⟩ (Nat.le_of_ble_eq_true rfl) 29 rfl [.int q5.1] rfl ?_
      refine x_if_ge hh dX8_seen_29 34 rfl 32 rfl (fun hc6 => ?_) (fun hc6 => ?_)
      · have hf := t_pos hc6 hf
        refine x_iconst hh dX8_seen_34 0 rfl 35 rfl ?_
        refine x_istore_n hh dX8_seen_35 rfl (by decide) [(3, .int 0), (0, .ref (X.2.1 59)), (1, .int v1), (2, .int v2)] rfl 36 rfl ?_
        refine x_iconst hh dX8_seen_36 0 rfl 37 rfl ?_
        refine x_istore hh dX8_seen_37 (by decide) [(4, .int 0), (3, .int 0), (0, .ref (X.2.1 59)), (1, .int v1), (2, .int v2)] rfl 39 rfl ?_
        refine x_sub (lv' := [(0, .ref (X.2.1 59)), (1, .int v1), (2, .int v2), (3, .int 0), (4, .int 0)]) [2, 3, 4, 1, 0] rfl ?_
        exact Z_X8_seen_39 hX hh hr fN v1 v2 0 0 q5.2 hf
      · have hf := t_neg hc6 hf
        refine x_iconst hh dX8_seen_32 0 rfl 33 rfl ?_
        obtain ⟨rfl, rfl⟩ := ret2 hf
        exact x_iret hh hr dX8_seen_33
    · have hf := t_pos hc4 hf
      refine x_ldc hh dX8_seen_21 wd_910 23 rfl ?_
      obtain ⟨rfl, rfl⟩ := ret2 hf
      exact x_iret hh hr dX8_seen_23
  · have hf := t_pos hc2 hf
    refine x_ldc hh dX8_seen_8 wd_980 10 rfl ?_
    obtain ⟨rfl, rfl⟩ := ret2 hf
    exact x_iret hh hr dX8_seen_10
def F_X8_seen (v1 : Int32) (v2 : Int32) (st : St) : Option (Int32 × St) := F_X8_seen_0  v1 v2 st
set_option maxRecDepth 100000 in
theorem C_X8_seen (l : Launch) {X : Cx} (hX : Ok X) {v1 : Int32} {v2 : Int32} {st : St} {q : Int32 × St} (hf : F_X8_seen v1 v2 st = some q) : Ct l X 5 yX8_seen (.code yX8_seen cX8_seen 6 (some .int)) [.ref (X.2.1 59), .int v1, .int v2] st (some (.int q.1)) q.2 := by
  refine Ct.of hX (by decide) (Nat.le_of_ble_eq_true rfl) ?_
  intro p e s m args below meth c hh hr
  exact Z_X8_seen_0 hX hh hr v1 v2 st hf

def F_X8_write_17 (st : St) : Option (Int32 × St) := some ((-1000000001), st)
set_option maxRecDepth 100000 in
set_option maxHeartbeats 4000000 in
theorem Z_X8_write_17 {l : Launch} {X : Cx} (hX : Ok X) {p : Program} {e : Env} {s : State} {m : MethodId} {args : Array Value} {below : List Frame} {meth : Method} {c : Code} {rr : Int32} {st' : St} (hh : Hy X p s m args meth c cX8_write 4 RX8) (hr : meth.sig.returnType = some .int) (st : St) (hf : F_X8_write_17 st = some (rr, st')) : Z X p l e (rmk 3) s m args below meth c 4 (MQ below (Qf X (some (.int rr)) st') args s 0 0 (cA X)) 17 [(0, .ref (X.2.1 59))] [] st := by
  unfold F_X8_write_17 at hf
  refine x_ldc hh dX8_write_17 wd_980 19 rfl ?_
  obtain ⟨rfl, rfl⟩ := ret2 hf
  exact x_iret hh hr dX8_write_19
def F_X8_write_0 (v1 : Int32) (v2 : Int32) (v3 : Int32) (st : St) : Option (Int32 × St) := (F_X8_isPerson v1 st).bind (fun q1 => if q1.1 = 0 then F_X8_write_17 q1.2 else (F_X8_isPlace v2 v3 q1.2).bind (fun q3 => if q3.1 = 0 then F_X8_write_17 q3.2 else if (q3.2.1 59 45) = 20 then some ((-1000000004), q3.2) else gi (q3.2.1 59 45) 20 (bs (sV q3.2 89 (q3.2.1 59 45).toNatClampNeg v1) (fun st7 => gi (st7.1 59 45) 20 (bs (sV st7 90 (st7.1 59 45).toNatClampNeg v2) (fun st9 => gi (st9.1 59 45) 20 (bs (sV st9 91 (st9.1 59 45).toNatClampNeg v3) (fun st11 => bs (sV st11 59 45 ((st11.1 59 45) + 1)) (fun st12 => some (st12.1 59 45, st12))))))))))
set_option maxRecDepth 100000 in
set_option maxHeartbeats 4000000 in
theorem Z_X8_write_0 {l : Launch} {X : Cx} (hX : Ok X) {p : Program} {e : Env} {s : State} {m : MethodId} {args : Array Value} {below : List Frame} {meth : Method} {c : Code} {rr : Int32} {st' : St} (hh : Hy X p s m args meth c cX8_write 4 RX8) (hr : meth.sig.returnType = some .int) (v1 : Int32) (v2 : Int32) (v3 : Int32) (st : St) (hf : F_X8_write_0 v1 v2 v3 st = some (rr, st')) : Z X p l e (rmk 3) s m args below meth c 4 (MQ below (Qf X (some (.int rr)) st') args s 0 0 (cA X)) 0 [(0, .ref (X.2.1 59)), (1, .int v1), (2, .int v2), (3, .int v3)] [] st := by
  unfold F_X8_write_0 at hf
  refine x_aload_n hh dX8_write_0 rfl 0 rfl 1 rfl ?_
  refine x_iload_n hh dX8_write_1 rfl 1 rfl 2 rfl ?_
  obtain ⟨q1, hq1, hf⟩ := b_some hf
  refine x_callV (rest := []) hh mi_X8_isPerson [.int v1] dX8_write_2 sh_59 wd_988 (C_X8_isPerson l hX  hq1) rfl rfl ⟨Nat.le_of_ble_eq_true rfl, Nat.le_of_ble_eq_true rfl⟩ (Nat.le_of_ble_eq_true rfl) 5 rfl [.int q1.1] rfl ?_
  refine x_if_eq hh dX8_write_5 17 rfl 8 rfl (fun hc2 => ?_) (fun hc2 => ?_)
  · have hf := t_pos hc2 hf
    refine x_sub (lv' := [(0, .ref (X.2.1 59))]) [0] rfl ?_
    exact Z_X8_write_17 hX hh hr  q1.2 hf
  · have hf := t_neg hc2 hf
    refine x_aload_n hh dX8_write_8 rfl 0 rfl 9 rfl ?_
    refine x_iload_n hh dX8_write_9 rfl 2 rfl 10 rfl ?_
    refine x_iload_n hh dX8_write_10 rfl 3 rfl 11 rfl ?_
    obtain ⟨q3, hq3, hf⟩ := b_some hf
    refine x_callV (rest := []) hh mi_X8_isPlace [.int v2, .int v3] dX8_write_11 sh_59 wd_977 (C_X8_isPlace l hX  hq3) rfl rfl ⟨Nat.le_of_ble_eq_true rfl, Nat.le_of_ble_eq_true rfl⟩ (Nat.le_of_ble_eq_true rfl) 14 rfl [.int q3.1] rfl ?_
    refine x_if_ne hh dX8_write_14 20 rfl 17 rfl (fun hc4 => ?_) (fun hc4 => ?_)
    · have hf := t_neg hc4 hf
      refine x_aload_n hh dX8_write_20 rfl 0 rfl 21 rfl ?_
      refine x_getI hh cl_8 dX8_write_21 sh_59 45 rfl (Nat.le_of_ble_eq_true rfl) wd_845 24 rfl ?_
      refine x_bipush hh dX8_write_24 20 rfl 26 rfl ?_
      refine x_icmp_ne hh dX8_write_26 32 rfl 29 rfl (fun hc5 => ?_) (fun hc5 => ?_)
      · have hf := t_neg hc5 hf
        refine x_aload_n hh dX8_write_32 rfl 0 rfl 33 rfl ?_
        refine x_getR hh cl_8 dX8_write_33 sh_59 46 89 rfl (Nat.le_of_ble_eq_true rfl) wd_846 36 rfl ?_
        refine x_aload_n hh dX8_write_36 rfl 0 rfl 37 rfl ?_
        refine x_getI hh cl_8 dX8_write_37 sh_59 45 rfl (Nat.le_of_ble_eq_true rfl) wd_845 40 rfl ?_
        refine x_iload_n hh dX8_write_40 rfl 1 rfl 41 rfl ?_
        obtain ⟨hi6, hf⟩ := gi_some hf
        obtain ⟨st7, est7, hf⟩ := bs_some hf
        refine x_iastore hh dX8_write_41 sh_89 hi6 42 rfl st7 est7 ?_
        refine x_aload_n hh dX8_write_42 rfl 0 rfl 43 rfl ?_
        refine x_getR hh cl_8 dX8_write_43 sh_59 47 90 rfl (Nat.le_of_ble_eq_true rfl) wd_847 46 rfl ?_
        refine x_aload_n hh dX8_write_46 rfl 0 rfl 47 rfl ?_
        refine x_getI hh cl_8 dX8_write_47 sh_59 45 rfl (Nat.le_of_ble_eq_true rfl) wd_845 50 rfl ?_
        refine x_iload_n hh dX8_write_50 rfl 2 rfl 51 rfl ?_
        obtain ⟨hi8, hf⟩ := gi_some hf
        obtain ⟨st9, est9, hf⟩ := bs_some hf
        refine x_iastore hh dX8_write_51 sh_90 hi8 52 rfl st9 est9 ?_
        refine x_aload_n hh dX8_write_52 rfl 0 rfl 53 rfl ?_
        refine x_getR hh cl_8 dX8_write_53 sh_59 48 91 rfl (Nat.le_of_ble_eq_true rfl) wd_848 56 rfl ?_
        refine x_aload_n hh dX8_write_56 rfl 0 rfl 57 rfl ?_
        refine x_getI hh cl_8 dX8_write_57 sh_59 45 rfl (Nat.le_of_ble_eq_true rfl) wd_845 60 rfl ?_
        refine x_iload_n hh dX8_write_60 rfl 3 rfl 61 rfl ?_
        obtain ⟨hi10, hf⟩ := gi_some hf
        obtain ⟨st11, est11, hf⟩ := bs_some hf
        refine x_iastore hh dX8_write_61 sh_91 hi10 62 rfl st11 est11 ?_
        refine x_aload_n hh dX8_write_62 rfl 0 rfl 63 rfl ?_
        refine x_dup hh dX8_write_63 rfl 64 rfl ?_
        refine x_getI hh cl_8 dX8_write_64 sh_59 45 rfl (Nat.le_of_ble_eq_true rfl) wd_845 67 rfl ?_
        refine x_iconst hh dX8_write_67 1 rfl 68 rfl ?_
        refine x_iadd hh dX8_write_68 69 rfl ?_
        obtain ⟨st12, est12, hf⟩ := bs_some hf
        refine x_putI hh cl_8 dX8_write_69 sh_59 45 rfl (Nat.le_of_ble_eq_true rfl) wd_845 rfl rfl rfl 72 rfl st12 est12 ?_
        refine x_aload_n hh dX8_write_72 rfl 0 rfl 73 rfl ?_
        refine x_getI hh cl_8 dX8_write_73 sh_59 45 rfl (Nat.le_of_ble_eq_true rfl) wd_845 76 rfl ?_
        obtain ⟨rfl, rfl⟩ := ret2 hf
        exact x_iret hh hr dX8_write_76
      · have hf := t_pos hc5 hf
        refine x_ldc hh dX8_write_29 wd_911 31 rfl ?_
        obtain ⟨rfl, rfl⟩ := ret2 hf
        exact x_iret hh hr dX8_write_31
    · have hf := t_pos hc4 hf
      refine x_sub (lv' := [(0, .ref (X.2.1 59))]) [0] rfl ?_
      exact Z_X8_write_17 hX hh hr  q3.2 hf
def F_X8_write (v1 : Int32) (v2 : Int32) (v3 : Int32) (st : St) : Option (Int32 × St) := F_X8_write_0  v1 v2 v3 st
set_option maxRecDepth 100000 in
theorem C_X8_write (l : Launch) {X : Cx} (hX : Ok X) {v1 : Int32} {v2 : Int32} {v3 : Int32} {st : St} {q : Int32 × St} (hf : F_X8_write v1 v2 v3 st = some q) : Ct l X 3 yX8_write (.code yX8_write cX8_write 4 (some .int)) [.ref (X.2.1 59), .int v1, .int v2, .int v3] st (some (.int q.1)) q.2 := by
  refine Ct.of hX (by decide) (Nat.le_of_ble_eq_true rfl) ?_
  intro p e s m args below meth c hh hr
  exact Z_X8_write_0 hX hh hr v1 v2 v3 st hf

def F_X8_tear_0 (st : St) : Option (Int32 × St) := bs (sV st 59 45 0) (fun st1 => some (st.1 59 45, st1))
set_option maxRecDepth 100000 in
set_option maxHeartbeats 4000000 in
theorem Z_X8_tear_0 {l : Launch} {X : Cx} (hX : Ok X) {p : Program} {e : Env} {s : State} {m : MethodId} {args : Array Value} {below : List Frame} {meth : Method} {c : Code} {rr : Int32} {st' : St} (hh : Hy X p s m args meth c cX8_tear 2 RX8) (hr : meth.sig.returnType = some .int) (st : St) (hf : F_X8_tear_0 st = some (rr, st')) : Z X p l e (rmk 0) s m args below meth c 2 (MQ below (Qf X (some (.int rr)) st') args s 0 0 (cA X)) 0 [(0, .ref (X.2.1 59))] [] st := by
  unfold F_X8_tear_0 at hf
  refine x_aload_n hh dX8_tear_0 rfl 0 rfl 1 rfl ?_
  refine x_getI hh cl_8 dX8_tear_1 sh_59 45 rfl (Nat.le_of_ble_eq_true rfl) wd_845 4 rfl ?_
  refine x_istore_n hh dX8_tear_4 rfl (by decide) [(1, .int (st.1 59 45)), (0, .ref (X.2.1 59))] rfl 5 rfl ?_
  refine x_aload_n hh dX8_tear_5 rfl 1 rfl 6 rfl ?_
  refine x_iconst hh dX8_tear_6 0 rfl 7 rfl ?_
  obtain ⟨st1, est1, hf⟩ := bs_some hf
  refine x_putI hh cl_8 dX8_tear_7 sh_59 45 rfl (Nat.le_of_ble_eq_true rfl) wd_845 rfl rfl rfl 10 rfl st1 est1 ?_
  refine x_iload_n hh dX8_tear_10 rfl 0 rfl 11 rfl ?_
  obtain ⟨rfl, rfl⟩ := ret2 hf
  exact x_iret hh hr dX8_tear_11
def F_X8_tear (st : St) : Option (Int32 × St) := F_X8_tear_0  st
set_option maxRecDepth 100000 in
theorem C_X8_tear (l : Launch) {X : Cx} (hX : Ok X) {st : St} {q : Int32 × St} (hf : F_X8_tear st = some q) : Ct l X 0 yX8_tear (.code yX8_tear cX8_tear 2 (some .int)) [.ref (X.2.1 59)] st (some (.int q.1)) q.2 := by
  refine Ct.of hX (by decide) (Nat.le_of_ble_eq_true rfl) ?_
  intro p e s m args below meth c hh hr
  exact Z_X8_tear_0 hX hh hr st hf

def F_X8_load_7 : Nat → Int32 → Int32 → St → Option (St)
  | 0, _, _, _ => none
  | n + 1, v2, v3, st => if (6 : Int32) ≤ v3 then gi (v2 + 30) 120 (bs (sV st 59 10 (st.1 92 (v2 + 30).toNatClampNeg)) (fun st3 => gi (v2 + 31) 120 (bs (sV st3 59 16 (st3.1 92 (v2 + 31).toNatClampNeg)) (fun st5 => some st5)))) else gi (v2 + v3) 120 (gi v3 6 (bs (sV st 69 v3.toNatClampNeg (st.1 92 (v2 + v3).toNatClampNeg)) (fun st8 => gi ((v2 + 6) + v3) 120 (gi v3 6 (bs (sV st8 70 v3.toNatClampNeg (st8.1 92 ((v2 + 6) + v3).toNatClampNeg)) (fun st11 => gi ((v2 + 12) + v3) 120 (gi v3 6 (bs (sV st11 71 v3.toNatClampNeg (st11.1 92 ((v2 + 12) + v3).toNatClampNeg)) (fun st14 => gi ((v2 + 18) + v3) 120 (gi v3 6 (bs (sV st14 67 v3.toNatClampNeg (st14.1 92 ((v2 + 18) + v3).toNatClampNeg)) (fun st17 => gi ((v2 + 24) + v3) 120 (gi v3 6 (bs (sV st17 68 v3.toNatClampNeg (st17.1 92 ((v2 + 24) + v3).toNatClampNeg)) (fun st20 => F_X8_load_7 n v2 (v3 + 1) st20)))))))))))))))
set_option maxRecDepth 100000 in
set_option maxHeartbeats 4000000 in
theorem Z_X8_load_7 {l : Launch} {X : Cx} (hX : Ok X) {p : Program} {e : Env} {s : State} {m : MethodId} {args : Array Value} {below : List Frame} {meth : Method} {c : Code} {st' : St} (hh : Hy X p s m args meth c cX8_load 4 RX8) (hr : meth.sig.returnType = none) : ∀ (n : Nat) (v2 : Int32) (v3 : Int32) (st : St), F_X8_load_7 n v2 v3 st = some st' → Z X p l e (rmk 0) s m args below meth c 4 (MQ below (Qf X none st') args s 0 0 (cA X)) 7 [(0, .ref (X.2.1 59)), (2, .int v2), (3, .int v3)] [] st := by
  intro n
  induction n with
  | zero =>
    intro v2 v3 st hf
    cases hf
  | succ n ih =>
    intro v2 v3 st hf
    rw [F_X8_load_7] at hf
    refine x_iload_n hh dX8_load_7 rfl 2 rfl 8 rfl ?_
    refine x_bipush hh dX8_load_8 6 rfl 10 rfl ?_
    refine x_icmp_ge hh dX8_load_10 101 rfl 13 rfl (fun hc1 => ?_) (fun hc1 => ?_)
    · have hf := t_pos hc1 hf
      refine x_aload_n hh dX8_load_101 rfl 0 rfl 102 rfl ?_
      refine x_aload_n hh dX8_load_102 rfl 0 rfl 103 rfl ?_
      refine x_getR hh cl_8 dX8_load_103 sh_59 49 92 rfl (Nat.le_of_ble_eq_true rfl) wd_849 106 rfl ?_
      refine x_iload_n hh dX8_load_106 rfl 1 rfl 107 rfl ?_
      refine x_bipush hh dX8_load_107 30 rfl 109 rfl ?_
      refine x_iadd hh dX8_load_109 110 rfl ?_
      obtain ⟨hi2, hf⟩ := gi_some hf
      refine x_iaload hh dX8_load_110 sh_92 hi2 111 rfl ?_
      obtain ⟨st3, est3, hf⟩ := bs_some hf
      refine x_putI hh cl_8 dX8_load_111 sh_59 10 rfl (Nat.le_of_ble_eq_true rfl) wd_810 rfl rfl rfl 114 rfl st3 est3 ?_
      refine x_aload_n hh dX8_load_114 rfl 0 rfl 115 rfl ?_
      refine x_aload_n hh dX8_load_115 rfl 0 rfl 116 rfl ?_
      refine x_getR hh cl_8 dX8_load_116 sh_59 49 92 rfl (Nat.le_of_ble_eq_true rfl) wd_849 119 rfl ?_
      refine x_iload_n hh dX8_load_119 rfl 1 rfl 120 rfl ?_
      refine x_bipush hh dX8_load_120 31 rfl 122 rfl ?_
      refine x_iadd hh dX8_load_122 123 rfl ?_
      obtain ⟨hi4, hf⟩ := gi_some hf
      refine x_iaload hh dX8_load_123 sh_92 hi4 124 rfl ?_
      obtain ⟨st5, est5, hf⟩ := bs_some hf
      refine x_putI hh cl_8 dX8_load_124 sh_59 16 rfl (Nat.le_of_ble_eq_true rfl) wd_816 rfl rfl rfl 127 rfl st5 est5 ?_
      obtain rfl := ret1 hf
      exact x_vret hh hr dX8_load_127
    · have hf := t_neg hc1 hf
      refine x_aload_n hh dX8_load_13 rfl 0 rfl 14 rfl ?_
      refine x_getR hh cl_8 dX8_load_14 sh_59 13 69 rfl (Nat.le_of_ble_eq_true rfl) wd_813 17 rfl ?_
      refine x_iload_n hh dX8_load_17 rfl 2 rfl 18 rfl ?_
      refine x_aload_n hh dX8_load_18 rfl 0 rfl 19 rfl ?_
      refine x_getR hh cl_8 dX8_load_19 sh_59 49 92 rfl (Nat.le_of_ble_eq_true rfl) wd_849 22 rfl ?_
      refine x_iload_n hh dX8_load_22 rfl 1 rfl 23 rfl ?_
      refine x_iload_n hh dX8_load_23 rfl 2 rfl 24 rfl ?_
      refine x_iadd hh dX8_load_24 25 rfl ?_
      obtain ⟨hi6, hf⟩ := gi_some hf
      refine x_iaload hh dX8_load_25 sh_92 hi6 26 rfl ?_
      obtain ⟨hi7, hf⟩ := gi_some hf
      obtain ⟨st8, est8, hf⟩ := bs_some hf
      refine x_iastore hh dX8_load_26 sh_69 hi7 27 rfl st8 est8 ?_
      refine x_aload_n hh dX8_load_27 rfl 0 rfl 28 rfl ?_
      refine x_getR hh cl_8 dX8_load_28 sh_59 14 70 rfl (Nat.le_of_ble_eq_true rfl) wd_814 31 rfl ?_
      refine x_iload_n hh dX8_load_31 rfl 2 rfl 32 rfl ?_
      refine x_aload_n hh dX8_load_32 rfl 0 rfl 33 rfl ?_
      refine x_getR hh cl_8 dX8_load_33 sh_59 49 92 rfl (Nat.le_of_ble_eq_true rfl) wd_849 36 rfl ?_
      refine x_iload_n hh dX8_load_36 rfl 1 rfl 37 rfl ?_
      refine x_bipush hh dX8_load_37 6 rfl 39 rfl ?_
      refine x_iadd hh dX8_load_39 40 rfl ?_
      refine x_iload_n hh dX8_load_40 rfl 2 rfl 41 rfl ?_
      refine x_iadd hh dX8_load_41 42 rfl ?_
      obtain ⟨hi9, hf⟩ := gi_some hf
      refine x_iaload hh dX8_load_42 sh_92 hi9 43 rfl ?_
      obtain ⟨hi10, hf⟩ := gi_some hf
      obtain ⟨st11, est11, hf⟩ := bs_some hf
      refine x_iastore hh dX8_load_43 sh_70 hi10 44 rfl st11 est11 ?_
      refine x_aload_n hh dX8_load_44 rfl 0 rfl 45 rfl ?_
      refine x_getR hh cl_8 dX8_load_45 sh_59 15 71 rfl (Nat.le_of_ble_eq_true rfl) wd_815 48 rfl ?_
      refine x_iload_n hh dX8_load_48 rfl 2 rfl 49 rfl ?_
      refine x_aload_n hh dX8_load_49 rfl 0 rfl 50 rfl ?_
      refine x_getR hh cl_8 dX8_load_50 sh_59 49 92 rfl (Nat.le_of_ble_eq_true rfl) wd_849 53 rfl ?_
      refine x_iload_n hh dX8_load_53 rfl 1 rfl 54 rfl ?_
      refine x_bipush hh dX8_load_54 12 rfl 56 rfl ?_
      refine x_iadd hh dX8_load_56 57 rfl ?_
      refine x_iload_n hh dX8_load_57 rfl 2 rfl 58 rfl ?_
      refine x_iadd hh dX8_load_58 59 rfl ?_
      obtain ⟨hi12, hf⟩ := gi_some hf
      refine x_iaload hh dX8_load_59 sh_92 hi12 60 rfl ?_
      obtain ⟨hi13, hf⟩ := gi_some hf
      obtain ⟨st14, est14, hf⟩ := bs_some hf
      refine x_iastore hh dX8_load_60 sh_71 hi13 61 rfl st14 est14 ?_
      refine x_aload_n hh dX8_load_61 rfl 0 rfl 62 rfl ?_
      refine x_getR hh cl_8 dX8_load_62 sh_59 11 67 rfl (Nat.le_of_ble_eq_true rfl) wd_811 65 rfl ?_
      refine x_iload_n hh dX8_load_65 rfl 2 rfl 66 rfl ?_
      refine x_aload_n hh dX8_load_66 rfl 0 rfl 67 rfl ?_
      refine x_getR hh cl_8 dX8_load_67 sh_59 49 92 rfl (Nat.le_of_ble_eq_true rfl) wd_849 70 rfl ?_
      refine x_iload_n hh dX8_load_70 rfl 1 rfl 71 rfl ?_
      refine x_bipush hh dX8_load_71 18 rfl 73 rfl ?_
      refine x_iadd hh dX8_load_73 74 rfl ?_
      refine x_iload_n hh dX8_load_74 rfl 2 rfl 75 rfl ?_
      refine x_iadd hh dX8_load_75 76 rfl ?_
      obtain ⟨hi15, hf⟩ := gi_some hf
      refine x_iaload hh dX8_load_76 sh_92 hi15 77 rfl ?_
      obtain ⟨hi16, hf⟩ := gi_some hf
      obtain ⟨st17, est17, hf⟩ := bs_some hf
      refine x_iastore hh dX8_load_77 sh_67 hi16 78 rfl st17 est17 ?_
      refine x_aload_n hh dX8_load_78 rfl 0 rfl 79 rfl ?_
      refine x_getR hh cl_8 dX8_load_79 sh_59 12 68 rfl (Nat.le_of_ble_eq_true rfl) wd_812 82 rfl ?_
      refine x_iload_n hh dX8_load_82 rfl 2 rfl 83 rfl ?_
      refine x_aload_n hh dX8_load_83 rfl 0 rfl 84 rfl ?_
      refine x_getR hh cl_8 dX8_load_84 sh_59 49 92 rfl (Nat.le_of_ble_eq_true rfl) wd_849 87 rfl ?_
      refine x_iload_n hh dX8_load_87 rfl 1 rfl 88 rfl ?_
      refine x_bipush hh dX8_load_88 24 rfl 90 rfl ?_
      refine x_iadd hh dX8_load_90 91 rfl ?_
      refine x_iload_n hh dX8_load_91 rfl 2 rfl 92 rfl ?_
      refine x_iadd hh dX8_load_92 93 rfl ?_
      obtain ⟨hi18, hf⟩ := gi_some hf
      refine x_iaload hh dX8_load_93 sh_92 hi18 94 rfl ?_
      obtain ⟨hi19, hf⟩ := gi_some hf
      obtain ⟨st20, est20, hf⟩ := bs_some hf
      refine x_iastore hh dX8_load_94 sh_68 hi19 95 rfl st20 est20 ?_
      refine x_iinc hh dX8_load_95 2 rfl (v3 + 1) rfl (by decide) [(3, .int (v3 + 1)), (0, .ref (X.2.1 59)), (2, .int v2)] rfl 98 rfl ?_
      refine x_goto hh dX8_load_98 7 rfl ?_
      refine x_sub (lv' := [(0, .ref (X.2.1 59)), (2, .int v2), (3, .int (v3 + 1))]) [1, 2, 0] rfl ?_
      exact ih v2 (v3 + 1) st20 hf
def F_X8_load_0 (v1 : Int32) (st : St) : Option (St) := F_X8_load_7 fN (40 * v1) 0 st
set_option maxRecDepth 100000 in
set_option maxHeartbeats 4000000 in
theorem Z_X8_load_0 {l : Launch} {X : Cx} (hX : Ok X) {p : Program} {e : Env} {s : State} {m : MethodId} {args : Array Value} {below : List Frame} {meth : Method} {c : Code} {st' : St} (hh : Hy X p s m args meth c cX8_load 4 RX8) (hr : meth.sig.returnType = none) (v1 : Int32) (st : St) (hf : F_X8_load_0 v1 st = some st') : Z X p l e (rmk 0) s m args below meth c 4 (MQ below (Qf X none st') args s 0 0 (cA X)) 0 [(0, .ref (X.2.1 59)), (1, .int v1)] [] st := by
  unfold F_X8_load_0 at hf
  refine x_bipush hh dX8_load_0 40 rfl 2 rfl ?_
  refine x_iload_n hh dX8_load_2 rfl 1 rfl 3 rfl ?_
  refine x_imul hh dX8_load_3 4 rfl ?_
  refine x_istore_n hh dX8_load_4 rfl (by decide) [(2, .int (40 * v1)), (0, .ref (X.2.1 59)), (1, .int v1)] rfl 5 rfl ?_
  refine x_iconst hh dX8_load_5 0 rfl 6 rfl ?_
  refine x_istore_n hh dX8_load_6 rfl (by decide) [(3, .int 0), (2, .int (40 * v1)), (0, .ref (X.2.1 59)), (1, .int v1)] rfl 7 rfl ?_
  refine x_sub (lv' := [(0, .ref (X.2.1 59)), (2, .int (40 * v1)), (3, .int 0)]) [2, 1, 0] rfl ?_
  exact Z_X8_load_7 hX hh hr fN (40 * v1) 0 st hf
def F_X8_load (v1 : Int32) (st : St) : Option (St) := F_X8_load_0  v1 st
set_option maxRecDepth 100000 in
theorem C_X8_load (l : Launch) {X : Cx} (hX : Ok X) {v1 : Int32} {st : St} {q : St} (hf : F_X8_load v1 st = some q) : Ct l X 0 yX8_load (.code yX8_load cX8_load 4 (none)) [.ref (X.2.1 59), .int v1] st none q := by
  refine Ct.of hX (by decide) (Nat.le_of_ble_eq_true rfl) ?_
  intro p e s m args below meth c hh hr
  exact Z_X8_load_0 hX hh hr v1 st hf

def F_X8_save_7 : Nat → Int32 → Int32 → St → Option (St)
  | 0, _, _, _ => none
  | n + 1, v2, v3, st => if (6 : Int32) ≤ v3 then gi (v2 + 30) 120 (bs (sV st 92 (v2 + 30).toNatClampNeg (st.1 59 10)) (fun st3 => gi (v2 + 31) 120 (bs (sV st3 92 (v2 + 31).toNatClampNeg (st3.1 59 16)) (fun st5 => some st5)))) else gi v3 6 (gi (v2 + v3) 120 (bs (sV st 92 (v2 + v3).toNatClampNeg (st.1 69 v3.toNatClampNeg)) (fun st8 => gi v3 6 (gi ((v2 + 6) + v3) 120 (bs (sV st8 92 ((v2 + 6) + v3).toNatClampNeg (st8.1 70 v3.toNatClampNeg)) (fun st11 => gi v3 6 (gi ((v2 + 12) + v3) 120 (bs (sV st11 92 ((v2 + 12) + v3).toNatClampNeg (st11.1 71 v3.toNatClampNeg)) (fun st14 => gi v3 6 (gi ((v2 + 18) + v3) 120 (bs (sV st14 92 ((v2 + 18) + v3).toNatClampNeg (st14.1 67 v3.toNatClampNeg)) (fun st17 => gi v3 6 (gi ((v2 + 24) + v3) 120 (bs (sV st17 92 ((v2 + 24) + v3).toNatClampNeg (st17.1 68 v3.toNatClampNeg)) (fun st20 => F_X8_save_7 n v2 (v3 + 1) st20)))))))))))))))
set_option maxRecDepth 100000 in
set_option maxHeartbeats 4000000 in
theorem Z_X8_save_7 {l : Launch} {X : Cx} (hX : Ok X) {p : Program} {e : Env} {s : State} {m : MethodId} {args : Array Value} {below : List Frame} {meth : Method} {c : Code} {st' : St} (hh : Hy X p s m args meth c cX8_save 4 RX8) (hr : meth.sig.returnType = none) : ∀ (n : Nat) (v2 : Int32) (v3 : Int32) (st : St), F_X8_save_7 n v2 v3 st = some st' → Z X p l e (rmk 0) s m args below meth c 4 (MQ below (Qf X none st') args s 0 0 (cA X)) 7 [(0, .ref (X.2.1 59)), (2, .int v2), (3, .int v3)] [] st := by
  intro n
  induction n with
  | zero =>
    intro v2 v3 st hf
    cases hf
  | succ n ih =>
    intro v2 v3 st hf
    rw [F_X8_save_7] at hf
    refine x_iload_n hh dX8_save_7 rfl 2 rfl 8 rfl ?_
    refine x_bipush hh dX8_save_8 6 rfl 10 rfl ?_
    refine x_icmp_ge hh dX8_save_10 101 rfl 13 rfl (fun hc1 => ?_) (fun hc1 => ?_)
    · have hf := t_pos hc1 hf
      refine x_aload_n hh dX8_save_101 rfl 0 rfl 102 rfl ?_
      refine x_getR hh cl_8 dX8_save_102 sh_59 49 92 rfl (Nat.le_of_ble_eq_true rfl) wd_849 105 rfl ?_
      refine x_iload_n hh dX8_save_105 rfl 1 rfl 106 rfl ?_
      refine x_bipush hh dX8_save_106 30 rfl 108 rfl ?_
      refine x_iadd hh dX8_save_108 109 rfl ?_
      refine x_aload_n hh dX8_save_109 rfl 0 rfl 110 rfl ?_
      refine x_getI hh cl_8 dX8_save_110 sh_59 10 rfl (Nat.le_of_ble_eq_true rfl) wd_810 113 rfl ?_
      obtain ⟨hi2, hf⟩ := gi_some hf
      obtain ⟨st3, est3, hf⟩ := bs_some hf
      refine x_iastore hh dX8_save_113 sh_92 hi2 114 rfl st3 est3 ?_
      refine x_aload_n hh dX8_save_114 rfl 0 rfl 115 rfl ?_
      refine x_getR hh cl_8 dX8_save_115 sh_59 49 92 rfl (Nat.le_of_ble_eq_true rfl) wd_849 118 rfl ?_
      refine x_iload_n hh dX8_save_118 rfl 1 rfl 119 rfl ?_
      refine x_bipush hh dX8_save_119 31 rfl 121 rfl ?_
      refine x_iadd hh dX8_save_121 122 rfl ?_
      refine x_aload_n hh dX8_save_122 rfl 0 rfl 123 rfl ?_
      refine x_getI hh cl_8 dX8_save_123 sh_59 16 rfl (Nat.le_of_ble_eq_true rfl) wd_816 126 rfl ?_
      obtain ⟨hi4, hf⟩ := gi_some hf
      obtain ⟨st5, est5, hf⟩ := bs_some hf
      refine x_iastore hh dX8_save_126 sh_92 hi4 127 rfl st5 est5 ?_
      obtain rfl := ret1 hf
      exact x_vret hh hr dX8_save_127
    · have hf := t_neg hc1 hf
      refine x_aload_n hh dX8_save_13 rfl 0 rfl 14 rfl ?_
      refine x_getR hh cl_8 dX8_save_14 sh_59 49 92 rfl (Nat.le_of_ble_eq_true rfl) wd_849 17 rfl ?_
      refine x_iload_n hh dX8_save_17 rfl 1 rfl 18 rfl ?_
      refine x_iload_n hh dX8_save_18 rfl 2 rfl 19 rfl ?_
      refine x_iadd hh dX8_save_19 20 rfl ?_
      refine x_aload_n hh dX8_save_20 rfl 0 rfl 21 rfl ?_
      refine x_getR hh cl_8 dX8_save_21 sh_59 13 69 rfl (Nat.le_of_ble_eq_true rfl) wd_813 24 rfl ?_
      refine x_iload_n hh dX8_save_24 rfl 2 rfl 25 rfl ?_
      obtain ⟨hi6, hf⟩ := gi_some hf
      refine x_iaload hh dX8_save_25 sh_69 hi6 26 rfl ?_
      obtain ⟨hi7, hf⟩ := gi_some hf
      obtain ⟨st8, est8, hf⟩ := bs_some hf
      refine x_iastore hh dX8_save_26 sh_92 hi7 27 rfl st8 est8 ?_
      refine x_aload_n hh dX8_save_27 rfl 0 rfl 28 rfl ?_
      refine x_getR hh cl_8 dX8_save_28 sh_59 49 92 rfl (Nat.le_of_ble_eq_true rfl) wd_849 31 rfl ?_
      refine x_iload_n hh dX8_save_31 rfl 1 rfl 32 rfl ?_
      refine x_bipush hh dX8_save_32 6 rfl 34 rfl ?_
      refine x_iadd hh dX8_save_34 35 rfl ?_
      refine x_iload_n hh dX8_save_35 rfl 2 rfl 36 rfl ?_
      refine x_iadd hh dX8_save_36 37 rfl ?_
      refine x_aload_n hh dX8_save_37 rfl 0 rfl 38 rfl ?_
      refine x_getR hh cl_8 dX8_save_38 sh_59 14 70 rfl (Nat.le_of_ble_eq_true rfl) wd_814 41 rfl ?_
      refine x_iload_n hh dX8_save_41 rfl 2 rfl 42 rfl ?_
      obtain ⟨hi9, hf⟩ := gi_some hf
      refine x_iaload hh dX8_save_42 sh_70 hi9 43 rfl ?_
      obtain ⟨hi10, hf⟩ := gi_some hf
      obtain ⟨st11, est11, hf⟩ := bs_some hf
      refine x_iastore hh dX8_save_43 sh_92 hi10 44 rfl st11 est11 ?_
      refine x_aload_n hh dX8_save_44 rfl 0 rfl 45 rfl ?_
      refine x_getR hh cl_8 dX8_save_45 sh_59 49 92 rfl (Nat.le_of_ble_eq_true rfl) wd_849 48 rfl ?_
      refine x_iload_n hh dX8_save_48 rfl 1 rfl 49 rfl ?_
      refine x_bipush hh dX8_save_49 12 rfl 51 rfl ?_
      refine x_iadd hh dX8_save_51 52 rfl ?_
      refine x_iload_n hh dX8_save_52 rfl 2 rfl 53 rfl ?_
      refine x_iadd hh dX8_save_53 54 rfl ?_
      refine x_aload_n hh dX8_save_54 rfl 0 rfl 55 rfl ?_
      refine x_getR hh cl_8 dX8_save_55 sh_59 15 71 rfl (Nat.le_of_ble_eq_true rfl) wd_815 58 rfl ?_
      refine x_iload_n hh dX8_save_58 rfl 2 rfl 59 rfl ?_
      obtain ⟨hi12, hf⟩ := gi_some hf
      refine x_iaload hh dX8_save_59 sh_71 hi12 60 rfl ?_
      obtain ⟨hi13, hf⟩ := gi_some hf
      obtain ⟨st14, est14, hf⟩ := bs_some hf
      refine x_iastore hh dX8_save_60 sh_92 hi13 61 rfl st14 est14 ?_
      refine x_aload_n hh dX8_save_61 rfl 0 rfl 62 rfl ?_
      refine x_getR hh cl_8 dX8_save_62 sh_59 49 92 rfl (Nat.le_of_ble_eq_true rfl) wd_849 65 rfl ?_
      refine x_iload_n hh dX8_save_65 rfl 1 rfl 66 rfl ?_
      refine x_bipush hh dX8_save_66 18 rfl 68 rfl ?_
      refine x_iadd hh dX8_save_68 69 rfl ?_
      refine x_iload_n hh dX8_save_69 rfl 2 rfl 70 rfl ?_
      refine x_iadd hh dX8_save_70 71 rfl ?_
      refine x_aload_n hh dX8_save_71 rfl 0 rfl 72 rfl ?_
      refine x_getR hh cl_8 dX8_save_72 sh_59 11 67 rfl (Nat.le_of_ble_eq_true rfl) wd_811 75 rfl ?_
      refine x_iload_n hh dX8_save_75 rfl 2 rfl 76 rfl ?_
      obtain ⟨hi15, hf⟩ := gi_some hf
      refine x_iaload hh dX8_save_76 sh_67 hi15 77 rfl ?_
      obtain ⟨hi16, hf⟩ := gi_some hf
      obtain ⟨st17, est17, hf⟩ := bs_some hf
      refine x_iastore hh dX8_save_77 sh_92 hi16 78 rfl st17 est17 ?_
      refine x_aload_n hh dX8_save_78 rfl 0 rfl 79 rfl ?_
      refine x_getR hh cl_8 dX8_save_79 sh_59 49 92 rfl (Nat.le_of_ble_eq_true rfl) wd_849 82 rfl ?_
      refine x_iload_n hh dX8_save_82 rfl 1 rfl 83 rfl ?_
      refine x_bipush hh dX8_save_83 24 rfl 85 rfl ?_
      refine x_iadd hh dX8_save_85 86 rfl ?_
      refine x_iload_n hh dX8_save_86 rfl 2 rfl 87 rfl ?_
      refine x_iadd hh dX8_save_87 88 rfl ?_
      refine x_aload_n hh dX8_save_88 rfl 0 rfl 89 rfl ?_
      refine x_getR hh cl_8 dX8_save_89 sh_59 12 68 rfl (Nat.le_of_ble_eq_true rfl) wd_812 92 rfl ?_
      refine x_iload_n hh dX8_save_92 rfl 2 rfl 93 rfl ?_
      obtain ⟨hi18, hf⟩ := gi_some hf
      refine x_iaload hh dX8_save_93 sh_68 hi18 94 rfl ?_
      obtain ⟨hi19, hf⟩ := gi_some hf
      obtain ⟨st20, est20, hf⟩ := bs_some hf
      refine x_iastore hh dX8_save_94 sh_92 hi19 95 rfl st20 est20 ?_
      refine x_iinc hh dX8_save_95 2 rfl (v3 + 1) rfl (by decide) [(3, .int (v3 + 1)), (0, .ref (X.2.1 59)), (2, .int v2)] rfl 98 rfl ?_
      refine x_goto hh dX8_save_98 7 rfl ?_
      refine x_sub (lv' := [(0, .ref (X.2.1 59)), (2, .int v2), (3, .int (v3 + 1))]) [1, 2, 0] rfl ?_
      exact ih v2 (v3 + 1) st20 hf
def F_X8_save_0 (v1 : Int32) (st : St) : Option (St) := F_X8_save_7 fN (40 * v1) 0 st
set_option maxRecDepth 100000 in
set_option maxHeartbeats 4000000 in
theorem Z_X8_save_0 {l : Launch} {X : Cx} (hX : Ok X) {p : Program} {e : Env} {s : State} {m : MethodId} {args : Array Value} {below : List Frame} {meth : Method} {c : Code} {st' : St} (hh : Hy X p s m args meth c cX8_save 4 RX8) (hr : meth.sig.returnType = none) (v1 : Int32) (st : St) (hf : F_X8_save_0 v1 st = some st') : Z X p l e (rmk 0) s m args below meth c 4 (MQ below (Qf X none st') args s 0 0 (cA X)) 0 [(0, .ref (X.2.1 59)), (1, .int v1)] [] st := by
  unfold F_X8_save_0 at hf
  refine x_bipush hh dX8_save_0 40 rfl 2 rfl ?_
  refine x_iload_n hh dX8_save_2 rfl 1 rfl 3 rfl ?_
  refine x_imul hh dX8_save_3 4 rfl ?_
  refine x_istore_n hh dX8_save_4 rfl (by decide) [(2, .int (40 * v1)), (0, .ref (X.2.1 59)), (1, .int v1)] rfl 5 rfl ?_
  refine x_iconst hh dX8_save_5 0 rfl 6 rfl ?_
  refine x_istore_n hh dX8_save_6 rfl (by decide) [(3, .int 0), (2, .int (40 * v1)), (0, .ref (X.2.1 59)), (1, .int v1)] rfl 7 rfl ?_
  refine x_sub (lv' := [(0, .ref (X.2.1 59)), (2, .int (40 * v1)), (3, .int 0)]) [2, 1, 0] rfl ?_
  exact Z_X8_save_7 hX hh hr fN (40 * v1) 0 st hf
def F_X8_save (v1 : Int32) (st : St) : Option (St) := F_X8_save_0  v1 st
set_option maxRecDepth 100000 in
theorem C_X8_save (l : Launch) {X : Cx} (hX : Ok X) {v1 : Int32} {st : St} {q : St} (hf : F_X8_save v1 st = some q) : Ct l X 0 yX8_save (.code yX8_save cX8_save 4 (none)) [.ref (X.2.1 59), .int v1] st none q := by
  refine Ct.of hX (by decide) (Nat.le_of_ble_eq_true rfl) ?_
  intro p e s m args below meth c hh hr
  exact Z_X8_save_0 hX hh hr v1 st hf

def F_X8_judge_119 (k44 : Int32 → Int32 → Int32 → Int32 → St → Option (Int32 × St)) (v1 : Int32) (v2 : Int32) (v3 : Int32) (v4 : Int32) (st : St) : Option (Int32 × St) := k44 v1 v2 v3 (v4 + 1) st
set_option maxRecDepth 100000 in
set_option maxHeartbeats 4000000 in
theorem Z_X8_judge_119 {l : Launch} {X : Cx} (hX : Ok X) {p : Program} {e : Env} {s : State} {m : MethodId} {args : Array Value} {below : List Frame} {meth : Method} {c : Code} {rr : Int32} {st' : St} (hh : Hy X p s m args meth c cX8_judge 5 RX8) (hr : meth.sig.returnType = some .int) {k44 : Int32 → Int32 → Int32 → Int32 → St → Option (Int32 × St)} (hk44 : ∀ (v1 : Int32) (v2 : Int32) (v3 : Int32) (v4 : Int32) (st : St), k44 v1 v2 v3 v4 st = some (rr, st') → Z X p l e (rmk 5) s m args below meth c 5 (MQ below (Qf X (some (.int rr)) st') args s 0 0 (cA X)) 44 [(0, .ref (X.2.1 59)), (1, .int v1), (2, .int v2), (3, .int v3), (4, .int v4)] [] st) (v1 : Int32) (v2 : Int32) (v3 : Int32) (v4 : Int32) (st : St) (hf : F_X8_judge_119 k44 v1 v2 v3 v4 st = some (rr, st')) : Z X p l e (rmk 5) s m args below meth c 5 (MQ below (Qf X (some (.int rr)) st') args s 0 0 (cA X)) 119 [(0, .ref (X.2.1 59)), (1, .int v1), (2, .int v2), (3, .int v3), (4, .int v4)] [] st := by
  unfold F_X8_judge_119 at hf
  refine x_iinc hh dX8_judge_119 4 rfl (v4 + 1) rfl (by decide) [(4, .int (v4 + 1)), (0, .ref (X.2.1 59)), (1, .int v1), (2, .int v2), (3, .int v3)] rfl 122 rfl ?_
  refine x_goto hh dX8_judge_122 44 rfl ?_
  refine x_sub (lv' := [(0, .ref (X.2.1 59)), (1, .int v1), (2, .int v2), (3, .int v3), (4, .int (v4 + 1))]) [1, 2, 3, 4, 0] rfl ?_
  exact hk44 v1 v2 v3 (v4 + 1) st hf
def F_X8_judge_139 (t0 : Int32) (st : St) : Option (Int32 × St) := some (t0, st)
set_option maxRecDepth 100000 in
set_option maxHeartbeats 4000000 in
theorem Z_X8_judge_139 {l : Launch} {X : Cx} (hX : Ok X) {p : Program} {e : Env} {s : State} {m : MethodId} {args : Array Value} {below : List Frame} {meth : Method} {c : Code} {rr : Int32} {st' : St} (hh : Hy X p s m args meth c cX8_judge 5 RX8) (hr : meth.sig.returnType = some .int) (t0 : Int32) (st : St) (hf : F_X8_judge_139 t0 st = some (rr, st')) : Z X p l e (rmk 5) s m args below meth c 5 (MQ below (Qf X (some (.int rr)) st') args s 0 0 (cA X)) 139 [(0, .ref (X.2.1 59))] [.int t0] st := by
  unfold F_X8_judge_139 at hf
  obtain ⟨rfl, rfl⟩ := ret2 hf
  exact x_iret hh hr dX8_judge_139
def F_X8_judge_125 (v1 : Int32) (v2 : Int32) (v3 : Int32) (st : St) : Option (Int32 × St) := (F_X8_load 2 st).bind (fun q17 => if v1 = 0 then F_X8_judge_139 v2 q17 else F_X8_judge_139 v3 q17)
set_option maxRecDepth 100000 in
set_option maxHeartbeats 4000000 in
theorem Z_X8_judge_125 {l : Launch} {X : Cx} (hX : Ok X) {p : Program} {e : Env} {s : State} {m : MethodId} {args : Array Value} {below : List Frame} {meth : Method} {c : Code} {rr : Int32} {st' : St} (hh : Hy X p s m args meth c cX8_judge 5 RX8) (hr : meth.sig.returnType = some .int) (v1 : Int32) (v2 : Int32) (v3 : Int32) (st : St) (hf : F_X8_judge_125 v1 v2 v3 st = some (rr, st')) : Z X p l e (rmk 5) s m args below meth c 5 (MQ below (Qf X (some (.int rr)) st') args s 0 0 (cA X)) 125 [(0, .ref (X.2.1 59)), (1, .int v1), (2, .int v2), (3, .int v3)] [] st := by
  unfold F_X8_judge_125 at hf
  refine x_aload_n hh dX8_judge_125 rfl 0 rfl 126 rfl ?_
  refine x_iconst hh dX8_judge_126 2 rfl 127 rfl ?_
  obtain ⟨q17, hq17, hf⟩ := b_some hf
  refine x_callV (rest := []) hh mi_X8_load [.int 2] dX8_judge_127 sh_59 wd_1149 (C_X8_load l hX  hq17) rfl rfl ⟨Nat.le_of_ble_eq_true rfl, Nat.le_of_ble_eq_true rfl⟩ (Nat.le_of_ble_eq_true rfl) 130 rfl [] rfl ?_
  refine x_iload_n hh dX8_judge_130 rfl 1 rfl 131 rfl ?_
  refine x_if_ne hh dX8_judge_131 138 rfl 134 rfl (fun hc18 => ?_) (fun hc18 => ?_)
  · have hf := t_neg hc18 hf
    refine x_iload_n hh dX8_judge_138 rfl 3 rfl 139 rfl ?_
    refine x_sub (lv' := [(0, .ref (X.2.1 59))]) [0] rfl ?_
    exact Z_X8_judge_139 hX hh hr  v3 q17 hf
  · have hf := t_pos hc18 hf
    refine x_iload_n hh dX8_judge_134 rfl 2 rfl 135 rfl ?_
    refine x_goto hh dX8_judge_135 139 rfl ?_
    refine x_sub (lv' := [(0, .ref (X.2.1 59))]) [0] rfl ?_
    exact Z_X8_judge_139 hX hh hr  v2 q17 hf
def F_X8_judge_44 : Nat → Int32 → Int32 → Int32 → Int32 → St → Option (Int32 × St)
  | 0, _, _, _, _, _ => none
  | n + 1, v1, v2, v3, v4, st => if (st.1 59 45) ≤ v4 then F_X8_judge_125 v1 v2 v3 st else if (0 : Int32) ≤ v2 then F_X8_judge_125 v1 v2 v3 st else gi v4 20 (gi v4 20 (gi v4 20 ((F_X8_mayCome (st.1 89 v4.toNatClampNeg) (st.1 90 v4.toNatClampNeg) (st.1 91 v4.toNatClampNeg) st).bind (fun q11 => if q11.1 = 0 then F_X8_judge_119 (F_X8_judge_44 n) v1 v4 v3 v4 q11.2 else gi v4 20 (gi v4 20 (gi v4 20 ((F_X8_comeNow (q11.2.1 89 v4.toNatClampNeg) (q11.2.1 90 v4.toNatClampNeg) (q11.2.1 91 v4.toNatClampNeg) q11.2).bind (fun q16 => F_X8_judge_119 (F_X8_judge_44 n) v1 v2 (v3 + q16.1) v4 q16.2))))))))
set_option maxRecDepth 100000 in
set_option maxHeartbeats 4000000 in
theorem Z_X8_judge_44 {l : Launch} {X : Cx} (hX : Ok X) {p : Program} {e : Env} {s : State} {m : MethodId} {args : Array Value} {below : List Frame} {meth : Method} {c : Code} {rr : Int32} {st' : St} (hh : Hy X p s m args meth c cX8_judge 5 RX8) (hr : meth.sig.returnType = some .int) : ∀ (n : Nat) (v1 : Int32) (v2 : Int32) (v3 : Int32) (v4 : Int32) (st : St), F_X8_judge_44 n v1 v2 v3 v4 st = some (rr, st') → Z X p l e (rmk 5) s m args below meth c 5 (MQ below (Qf X (some (.int rr)) st') args s 0 0 (cA X)) 44 [(0, .ref (X.2.1 59)), (1, .int v1), (2, .int v2), (3, .int v3), (4, .int v4)] [] st := by
  intro n
  induction n with
  | zero =>
    intro v1 v2 v3 v4 st hf
    cases hf
  | succ n ih =>
    intro v1 v2 v3 v4 st hf
    rw [F_X8_judge_44] at hf
    refine x_iload hh dX8_judge_44 4 rfl 46 rfl ?_
    refine x_aload_n hh dX8_judge_46 rfl 0 rfl 47 rfl ?_
    refine x_getI hh cl_8 dX8_judge_47 sh_59 45 rfl (Nat.le_of_ble_eq_true rfl) wd_845 50 rfl ?_
    refine x_icmp_ge hh dX8_judge_50 125 rfl 53 rfl (fun hc6 => ?_) (fun hc6 => ?_)
    · have hf := t_pos hc6 hf
      refine x_sub (lv' := [(0, .ref (X.2.1 59)), (1, .int v1), (2, .int v2), (3, .int v3)]) [0, 1, 2, 3] rfl ?_
      exact Z_X8_judge_125 hX hh hr  v1 v2 v3 st hf
    · have hf := t_neg hc6 hf
      refine x_iload_n hh dX8_judge_53 rfl 2 rfl 54 rfl ?_
      refine x_if_ge hh dX8_judge_54 125 rfl 57 rfl (fun hc7 => ?_) (fun hc7 => ?_)
      · have hf := t_pos hc7 hf
        refine x_sub (lv' := [(0, .ref (X.2.1 59)), (1, .int v1), (2, .int v2), (3, .int v3)]) [0, 1, 2, 3] rfl ?_
        exact Z_X8_judge_125 hX hh hr  v1 v2 v3 st hf
      · have hf := t_neg hc7 hf
        refine x_aload_n hh dX8_judge_57 rfl 0 rfl 58 rfl ?_
        refine x_aload_n hh dX8_judge_58 rfl 0 rfl 59 rfl ?_
        refine x_getR hh cl_8 dX8_judge_59 sh_59 46 89 rfl (Nat.le_of_ble_eq_true rfl) wd_846 62 rfl ?_
        refine x_iload hh dX8_judge_62 4 rfl 64 rfl ?_
        obtain ⟨hi8, hf⟩ := gi_some hf
        refine x_iaload hh dX8_judge_64 sh_89 hi8 65 rfl ?_
        refine x_aload_n hh dX8_judge_65 rfl 0 rfl 66 rfl ?_
        refine x_getR hh cl_8 dX8_judge_66 sh_59 47 90 rfl (Nat.le_of_ble_eq_true rfl) wd_847 69 rfl ?_
        refine x_iload hh dX8_judge_69 4 rfl 71 rfl ?_
        obtain ⟨hi9, hf⟩ := gi_some hf
        refine x_iaload hh dX8_judge_71 sh_90 hi9 72 rfl ?_
        refine x_aload_n hh dX8_judge_72 rfl 0 rfl 73 rfl ?_
        refine x_getR hh cl_8 dX8_judge_73 sh_59 48 91 rfl (Nat.le_of_ble_eq_true rfl) wd_848 76 rfl ?_
        refine x_iload hh dX8_judge_76 4 rfl 78 rfl ?_
        obtain ⟨hi10, hf⟩ := gi_some hf
        refine x_iaload hh dX8_judge_78 sh_91 hi10 79 rfl ?_
        obtain ⟨q11, hq11, hf⟩ := b_some hf
        refine x_callV (rest := []) hh mi_X8_mayCome [.int (st.1 89 v4.toNatClampNeg), .int (st.1 90 v4.toNatClampNeg), .int (st.1 91 v4.toNatClampNeg)] dX8_judge_79 sh_59 wd_1009 (C_X8_mayCome l hX  hq11) rfl rfl ⟨Nat.le_of_ble_eq_true rfl, Nat.le_of_ble_eq_true rfl⟩ (Nat.le_of_ble_eq_true rfl) 82 rfl [.int q11.1] rfl ?_
        refine x_if_eq hh dX8_judge_82 116 rfl 85 rfl (fun hc12 => ?_) (fun hc12 => ?_)
        · have hf := t_pos hc12 hf
          refine x_iload hh dX8_judge_116 4 rfl 118 rfl ?_
          refine x_istore_n hh dX8_judge_118 rfl (by decide) [(2, .int v4), (0, .ref (X.2.1 59)), (1, .int v1), (3, .int v3), (4, .int v4)] rfl 119 rfl ?_
          refine x_sub (lv' := [(0, .ref (X.2.1 59)), (1, .int v1), (2, .int v4), (3, .int v3), (4, .int v4)]) [1, 2, 0, 3, 4] rfl ?_
          exact Z_X8_judge_119 hX hh hr ih  v1 v4 v3 v4 q11.2 hf
        · have hf := t_neg hc12 hf
          refine x_iload_n hh dX8_judge_85 rfl 3 rfl 86 rfl ?_
          refine x_aload_n hh dX8_judge_86 rfl 0 rfl 87 rfl ?_
          refine x_aload_n hh dX8_judge_87 rfl 0 rfl 88 rfl ?_
          refine x_getR hh cl_8 dX8_judge_88 sh_59 46 89 rfl (Nat.le_of_ble_eq_true rfl) wd_846 91 rfl ?_
          refine x_iload hh dX8_judge_91 4 rfl 93 rfl ?_
          obtain ⟨hi13, hf⟩ := gi_some hf
          refine x_iaload hh dX8_judge_93 sh_89 hi13 94 rfl ?_
          refine x_aload_n hh dX8_judge_94 rfl 0 rfl 95 rfl ?_
          refine x_getR hh cl_8 dX8_judge_95 sh_59 47 90 rfl (Nat.le_of_ble_eq_true rfl) wd_847 98 rfl ?_
          refine x_iload hh dX8_judge_98 4 rfl 100 rfl ?_
          obtain ⟨hi14, hf⟩ := gi_some hf
          refine x_iaload hh dX8_judge_100 sh_90 hi14 101 rfl ?_
          refine x_aload_n hh dX8_judge_101 rfl 0 rfl 102 rfl ?_
          refine x_getR hh cl_8 dX8_judge_102 sh_59 48 91 rfl (Nat.le_of_ble_eq_true rfl) wd_848 105 rfl ?_
          refine x_iload hh dX8_judge_105 4 rfl 107 rfl ?_
          obtain ⟨hi15, hf⟩ := gi_some hf
          refine x_iaload hh dX8_judge_107 sh_91 hi15 108 rfl ?_
          obtain ⟨q16, hq16, hf⟩ := b_some hf
          refine x_callV (rest := [.int v3]) hh mi_X8_comeNow [.int (q11.2.1 89 v4.toNatClampNeg), .int (q11.2.1 90 v4.toNatClampNeg), .int (q11.2.1 91 v4.toNatClampNeg)] dX8_judge_108 sh_59 wd_1072 (C_X8_comeNow l hX  hq16) rfl rfl ⟨Nat.le_of_ble_eq_true rfl, Nat.le_of_ble_eq_true rfl⟩ (Nat.le_of_ble_eq_true rfl) 111 rfl [.int q16.1, .int v3] rfl ?_
          refine x_iadd hh dX8_judge_111 112 rfl ?_
          refine x_istore_n hh dX8_judge_112 rfl (by decide) [(3, .int (v3 + q16.1)), (0, .ref (X.2.1 59)), (1, .int v1), (2, .int v2), (4, .int v4)] rfl 113 rfl ?_
          refine x_goto hh dX8_judge_113 119 rfl ?_
          refine x_sub (lv' := [(0, .ref (X.2.1 59)), (1, .int v1), (2, .int v2), (3, .int (v3 + q16.1)), (4, .int v4)]) [1, 2, 3, 0, 4] rfl ?_
          exact Z_X8_judge_119 hX hh hr ih  v1 v2 (v3 + q16.1) v4 q16.2 hf
def F_X8_judge_20 : Nat → Int32 → Int32 → St → Option (Int32 × St)
  | 0, _, _, _ => none
  | n + 1, v1, v2, st => if (6 : Int32) ≤ v2 then F_X8_judge_44 fN v1 ((-1)) 0 0 st else (F_X8_leaveNow v2 st).bind (fun q5 => F_X8_judge_20 n v1 (v2 + 1) q5)
set_option maxRecDepth 100000 in
set_option maxHeartbeats 4000000 in
theorem Z_X8_judge_20 {l : Launch} {X : Cx} (hX : Ok X) {p : Program} {e : Env} {s : State} {m : MethodId} {args : Array Value} {below : List Frame} {meth : Method} {c : Code} {rr : Int32} {st' : St} (hh : Hy X p s m args meth c cX8_judge 5 RX8) (hr : meth.sig.returnType = some .int) : ∀ (n : Nat) (v1 : Int32) (v2 : Int32) (st : St), F_X8_judge_20 n v1 v2 st = some (rr, st') → Z X p l e (rmk 5) s m args below meth c 5 (MQ below (Qf X (some (.int rr)) st') args s 0 0 (cA X)) 20 [(0, .ref (X.2.1 59)), (1, .int v1), (2, .int v2)] [] st := by
  intro n
  induction n with
  | zero =>
    intro v1 v2 st hf
    cases hf
  | succ n ih =>
    intro v1 v2 st hf
    rw [F_X8_judge_20] at hf
    refine x_iload_n hh dX8_judge_20 rfl 2 rfl 21 rfl ?_
    refine x_bipush hh dX8_judge_21 6 rfl 23 rfl ?_
    refine x_icmp_ge hh dX8_judge_23 37 rfl 26 rfl (fun hc4 => ?_) (fun hc4 => ?_)
    · have hf := t_pos hc4 hf
      refine x_iconst hh dX8_judge_37 (-1) rfl 38 rfl ?_
      refine x_istore_n hh dX8_judge_38 rfl (by decide) [(2, .int ((-1))), (0, .ref (X.2.1 59)), (1, .int v1)] rfl 39 rfl ?_
      refine x_iconst hh dX8_judge_39 0 rfl 40 rfl ?_
      refine x_istore_n hh dX8_judge_40 rfl (by decide) [(3, .int 0), (2, .int ((-1))), (0, .ref (X.2.1 59)), (1, .int v1)] rfl 41 rfl ?_
      refine x_iconst hh dX8_judge_41 0 rfl 42 rfl ?_
      refine x_istore hh dX8_judge_42 (by decide) [(4, .int 0), (3, .int 0), (2, .int ((-1))), (0, .ref (X.2.1 59)), (1, .int v1)] rfl 44 rfl ?_
      refine x_sub (lv' := [(0, .ref (X.2.1 59)), (1, .int v1), (2, .int ((-1))), (3, .int 0), (4, .int 0)]) [3, 4, 2, 1, 0] rfl ?_
      exact Z_X8_judge_44 hX hh hr fN v1 ((-1)) 0 0 st hf
    · have hf := t_neg hc4 hf
      refine x_aload_n hh dX8_judge_26 rfl 0 rfl 27 rfl ?_
      refine x_iload_n hh dX8_judge_27 rfl 2 rfl 28 rfl ?_
      obtain ⟨q5, hq5, hf⟩ := b_some hf
      refine x_callV (rest := []) hh mi_X8_leaveNow [.int v2] dX8_judge_28 sh_59 wd_1020 (C_X8_leaveNow l hX  hq5) rfl rfl ⟨Nat.le_of_ble_eq_true rfl, Nat.le_of_ble_eq_true rfl⟩ (Nat.le_of_ble_eq_true rfl) 31 rfl [] rfl ?_
      refine x_iinc hh dX8_judge_31 2 rfl (v2 + 1) rfl (by decide) [(2, .int (v2 + 1)), (0, .ref (X.2.1 59)), (1, .int v1)] rfl 34 rfl ?_
      refine x_goto hh dX8_judge_34 20 rfl ?_
      refine x_sub (lv' := [(0, .ref (X.2.1 59)), (1, .int v1), (2, .int (v2 + 1))]) [1, 2, 0] rfl ?_
      exact ih v1 (v2 + 1) q5 hf
def F_X8_judge_0 (v1 : Int32) (st : St) : Option (Int32 × St) := (F_X8_in v1.toInt64 0 1 st).bind (fun q1 => if q1.1 = 0 then some ((-1000000002), q1.2) else (F_X8_save 2 q1.2).bind (fun q3 => F_X8_judge_20 fN v1 0 q3))
set_option maxRecDepth 100000 in
set_option maxHeartbeats 4000000 in
theorem Z_X8_judge_0 {l : Launch} {X : Cx} (hX : Ok X) {p : Program} {e : Env} {s : State} {m : MethodId} {args : Array Value} {below : List Frame} {meth : Method} {c : Code} {rr : Int32} {st' : St} (hh : Hy X p s m args meth c cX8_judge 5 RX8) (hr : meth.sig.returnType = some .int) (v1 : Int32) (st : St) (hf : F_X8_judge_0 v1 st = some (rr, st')) : Z X p l e (rmk 5) s m args below meth c 5 (MQ below (Qf X (some (.int rr)) st') args s 0 0 (cA X)) 0 [(0, .ref (X.2.1 59)), (1, .int v1)] [] st := by
  unfold F_X8_judge_0 at hf
  refine x_iload_n hh dX8_judge_0 rfl 1 rfl 1 rfl ?_
  refine x_i2l hh dX8_judge_1 2 rfl ?_
  refine x_lconst hh dX8_judge_2 0 rfl 3 rfl ?_
  refine x_lconst hh dX8_judge_3 1 rfl 4 rfl ?_
  obtain ⟨q1, hq1, hf⟩ := b_some hf
  refine x_callS (rest := []) hh ms_X8_in [.long v1.toInt64, .long 0, .long 1] dX8_judge_4 wd_907 (C_X8_in l hX  hq1) rfl rfl ⟨Nat.le_of_ble_eq_true rfl, Nat.le_of_ble_eq_true rfl⟩ (Nat.le_of_ble_eq_true rfl) 7 rfl [.int q1.1] rfl ?_
  refine x_if_ne hh dX8_judge_7 13 rfl 10 rfl (fun hc2 => ?_) (fun hc2 => ?_)
  · have hf := t_neg hc2 hf
    refine x_aload_n hh dX8_judge_13 rfl 0 rfl 14 rfl ?_
    refine x_iconst hh dX8_judge_14 2 rfl 15 rfl ?_
    obtain ⟨q3, hq3, hf⟩ := b_some hf
    refine x_callV (rest := []) hh mi_X8_save [.int 2] dX8_judge_15 sh_59 wd_1146 (C_X8_save l hX  hq3) rfl rfl ⟨Nat.le_of_ble_eq_true rfl, Nat.le_of_ble_eq_true rfl⟩ (Nat.le_of_ble_eq_true rfl) 18 rfl [] rfl ?_
    refine x_iconst hh dX8_judge_18 0 rfl 19 rfl ?_
    refine x_istore_n hh dX8_judge_19 rfl (by decide) [(2, .int 0), (0, .ref (X.2.1 59)), (1, .int v1)] rfl 20 rfl ?_
    refine x_sub (lv' := [(0, .ref (X.2.1 59)), (1, .int v1), (2, .int 0)]) [1, 2, 0] rfl ?_
    exact Z_X8_judge_20 hX hh hr fN v1 0 q3 hf
  · have hf := t_pos hc2 hf
    refine x_ldc hh dX8_judge_10 wd_910 12 rfl ?_
    obtain ⟨rfl, rfl⟩ := ret2 hf
    exact x_iret hh hr dX8_judge_12
def F_X8_judge (v1 : Int32) (st : St) : Option (Int32 × St) := F_X8_judge_0  v1 st
set_option maxRecDepth 100000 in
theorem C_X8_judge (l : Launch) {X : Cx} (hX : Ok X) {v1 : Int32} {st : St} {q : Int32 × St} (hf : F_X8_judge v1 st = some q) : Ct l X 5 yX8_judge (.code yX8_judge cX8_judge 5 (some .int)) [.ref (X.2.1 59), .int v1] st (some (.int q.1)) q.2 := by
  refine Ct.of hX (by decide) (Nat.le_of_ble_eq_true rfl) ?_
  intro p e s m args below meth c hh hr
  exact Z_X8_judge_0 hX hh hr v1 st hf

def F_X8_draw_0 (v1 : Int32) (st : St) : Option (Int32 × St) := bs (sV st 59 16 ((((((st.1 59 16).toInt64) * 1103515245) + 12345) - ((((st.1 59 16).toInt64) * 1103515245) + 12345) / 2147483648 * 2147483648).toInt32)) (fun st1 => gz v1 (some (((st1.1 59 16) / 65536) - ((st1.1 59 16) / 65536) / v1 * v1, st1)))
set_option maxRecDepth 100000 in
set_option maxHeartbeats 4000000 in
theorem Z_X8_draw_0 {l : Launch} {X : Cx} (hX : Ok X) {p : Program} {e : Env} {s : State} {m : MethodId} {args : Array Value} {below : List Frame} {meth : Method} {c : Code} {rr : Int32} {st' : St} (hh : Hy X p s m args meth c cX8_draw 2 RX8) (hr : meth.sig.returnType = some .int) (v1 : Int32) (st : St) (hf : F_X8_draw_0 v1 st = some (rr, st')) : Z X p l e (rmk 0) s m args below meth c 2 (MQ below (Qf X (some (.int rr)) st') args s 0 0 (cA X)) 0 [(0, .ref (X.2.1 59)), (1, .int v1)] [] st := by
  unfold F_X8_draw_0 at hf
  refine x_aload_n hh dX8_draw_0 rfl 0 rfl 1 rfl ?_
  refine x_aload_n hh dX8_draw_1 rfl 0 rfl 2 rfl ?_
  refine x_getI hh cl_8 dX8_draw_2 sh_59 16 rfl (Nat.le_of_ble_eq_true rfl) wd_816 5 rfl ?_
  refine x_i2l hh dX8_draw_5 6 rfl ?_
  refine x_ldc2_w hh dX8_draw_6 wd_1160 9 rfl ?_
  refine x_lmul hh dX8_draw_9 10 rfl ?_
  refine x_ldc2_w hh dX8_draw_10 wd_1161 13 rfl ?_
  refine x_ladd hh dX8_draw_13 14 rfl ?_
  refine x_ldc2_w hh dX8_draw_14 wd_1162 17 rfl ?_
  refine x_lrem hh dX8_draw_17 (by decide) 18 rfl ?_
  refine x_l2i hh dX8_draw_18 19 rfl ?_
  obtain ⟨st1, est1, hf⟩ := bs_some hf
  refine x_putI hh cl_8 dX8_draw_19 sh_59 16 rfl (Nat.le_of_ble_eq_true rfl) wd_816 rfl rfl rfl 22 rfl st1 est1 ?_
  refine x_aload_n hh dX8_draw_22 rfl 0 rfl 23 rfl ?_
  refine x_getI hh cl_8 dX8_draw_23 sh_59 16 rfl (Nat.le_of_ble_eq_true rfl) wd_816 26 rfl ?_
  refine x_ldc_w hh dX8_draw_26 wd_1163 29 rfl ?_
  refine x_idiv hh dX8_draw_29 (by decide) 30 rfl ?_
  refine x_iload_n hh dX8_draw_30 rfl 1 rfl 31 rfl ?_
  obtain ⟨hz2, hf⟩ := gz_some hf
  refine x_irem hh dX8_draw_31 hz2 32 rfl ?_
  obtain ⟨rfl, rfl⟩ := ret2 hf
  exact x_iret hh hr dX8_draw_32
def F_X8_draw (v1 : Int32) (st : St) : Option (Int32 × St) := F_X8_draw_0  v1 st
set_option maxRecDepth 100000 in
theorem C_X8_draw (l : Launch) {X : Cx} (hX : Ok X) {v1 : Int32} {st : St} {q : Int32 × St} (hf : F_X8_draw v1 st = some q) : Ct l X 0 yX8_draw (.code yX8_draw cX8_draw 2 (some .int)) [.ref (X.2.1 59), .int v1] st (some (.int q.1)) q.2 := by
  refine Ct.of hX (by decide) (Nat.le_of_ble_eq_true rfl) ?_
  intro p e s m args below meth c hh hr
  exact Z_X8_draw_0 hX hh hr v1 st hf

def F_X8_drift_29 (st : St) : Option (Int32 × St) := some ((-1000000003), st)
set_option maxRecDepth 100000 in
set_option maxHeartbeats 4000000 in
theorem Z_X8_drift_29 {l : Launch} {X : Cx} (hX : Ok X) {p : Program} {e : Env} {s : State} {m : MethodId} {args : Array Value} {below : List Frame} {meth : Method} {c : Code} {rr : Int32} {st' : St} (hh : Hy X p s m args meth c cX8_drift 7 RX8) (hr : meth.sig.returnType = some .int) (st : St) (hf : F_X8_drift_29 st = some (rr, st')) : Z X p l e (rmk 5) s m args below meth c 7 (MQ below (Qf X (some (.int rr)) st') args s 0 0 (cA X)) 29 [(0, .ref (X.2.1 59))] [] st := by
  unfold F_X8_drift_29 at hf
  refine x_ldc_w hh dX8_drift_29 wd_1012 32 rfl ?_
  obtain ⟨rfl, rfl⟩ := ret2 hf
  exact x_iret hh hr dX8_drift_32
def F_X8_drift_141 (k37 : Int32 → Int32 → Int32 → St → Option (Int32 × St)) (v1 : Int32) (v2 : Int32) (v3 : Int32) (st : St) : Option (Int32 × St) := k37 v1 v2 (v3 + 1) st
set_option maxRecDepth 100000 in
set_option maxHeartbeats 4000000 in
theorem Z_X8_drift_141 {l : Launch} {X : Cx} (hX : Ok X) {p : Program} {e : Env} {s : State} {m : MethodId} {args : Array Value} {below : List Frame} {meth : Method} {c : Code} {rr : Int32} {st' : St} (hh : Hy X p s m args meth c cX8_drift 7 RX8) (hr : meth.sig.returnType = some .int) {k37 : Int32 → Int32 → Int32 → St → Option (Int32 × St)} (hk37 : ∀ (v1 : Int32) (v2 : Int32) (v3 : Int32) (st : St), k37 v1 v2 v3 st = some (rr, st') → Z X p l e (rmk 5) s m args below meth c 7 (MQ below (Qf X (some (.int rr)) st') args s 0 0 (cA X)) 37 [(0, .ref (X.2.1 59)), (1, .int v1), (2, .int v2), (3, .int v3)] [] st) (v1 : Int32) (v2 : Int32) (v3 : Int32) (st : St) (hf : F_X8_drift_141 k37 v1 v2 v3 st = some (rr, st')) : Z X p l e (rmk 5) s m args below meth c 7 (MQ below (Qf X (some (.int rr)) st') args s 0 0 (cA X)) 141 [(0, .ref (X.2.1 59)), (1, .int v1), (2, .int v2), (3, .int v3)] [] st := by
  unfold F_X8_drift_141 at hf
  refine x_iinc hh dX8_drift_141 3 rfl (v3 + 1) rfl (by decide) [(3, .int (v3 + 1)), (0, .ref (X.2.1 59)), (1, .int v1), (2, .int v2)] rfl 144 rfl ?_
  refine x_goto hh dX8_drift_144 37 rfl ?_
  refine x_sub (lv' := [(0, .ref (X.2.1 59)), (1, .int v1), (2, .int v2), (3, .int (v3 + 1))]) [1, 2, 3, 0] rfl ?_
  exact hk37 v1 v2 (v3 + 1) st hf
def F_X8_drift_139 (k37 : Int32 → Int32 → Int32 → St → Option (Int32 × St)) (v1 : Int32) (v3 : Int32) (t0 : Int32) (t1 : Int32) (st : St) : Option (Int32 × St) := F_X8_drift_141 k37 v1 (t1 + t0) v3 st
set_option maxRecDepth 100000 in
set_option maxHeartbeats 4000000 in
theorem Z_X8_drift_139 {l : Launch} {X : Cx} (hX : Ok X) {p : Program} {e : Env} {s : State} {m : MethodId} {args : Array Value} {below : List Frame} {meth : Method} {c : Code} {rr : Int32} {st' : St} (hh : Hy X p s m args meth c cX8_drift 7 RX8) (hr : meth.sig.returnType = some .int) {k37 : Int32 → Int32 → Int32 → St → Option (Int32 × St)} (hk37 : ∀ (v1 : Int32) (v2 : Int32) (v3 : Int32) (st : St), k37 v1 v2 v3 st = some (rr, st') → Z X p l e (rmk 5) s m args below meth c 7 (MQ below (Qf X (some (.int rr)) st') args s 0 0 (cA X)) 37 [(0, .ref (X.2.1 59)), (1, .int v1), (2, .int v2), (3, .int v3)] [] st) (v1 : Int32) (v3 : Int32) (t0 : Int32) (t1 : Int32) (st : St) (hf : F_X8_drift_139 k37 v1 v3 t0 t1 st = some (rr, st')) : Z X p l e (rmk 5) s m args below meth c 7 (MQ below (Qf X (some (.int rr)) st') args s 0 0 (cA X)) 139 [(0, .ref (X.2.1 59)), (1, .int v1), (3, .int v3)] [.int t0, .int t1] st := by
  unfold F_X8_drift_139 at hf
  refine x_iadd hh dX8_drift_139 140 rfl ?_
  refine x_istore_n hh dX8_drift_140 rfl (by decide) [(2, .int (t1 + t0)), (0, .ref (X.2.1 59)), (1, .int v1), (3, .int v3)] rfl 141 rfl ?_
  refine x_sub (lv' := [(0, .ref (X.2.1 59)), (1, .int v1), (2, .int (t1 + t0)), (3, .int v3)]) [1, 2, 0, 3] rfl ?_
  exact Z_X8_drift_141 hX hh hr hk37  v1 (t1 + t0) v3 st hf
def F_X8_drift_37 : Nat → Int32 → Int32 → Int32 → St → Option (Int32 × St)
  | 0, _, _, _, _ => none
  | n + 1, v1, v2, v3, st => if v1 ≤ v3 then some (v2, st) else (F_X8_draw (st.1 59 3) st).bind (fun q6 => gi q6.1 6 (if (q6.2.1 69 q6.1.toNatClampNeg) < 0 then (F_X8_draw (q6.2.1 59 0) q6.2).bind (fun q9 => gi q9.1 3 ((F_X8_draw (q9.2.1 60 q9.1.toNatClampNeg) q9.2).bind (fun q11 => (F_X8_mayCome q6.1 q9.1 q11.1 q11.2).bind (fun q12 => if q12.1 = 0 then F_X8_drift_139 (F_X8_drift_37 n) v1 v3 0 v2 q12.2 else (F_X8_comeNow q6.1 q9.1 q11.1 q12.2).bind (fun q14 => F_X8_drift_139 (F_X8_drift_37 n) v1 v3 q14.1 v2 q14.2))))) else gi q6.1 6 ((F_X8_leaveNow q6.1 q6.2).bind (fun q16 => (F_X8_bowNow (q6.2.1 69 q6.1.toNatClampNeg) q16).bind (fun q17 => F_X8_drift_141 (F_X8_drift_37 n) v1 v2 v3 q17.2)))))
set_option maxRecDepth 100000 in
set_option maxHeartbeats 4000000 in
theorem Z_X8_drift_37 {l : Launch} {X : Cx} (hX : Ok X) {p : Program} {e : Env} {s : State} {m : MethodId} {args : Array Value} {below : List Frame} {meth : Method} {c : Code} {rr : Int32} {st' : St} (hh : Hy X p s m args meth c cX8_drift 7 RX8) (hr : meth.sig.returnType = some .int) : ∀ (n : Nat) (v1 : Int32) (v2 : Int32) (v3 : Int32) (st : St), F_X8_drift_37 n v1 v2 v3 st = some (rr, st') → Z X p l e (rmk 5) s m args below meth c 7 (MQ below (Qf X (some (.int rr)) st') args s 0 0 (cA X)) 37 [(0, .ref (X.2.1 59)), (1, .int v1), (2, .int v2), (3, .int v3)] [] st := by
  intro n
  induction n with
  | zero =>
    intro v1 v2 v3 st hf
    cases hf
  | succ n ih =>
    intro v1 v2 v3 st hf
    rw [F_X8_drift_37] at hf
    refine x_iload_n hh dX8_drift_37 rfl 3 rfl 38 rfl ?_
    refine x_iload_n hh dX8_drift_38 rfl 1 rfl 39 rfl ?_
    refine x_icmp_ge hh dX8_drift_39 147 rfl 42 rfl (fun hc5 => ?_) (fun hc5 => ?_)
    · have hf := t_pos hc5 hf
      refine x_iload_n hh dX8_drift_147 rfl 2 rfl 148 rfl ?_
      obtain ⟨rfl, rfl⟩ := ret2 hf
      exact x_iret hh hr dX8_drift_148
    · have hf := t_neg hc5 hf
      refine x_aload_n hh dX8_drift_42 rfl 0 rfl 43 rfl ?_
      refine x_aload_n hh dX8_drift_43 rfl 0 rfl 44 rfl ?_
      refine x_getI hh cl_8 dX8_drift_44 sh_59 3 rfl (Nat.le_of_ble_eq_true rfl) wd_803 47 rfl ?_
      obtain ⟨q6, hq6, hf⟩ := b_some hf
      refine x_callV (rest := []) hh mi_X8_draw [.int (st.1 59 3)] dX8_drift_47 sh_59 wd_1157 (C_X8_draw l hX  hq6) rfl rfl ⟨Nat.le_of_ble_eq_true rfl, Nat.le_of_ble_eq_true rfl⟩ (Nat.le_of_ble_eq_true rfl) 50 rfl [.int q6.1] rfl ?_
      refine x_istore hh dX8_drift_50 (by decide) [(4, .int q6.1), (0, .ref (X.2.1 59)), (1, .int v1), (2, .int v2), (3, .int v3)] rfl 52 rfl ?_
      refine x_aload_n hh dX8_drift_52 rfl 1 rfl 53 rfl ?_
      refine x_getR hh cl_8 dX8_drift_53 sh_59 13 69 rfl (Nat.le_of_ble_eq_true rfl) wd_813 56 rfl ?_
      refine x_iload hh dX8_drift_56 0 rfl 58 rfl ?_
      obtain ⟨hi7, hf⟩ := gi_some hf
      refine x_iaload hh dX8_drift_58 sh_69 hi7 59 rfl ?_
      refine x_if_lt hh dX8_drift_59 88 rfl 62 rfl (fun hc8 => ?_) (fun hc8 => ?_)
      · have hf := t_pos hc8 hf
        refine x_aload_n hh dX8_drift_88 rfl 1 rfl 89 rfl ?_
        refine x_aload_n hh dX8_drift_89 rfl 1 rfl 90 rfl ?_
        refine x_getI hh cl_8 dX8_drift_90 sh_59 0 rfl (Nat.le_of_ble_eq_true rfl) wd_800 93 rfl ?_
        obtain ⟨q9, hq9, hf⟩ := b_some hf
        refine x_callV (rest := []) hh mi_X8_draw [.int (q6.2.1 59 0)] dX8_drift_93 sh_59 wd_1157 (C_X8_draw l hX  hq9) rfl rfl ⟨Nat.le_of_ble_eq_true rfl, Nat.le_of_ble_eq_true rfl⟩ (Nat.le_of_ble_eq_true rfl) 96 rfl [.int q9.1] rfl ?_
        refine x_istore hh dX8_drift_96 (by decide) [(5, .int q9.1), (4, .int q6.1), (0, .ref (X.2.1 59)), (1, .int v1), (2, .int v2), (3, .int v3)] rfl 98 rfl ?_
        refine x_aload_n hh dX8_drift_98 rfl 2 rfl 99 rfl ?_
        refine x_aload_n hh dX8_drift_99 rfl 2 rfl 100 rfl ?_
        refine x_getR hh cl_8 dX8_drift_100 sh_59 1 60 rfl (Nat.le_of_ble_eq_true rfl) wd_801 103 rfl ?_
        refine x_iload hh dX8_drift_103 0 rfl 105 rfl ?_
        obtain ⟨hi10, hf⟩ := gi_some hf
        refine x_iaload hh dX8_drift_105 sh_60 hi10 106 rfl ?_
        obtain ⟨q11, hq11, hf⟩ := b_some hf
        refine x_callV (rest := []) hh mi_X8_draw [.int (q9.2.1 60 q9.1.toNatClampNeg)] dX8_drift_106 sh_59 wd_1157 (C_X8_draw l hX  hq11) rfl rfl ⟨Nat.le_of_ble_eq_true rfl, Nat.le_of_ble_eq_true rfl⟩ (Nat.le_of_ble_eq_true rfl) 109 rfl [.int q11.1] rfl ?_
        refine x_istore hh dX8_drift_109 (by decide) [(6, .int q11.1), (5, .int q9.1), (4, .int q6.1), (0, .ref (X.2.1 59)), (1, .int v1), (2, .int v2), (3, .int v3)] rfl 111 rfl ?_
        refine x_iload_n hh dX8_drift_111 rfl 5 rfl 112 rfl ?_
        refine x_aload_n hh dX8_drift_112 rfl 3 rfl 113 rfl ?_
        refine x_iload hh dX8_drift_113 2 rfl 115 rfl ?_
        refine x_iload hh dX8_drift_115 1 rfl 117 rfl ?_
        refine x_iload hh dX8_drift_117 0 rfl 119 rfl ?_
        obtain ⟨q12, hq12, hf⟩ := b_some hf
        refine x_callV (rest := [.int v2]) hh mi_X8_mayCome [.int q6.1, .int q9.1, .int q11.1] dX8_drift_119 sh_59 wd_1009 (C_X8_mayCome l hX  hq12) rfl rfl ⟨Nat.le_of_ble_eq_true rfl, Nat.le_of_ble_eq_true rfl⟩ (Nat.le_of_ble_eq_true rfl) 122 rfl [.int q12.1, .int v2] rfl ?_
        refine x_if_eq hh dX8_drift_122 138 rfl 125 rfl (fun hc13 => ?_) (fun hc13 => ?_)
        · have hf := t_pos hc13 hf
          refine x_iconst hh dX8_drift_138 0 rfl 139 rfl ?_
          refine x_sub (lv' := [(0, .ref (X.2.1 59)), (1, .int v1), (3, .int v3)]) [3, 4, 6] rfl ?_
          exact Z_X8_drift_139 hX hh hr ih  v1 v3 0 v2 q12.2 hf
        · have hf := t_neg hc13 hf
          refine x_aload_n hh dX8_drift_125 rfl 3 rfl 126 rfl ?_
          refine x_iload hh dX8_drift_126 2 rfl 128 rfl ?_
          refine x_iload hh dX8_drift_128 1 rfl 130 rfl ?_
          refine x_iload hh dX8_drift_130 0 rfl 132 rfl ?_
          obtain ⟨q14, hq14, hf⟩ := b_some hf
          refine x_callV (rest := [.int v2]) hh mi_X8_comeNow [.int q6.1, .int q9.1, .int q11.1] dX8_drift_132 sh_59 wd_1072 (C_X8_comeNow l hX  hq14) rfl rfl ⟨Nat.le_of_ble_eq_true rfl, Nat.le_of_ble_eq_true rfl⟩ (Nat.le_of_ble_eq_true rfl) 135 rfl [.int q14.1, .int v2] rfl ?_
          refine x_goto hh dX8_drift_135 139 rfl ?_
          refine x_sub (lv' := [(0, .ref (X.2.1 59)), (1, .int v1), (3, .int v3)]) [3, 4, 6] rfl ?_
          exact Z_X8_drift_139 hX hh hr ih  v1 v3 q14.1 v2 q14.2 hf
      · have hf := t_neg hc8 hf
        refine x_aload_n hh dX8_drift_62 rfl 1 rfl 63 rfl ?_
        refine x_getR hh cl_8 dX8_drift_63 sh_59 13 69 rfl (Nat.le_of_ble_eq_true rfl) wd_813 66 rfl ?_
        refine x_iload hh dX8_drift_66 0 rfl 68 rfl ?_
        obtain ⟨hi15, hf⟩ := gi_some hf
        refine x_iaload hh dX8_drift_68 sh_69 hi15 69 rfl ?_
        refine x_istore hh dX8_drift_69 (by decide) [(5, .int (q6.2.1 69 q6.1.toNatClampNeg)), (4, .int q6.1), (0, .ref (X.2.1 59)), (1, .int v1), (2, .int v2), (3, .int v3)] rfl 71 rfl ?_
        refine x_aload_n hh dX8_drift_71 rfl 2 rfl 72 rfl ?_
        refine x_iload hh dX8_drift_72 1 rfl 74 rfl ?_
        obtain ⟨q16, hq16, hf⟩ := b_some hf
        refine x_callV (rest := []) hh mi_X8_leaveNow [.int q6.1] dX8_drift_74 sh_59 wd_1020 (C_X8_leaveNow l hX  hq16) rfl rfl ⟨Nat.le_of_ble_eq_true rfl, Nat.le_of_ble_eq_true rfl⟩ (Nat.le_of_ble_eq_true rfl) 77 rfl [] rfl ?_
        refine x_aload_n hh dX8_drift_77 rfl 2 rfl 78 rfl ?_
        refine x_iload hh dX8_drift_78 0 rfl 80 rfl ?_
        obtain ⟨q17, hq17, hf⟩ := b_some hf
        refine x_callV (rest := []) hh mi_X8_bowNow [.int (q6.2.1 69 q6.1.toNatClampNeg)] dX8_drift_80 sh_59 wd_1047 (C_X8_bowNow l hX  hq17) rfl rfl ⟨Nat.le_of_ble_eq_true rfl, Nat.le_of_ble_eq_true rfl⟩ (Nat.le_of_ble_eq_true rfl) 83 rfl [.int q17.1] rfl ?_
        refine x_istore hh dX8_drift_83 (by decide) [(6, .int q17.1), (5, .int (q6.2.1 69 q6.1.toNatClampNeg)), (4, .int q6.1), (0, .ref (X.2.1 59)), (1, .int v1), (2, .int v2), (3, .int v3)] rfl 85 rfl ?_
        refine x_goto hh dX8_drift_85 141 rfl ?_
        refine x_sub (lv' := [(0, .ref (X.2.1 59)), (1, .int v1), (2, .int v2), (3, .int v3)]) [3, 4, 5, 6] rfl ?_
        exact Z_X8_drift_141 hX hh hr ih  v1 v2 v3 q17.2 hf
def F_X8_drift_0 (v1 : Int32) (st : St) : Option (Int32 × St) := (F_X8_in v1.toInt64 1 99 st).bind (fun q1 => if q1.1 = 0 then some ((-1000000002), q1.2) else if (q1.2.1 59 0) = 0 then F_X8_drift_29 q1.2 else if (q1.2.1 59 3) = 0 then F_X8_drift_29 q1.2 else F_X8_drift_37 fN v1 0 0 q1.2)
set_option maxRecDepth 100000 in
set_option maxHeartbeats 4000000 in
theorem Z_X8_drift_0 {l : Launch} {X : Cx} (hX : Ok X) {p : Program} {e : Env} {s : State} {m : MethodId} {args : Array Value} {below : List Frame} {meth : Method} {c : Code} {rr : Int32} {st' : St} (hh : Hy X p s m args meth c cX8_drift 7 RX8) (hr : meth.sig.returnType = some .int) (v1 : Int32) (st : St) (hf : F_X8_drift_0 v1 st = some (rr, st')) : Z X p l e (rmk 5) s m args below meth c 7 (MQ below (Qf X (some (.int rr)) st') args s 0 0 (cA X)) 0 [(0, .ref (X.2.1 59)), (1, .int v1)] [] st := by
  unfold F_X8_drift_0 at hf
  refine x_iload_n hh dX8_drift_0 rfl 1 rfl 1 rfl ?_
  refine x_i2l hh dX8_drift_1 2 rfl ?_
  refine x_lconst hh dX8_drift_2 1 rfl 3 rfl ?_
  refine x_ldc2_w hh dX8_drift_3 wd_1156 6 rfl ?_
  obtain ⟨q1, hq1, hf⟩ := b_some hf
  refine x_callS (rest := []) hh ms_X8_in [.long v1.toInt64, .long 1, .long 99] dX8_drift_6 wd_907 (C_X8_in l hX  hq1) rfl rfl ⟨Nat.le_of_ble_eq_true rfl, Nat.le_of_ble_eq_true rfl⟩ (Nat.le_of_ble_eq_true rfl) 9 rfl [.int q1.1] rfl ?_
  refine x_if_ne hh dX8_drift_9 15 rfl 12 rfl (fun hc2 => ?_) (fun hc2 => ?_)
  · have hf := t_neg hc2 hf
    refine x_aload_n hh dX8_drift_15 rfl 0 rfl 16 rfl ?_
    refine x_getI hh cl_8 dX8_drift_16 sh_59 0 rfl (Nat.le_of_ble_eq_true rfl) wd_800 19 rfl ?_
    refine x_if_eq hh dX8_drift_19 29 rfl 22 rfl (fun hc3 => ?_) (fun hc3 => ?_)
    · have hf := t_pos hc3 hf
      refine x_sub (lv' := [(0, .ref (X.2.1 59))]) [0] rfl ?_
      exact Z_X8_drift_29 hX hh hr  q1.2 hf
    · have hf := t_neg hc3 hf
      refine x_aload_n hh dX8_drift_22 rfl 0 rfl 23 rfl ?_
      refine x_getI hh cl_8 dX8_drift_23 sh_59 3 rfl (Nat.le_of_ble_eq_true rfl) wd_803 26 rfl ?_
      refine x_if_ne hh dX8_drift_26 33 rfl 29 rfl (fun hc4 => ?_) (fun hc4 => ?_)
      · have hf := t_neg hc4 hf
        refine x_iconst hh dX8_drift_33 0 rfl 34 rfl ?_
        refine x_istore_n hh dX8_drift_34 rfl (by decide) [(2, .int 0), (0, .ref (X.2.1 59)), (1, .int v1)] rfl 35 rfl ?_
        refine x_iconst hh dX8_drift_35 0 rfl 36 rfl ?_
        refine x_istore_n hh dX8_drift_36 rfl (by decide) [(3, .int 0), (2, .int 0), (0, .ref (X.2.1 59)), (1, .int v1)] rfl 37 rfl ?_
        refine x_sub (lv' := [(0, .ref (X.2.1 59)), (1, .int v1), (2, .int 0), (3, .int 0)]) [2, 3, 1, 0] rfl ?_
        exact Z_X8_drift_37 hX hh hr fN v1 0 0 q1.2 hf
      · have hf := t_pos hc4 hf
        refine x_sub (lv' := [(0, .ref (X.2.1 59))]) [0] rfl ?_
        exact Z_X8_drift_29 hX hh hr  q1.2 hf
  · have hf := t_pos hc2 hf
    refine x_ldc hh dX8_drift_12 wd_910 14 rfl ?_
    obtain ⟨rfl, rfl⟩ := ret2 hf
    exact x_iret hh hr dX8_drift_14
def F_X8_drift (v1 : Int32) (st : St) : Option (Int32 × St) := F_X8_drift_0  v1 st
set_option maxRecDepth 100000 in
theorem C_X8_drift (l : Launch) {X : Cx} (hX : Ok X) {v1 : Int32} {st : St} {q : Int32 × St} (hf : F_X8_drift v1 st = some q) : Ct l X 5 yX8_drift (.code yX8_drift cX8_drift 7 (some .int)) [.ref (X.2.1 59), .int v1] st (some (.int q.1)) q.2 := by
  refine Ct.of hX (by decide) (Nat.le_of_ble_eq_true rfl) ?_
  intro p e s m args below meth c hh hr
  exact Z_X8_drift_0 hX hh hr v1 st hf

def F_X8_empty_10 : Nat → Int32 → Int32 → St → Option (Int32 × St)
  | 0, _, _, _ => none
  | n + 1, v1, v2, st => if (6 : Int32) ≤ v2 then some (v1, st) else (F_X8_leaveNow v2 st).bind (fun q4 => F_X8_empty_10 n v1 (v2 + 1) q4)
set_option maxRecDepth 100000 in
set_option maxHeartbeats 4000000 in
theorem Z_X8_empty_10 {l : Launch} {X : Cx} (hX : Ok X) {p : Program} {e : Env} {s : State} {m : MethodId} {args : Array Value} {below : List Frame} {meth : Method} {c : Code} {rr : Int32} {st' : St} (hh : Hy X p s m args meth c cX8_empty 3 RX8) (hr : meth.sig.returnType = some .int) : ∀ (n : Nat) (v1 : Int32) (v2 : Int32) (st : St), F_X8_empty_10 n v1 v2 st = some (rr, st') → Z X p l e (rmk 1) s m args below meth c 3 (MQ below (Qf X (some (.int rr)) st') args s 0 0 (cA X)) 10 [(0, .ref (X.2.1 59)), (1, .int v1), (2, .int v2)] [] st := by
  intro n
  induction n with
  | zero =>
    intro v1 v2 st hf
    cases hf
  | succ n ih =>
    intro v1 v2 st hf
    rw [F_X8_empty_10] at hf
    refine x_iload_n hh dX8_empty_10 rfl 2 rfl 11 rfl ?_
    refine x_bipush hh dX8_empty_11 6 rfl 13 rfl ?_
    refine x_icmp_ge hh dX8_empty_13 27 rfl 16 rfl (fun hc3 => ?_) (fun hc3 => ?_)
    · have hf := t_pos hc3 hf
      refine x_iload_n hh dX8_empty_27 rfl 1 rfl 28 rfl ?_
      obtain ⟨rfl, rfl⟩ := ret2 hf
      exact x_iret hh hr dX8_empty_28
    · have hf := t_neg hc3 hf
      refine x_aload_n hh dX8_empty_16 rfl 0 rfl 17 rfl ?_
      refine x_iload_n hh dX8_empty_17 rfl 2 rfl 18 rfl ?_
      obtain ⟨q4, hq4, hf⟩ := b_some hf
      refine x_callV (rest := []) hh mi_X8_leaveNow [.int v2] dX8_empty_18 sh_59 wd_1020 (C_X8_leaveNow l hX  hq4) rfl rfl ⟨Nat.le_of_ble_eq_true rfl, Nat.le_of_ble_eq_true rfl⟩ (Nat.le_of_ble_eq_true rfl) 21 rfl [] rfl ?_
      refine x_iinc hh dX8_empty_21 2 rfl (v2 + 1) rfl (by decide) [(2, .int (v2 + 1)), (0, .ref (X.2.1 59)), (1, .int v1)] rfl 24 rfl ?_
      refine x_goto hh dX8_empty_24 10 rfl ?_
      refine x_sub (lv' := [(0, .ref (X.2.1 59)), (1, .int v1), (2, .int (v2 + 1))]) [1, 2, 0] rfl ?_
      exact ih v1 (v2 + 1) q4 hf
def F_X8_empty_0 (st : St) : Option (Int32 × St) := (F_X8_somewhere st).bind (fun q1 => (F_X8_bits q1.1 q1.2).bind (fun q2 => F_X8_empty_10 fN q2.1 0 q2.2))
set_option maxRecDepth 100000 in
set_option maxHeartbeats 4000000 in
theorem Z_X8_empty_0 {l : Launch} {X : Cx} (hX : Ok X) {p : Program} {e : Env} {s : State} {m : MethodId} {args : Array Value} {below : List Frame} {meth : Method} {c : Code} {rr : Int32} {st' : St} (hh : Hy X p s m args meth c cX8_empty 3 RX8) (hr : meth.sig.returnType = some .int) (st : St) (hf : F_X8_empty_0 st = some (rr, st')) : Z X p l e (rmk 1) s m args below meth c 3 (MQ below (Qf X (some (.int rr)) st') args s 0 0 (cA X)) 0 [(0, .ref (X.2.1 59))] [] st := by
  unfold F_X8_empty_0 at hf
  refine x_aload_n hh dX8_empty_0 rfl 0 rfl 1 rfl ?_
  obtain ⟨q1, hq1, hf⟩ := b_some hf
  refine x_callV (rest := []) hh mi_X8_somewhere [] dX8_empty_1 sh_59 wd_967 (C_X8_somewhere l hX  hq1) rfl rfl ⟨Nat.le_of_ble_eq_true rfl, Nat.le_of_ble_eq_true rfl⟩ (Nat.le_of_ble_eq_true rfl) 4 rfl [.int q1.1] rfl ?_
  obtain ⟨q2, hq2, hf⟩ := b_some hf
  refine x_callS (rest := []) hh ms_X8_bits [.int q1.1] dX8_empty_4 wd_1088 (C_X8_bits l hX  hq2) rfl rfl ⟨Nat.le_of_ble_eq_true rfl, Nat.le_of_ble_eq_true rfl⟩ (Nat.le_of_ble_eq_true rfl) 7 rfl [.int q2.1] rfl ?_
  refine x_istore_n hh dX8_empty_7 rfl (by decide) [(1, .int q2.1), (0, .ref (X.2.1 59))] rfl 8 rfl ?_
  refine x_iconst hh dX8_empty_8 0 rfl 9 rfl ?_
  refine x_istore_n hh dX8_empty_9 rfl (by decide) [(2, .int 0), (1, .int q2.1), (0, .ref (X.2.1 59))] rfl 10 rfl ?_
  refine x_sub (lv' := [(0, .ref (X.2.1 59)), (1, .int q2.1), (2, .int 0)]) [2, 1, 0] rfl ?_
  exact Z_X8_empty_10 hX hh hr fN q2.1 0 q2.2 hf
def F_X8_empty (st : St) : Option (Int32 × St) := F_X8_empty_0  st
set_option maxRecDepth 100000 in
theorem C_X8_empty (l : Launch) {X : Cx} (hX : Ok X) {st : St} {q : Int32 × St} (hf : F_X8_empty st = some q) : Ct l X 1 yX8_empty (.code yX8_empty cX8_empty 3 (some .int)) [.ref (X.2.1 59)] st (some (.int q.1)) q.2 := by
  refine Ct.of hX (by decide) (Nat.le_of_ble_eq_true rfl) ?_
  intro p e s m args below meth c hh hr
  exact Z_X8_empty_0 hX hh hr st hf

def F_X8_seed_0 (v1 : Int32) (st : St) : Option (Int32 × St) := if (0 : Int32) ≤ v1 then bs (sV st 59 16 v1) (fun st2 => some (st.1 59 16, st2)) else some ((-1000000002), st)
set_option maxRecDepth 100000 in
set_option maxHeartbeats 4000000 in
theorem Z_X8_seed_0 {l : Launch} {X : Cx} (hX : Ok X) {p : Program} {e : Env} {s : State} {m : MethodId} {args : Array Value} {below : List Frame} {meth : Method} {c : Code} {rr : Int32} {st' : St} (hh : Hy X p s m args meth c cX8_seed 3 RX8) (hr : meth.sig.returnType = some .int) (v1 : Int32) (st : St) (hf : F_X8_seed_0 v1 st = some (rr, st')) : Z X p l e (rmk 0) s m args below meth c 3 (MQ below (Qf X (some (.int rr)) st') args s 0 0 (cA X)) 0 [(0, .ref (X.2.1 59)), (1, .int v1)] [] st := by
  unfold F_X8_seed_0 at hf
  refine x_iload_n hh dX8_seed_0 rfl 1 rfl 1 rfl ?_
  refine x_if_ge hh dX8_seed_1 7 rfl 4 rfl (fun hc1 => ?_) (fun hc1 => ?_)
  · have hf := t_pos hc1 hf
    refine x_aload_n hh dX8_seed_7 rfl 0 rfl 8 rfl ?_
    refine x_getI hh cl_8 dX8_seed_8 sh_59 16 rfl (Nat.le_of_ble_eq_true rfl) wd_816 11 rfl ?_
    refine x_istore_n hh dX8_seed_11 rfl (by decide) [(2, .int (st.1 59 16)), (0, .ref (X.2.1 59)), (1, .int v1)] rfl 12 rfl ?_
    refine x_aload_n hh dX8_seed_12 rfl 1 rfl 13 rfl ?_
    refine x_iload_n hh dX8_seed_13 rfl 2 rfl 14 rfl ?_
    obtain ⟨st2, est2, hf⟩ := bs_some hf
    refine x_putI hh cl_8 dX8_seed_14 sh_59 16 rfl (Nat.le_of_ble_eq_true rfl) wd_816 rfl rfl rfl 17 rfl st2 est2 ?_
    refine x_iload_n hh dX8_seed_17 rfl 0 rfl 18 rfl ?_
    obtain ⟨rfl, rfl⟩ := ret2 hf
    exact x_iret hh hr dX8_seed_18
  · have hf := t_neg hc1 hf
    refine x_ldc hh dX8_seed_4 wd_910 6 rfl ?_
    obtain ⟨rfl, rfl⟩ := ret2 hf
    exact x_iret hh hr dX8_seed_6
def F_X8_seed (v1 : Int32) (st : St) : Option (Int32 × St) := F_X8_seed_0  v1 st
set_option maxRecDepth 100000 in
theorem C_X8_seed (l : Launch) {X : Cx} (hX : Ok X) {v1 : Int32} {st : St} {q : Int32 × St} (hf : F_X8_seed v1 st = some q) : Ct l X 0 yX8_seed (.code yX8_seed cX8_seed 3 (some .int)) [.ref (X.2.1 59), .int v1] st (some (.int q.1)) q.2 := by
  refine Ct.of hX (by decide) (Nat.le_of_ble_eq_true rfl) ?_
  intro p e s m args below meth c hh hr
  exact Z_X8_seed_0 hX hh hr v1 st hf

def F_X8_keep_0 (v1 : Int32) (st : St) : Option (Int32 × St) := (F_X8_in v1.toInt64 0 1 st).bind (fun q1 => if q1.1 = 0 then some ((-1000000001), q1.2) else (F_X8_save v1 q1.2).bind (fun q3 => gi v1 2 (bs (sV q3 93 v1.toNatClampNeg (vp_nar .boolean 1)) (fun st5 => some (1, st5)))))
set_option maxRecDepth 100000 in
set_option maxHeartbeats 4000000 in
theorem Z_X8_keep_0 {l : Launch} {X : Cx} (hX : Ok X) {p : Program} {e : Env} {s : State} {m : MethodId} {args : Array Value} {below : List Frame} {meth : Method} {c : Code} {rr : Int32} {st' : St} (hh : Hy X p s m args meth c cX8_keep 2 RX8) (hr : meth.sig.returnType = some .int) (v1 : Int32) (st : St) (hf : F_X8_keep_0 v1 st = some (rr, st')) : Z X p l e (rmk 1) s m args below meth c 2 (MQ below (Qf X (some (.int rr)) st') args s 0 0 (cA X)) 0 [(0, .ref (X.2.1 59)), (1, .int v1)] [] st := by
  unfold F_X8_keep_0 at hf
  refine x_iload_n hh dX8_keep_0 rfl 1 rfl 1 rfl ?_
  refine x_i2l hh dX8_keep_1 2 rfl ?_
  refine x_lconst hh dX8_keep_2 0 rfl 3 rfl ?_
  refine x_lconst hh dX8_keep_3 1 rfl 4 rfl ?_
  obtain ⟨q1, hq1, hf⟩ := b_some hf
  refine x_callS (rest := []) hh ms_X8_in [.long v1.toInt64, .long 0, .long 1] dX8_keep_4 wd_907 (C_X8_in l hX  hq1) rfl rfl ⟨Nat.le_of_ble_eq_true rfl, Nat.le_of_ble_eq_true rfl⟩ (Nat.le_of_ble_eq_true rfl) 7 rfl [.int q1.1] rfl ?_
  refine x_if_ne hh dX8_keep_7 13 rfl 10 rfl (fun hc2 => ?_) (fun hc2 => ?_)
  · have hf := t_neg hc2 hf
    refine x_aload_n hh dX8_keep_13 rfl 0 rfl 14 rfl ?_
    refine x_iload_n hh dX8_keep_14 rfl 1 rfl 15 rfl ?_
    obtain ⟨q3, hq3, hf⟩ := b_some hf
    refine x_callV (rest := []) hh mi_X8_save [.int v1] dX8_keep_15 sh_59 wd_1146 (C_X8_save l hX  hq3) rfl rfl ⟨Nat.le_of_ble_eq_true rfl, Nat.le_of_ble_eq_true rfl⟩ (Nat.le_of_ble_eq_true rfl) 18 rfl [] rfl ?_
    refine x_aload_n hh dX8_keep_18 rfl 0 rfl 19 rfl ?_
    refine x_getR hh cl_8 dX8_keep_19 sh_59 50 93 rfl (Nat.le_of_ble_eq_true rfl) wd_850 22 rfl ?_
    refine x_iload_n hh dX8_keep_22 rfl 1 rfl 23 rfl ?_
    refine x_iconst hh dX8_keep_23 1 rfl 24 rfl ?_
    obtain ⟨hi4, hf⟩ := gi_some hf
    obtain ⟨st5, est5, hf⟩ := bs_some hf
    refine x_zastore hh dX8_keep_24 sh_93 hi4 25 rfl st5 est5 ?_
    refine x_iconst hh dX8_keep_25 1 rfl 26 rfl ?_
    obtain ⟨rfl, rfl⟩ := ret2 hf
    exact x_iret hh hr dX8_keep_26
  · have hf := t_pos hc2 hf
    refine x_ldc hh dX8_keep_10 wd_980 12 rfl ?_
    obtain ⟨rfl, rfl⟩ := ret2 hf
    exact x_iret hh hr dX8_keep_12
def F_X8_keep (v1 : Int32) (st : St) : Option (Int32 × St) := F_X8_keep_0  v1 st
set_option maxRecDepth 100000 in
theorem C_X8_keep (l : Launch) {X : Cx} (hX : Ok X) {v1 : Int32} {st : St} {q : Int32 × St} (hf : F_X8_keep v1 st = some q) : Ct l X 1 yX8_keep (.code yX8_keep cX8_keep 2 (some .int)) [.ref (X.2.1 59), .int v1] st (some (.int q.1)) q.2 := by
  refine Ct.of hX (by decide) (Nat.le_of_ble_eq_true rfl) ?_
  intro p e s m args below meth c hh hr
  exact Z_X8_keep_0 hX hh hr v1 st hf

def F_X8_goBack_0 (v1 : Int32) (st : St) : Option (Int32 × St) := (F_X8_in v1.toInt64 0 1 st).bind (fun q1 => if q1.1 = 0 then some ((-1000000001), q1.2) else gi v1 2 (if (q1.2.1 93 v1.toNatClampNeg) = 0 then some ((-1000000003), q1.2) else (F_X8_load v1 q1.2).bind (fun q5 => some (1, q5))))
set_option maxRecDepth 100000 in
set_option maxHeartbeats 4000000 in
theorem Z_X8_goBack_0 {l : Launch} {X : Cx} (hX : Ok X) {p : Program} {e : Env} {s : State} {m : MethodId} {args : Array Value} {below : List Frame} {meth : Method} {c : Code} {rr : Int32} {st' : St} (hh : Hy X p s m args meth c cX8_goBack 2 RX8) (hr : meth.sig.returnType = some .int) (v1 : Int32) (st : St) (hf : F_X8_goBack_0 v1 st = some (rr, st')) : Z X p l e (rmk 1) s m args below meth c 2 (MQ below (Qf X (some (.int rr)) st') args s 0 0 (cA X)) 0 [(0, .ref (X.2.1 59)), (1, .int v1)] [] st := by
  unfold F_X8_goBack_0 at hf
  refine x_iload_n hh dX8_goBack_0 rfl 1 rfl 1 rfl ?_
  refine x_i2l hh dX8_goBack_1 2 rfl ?_
  refine x_lconst hh dX8_goBack_2 0 rfl 3 rfl ?_
  refine x_lconst hh dX8_goBack_3 1 rfl 4 rfl ?_
  obtain ⟨q1, hq1, hf⟩ := b_some hf
  refine x_callS (rest := []) hh ms_X8_in [.long v1.toInt64, .long 0, .long 1] dX8_goBack_4 wd_907 (C_X8_in l hX  hq1) rfl rfl ⟨Nat.le_of_ble_eq_true rfl, Nat.le_of_ble_eq_true rfl⟩ (Nat.le_of_ble_eq_true rfl) 7 rfl [.int q1.1] rfl ?_
  refine x_if_ne hh dX8_goBack_7 13 rfl 10 rfl (fun hc2 => ?_) (fun hc2 => ?_)
  · have hf := t_neg hc2 hf
    refine x_aload_n hh dX8_goBack_13 rfl 0 rfl 14 rfl ?_
    refine x_getR hh cl_8 dX8_goBack_14 sh_59 50 93 rfl (Nat.le_of_ble_eq_true rfl) wd_850 17 rfl ?_
    refine x_iload_n hh dX8_goBack_17 rfl 1 rfl 18 rfl ?_
    obtain ⟨hi3, hf⟩ := gi_some hf
    refine x_zaload hh dX8_goBack_18 sh_93 hi3 19 rfl ?_
    refine x_if_ne hh dX8_goBack_19 26 rfl 22 rfl (fun hc4 => ?_) (fun hc4 => ?_)
    · have hf := t_neg hc4 hf
      refine x_aload_n hh dX8_goBack_26 rfl 0 rfl 27 rfl ?_
      refine x_iload_n hh dX8_goBack_27 rfl 1 rfl 28 rfl ?_
      obtain ⟨q5, hq5, hf⟩ := b_some hf
      refine x_callV (rest := []) hh mi_X8_load [.int v1] dX8_goBack_28 sh_59 wd_1149 (C_X8_load l hX  hq5) rfl rfl ⟨Nat.le_of_ble_eq_true rfl, Nat.le_of_ble_eq_true rfl⟩ (Nat.le_of_ble_eq_true rfl) 31 rfl [] rfl ?_
      refine x_iconst hh dX8_goBack_31 1 rfl 32 rfl ?_
      obtain ⟨rfl, rfl⟩ := ret2 hf
      exact x_iret hh hr dX8_goBack_32
    · have hf := t_pos hc4 hf
      refine x_ldc_w hh dX8_goBack_22 wd_1012 25 rfl ?_
      obtain ⟨rfl, rfl⟩ := ret2 hf
      exact x_iret hh hr dX8_goBack_25
  · have hf := t_pos hc2 hf
    refine x_ldc hh dX8_goBack_10 wd_980 12 rfl ?_
    obtain ⟨rfl, rfl⟩ := ret2 hf
    exact x_iret hh hr dX8_goBack_12
def F_X8_goBack (v1 : Int32) (st : St) : Option (Int32 × St) := F_X8_goBack_0  v1 st
set_option maxRecDepth 100000 in
theorem C_X8_goBack (l : Launch) {X : Cx} (hX : Ok X) {v1 : Int32} {st : St} {q : Int32 × St} (hf : F_X8_goBack v1 st = some q) : Ct l X 1 yX8_goBack (.code yX8_goBack cX8_goBack 2 (some .int)) [.ref (X.2.1 59), .int v1] st (some (.int q.1)) q.2 := by
  refine Ct.of hX (by decide) (Nat.le_of_ble_eq_true rfl) ?_
  intro p e s m args below meth c hh hr
  exact Z_X8_goBack_0 hX hh hr v1 st hf

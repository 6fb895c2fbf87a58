def F_X0_append_49 (st : St) : Option (St) := some st
set_option maxRecDepth 100000 in
set_option maxHeartbeats 4000000 in
theorem Z_X0_append_49 {l : Launch} {X : Cx} (hX : Ok X) {p : Program} {e : Env} {s : State} {m : MethodId} {args : Array Value} {below : List Frame} {meth : Method} {c : Code} {st' : St} (hh : Hy X p s m args meth c cX0_append 4 RX0) (hr : meth.sig.returnType = none) (st : St) (hf : F_X0_append_49 st = some st') : Z X p l e (rmk 0) s m args below meth c 4 (MQ below (Qf X none st') args s 0 0 (cA X)) 49 [(0, .ref (X.2.1 41))] [] st := by
  unfold F_X0_append_49 at hf
  obtain rfl := ret1 hf
  exact x_vret hh hr dX0_append_49
def F_X0_append_0 (v1 : Int32) (v2 : Int32) (v3 : Int32) (st : St) : Option (St) := if (20 : Int32) ≤ (st.1 41 3) then F_X0_append_49 st else gi (st.1 41 3) 20 (bs (sV st 42 (st.1 41 3).toNatClampNeg v1) (fun st3 => gi (st3.1 41 3) 20 (bs (sV st3 43 (st3.1 41 3).toNatClampNeg v2) (fun st5 => gi (st5.1 41 3) 20 (bs (sV st5 44 (st5.1 41 3).toNatClampNeg v3) (fun st7 => bs (sV st7 41 3 ((st7.1 41 3) + 1)) (fun st8 => F_X0_append_49 st8)))))))
set_option maxRecDepth 100000 in
set_option maxHeartbeats 4000000 in
theorem Z_X0_append_0 {l : Launch} {X : Cx} (hX : Ok X) {p : Program} {e : Env} {s : State} {m : MethodId} {args : Array Value} {below : List Frame} {meth : Method} {c : Code} {st' : St} (hh : Hy X p s m args meth c cX0_append 4 RX0) (hr : meth.sig.returnType = none) (v1 : Int32) (v2 : Int32) (v3 : Int32) (st : St) (hf : F_X0_append_0 v1 v2 v3 st = some st') : Z X p l e (rmk 0) s m args below meth c 4 (MQ below (Qf X none st') args s 0 0 (cA X)) 0 [(0, .ref (X.2.1 41)), (1, .int v1), (2, .int v2), (3, .int v3)] [] st := by
  unfold F_X0_append_0 at hf
  refine x_aload_n hh dX0_append_0 rfl 0 rfl 1 rfl ?_
  refine x_getI hh cl_0 dX0_append_1 sh_41 3 rfl (Nat.le_of_ble_eq_true rfl) wd_285 4 rfl ?_
  refine x_bipush hh dX0_append_4 20 rfl 6 rfl ?_
  refine x_icmp_ge hh dX0_append_6 49 rfl 9 rfl (fun hc1 => ?_) (fun hc1 => ?_)
  · have hf := t_pos hc1 hf
    refine x_sub (lv' := [(0, .ref (X.2.1 41))]) [0] rfl ?_
    exact Z_X0_append_49 hX hh hr  st hf
  · have hf := t_neg hc1 hf
    refine x_aload_n hh dX0_append_9 rfl 0 rfl 10 rfl ?_
    refine x_getR hh cl_0 dX0_append_10 sh_41 0 42 rfl (Nat.le_of_ble_eq_true rfl) wd_279 13 rfl ?_
    refine x_aload_n hh dX0_append_13 rfl 0 rfl 14 rfl ?_
    refine x_getI hh cl_0 dX0_append_14 sh_41 3 rfl (Nat.le_of_ble_eq_true rfl) wd_285 17 rfl ?_
    refine x_iload_n hh dX0_append_17 rfl 1 rfl 18 rfl ?_
    obtain ⟨hi2, hf⟩ := gi_some hf
    obtain ⟨st3, est3, hf⟩ := bs_some hf
    refine x_iastore hh dX0_append_18 sh_42 hi2 19 rfl st3 est3 ?_
    refine x_aload_n hh dX0_append_19 rfl 0 rfl 20 rfl ?_
    refine x_getR hh cl_0 dX0_append_20 sh_41 1 43 rfl (Nat.le_of_ble_eq_true rfl) wd_281 23 rfl ?_
    refine x_aload_n hh dX0_append_23 rfl 0 rfl 24 rfl ?_
    refine x_getI hh cl_0 dX0_append_24 sh_41 3 rfl (Nat.le_of_ble_eq_true rfl) wd_285 27 rfl ?_
    refine x_iload_n hh dX0_append_27 rfl 2 rfl 28 rfl ?_
    obtain ⟨hi4, hf⟩ := gi_some hf
    obtain ⟨st5, est5, hf⟩ := bs_some hf
    refine x_iastore hh dX0_append_28 sh_43 hi4 29 rfl st5 est5 ?_
    refine x_aload_n hh dX0_append_29 rfl 0 rfl 30 rfl ?_
    refine x_getR hh cl_0 dX0_append_30 sh_41 2 44 rfl (Nat.le_of_ble_eq_true rfl) wd_283 33 rfl ?_
    refine x_aload_n hh dX0_append_33 rfl 0 rfl 34 rfl ?_
    refine x_getI hh cl_0 dX0_append_34 sh_41 3 rfl (Nat.le_of_ble_eq_true rfl) wd_285 37 rfl ?_
    refine x_iload_n hh dX0_append_37 rfl 3 rfl 38 rfl ?_
    obtain ⟨hi6, hf⟩ := gi_some hf
    obtain ⟨st7, est7, hf⟩ := bs_some hf
    refine x_iastore hh dX0_append_38 sh_44 hi6 39 rfl st7 est7 ?_
    refine x_aload_n hh dX0_append_39 rfl 0 rfl 40 rfl ?_
    refine x_dup hh dX0_append_40 rfl 41 rfl ?_
    refine x_getI hh cl_0 dX0_append_41 sh_41 3 rfl (Nat.le_of_ble_eq_true rfl) wd_285 44 rfl ?_
    refine x_iconst hh dX0_append_44 1 rfl 45 rfl ?_
    refine x_iadd hh dX0_append_45 46 rfl ?_
    obtain ⟨st8, est8, hf⟩ := bs_some hf
    refine x_putI hh cl_0 dX0_append_46 sh_41 3 rfl (Nat.le_of_ble_eq_true rfl) wd_285 rfl rfl rfl 49 rfl st8 est8 ?_
    refine x_sub (lv' := [(0, .ref (X.2.1 41))]) [0] rfl ?_
    exact Z_X0_append_49 hX hh hr  st8 hf
def F_X0_append (v1 : Int32) (v2 : Int32) (v3 : Int32) (st : St) : Option (St) := F_X0_append_0  v1 v2 v3 st
set_option maxRecDepth 100000 in
theorem C_X0_append (l : Launch) {X : Cx} (hX : Ok X) {v1 : Int32} {v2 : Int32} {v3 : Int32} {st : St} {q : St} (hf : F_X0_append v1 v2 v3 st = some q) : Ct l X 0 yX0_append (.code yX0_append cX0_append 4 (none)) [.ref (X.2.1 41), .int v1, .int v2, .int v3] st none q := by
  refine Ct.of hX (by decide) (Nat.le_of_ble_eq_true rfl) ?_
  intro p e s m args below meth c hh hr
  exact Z_X0_append_0 hX hh hr v1 v2 v3 st hf

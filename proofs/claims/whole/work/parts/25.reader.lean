def F_X5_takeBytes_54 (st : St) : Option (St) := some st
set_option maxRecDepth 100000 in
set_option maxHeartbeats 4000000 in
theorem Z_X5_takeBytes_54 {l : Launch} {X : Cx} (hX : Ok X) {p : Program} {e : Env} {s : State} {m : MethodId} {args : Array Value} {below : List Frame} {meth : Method} {c : Code} {st' : St} (hh : Hy X p s m args meth c cX5_takeBytes 5 RX5) (hr : meth.sig.returnType = none) (st : St) (hf : F_X5_takeBytes_54 st = some st') : Z X p l e (rmk 0) s m args below meth c 5 (MQ below (Qf X none st') args s 0 0 (cA X)) 54 [(0, .ref (X.2.1 23))] [] st := by
  unfold F_X5_takeBytes_54 at hf
  obtain rfl := ret1 hf
  exact x_vret hh hr dX5_takeBytes_54
def F_X5_takeBytes_5 : Nat → Int64 → Int32 → St → Option (St)
  | 0, _, _, _ => none
  | n + 1, v2, v4, st => if v4 < 0 then F_X5_takeBytes_54 st else if (500 : Int32) ≤ (st.1 23 1) then F_X5_takeBytes_54 st else gi (st.1 23 1) 500 (bs (sV st 32 (st.1 23 1).toNatClampNeg (vp_nar .byte (((v2 >>> ((8 * v4).toInt64 &&& 63)).toInt32).toInt8.toInt32))) (fun st4 => bs (sV st4 23 1 ((st4.1 23 1) + 1)) (fun st5 => F_X5_takeBytes_5 n v2 (v4 + (-1)) st5)))
set_option maxRecDepth 100000 in
set_option maxHeartbeats 4000000 in
theorem Z_X5_takeBytes_5 {l : Launch} {X : Cx} (hX : Ok X) {p : Program} {e : Env} {s : State} {m : MethodId} {args : Array Value} {below : List Frame} {meth : Method} {c : Code} {st' : St} (hh : Hy X p s m args meth c cX5_takeBytes 5 RX5) (hr : meth.sig.returnType = none) : ∀ (n : Nat) (v2 : Int64) (v4 : Int32) (st : St), F_X5_takeBytes_5 n v2 v4 st = some st' → Z X p l e (rmk 0) s m args below meth c 5 (MQ below (Qf X none st') args s 0 0 (cA X)) 5 [(0, .ref (X.2.1 23)), (2, .long v2), (4, .int v4)] [] st := by
  intro n
  induction n with
  | zero =>
    intro v2 v4 st hf
    cases hf
  | succ n ih =>
    intro v2 v4 st hf
    rw [F_X5_takeBytes_5] at hf
    refine x_iload hh dX5_takeBytes_5 2 rfl 7 rfl ?_
    refine x_if_lt hh dX5_takeBytes_7 54 rfl 10 rfl (fun hc1 => ?_) (fun hc1 => ?_)
    · have hf := t_pos hc1 hf
      refine x_sub (lv' := [(0, .ref (X.2.1 23))]) [0] rfl ?_
      exact Z_X5_takeBytes_54 hX hh hr  st hf
    · have hf := t_neg hc1 hf
      refine x_aload_n hh dX5_takeBytes_10 rfl 0 rfl 11 rfl ?_
      refine x_getI hh cl_5 dX5_takeBytes_11 sh_23 1 rfl (Nat.le_of_ble_eq_true rfl) wd_205 14 rfl ?_
      refine x_sipush hh dX5_takeBytes_14 500 rfl 17 rfl ?_
      refine x_icmp_ge hh dX5_takeBytes_17 54 rfl 20 rfl (fun hc2 => ?_) (fun hc2 => ?_)
      · have hf := t_pos hc2 hf
        refine x_sub (lv' := [(0, .ref (X.2.1 23))]) [0] rfl ?_
        exact Z_X5_takeBytes_54 hX hh hr  st hf
      · have hf := t_neg hc2 hf
        refine x_aload_n hh dX5_takeBytes_20 rfl 0 rfl 21 rfl ?_
        refine x_getR hh cl_5 dX5_takeBytes_21 sh_23 4 32 rfl (Nat.le_of_ble_eq_true rfl) wd_211 24 rfl ?_
        refine x_aload_n hh dX5_takeBytes_24 rfl 0 rfl 25 rfl ?_
        refine x_getI hh cl_5 dX5_takeBytes_25 sh_23 1 rfl (Nat.le_of_ble_eq_true rfl) wd_205 28 rfl ?_
        refine x_lload_n hh dX5_takeBytes_28 rfl 1 rfl 29 rfl ?_
        refine x_bipush hh dX5_takeBytes_29 8 rfl 31 rfl ?_
        refine x_iload hh dX5_takeBytes_31 2 rfl 33 rfl ?_
        refine x_imul hh dX5_takeBytes_33 34 rfl ?_
        refine x_lshr hh dX5_takeBytes_34 35 rfl ?_
        refine x_l2i hh dX5_takeBytes_35 36 rfl ?_
        refine x_i2b hh dX5_takeBytes_36 37 rfl ?_
        obtain ⟨hi3, hf⟩ := gi_some hf
        obtain ⟨st4, est4, hf⟩ := bs_some hf
        refine x_bastore hh dX5_takeBytes_37 sh_32 hi3 38 rfl st4 est4 ?_
        refine x_aload_n hh dX5_takeBytes_38 rfl 0 rfl 39 rfl ?_
        refine x_dup hh dX5_takeBytes_39 rfl 40 rfl ?_
        refine x_getI hh cl_5 dX5_takeBytes_40 sh_23 1 rfl (Nat.le_of_ble_eq_true rfl) wd_205 43 rfl ?_
        refine x_iconst hh dX5_takeBytes_43 1 rfl 44 rfl ?_
        refine x_iadd hh dX5_takeBytes_44 45 rfl ?_
        obtain ⟨st5, est5, hf⟩ := bs_some hf
        refine x_putI hh cl_5 dX5_takeBytes_45 sh_23 1 rfl (Nat.le_of_ble_eq_true rfl) wd_205 rfl rfl rfl 48 rfl st5 est5 ?_
        refine x_iinc hh dX5_takeBytes_48 2 rfl (v4 + (-1)) rfl (by decide) [(4, .int (v4 + (-1))), (0, .ref (X.2.1 23)), (2, .long v2)] rfl 51 rfl ?_
        refine x_goto hh dX5_takeBytes_51 5 rfl ?_
        refine x_sub (lv' := [(0, .ref (X.2.1 23)), (2, .long v2), (4, .int (v4 + (-1)))]) [1, 2, 0] rfl ?_
        exact ih v2 (v4 + (-1)) st5 hf
def F_X5_takeBytes_0 (v1 : Int32) (v2 : Int64) (st : St) : Option (St) := F_X5_takeBytes_5 fN v2 (v1 - 1) st
set_option maxRecDepth 100000 in
set_option maxHeartbeats 4000000 in
theorem Z_X5_takeBytes_0 {l : Launch} {X : Cx} (hX : Ok X) {p : Program} {e : Env} {s : State} {m : MethodId} {args : Array Value} {below : List Frame} {meth : Method} {c : Code} {st' : St} (hh : Hy X p s m args meth c cX5_takeBytes 5 RX5) (hr : meth.sig.returnType = none) (v1 : Int32) (v2 : Int64) (st : St) (hf : F_X5_takeBytes_0 v1 v2 st = some st') : Z X p l e (rmk 0) s m args below meth c 5 (MQ below (Qf X none st') args s 0 0 (cA X)) 0 [(0, .ref (X.2.1 23)), (1, .int v1), (2, .long v2)] [] st := by
  unfold F_X5_takeBytes_0 at hf
  refine x_iload_n hh dX5_takeBytes_0 rfl 1 rfl 1 rfl ?_
  refine x_iconst hh dX5_takeBytes_1 1 rfl 2 rfl ?_
  refine x_isub hh dX5_takeBytes_2 3 rfl ?_
  refine x_istore hh dX5_takeBytes_3 (by decide) [(4, .int (v1 - 1)), (0, .ref (X.2.1 23)), (1, .int v1), (2, .long v2)] rfl 5 rfl ?_
  refine x_sub (lv' := [(0, .ref (X.2.1 23)), (2, .long v2), (4, .int (v1 - 1))]) [1, 3, 0] rfl ?_
  exact Z_X5_takeBytes_5 hX hh hr fN v2 (v1 - 1) st hf
def F_X5_takeBytes (v1 : Int32) (v2 : Int64) (st : St) : Option (St) := F_X5_takeBytes_0  v1 v2 st
set_option maxRecDepth 100000 in
theorem C_X5_takeBytes (l : Launch) {X : Cx} (hX : Ok X) {v1 : Int32} {v2 : Int64} {st : St} {q : St} (hf : F_X5_takeBytes v1 v2 st = some q) : Ct l X 0 yX5_takeBytes (.code yX5_takeBytes cX5_takeBytes 5 (none)) [.ref (X.2.1 23), .int v1, .long v2] st none q := by
  refine Ct.of hX (by decide) (Nat.le_of_ble_eq_true rfl) ?_
  intro p e s m args below meth c hh hr
  exact Z_X5_takeBytes_0 hX hh hr v1 v2 st hf

def F_X5_isFault_0 (v1 : Int32) (v2 : Int32) (st : St) : Option (Int32 × St) := bs (sV st 23 2 v1) (fun st1 => bs (sV st1 23 3 v2) (fun st2 => some (0, st2)))
set_option maxRecDepth 100000 in
set_option maxHeartbeats 4000000 in
theorem Z_X5_isFault_0 {l : Launch} {X : Cx} (hX : Ok X) {p : Program} {e : Env} {s : State} {m : MethodId} {args : Array Value} {below : List Frame} {meth : Method} {c : Code} {rr : Int32} {st' : St} (hh : Hy X p s m args meth c cX5_isFault 3 RX5) (hr : meth.sig.returnType = some .boolean) (v1 : Int32) (v2 : Int32) (st : St) (hf : F_X5_isFault_0 v1 v2 st = some (rr, st')) : Z X p l e (rmk 0) s m args below meth c 3 (MQ below (Qf X (some (.int rr)) st') args s 0 0 (cA X)) 0 [(0, .ref (X.2.1 23)), (1, .int v1), (2, .int v2)] [] st := by
  unfold F_X5_isFault_0 at hf
  refine x_aload_n hh dX5_isFault_0 rfl 0 rfl 1 rfl ?_
  refine x_iload_n hh dX5_isFault_1 rfl 1 rfl 2 rfl ?_
  obtain ⟨st1, est1, hf⟩ := bs_some hf
  refine x_putI hh cl_5 dX5_isFault_2 sh_23 2 rfl (Nat.le_of_ble_eq_true rfl) wd_207 rfl rfl rfl 5 rfl st1 est1 ?_
  refine x_aload_n hh dX5_isFault_5 rfl 0 rfl 6 rfl ?_
  refine x_iload_n hh dX5_isFault_6 rfl 2 rfl 7 rfl ?_
  obtain ⟨st2, est2, hf⟩ := bs_some hf
  refine x_putI hh cl_5 dX5_isFault_7 sh_23 3 rfl (Nat.le_of_ble_eq_true rfl) wd_209 rfl rfl rfl 10 rfl st2 est2 ?_
  refine x_iconst hh dX5_isFault_10 0 rfl 11 rfl ?_
  obtain ⟨rfl, rfl⟩ := ret2 hf
  exact x_zret hh hr rfl dX5_isFault_11
def F_X5_isFault (v1 : Int32) (v2 : Int32) (st : St) : Option (Int32 × St) := F_X5_isFault_0  v1 v2 st
set_option maxRecDepth 100000 in
theorem C_X5_isFault (l : Launch) {X : Cx} (hX : Ok X) {v1 : Int32} {v2 : Int32} {st : St} {q : Int32 × St} (hf : F_X5_isFault v1 v2 st = some q) : Ct l X 0 yX5_isFault (.code yX5_isFault cX5_isFault 3 (some .boolean)) [.ref (X.2.1 23), .int v1, .int v2] st (some (.int q.1)) q.2 := by
  refine Ct.of hX (by decide) (Nat.le_of_ble_eq_true rfl) ?_
  intro p e s m args below meth c hh hr
  exact Z_X5_isFault_0 hX hh hr v1 v2 st hf

def F_X5_isWord_48 (wd0 : Nat) (st : St) : Option (Int32 × St) := some (0, st)
set_option maxRecDepth 100000 in
set_option maxHeartbeats 4000000 in
theorem Z_X5_isWord_48 {l : Launch} {X : Cx} (hX : Ok X) {wd0 : Nat} (hwd0 : Wo wd0) {p : Program} {e : Env} {s : State} {m : MethodId} {args : Array Value} {below : List Frame} {meth : Method} {c : Code} {rr : Int32} {st' : St} (hh : Hy X p s m args meth c cX5_isWord 4 RX5) (hr : meth.sig.returnType = some .boolean) (st : St) (hf : F_X5_isWord_48 wd0 st = some (rr, st')) : Z X p l e (rmk 9) s m args below meth c 4 (MQ below (Qf X (some (.int rr)) st') args s 0 0 (cA X)) 48 [(0, .ref (X.2.1 23)), (1, .ref (X.2.2.2.2.1 wd0))] [] st := by
  unfold F_X5_isWord_48 at hf
  refine x_iconst hh dX5_isWord_48 0 rfl 49 rfl ?_
  obtain ⟨rfl, rfl⟩ := ret2 hf
  exact x_zret hh hr rfl dX5_isWord_49
def F_X5_isWord_52 (wd0 : Nat) : Nat → Int32 → Int32 → St → Option (Int32 × St)
  | 0, _, _, _ => none
  | n + 1, v2, v3, st => (F_J0_length_8abf5 wd0 st).bind (fun q8 => if q8.1 ≤ v3 then bs (sV q8.2 23 5 v2) (fun st10 => some (1, st10)) else gi ((q8.2.1 23 5) + v3) 500 ((F_J0_charAt_5068e wd0 v3 q8.2).bind (fun q12 => if (q8.2.1 32 ((q8.2.1 23 5) + v3).toNatClampNeg) = q12.1 then F_X5_isWord_52 wd0 n v2 (v3 + 1) q12.2 else some (0, q12.2))))
set_option maxRecDepth 100000 in
set_option maxHeartbeats 4000000 in
theorem Z_X5_isWord_52 {l : Launch} {X : Cx} (hX : Ok X) {wd0 : Nat} (hwd0 : Wo wd0) {p : Program} {e : Env} {s : State} {m : MethodId} {args : Array Value} {below : List Frame} {meth : Method} {c : Code} {rr : Int32} {st' : St} (hh : Hy X p s m args meth c cX5_isWord 4 RX5) (hr : meth.sig.returnType = some .boolean) : ∀ (n : Nat) (v2 : Int32) (v3 : Int32) (st : St), F_X5_isWord_52 wd0 n v2 v3 st = some (rr, st') → Z X p l e (rmk 9) s m args below meth c 4 (MQ below (Qf X (some (.int rr)) st') args s 0 0 (cA X)) 52 [(0, .ref (X.2.1 23)), (1, .ref (X.2.2.2.2.1 wd0)), (2, .int v2), (3, .int v3)] [] st := by
  intro n
  induction n with
  | zero =>
    intro v2 v3 st hf
    cases hf
  | succ n ih =>
    intro v2 v3 st hf
    rw [F_X5_isWord_52] at hf
    refine x_iload_n hh dX5_isWord_52 rfl 3 rfl 53 rfl ?_
    refine x_aload_n hh dX5_isWord_53 rfl 1 rfl 54 rfl ?_
    obtain ⟨q8, hq8, hf⟩ := b_some hf
    refine x_callVS (rest := [.int v3]) hh hwd0 mi_J0_length_8abf5 [] dX5_isWord_54 wd_347 (C_J0_length_8abf5 l hX hwd0 hq8) rfl rfl ⟨Nat.le_of_ble_eq_true rfl, Nat.le_of_ble_eq_true rfl⟩ (Nat.le_of_ble_eq_true rfl) 57 rfl [.int q8.1, .int v3] rfl ?_
    refine x_icmp_ge hh dX5_isWord_57 87 rfl 60 rfl (fun hc9 => ?_) (fun hc9 => ?_)
    · have hf := t_pos hc9 hf
      refine x_aload_n hh dX5_isWord_87 rfl 0 rfl 88 rfl ?_
      refine x_iload_n hh dX5_isWord_88 rfl 2 rfl 89 rfl ?_
      obtain ⟨st10, est10, hf⟩ := bs_some hf
      refine x_putI hh cl_5 dX5_isWord_89 sh_23 5 rfl (Nat.le_of_ble_eq_true rfl) wd_212 rfl rfl rfl 92 rfl st10 est10 ?_
      refine x_iconst hh dX5_isWord_92 1 rfl 93 rfl ?_
      obtain ⟨rfl, rfl⟩ := ret2 hf
      exact x_zret hh hr rfl dX5_isWord_93
    · have hf := t_neg hc9 hf
      refine x_aload_n hh dX5_isWord_60 rfl 0 rfl 61 rfl ?_
      refine x_getR hh cl_5 dX5_isWord_61 sh_23 4 32 rfl (Nat.le_of_ble_eq_true rfl) wd_211 64 rfl ?_
      refine x_aload_n hh dX5_isWord_64 rfl 0 rfl 65 rfl ?_
      refine x_getI hh cl_5 dX5_isWord_65 sh_23 5 rfl (Nat.le_of_ble_eq_true rfl) wd_212 68 rfl ?_
      refine x_iload_n hh dX5_isWord_68 rfl 3 rfl 69 rfl ?_
      refine x_iadd hh dX5_isWord_69 70 rfl ?_
      obtain ⟨hi11, hf⟩ := gi_some hf
      refine x_baload hh dX5_isWord_70 sh_32 hi11 71 rfl ?_
      refine x_aload_n hh dX5_isWord_71 rfl 1 rfl 72 rfl ?_
      refine x_iload_n hh dX5_isWord_72 rfl 3 rfl 73 rfl ?_
      obtain ⟨q12, hq12, hf⟩ := b_some hf
      refine x_callVS (rest := [.int (q8.2.1 32 ((q8.2.1 23 5) + v3).toNatClampNeg)]) hh hwd0 mi_J0_charAt_5068e [.int v3] dX5_isWord_73 wd_356 (C_J0_charAt_5068e l hX hwd0 hq12) rfl rfl ⟨Nat.le_of_ble_eq_true rfl, Nat.le_of_ble_eq_true rfl⟩ (Nat.le_of_ble_eq_true rfl) 76 rfl [.int q12.1, .int (q8.2.1 32 ((q8.2.1 23 5) + v3).toNatClampNeg)] rfl ?_
      refine x_icmp_eq hh dX5_isWord_76 81 rfl 79 rfl (fun hc13 => ?_) (fun hc13 => ?_)
      · have hf := t_pos hc13 hf
        refine x_iinc hh dX5_isWord_81 3 rfl (v3 + 1) rfl (by decide) [(3, .int (v3 + 1)), (0, .ref (X.2.1 23)), (1, .ref (X.2.2.2.2.1 wd0)), (2, .int v2)] rfl 84 rfl ?_
        refine x_goto hh dX5_isWord_84 52 rfl ?_
        refine x_sub (lv' := [(0, .ref (X.2.1 23)), (1, .ref (X.2.2.2.2.1 wd0)), (2, .int v2), (3, .int (v3 + 1))]) [1, 2, 3, 0] rfl ?_
        exact ih v2 (v3 + 1) q12.2 hf
      · have hf := t_neg hc13 hf
        refine x_iconst hh dX5_isWord_79 0 rfl 80 rfl ?_
        obtain ⟨rfl, rfl⟩ := ret2 hf
        exact x_zret hh hr rfl dX5_isWord_80
def F_X5_isWord_50 (wd0 : Nat) (v2 : Int32) (st : St) : Option (Int32 × St) := F_X5_isWord_52 wd0 fN v2 0 st
set_option maxRecDepth 100000 in
set_option maxHeartbeats 4000000 in
theorem Z_X5_isWord_50 {l : Launch} {X : Cx} (hX : Ok X) {wd0 : Nat} (hwd0 : Wo wd0) {p : Program} {e : Env} {s : State} {m : MethodId} {args : Array Value} {below : List Frame} {meth : Method} {c : Code} {rr : Int32} {st' : St} (hh : Hy X p s m args meth c cX5_isWord 4 RX5) (hr : meth.sig.returnType = some .boolean) (v2 : Int32) (st : St) (hf : F_X5_isWord_50 wd0 v2 st = some (rr, st')) : Z X p l e (rmk 9) s m args below meth c 4 (MQ below (Qf X (some (.int rr)) st') args s 0 0 (cA X)) 50 [(0, .ref (X.2.1 23)), (1, .ref (X.2.2.2.2.1 wd0)), (2, .int v2)] [] st := by
  unfold F_X5_isWord_50 at hf
  refine x_iconst hh dX5_isWord_50 0 rfl 51 rfl ?_
  refine x_istore_n hh dX5_isWord_51 rfl (by decide) [(3, .int 0), (0, .ref (X.2.1 23)), (1, .ref (X.2.2.2.2.1 wd0)), (2, .int v2)] rfl 52 rfl ?_
  refine x_sub (lv' := [(0, .ref (X.2.1 23)), (1, .ref (X.2.2.2.2.1 wd0)), (2, .int v2), (3, .int 0)]) [1, 2, 3, 0] rfl ?_
  exact Z_X5_isWord_52 hX hwd0 hh hr fN v2 0 st hf
def F_X5_isWord_0 (wd0 : Nat) (st : St) : Option (Int32 × St) := (F_J0_length_8abf5 wd0 st).bind (fun q1 => if (q1.2.1 23 1) < ((st.1 23 5) + q1.1) then F_X5_isWord_48 wd0 q1.2 else if (q1.2.1 23 1) ≤ ((st.1 23 5) + q1.1) then F_X5_isWord_50 wd0 ((st.1 23 5) + q1.1) q1.2 else gi ((st.1 23 5) + q1.1) 500 (if (q1.2.1 32 ((st.1 23 5) + q1.1).toNatClampNeg) < 97 then F_X5_isWord_50 wd0 ((st.1 23 5) + q1.1) q1.2 else gi ((st.1 23 5) + q1.1) 500 (if (122 : Int32) < (q1.2.1 32 ((st.1 23 5) + q1.1).toNatClampNeg) then F_X5_isWord_50 wd0 ((st.1 23 5) + q1.1) q1.2 else F_X5_isWord_48 wd0 q1.2)))
set_option maxRecDepth 100000 in
set_option maxHeartbeats 4000000 in
theorem Z_X5_isWord_0 {l : Launch} {X : Cx} (hX : Ok X) {wd0 : Nat} (hwd0 : Wo wd0) {p : Program} {e : Env} {s : State} {m : MethodId} {args : Array Value} {below : List Frame} {meth : Method} {c : Code} {rr : Int32} {st' : St} (hh : Hy X p s m args meth c cX5_isWord 4 RX5) (hr : meth.sig.returnType = some .boolean) (st : St) (hf : F_X5_isWord_0 wd0 st = some (rr, st')) : Z X p l e (rmk 9) s m args below meth c 4 (MQ below (Qf X (some (.int rr)) st') args s 0 0 (cA X)) 0 [(0, .ref (X.2.1 23)), (1, .ref (X.2.2.2.2.1 wd0))] [] st := by
  unfold F_X5_isWord_0 at hf
  refine x_aload_n hh dX5_isWord_0 rfl 0 rfl 1 rfl ?_
  refine x_getI hh cl_5 dX5_isWord_1 sh_23 5 rfl (Nat.le_of_ble_eq_true rfl) wd_212 4 rfl ?_
  refine x_aload_n hh dX5_isWord_4 rfl 1 rfl 5 rfl ?_
  obtain ⟨q1, hq1, hf⟩ := b_some hf
  refine x_callVS (rest := [.int (st.1 23 5)]) hh hwd0 mi_J0_length_8abf5 [] dX5_isWord_5 wd_347 (C_J0_length_8abf5 l hX hwd0 hq1) rfl rfl ⟨Nat.le_of_ble_eq_true rfl, Nat.le_of_ble_eq_true rfl⟩ (Nat.le_of_ble_eq_true rfl) 8 rfl [.int q1.1, .int (st.1 23 5)] rfl ?_
  refine x_iadd hh dX5_isWord_8 9 rfl ?_
  refine x_istore_n hh dX5_isWord_9 rfl (by decide) [(2, .int ((st.1 23 5) + q1.1)), (0, .ref (X.2.1 23)), (1, .ref (X.2.2.2.2.1 wd0))] rfl 10 rfl ?_
  refine x_iload_n hh dX5_isWord_10 rfl 0 rfl 11 rfl ?_
  refine x_aload_n hh dX5_isWord_11 rfl 1 rfl 12 rfl ?_
  refine x_getI hh cl_5 dX5_isWord_12 sh_23 1 rfl (Nat.le_of_ble_eq_true rfl) wd_205 15 rfl ?_
  refine x_icmp_gt hh dX5_isWord_15 48 rfl 18 rfl (fun hc2 => ?_) (fun hc2 => ?_)
  · have hf := t_pos hc2 hf
    refine x_sub (lv' := [(0, .ref (X.2.1 23)), (1, .ref (X.2.2.2.2.1 wd0))]) [1, 2] rfl ?_
    exact Z_X5_isWord_48 hX hwd0 hh hr  q1.2 hf
  · have hf := t_neg hc2 hf
    refine x_iload_n hh dX5_isWord_18 rfl 0 rfl 19 rfl ?_
    refine x_aload_n hh dX5_isWord_19 rfl 1 rfl 20 rfl ?_
    refine x_getI hh cl_5 dX5_isWord_20 sh_23 1 rfl (Nat.le_of_ble_eq_true rfl) wd_205 23 rfl ?_
    refine x_icmp_ge hh dX5_isWord_23 50 rfl 26 rfl (fun hc3 => ?_) (fun hc3 => ?_)
    · have hf := t_pos hc3 hf
      refine x_sub (lv' := [(0, .ref (X.2.1 23)), (1, .ref (X.2.2.2.2.1 wd0)), (2, .int ((st.1 23 5) + q1.1))]) [1, 2, 0] rfl ?_
      exact Z_X5_isWord_50 hX hwd0 hh hr  ((st.1 23 5) + q1.1) q1.2 hf
    · have hf := t_neg hc3 hf
      refine x_aload_n hh dX5_isWord_26 rfl 1 rfl 27 rfl ?_
      refine x_getR hh cl_5 dX5_isWord_27 sh_23 4 32 rfl (Nat.le_of_ble_eq_true rfl) wd_211 30 rfl ?_
      refine x_iload_n hh dX5_isWord_30 rfl 0 rfl 31 rfl ?_
      obtain ⟨hi4, hf⟩ := gi_some hf
      refine x_baload hh dX5_isWord_31 sh_32 hi4 32 rfl ?_
      refine x_bipush hh dX5_isWord_32 97 rfl 34 rfl ?_
      refine x_icmp_lt hh dX5_isWord_34 50 rfl 37 rfl (fun hc5 => ?_) (fun hc5 => ?_)
      · have hf := t_pos hc5 hf
        refine x_sub (lv' := [(0, .ref (X.2.1 23)), (1, .ref (X.2.2.2.2.1 wd0)), (2, .int ((st.1 23 5) + q1.1))]) [1, 2, 0] rfl ?_
        exact Z_X5_isWord_50 hX hwd0 hh hr  ((st.1 23 5) + q1.1) q1.2 hf
      · have hf := t_neg hc5 hf
        refine x_aload_n hh dX5_isWord_37 rfl 1 rfl 38 rfl ?_
        refine x_getR hh cl_5 dX5_isWord_38 sh_23 4 32 rfl (Nat.le_of_ble_eq_true rfl) wd_211 41 rfl ?_
        refine x_iload_n hh dX5_isWord_41 rfl 0 rfl 42 rfl ?_
        obtain ⟨hi6, hf⟩ := gi_some hf
        refine x_baload hh dX5_isWord_42 sh_32 hi6 43 rfl ?_
        refine x_bipush hh dX5_isWord_43 122 rfl 45 rfl ?_
        refine x_icmp_gt hh dX5_isWord_45 50 rfl 48 rfl (fun hc7 => ?_) (fun hc7 => ?_)
        · have hf := t_pos hc7 hf
          refine x_sub (lv' := [(0, .ref (X.2.1 23)), (1, .ref (X.2.2.2.2.1 wd0)), (2, .int ((st.1 23 5) + q1.1))]) [1, 2, 0] rfl ?_
          exact Z_X5_isWord_50 hX hwd0 hh hr  ((st.1 23 5) + q1.1) q1.2 hf
        · have hf := t_neg hc7 hf
          refine x_sub (lv' := [(0, .ref (X.2.1 23)), (1, .ref (X.2.2.2.2.1 wd0))]) [1, 2] rfl ?_
          exact Z_X5_isWord_48 hX hwd0 hh hr  q1.2 hf
def F_X5_isWord (wd0 : Nat) (st : St) : Option (Int32 × St) := F_X5_isWord_0 wd0 st
set_option maxRecDepth 100000 in
theorem C_X5_isWord (l : Launch) {X : Cx} (hX : Ok X) {wd0 : Nat} (hwd0 : Wo wd0) {st : St} {q : Int32 × St} (hf : F_X5_isWord wd0 st = some q) : Ct l X 9 yX5_isWord (.code yX5_isWord cX5_isWord 4 (some .boolean)) [.ref (X.2.1 23), .ref (X.2.2.2.2.1 wd0)] st (some (.int q.1)) q.2 := by
  refine Ct.of hX (by decide) (Nat.le_of_ble_eq_true rfl) ?_
  intro p e s m args below meth c hh hr
  exact Z_X5_isWord_0 hX hwd0 hh hr st hf

def F_X5_skipBlanks_38 (st : St) : Option (St) := some st
set_option maxRecDepth 100000 in
set_option maxHeartbeats 4000000 in
theorem Z_X5_skipBlanks_38 {l : Launch} {X : Cx} (hX : Ok X) {p : Program} {e : Env} {s : State} {m : MethodId} {args : Array Value} {below : List Frame} {meth : Method} {c : Code} {st' : St} (hh : Hy X p s m args meth c cX5_skipBlanks 1 RX5) (hr : meth.sig.returnType = none) (st : St) (hf : F_X5_skipBlanks_38 st = some st') : Z X p l e (rmk 0) s m args below meth c 1 (MQ below (Qf X none st') args s 0 0 (cA X)) 38 [(0, .ref (X.2.1 23))] [] st := by
  unfold F_X5_skipBlanks_38 at hf
  obtain rfl := ret1 hf
  exact x_vret hh hr dX5_skipBlanks_38
def F_X5_skipBlanks_0 : Nat → St → Option (St)
  | 0, _ => none
  | n + 1, st => if (st.1 23 1) ≤ (st.1 23 5) then F_X5_skipBlanks_38 st else gi (st.1 23 5) 500 (if (st.1 32 (st.1 23 5).toNatClampNeg) = 32 then bs (sV st 23 5 ((st.1 23 5) + 1)) (fun st4 => F_X5_skipBlanks_0 n st4) else F_X5_skipBlanks_38 st)
set_option maxRecDepth 100000 in
set_option maxHeartbeats 4000000 in
theorem Z_X5_skipBlanks_0 {l : Launch} {X : Cx} (hX : Ok X) {p : Program} {e : Env} {s : State} {m : MethodId} {args : Array Value} {below : List Frame} {meth : Method} {c : Code} {st' : St} (hh : Hy X p s m args meth c cX5_skipBlanks 1 RX5) (hr : meth.sig.returnType = none) : ∀ (n : Nat) (st : St), F_X5_skipBlanks_0 n st = some st' → Z X p l e (rmk 0) s m args below meth c 1 (MQ below (Qf X none st') args s 0 0 (cA X)) 0 [(0, .ref (X.2.1 23))] [] st := by
  intro n
  induction n with
  | zero =>
    intro st hf
    cases hf
  | succ n ih =>
    intro st hf
    rw [F_X5_skipBlanks_0] at hf
    refine x_aload_n hh dX5_skipBlanks_0 rfl 0 rfl 1 rfl ?_
    refine x_getI hh cl_5 dX5_skipBlanks_1 sh_23 5 rfl (Nat.le_of_ble_eq_true rfl) wd_212 4 rfl ?_
    refine x_aload_n hh dX5_skipBlanks_4 rfl 0 rfl 5 rfl ?_
    refine x_getI hh cl_5 dX5_skipBlanks_5 sh_23 1 rfl (Nat.le_of_ble_eq_true rfl) wd_205 8 rfl ?_
    refine x_icmp_ge hh dX5_skipBlanks_8 38 rfl 11 rfl (fun hc1 => ?_) (fun hc1 => ?_)
    · have hf := t_pos hc1 hf
      exact Z_X5_skipBlanks_38 hX hh hr  st hf
    · have hf := t_neg hc1 hf
      refine x_aload_n hh dX5_skipBlanks_11 rfl 0 rfl 12 rfl ?_
      refine x_getR hh cl_5 dX5_skipBlanks_12 sh_23 4 32 rfl (Nat.le_of_ble_eq_true rfl) wd_211 15 rfl ?_
      refine x_aload_n hh dX5_skipBlanks_15 rfl 0 rfl 16 rfl ?_
      refine x_getI hh cl_5 dX5_skipBlanks_16 sh_23 5 rfl (Nat.le_of_ble_eq_true rfl) wd_212 19 rfl ?_
      obtain ⟨hi2, hf⟩ := gi_some hf
      refine x_baload hh dX5_skipBlanks_19 sh_32 hi2 20 rfl ?_
      refine x_bipush hh dX5_skipBlanks_20 32 rfl 22 rfl ?_
      refine x_icmp_ne hh dX5_skipBlanks_22 38 rfl 25 rfl (fun hc3 => ?_) (fun hc3 => ?_)
      · have hf := t_neg hc3 hf
        exact Z_X5_skipBlanks_38 hX hh hr  st hf
      · have hf := t_pos hc3 hf
        refine x_aload_n hh dX5_skipBlanks_25 rfl 0 rfl 26 rfl ?_
        refine x_dup hh dX5_skipBlanks_26 rfl 27 rfl ?_
        refine x_getI hh cl_5 dX5_skipBlanks_27 sh_23 5 rfl (Nat.le_of_ble_eq_true rfl) wd_212 30 rfl ?_
        refine x_iconst hh dX5_skipBlanks_30 1 rfl 31 rfl ?_
        refine x_iadd hh dX5_skipBlanks_31 32 rfl ?_
        obtain ⟨st4, est4, hf⟩ := bs_some hf
        refine x_putI hh cl_5 dX5_skipBlanks_32 sh_23 5 rfl (Nat.le_of_ble_eq_true rfl) wd_212 rfl rfl rfl 35 rfl st4 est4 ?_
        refine x_goto hh dX5_skipBlanks_35 0 rfl ?_
        exact ih st4 hf
def F_X5_skipBlanks (st : St) : Option (St) := F_X5_skipBlanks_0  fN st
set_option maxRecDepth 100000 in
theorem C_X5_skipBlanks (l : Launch) {X : Cx} (hX : Ok X) {st : St} {q : St} (hf : F_X5_skipBlanks st = some q) : Ct l X 0 yX5_skipBlanks (.code yX5_skipBlanks cX5_skipBlanks 1 (none)) [.ref (X.2.1 23)] st none q := by
  refine Ct.of hX (by decide) (Nat.le_of_ble_eq_true rfl) ?_
  intro p e s m args below meth c hh hr
  exact Z_X5_skipBlanks_0 hX hh hr fN st hf

def F_X5_takeSign_40 (st : St) : Option (Int32 × St) := some (0, st)
set_option maxRecDepth 100000 in
set_option maxHeartbeats 4000000 in
theorem Z_X5_takeSign_40 {l : Launch} {X : Cx} (hX : Ok X) {p : Program} {e : Env} {s : State} {m : MethodId} {args : Array Value} {below : List Frame} {meth : Method} {c : Code} {rr : Int32} {st' : St} (hh : Hy X p s m args meth c cX5_takeSign 2 RX5) (hr : meth.sig.returnType = some .boolean) (st : St) (hf : F_X5_takeSign_40 st = some (rr, st')) : Z X p l e (rmk 1) s m args below meth c 2 (MQ below (Qf X (some (.int rr)) st') args s 0 0 (cA X)) 40 [(0, .ref (X.2.1 23))] [] st := by
  unfold F_X5_takeSign_40 at hf
  refine x_iconst hh dX5_takeSign_40 0 rfl 41 rfl ?_
  obtain ⟨rfl, rfl⟩ := ret2 hf
  exact x_zret hh hr rfl dX5_takeSign_41
def F_X5_takeSign_0 (v1 : Int32) (st : St) : Option (Int32 × St) := (F_X5_skipBlanks st).bind (fun q1 => if (q1.1 23 1) ≤ (q1.1 23 5) then F_X5_takeSign_40 q1 else gi (q1.1 23 5) 500 (if (q1.1 32 (q1.1 23 5).toNatClampNeg) = v1 then bs (sV q1 23 5 ((q1.1 23 5) + 1)) (fun st5 => some (1, st5)) else F_X5_takeSign_40 q1))
set_option maxRecDepth 100000 in
set_option maxHeartbeats 4000000 in
theorem Z_X5_takeSign_0 {l : Launch} {X : Cx} (hX : Ok X) {p : Program} {e : Env} {s : State} {m : MethodId} {args : Array Value} {below : List Frame} {meth : Method} {c : Code} {rr : Int32} {st' : St} (hh : Hy X p s m args meth c cX5_takeSign 2 RX5) (hr : meth.sig.returnType = some .boolean) (v1 : Int32) (st : St) (hf : F_X5_takeSign_0 v1 st = some (rr, st')) : Z X p l e (rmk 1) s m args below meth c 2 (MQ below (Qf X (some (.int rr)) st') args s 0 0 (cA X)) 0 [(0, .ref (X.2.1 23)), (1, .int v1)] [] st := by
  unfold F_X5_takeSign_0 at hf
  refine x_aload_n hh dX5_takeSign_0 rfl 0 rfl 1 rfl ?_
  obtain ⟨q1, hq1, hf⟩ := b_some hf
  refine x_callV (rest := []) hh mi_X5_skipBlanks [] dX5_takeSign_1 sh_23 wd_338 (C_X5_skipBlanks l hX  hq1) rfl rfl ⟨Nat.le_of_ble_eq_true rfl, Nat.le_of_ble_eq_true rfl⟩ (Nat.le_of_ble_eq_true rfl) 4 rfl [] rfl ?_
  refine x_aload_n hh dX5_takeSign_4 rfl 0 rfl 5 rfl ?_
  refine x_getI hh cl_5 dX5_takeSign_5 sh_23 5 rfl (Nat.le_of_ble_eq_true rfl) wd_212 8 rfl ?_
  refine x_aload_n hh dX5_takeSign_8 rfl 0 rfl 9 rfl ?_
  refine x_getI hh cl_5 dX5_takeSign_9 sh_23 1 rfl (Nat.le_of_ble_eq_true rfl) wd_205 12 rfl ?_
  refine x_icmp_ge hh dX5_takeSign_12 40 rfl 15 rfl (fun hc2 => ?_) (fun hc2 => ?_)
  · have hf := t_pos hc2 hf
    refine x_sub (lv' := [(0, .ref (X.2.1 23))]) [0] rfl ?_
    exact Z_X5_takeSign_40 hX hh hr  q1 hf
  · have hf := t_neg hc2 hf
    refine x_aload_n hh dX5_takeSign_15 rfl 0 rfl 16 rfl ?_
    refine x_getR hh cl_5 dX5_takeSign_16 sh_23 4 32 rfl (Nat.le_of_ble_eq_true rfl) wd_211 19 rfl ?_
    refine x_aload_n hh dX5_takeSign_19 rfl 0 rfl 20 rfl ?_
    refine x_getI hh cl_5 dX5_takeSign_20 sh_23 5 rfl (Nat.le_of_ble_eq_true rfl) wd_212 23 rfl ?_
    obtain ⟨hi3, hf⟩ := gi_some hf
    refine x_baload hh dX5_takeSign_23 sh_32 hi3 24 rfl ?_
    refine x_iload_n hh dX5_takeSign_24 rfl 1 rfl 25 rfl ?_
    refine x_icmp_ne hh dX5_takeSign_25 40 rfl 28 rfl (fun hc4 => ?_) (fun hc4 => ?_)
    · have hf := t_neg hc4 hf
      refine x_sub (lv' := [(0, .ref (X.2.1 23))]) [0] rfl ?_
      exact Z_X5_takeSign_40 hX hh hr  q1 hf
    · have hf := t_pos hc4 hf
      refine x_aload_n hh dX5_takeSign_28 rfl 0 rfl 29 rfl ?_
      refine x_dup hh dX5_takeSign_29 rfl 30 rfl ?_
      refine x_getI hh cl_5 dX5_takeSign_30 sh_23 5 rfl (Nat.le_of_ble_eq_true rfl) wd_212 33 rfl ?_
      refine x_iconst hh dX5_takeSign_33 1 rfl 34 rfl ?_
      refine x_iadd hh dX5_takeSign_34 35 rfl ?_
      obtain ⟨st5, est5, hf⟩ := bs_some hf
      refine x_putI hh cl_5 dX5_takeSign_35 sh_23 5 rfl (Nat.le_of_ble_eq_true rfl) wd_212 rfl rfl rfl 38 rfl st5 est5 ?_
      refine x_iconst hh dX5_takeSign_38 1 rfl 39 rfl ?_
      obtain ⟨rfl, rfl⟩ := ret2 hf
      exact x_zret hh hr rfl dX5_takeSign_39
def F_X5_takeSign (v1 : Int32) (st : St) : Option (Int32 × St) := F_X5_takeSign_0  v1 st
set_option maxRecDepth 100000 in
theorem C_X5_takeSign (l : Launch) {X : Cx} (hX : Ok X) {v1 : Int32} {st : St} {q : Int32 × St} (hf : F_X5_takeSign v1 st = some q) : Ct l X 1 yX5_takeSign (.code yX5_takeSign cX5_takeSign 2 (some .boolean)) [.ref (X.2.1 23), .int v1] st (some (.int q.1)) q.2 := by
  refine Ct.of hX (by decide) (Nat.le_of_ble_eq_true rfl) ?_
  intro p e s m args below meth c hh hr
  exact Z_X5_takeSign_0 hX hh hr v1 st hf

def F_X5_readEnd_26 (t0 : Int32) (st : St) : Option (Int32 × St) := gb t0 (some (t0, st))
set_option maxRecDepth 100000 in
set_option maxHeartbeats 4000000 in
theorem Z_X5_readEnd_26 {l : Launch} {X : Cx} (hX : Ok X) {p : Program} {e : Env} {s : State} {m : MethodId} {args : Array Value} {below : List Frame} {meth : Method} {c : Code} {rr : Int32} {st' : St} (hh : Hy X p s m args meth c cX5_readEnd 1 RX5) (hr : meth.sig.returnType = some .boolean) (t0 : Int32) (st : St) (hf : F_X5_readEnd_26 t0 st = some (rr, st')) : Z X p l e (rmk 2) s m args below meth c 1 (MQ below (Qf X (some (.int rr)) st') args s 0 0 (cA X)) 26 [(0, .ref (X.2.1 23))] [.int t0] st := by
  unfold F_X5_readEnd_26 at hf
  obtain ⟨hb5, hf⟩ := gb_some hf
  obtain ⟨rfl, rfl⟩ := ret2 hf
  exact x_zret hh hr (nb_n hb5) dX5_readEnd_26
def F_X5_readEnd_21 (st : St) : Option (Int32 × St) := F_X5_readEnd_26 1 st
set_option maxRecDepth 100000 in
set_option maxHeartbeats 4000000 in
theorem Z_X5_readEnd_21 {l : Launch} {X : Cx} (hX : Ok X) {p : Program} {e : Env} {s : State} {m : MethodId} {args : Array Value} {below : List Frame} {meth : Method} {c : Code} {rr : Int32} {st' : St} (hh : Hy X p s m args meth c cX5_readEnd 1 RX5) (hr : meth.sig.returnType = some .boolean) (st : St) (hf : F_X5_readEnd_21 st = some (rr, st')) : Z X p l e (rmk 2) s m args below meth c 1 (MQ below (Qf X (some (.int rr)) st') args s 0 0 (cA X)) 21 [(0, .ref (X.2.1 23))] [] st := by
  unfold F_X5_readEnd_21 at hf
  refine x_iconst hh dX5_readEnd_21 1 rfl 22 rfl ?_
  refine x_goto hh dX5_readEnd_22 26 rfl ?_
  exact Z_X5_readEnd_26 hX hh hr  1 st hf
def F_X5_readEnd_0 (st : St) : Option (Int32 × St) := (F_X5_takeSign 59 st).bind (fun q1 => if q1.1 = 0 then (F_X5_isFault 1 (q1.2.1 23 5) q1.2).bind (fun q3 => if q3.1 = 0 then F_X5_readEnd_26 0 q3.2 else F_X5_readEnd_21 q3.2) else F_X5_readEnd_21 q1.2)
set_option maxRecDepth 100000 in
set_option maxHeartbeats 4000000 in
theorem Z_X5_readEnd_0 {l : Launch} {X : Cx} (hX : Ok X) {p : Program} {e : Env} {s : State} {m : MethodId} {args : Array Value} {below : List Frame} {meth : Method} {c : Code} {rr : Int32} {st' : St} (hh : Hy X p s m args meth c cX5_readEnd 1 RX5) (hr : meth.sig.returnType = some .boolean) (st : St) (hf : F_X5_readEnd_0 st = some (rr, st')) : Z X p l e (rmk 2) s m args below meth c 1 (MQ below (Qf X (some (.int rr)) st') args s 0 0 (cA X)) 0 [(0, .ref (X.2.1 23))] [] st := by
  unfold F_X5_readEnd_0 at hf
  refine x_aload_n hh dX5_readEnd_0 rfl 0 rfl 1 rfl ?_
  refine x_bipush hh dX5_readEnd_1 59 rfl 3 rfl ?_
  obtain ⟨q1, hq1, hf⟩ := b_some hf
  refine x_callV (rest := []) hh mi_X5_takeSign [.int 59] dX5_readEnd_3 sh_23 wd_399 (C_X5_takeSign l hX  hq1) rfl rfl ⟨Nat.le_of_ble_eq_true rfl, Nat.le_of_ble_eq_true rfl⟩ (Nat.le_of_ble_eq_true rfl) 6 rfl [.int q1.1] rfl ?_
  refine x_if_ne hh dX5_readEnd_6 21 rfl 9 rfl (fun hc2 => ?_) (fun hc2 => ?_)
  · have hf := t_neg hc2 hf
    exact Z_X5_readEnd_21 hX hh hr  q1.2 hf
  · have hf := t_pos hc2 hf
    refine x_aload_n hh dX5_readEnd_9 rfl 0 rfl 10 rfl ?_
    refine x_iconst hh dX5_readEnd_10 1 rfl 11 rfl ?_
    refine x_aload_n hh dX5_readEnd_11 rfl 0 rfl 12 rfl ?_
    refine x_getI hh cl_5 dX5_readEnd_12 sh_23 5 rfl (Nat.le_of_ble_eq_true rfl) wd_212 15 rfl ?_
    obtain ⟨q3, hq3, hf⟩ := b_some hf
    refine x_callV (rest := []) hh mi_X5_isFault [.int 1, .int (q1.2.1 23 5)] dX5_readEnd_15 sh_23 wd_396 (C_X5_isFault l hX  hq3) rfl rfl ⟨Nat.le_of_ble_eq_true rfl, Nat.le_of_ble_eq_true rfl⟩ (Nat.le_of_ble_eq_true rfl) 18 rfl [.int q3.1] rfl ?_
    refine x_if_eq hh dX5_readEnd_18 25 rfl 21 rfl (fun hc4 => ?_) (fun hc4 => ?_)
    · have hf := t_pos hc4 hf
      refine x_iconst hh dX5_readEnd_25 0 rfl 26 rfl ?_
      exact Z_X5_readEnd_26 hX hh hr  0 q3.2 hf
    · have hf := t_neg hc4 hf
      exact Z_X5_readEnd_21 hX hh hr  q3.2 hf
def F_X5_readEnd (st : St) : Option (Int32 × St) := F_X5_readEnd_0  st
set_option maxRecDepth 100000 in
theorem C_X5_readEnd (l : Launch) {X : Cx} (hX : Ok X) {st : St} {q : Int32 × St} (hf : F_X5_readEnd st = some q) : Ct l X 2 yX5_readEnd (.code yX5_readEnd cX5_readEnd 1 (some .boolean)) [.ref (X.2.1 23)] st (some (.int q.1)) q.2 := by
  refine Ct.of hX (by decide) (Nat.le_of_ble_eq_true rfl) ?_
  intro p e s m args below meth c hh hr
  exact Z_X5_readEnd_0 hX hh hr st hf

def F_X5_readNumber_93 (k17 : Int32 → Int32 → St → Option (Int32 × St)) (v1 : Int32) (v2 : Int32) (st : St) : Option (Int32 × St) := bs (sV st 23 5 ((st.1 23 5) + 1)) (fun st12 => k17 v1 v2 st12)
set_option maxRecDepth 100000 in
set_option maxHeartbeats 4000000 in
theorem Z_X5_readNumber_93 {l : Launch} {X : Cx} (hX : Ok X) {p : Program} {e : Env} {s : State} {m : MethodId} {args : Array Value} {below : List Frame} {meth : Method} {c : Code} {rr : Int32} {st' : St} (hh : Hy X p s m args meth c cX5_readNumber 3 RX5) (hr : meth.sig.returnType = some .boolean) {k17 : Int32 → Int32 → St → Option (Int32 × St)} (hk17 : ∀ (v1 : Int32) (v2 : Int32) (st : St), k17 v1 v2 st = some (rr, st') → Z X p l e (rmk 1) s m args below meth c 3 (MQ below (Qf X (some (.int rr)) st') args s 0 0 (cA X)) 17 [(0, .ref (X.2.1 23)), (1, .int v1), (2, .int v2)] [] st) (v1 : Int32) (v2 : Int32) (st : St) (hf : F_X5_readNumber_93 k17 v1 v2 st = some (rr, st')) : Z X p l e (rmk 1) s m args below meth c 3 (MQ below (Qf X (some (.int rr)) st') args s 0 0 (cA X)) 93 [(0, .ref (X.2.1 23)), (1, .int v1), (2, .int v2)] [] st := by
  unfold F_X5_readNumber_93 at hf
  refine x_aload_n hh dX5_readNumber_93 rfl 0 rfl 94 rfl ?_
  refine x_dup hh dX5_readNumber_94 rfl 95 rfl ?_
  refine x_getI hh cl_5 dX5_readNumber_95 sh_23 5 rfl (Nat.le_of_ble_eq_true rfl) wd_212 98 rfl ?_
  refine x_iconst hh dX5_readNumber_98 1 rfl 99 rfl ?_
  refine x_iadd hh dX5_readNumber_99 100 rfl ?_
  obtain ⟨st12, est12, hf⟩ := bs_some hf
  refine x_putI hh cl_5 dX5_readNumber_100 sh_23 5 rfl (Nat.le_of_ble_eq_true rfl) wd_212 rfl rfl rfl 103 rfl st12 est12 ?_
  refine x_goto hh dX5_readNumber_103 17 rfl ?_
  exact hk17 v1 v2 st12 hf
def F_X5_readNumber_156 (st : St) : Option (Int32 × St) := (F_X5_isFault 2 (st.1 23 6) st).bind (fun q19 => gb q19.1 (some (q19.1, q19.2)))
set_option maxRecDepth 100000 in
set_option maxHeartbeats 4000000 in
theorem Z_X5_readNumber_156 {l : Launch} {X : Cx} (hX : Ok X) {p : Program} {e : Env} {s : State} {m : MethodId} {args : Array Value} {below : List Frame} {meth : Method} {c : Code} {rr : Int32} {st' : St} (hh : Hy X p s m args meth c cX5_readNumber 3 RX5) (hr : meth.sig.returnType = some .boolean) (st : St) (hf : F_X5_readNumber_156 st = some (rr, st')) : Z X p l e (rmk 1) s m args below meth c 3 (MQ below (Qf X (some (.int rr)) st') args s 0 0 (cA X)) 156 [(0, .ref (X.2.1 23))] [] st := by
  unfold F_X5_readNumber_156 at hf
  refine x_aload_n hh dX5_readNumber_156 rfl 0 rfl 157 rfl ?_
  refine x_iconst hh dX5_readNumber_157 2 rfl 158 rfl ?_
  refine x_aload_n hh dX5_readNumber_158 rfl 0 rfl 159 rfl ?_
  refine x_getI hh cl_5 dX5_readNumber_159 sh_23 6 rfl (Nat.le_of_ble_eq_true rfl) wd_213 162 rfl ?_
  obtain ⟨q19, hq19, hf⟩ := b_some hf
  refine x_callV (rest := []) hh mi_X5_isFault [.int 2, .int (st.1 23 6)] dX5_readNumber_162 sh_23 wd_396 (C_X5_isFault l hX  hq19) rfl rfl ⟨Nat.le_of_ble_eq_true rfl, Nat.le_of_ble_eq_true rfl⟩ (Nat.le_of_ble_eq_true rfl) 165 rfl [.int q19.1] rfl ?_
  obtain ⟨hb20, hf⟩ := gb_some hf
  obtain ⟨rfl, rfl⟩ := ret2 hf
  exact x_zret hh hr (nb_n hb20) dX5_readNumber_165
def F_X5_readNumber_106 (v1 : Int32) (v2 : Int32) (st : St) : Option (Int32 × St) := if (st.1 23 5) = (st.1 23 6) then (F_X5_isFault 1 (st.1 23 5) st).bind (fun q17 => gb q17.1 (some (q17.1, q17.2))) else if (3 : Int32) < ((st.1 23 5) - (st.1 23 6)) then F_X5_readNumber_156 st else if (st.1 23 7) < v1 then F_X5_readNumber_156 st else if (st.1 23 7) ≤ v2 then some (1, st) else F_X5_readNumber_156 st
set_option maxRecDepth 100000 in
set_option maxHeartbeats 4000000 in
theorem Z_X5_readNumber_106 {l : Launch} {X : Cx} (hX : Ok X) {p : Program} {e : Env} {s : State} {m : MethodId} {args : Array Value} {below : List Frame} {meth : Method} {c : Code} {rr : Int32} {st' : St} (hh : Hy X p s m args meth c cX5_readNumber 3 RX5) (hr : meth.sig.returnType = some .boolean) (v1 : Int32) (v2 : Int32) (st : St) (hf : F_X5_readNumber_106 v1 v2 st = some (rr, st')) : Z X p l e (rmk 1) s m args below meth c 3 (MQ below (Qf X (some (.int rr)) st') args s 0 0 (cA X)) 106 [(0, .ref (X.2.1 23)), (1, .int v1), (2, .int v2)] [] st := by
  unfold F_X5_readNumber_106 at hf
  refine x_aload_n hh dX5_readNumber_106 rfl 0 rfl 107 rfl ?_
  refine x_getI hh cl_5 dX5_readNumber_107 sh_23 5 rfl (Nat.le_of_ble_eq_true rfl) wd_212 110 rfl ?_
  refine x_aload_n hh dX5_readNumber_110 rfl 0 rfl 111 rfl ?_
  refine x_getI hh cl_5 dX5_readNumber_111 sh_23 6 rfl (Nat.le_of_ble_eq_true rfl) wd_213 114 rfl ?_
  refine x_icmp_ne hh dX5_readNumber_114 127 rfl 117 rfl (fun hc13 => ?_) (fun hc13 => ?_)
  · have hf := t_neg hc13 hf
    refine x_aload_n hh dX5_readNumber_127 rfl 0 rfl 128 rfl ?_
    refine x_getI hh cl_5 dX5_readNumber_128 sh_23 5 rfl (Nat.le_of_ble_eq_true rfl) wd_212 131 rfl ?_
    refine x_aload_n hh dX5_readNumber_131 rfl 0 rfl 132 rfl ?_
    refine x_getI hh cl_5 dX5_readNumber_132 sh_23 6 rfl (Nat.le_of_ble_eq_true rfl) wd_213 135 rfl ?_
    refine x_isub hh dX5_readNumber_135 136 rfl ?_
    refine x_iconst hh dX5_readNumber_136 3 rfl 137 rfl ?_
    refine x_icmp_gt hh dX5_readNumber_137 156 rfl 140 rfl (fun hc14 => ?_) (fun hc14 => ?_)
    · have hf := t_pos hc14 hf
      refine x_sub (lv' := [(0, .ref (X.2.1 23))]) [0] rfl ?_
      exact Z_X5_readNumber_156 hX hh hr  st hf
    · have hf := t_neg hc14 hf
      refine x_aload_n hh dX5_readNumber_140 rfl 0 rfl 141 rfl ?_
      refine x_getI hh cl_5 dX5_readNumber_141 sh_23 7 rfl (Nat.le_of_ble_eq_true rfl) wd_214 144 rfl ?_
      refine x_iload_n hh dX5_readNumber_144 rfl 1 rfl 145 rfl ?_
      refine x_icmp_lt hh dX5_readNumber_145 156 rfl 148 rfl (fun hc15 => ?_) (fun hc15 => ?_)
      · have hf := t_pos hc15 hf
        refine x_sub (lv' := [(0, .ref (X.2.1 23))]) [0] rfl ?_
        exact Z_X5_readNumber_156 hX hh hr  st hf
      · have hf := t_neg hc15 hf
        refine x_aload_n hh dX5_readNumber_148 rfl 0 rfl 149 rfl ?_
        refine x_getI hh cl_5 dX5_readNumber_149 sh_23 7 rfl (Nat.le_of_ble_eq_true rfl) wd_214 152 rfl ?_
        refine x_iload_n hh dX5_readNumber_152 rfl 2 rfl 153 rfl ?_
        refine x_icmp_le hh dX5_readNumber_153 166 rfl 156 rfl (fun hc16 => ?_) (fun hc16 => ?_)
        · have hf := t_pos hc16 hf
          refine x_iconst hh dX5_readNumber_166 1 rfl 167 rfl ?_
          obtain ⟨rfl, rfl⟩ := ret2 hf
          exact x_zret hh hr rfl dX5_readNumber_167
        · have hf := t_neg hc16 hf
          refine x_sub (lv' := [(0, .ref (X.2.1 23))]) [0] rfl ?_
          exact Z_X5_readNumber_156 hX hh hr  st hf
  · have hf := t_pos hc13 hf
    refine x_aload_n hh dX5_readNumber_117 rfl 0 rfl 118 rfl ?_
    refine x_iconst hh dX5_readNumber_118 1 rfl 119 rfl ?_
    refine x_aload_n hh dX5_readNumber_119 rfl 0 rfl 120 rfl ?_
    refine x_getI hh cl_5 dX5_readNumber_120 sh_23 5 rfl (Nat.le_of_ble_eq_true rfl) wd_212 123 rfl ?_
    obtain ⟨q17, hq17, hf⟩ := b_some hf
    refine x_callV (rest := []) hh mi_X5_isFault [.int 1, .int (st.1 23 5)] dX5_readNumber_123 sh_23 wd_396 (C_X5_isFault l hX  hq17) rfl rfl ⟨Nat.le_of_ble_eq_true rfl, Nat.le_of_ble_eq_true rfl⟩ (Nat.le_of_ble_eq_true rfl) 126 rfl [.int q17.1] rfl ?_
    obtain ⟨hb18, hf⟩ := gb_some hf
    obtain ⟨rfl, rfl⟩ := ret2 hf
    exact x_zret hh hr (nb_n hb18) dX5_readNumber_126
def F_X5_readNumber_17 : Nat → Int32 → Int32 → St → Option (Int32 × St)
  | 0, _, _, _ => none
  | n + 1, v1, v2, st => if (st.1 23 1) ≤ (st.1 23 5) then F_X5_readNumber_106 v1 v2 st else gi (st.1 23 5) 500 (if (st.1 32 (st.1 23 5).toNatClampNeg) < 48 then F_X5_readNumber_106 v1 v2 st else gi (st.1 23 5) 500 (if (57 : Int32) < (st.1 32 (st.1 23 5).toNatClampNeg) then F_X5_readNumber_106 v1 v2 st else if (3 : Int32) ≤ ((st.1 23 5) - (st.1 23 6)) then F_X5_readNumber_93 (F_X5_readNumber_17 n) v1 v2 st else gi (st.1 23 5) 500 (bs (sV st 23 7 ((((st.1 23 7) * 10) + (st.1 32 (st.1 23 5).toNatClampNeg)) - 48)) (fun st11 => F_X5_readNumber_93 (F_X5_readNumber_17 n) v1 v2 st11))))
set_option maxRecDepth 100000 in
set_option maxHeartbeats 4000000 in
theorem Z_X5_readNumber_17 {l : Launch} {X : Cx} (hX : Ok X) {p : Program} {e : Env} {s : State} {m : MethodId} {args : Array Value} {below : List Frame} {meth : Method} {c : Code} {rr : Int32} {st' : St} (hh : Hy X p s m args meth c cX5_readNumber 3 RX5) (hr : meth.sig.returnType = some .boolean) : ∀ (n : Nat) (v1 : Int32) (v2 : Int32) (st : St), F_X5_readNumber_17 n v1 v2 st = some (rr, st') → Z X p l e (rmk 1) s m args below meth c 3 (MQ below (Qf X (some (.int rr)) st') args s 0 0 (cA X)) 17 [(0, .ref (X.2.1 23)), (1, .int v1), (2, .int v2)] [] st := by
  intro n
  induction n with
  | zero =>
    intro v1 v2 st hf
    cases hf
  | succ n ih =>
    intro v1 v2 st hf
    rw [F_X5_readNumber_17] at hf
    refine x_aload_n hh dX5_readNumber_17 rfl 0 rfl 18 rfl ?_
    refine x_getI hh cl_5 dX5_readNumber_18 sh_23 5 rfl (Nat.le_of_ble_eq_true rfl) wd_212 21 rfl ?_
    refine x_aload_n hh dX5_readNumber_21 rfl 0 rfl 22 rfl ?_
    refine x_getI hh cl_5 dX5_readNumber_22 sh_23 1 rfl (Nat.le_of_ble_eq_true rfl) wd_205 25 rfl ?_
    refine x_icmp_ge hh dX5_readNumber_25 106 rfl 28 rfl (fun hc4 => ?_) (fun hc4 => ?_)
    · have hf := t_pos hc4 hf
      exact Z_X5_readNumber_106 hX hh hr  v1 v2 st hf
    · have hf := t_neg hc4 hf
      refine x_aload_n hh dX5_readNumber_28 rfl 0 rfl 29 rfl ?_
      refine x_getR hh cl_5 dX5_readNumber_29 sh_23 4 32 rfl (Nat.le_of_ble_eq_true rfl) wd_211 32 rfl ?_
      refine x_aload_n hh dX5_readNumber_32 rfl 0 rfl 33 rfl ?_
      refine x_getI hh cl_5 dX5_readNumber_33 sh_23 5 rfl (Nat.le_of_ble_eq_true rfl) wd_212 36 rfl ?_
      obtain ⟨hi5, hf⟩ := gi_some hf
      refine x_baload hh dX5_readNumber_36 sh_32 hi5 37 rfl ?_
      refine x_bipush hh dX5_readNumber_37 48 rfl 39 rfl ?_
      refine x_icmp_lt hh dX5_readNumber_39 106 rfl 42 rfl (fun hc6 => ?_) (fun hc6 => ?_)
      · have hf := t_pos hc6 hf
        exact Z_X5_readNumber_106 hX hh hr  v1 v2 st hf
      · have hf := t_neg hc6 hf
        refine x_aload_n hh dX5_readNumber_42 rfl 0 rfl 43 rfl ?_
        refine x_getR hh cl_5 dX5_readNumber_43 sh_23 4 32 rfl (Nat.le_of_ble_eq_true rfl) wd_211 46 rfl ?_
        refine x_aload_n hh dX5_readNumber_46 rfl 0 rfl 47 rfl ?_
        refine x_getI hh cl_5 dX5_readNumber_47 sh_23 5 rfl (Nat.le_of_ble_eq_true rfl) wd_212 50 rfl ?_
        obtain ⟨hi7, hf⟩ := gi_some hf
        refine x_baload hh dX5_readNumber_50 sh_32 hi7 51 rfl ?_
        refine x_bipush hh dX5_readNumber_51 57 rfl 53 rfl ?_
        refine x_icmp_gt hh dX5_readNumber_53 106 rfl 56 rfl (fun hc8 => ?_) (fun hc8 => ?_)
        · have hf := t_pos hc8 hf
          exact Z_X5_readNumber_106 hX hh hr  v1 v2 st hf
        · have hf := t_neg hc8 hf
          refine x_aload_n hh dX5_readNumber_56 rfl 0 rfl 57 rfl ?_
          refine x_getI hh cl_5 dX5_readNumber_57 sh_23 5 rfl (Nat.le_of_ble_eq_true rfl) wd_212 60 rfl ?_
          refine x_aload_n hh dX5_readNumber_60 rfl 0 rfl 61 rfl ?_
          refine x_getI hh cl_5 dX5_readNumber_61 sh_23 6 rfl (Nat.le_of_ble_eq_true rfl) wd_213 64 rfl ?_
          refine x_isub hh dX5_readNumber_64 65 rfl ?_
          refine x_iconst hh dX5_readNumber_65 3 rfl 66 rfl ?_
          refine x_icmp_ge hh dX5_readNumber_66 93 rfl 69 rfl (fun hc9 => ?_) (fun hc9 => ?_)
          · have hf := t_pos hc9 hf
            exact Z_X5_readNumber_93 hX hh hr ih  v1 v2 st hf
          · have hf := t_neg hc9 hf
            refine x_aload_n hh dX5_readNumber_69 rfl 0 rfl 70 rfl ?_
            refine x_aload_n hh dX5_readNumber_70 rfl 0 rfl 71 rfl ?_
            refine x_getI hh cl_5 dX5_readNumber_71 sh_23 7 rfl (Nat.le_of_ble_eq_true rfl) wd_214 74 rfl ?_
            refine x_bipush hh dX5_readNumber_74 10 rfl 76 rfl ?_
            refine x_imul hh dX5_readNumber_76 77 rfl ?_
            refine x_aload_n hh dX5_readNumber_77 rfl 0 rfl 78 rfl ?_
            refine x_getR hh cl_5 dX5_readNumber_78 sh_23 4 32 rfl (Nat.le_of_ble_eq_true rfl) wd_211 81 rfl ?_
            refine x_aload_n hh dX5_readNumber_81 rfl 0 rfl 82 rfl ?_
            refine x_getI hh cl_5 dX5_readNumber_82 sh_23 5 rfl (Nat.le_of_ble_eq_true rfl) wd_212 85 rfl ?_
            obtain ⟨hi10, hf⟩ := gi_some hf
            refine x_baload hh dX5_readNumber_85 sh_32 hi10 86 rfl ?_
            refine x_iadd hh dX5_readNumber_86 87 rfl ?_
            refine x_bipush hh dX5_readNumber_87 48 rfl 89 rfl ?_
            refine x_isub hh dX5_readNumber_89 90 rfl ?_
            obtain ⟨st11, est11, hf⟩ := bs_some hf
            refine x_putI hh cl_5 dX5_readNumber_90 sh_23 7 rfl (Nat.le_of_ble_eq_true rfl) wd_214 rfl rfl rfl 93 rfl st11 est11 ?_
            exact Z_X5_readNumber_93 hX hh hr ih  v1 v2 st11 hf
def F_X5_readNumber_0 (v1 : Int32) (v2 : Int32) (st : St) : Option (Int32 × St) := (F_X5_skipBlanks st).bind (fun q1 => bs (sV q1 23 6 (q1.1 23 5)) (fun st2 => bs (sV st2 23 7 0) (fun st3 => F_X5_readNumber_17 fN v1 v2 st3)))
set_option maxRecDepth 100000 in
set_option maxHeartbeats 4000000 in
theorem Z_X5_readNumber_0 {l : Launch} {X : Cx} (hX : Ok X) {p : Program} {e : Env} {s : State} {m : MethodId} {args : Array Value} {below : List Frame} {meth : Method} {c : Code} {rr : Int32} {st' : St} (hh : Hy X p s m args meth c cX5_readNumber 3 RX5) (hr : meth.sig.returnType = some .boolean) (v1 : Int32) (v2 : Int32) (st : St) (hf : F_X5_readNumber_0 v1 v2 st = some (rr, st')) : Z X p l e (rmk 1) s m args below meth c 3 (MQ below (Qf X (some (.int rr)) st') args s 0 0 (cA X)) 0 [(0, .ref (X.2.1 23)), (1, .int v1), (2, .int v2)] [] st := by
  unfold F_X5_readNumber_0 at hf
  refine x_aload_n hh dX5_readNumber_0 rfl 0 rfl 1 rfl ?_
  obtain ⟨q1, hq1, hf⟩ := b_some hf
  refine x_callV (rest := []) hh mi_X5_skipBlanks [] dX5_readNumber_1 sh_23 wd_338 (C_X5_skipBlanks l hX  hq1) rfl rfl ⟨Nat.le_of_ble_eq_true rfl, Nat.le_of_ble_eq_true rfl⟩ (Nat.le_of_ble_eq_true rfl) 4 rfl [] rfl ?_
  refine x_aload_n hh dX5_readNumber_4 rfl 0 rfl 5 rfl ?_
  refine x_aload_n hh dX5_readNumber_5 rfl 0 rfl 6 rfl ?_
  refine x_getI hh cl_5 dX5_readNumber_6 sh_23 5 rfl (Nat.le_of_ble_eq_true rfl) wd_212 9 rfl ?_
  obtain ⟨st2, est2, hf⟩ := bs_some hf
  refine x_putI hh cl_5 dX5_readNumber_9 sh_23 6 rfl (Nat.le_of_ble_eq_true rfl) wd_213 rfl rfl rfl 12 rfl st2 est2 ?_
  refine x_aload_n hh dX5_readNumber_12 rfl 0 rfl 13 rfl ?_
  refine x_iconst hh dX5_readNumber_13 0 rfl 14 rfl ?_
  obtain ⟨st3, est3, hf⟩ := bs_some hf
  refine x_putI hh cl_5 dX5_readNumber_14 sh_23 7 rfl (Nat.le_of_ble_eq_true rfl) wd_214 rfl rfl rfl 17 rfl st3 est3 ?_
  exact Z_X5_readNumber_17 hX hh hr fN v1 v2 st3 hf
def F_X5_readNumber (v1 : Int32) (v2 : Int32) (st : St) : Option (Int32 × St) := F_X5_readNumber_0  v1 v2 st
set_option maxRecDepth 100000 in
theorem C_X5_readNumber (l : Launch) {X : Cx} (hX : Ok X) {v1 : Int32} {v2 : Int32} {st : St} {q : Int32 × St} (hf : F_X5_readNumber v1 v2 st = some q) : Ct l X 1 yX5_readNumber (.code yX5_readNumber cX5_readNumber 3 (some .boolean)) [.ref (X.2.1 23), .int v1, .int v2] st (some (.int q.1)) q.2 := by
  refine Ct.of hX (by decide) (Nat.le_of_ble_eq_true rfl) ?_
  intro p e s m args below meth c hh hr
  exact Z_X5_readNumber_0 hX hh hr v1 v2 st hf

def F_X5_readFriends_65 (st : St) : Option (Int32 × St) := (F_X5_isFault 4 (st.1 23 6) st).bind (fun q17 => gb q17.1 (some (q17.1, q17.2)))
set_option maxRecDepth 100000 in
set_option maxHeartbeats 4000000 in
theorem Z_X5_readFriends_65 {l : Launch} {X : Cx} (hX : Ok X) {p : Program} {e : Env} {s : State} {m : MethodId} {args : Array Value} {below : List Frame} {meth : Method} {c : Code} {rr : Int32} {st' : St} (hh : Hy X p s m args meth c cX5_readFriends 3 RX5) (hr : meth.sig.returnType = some .boolean) (st : St) (hf : F_X5_readFriends_65 st = some (rr, st')) : Z X p l e (rmk 3) s m args below meth c 3 (MQ below (Qf X (some (.int rr)) st') args s 0 0 (cA X)) 65 [(0, .ref (X.2.1 23))] [] st := by
  unfold F_X5_readFriends_65 at hf
  refine x_aload_n hh dX5_readFriends_65 rfl 0 rfl 66 rfl ?_
  refine x_iconst hh dX5_readFriends_66 4 rfl 67 rfl ?_
  refine x_aload_n hh dX5_readFriends_67 rfl 0 rfl 68 rfl ?_
  refine x_getI hh cl_5 dX5_readFriends_68 sh_23 6 rfl (Nat.le_of_ble_eq_true rfl) wd_213 71 rfl ?_
  obtain ⟨q17, hq17, hf⟩ := b_some hf
  refine x_callV (rest := []) hh mi_X5_isFault [.int 4, .int (st.1 23 6)] dX5_readFriends_71 sh_23 wd_396 (C_X5_isFault l hX  hq17) rfl rfl ⟨Nat.le_of_ble_eq_true rfl, Nat.le_of_ble_eq_true rfl⟩ (Nat.le_of_ble_eq_true rfl) 74 rfl [.int q17.1] rfl ?_
  obtain ⟨hb18, hf⟩ := gb_some hf
  obtain ⟨rfl, rfl⟩ := ret2 hf
  exact x_zret hh hr (nb_n hb18) dX5_readFriends_74
def F_X5_readFriends_0 (st : St) : Option (Int32 × St) := (F_X5_readNumber 0 ((st.1 24 1) - 1) st).bind (fun q1 => if q1.1 = 0 then some (0, q1.2) else (F_X5_readNumber 0 ((q1.2.1 24 1) - 1) q1.2).bind (fun q3 => if q3.1 = 0 then some (0, q3.2) else if (q1.2.1 23 7) = (q3.2.1 23 7) then F_X5_readFriends_65 q3.2 else (F_X3_friendship 24 (q1.2.1 23 7) (q3.2.1 23 7) q3.2).bind (fun q6 => if q6.1 = 0 then (F_X5_readNumber 1 99 q6.2).bind (fun q8 => if q8.1 = 0 then some (0, q8.2) else gi (((q1.2.1 23 7) * 6) + (q3.2.1 23 7)) 36 (bs (sV q8.2 31 (((q1.2.1 23 7) * 6) + (q3.2.1 23 7)).toNatClampNeg (q8.2.1 23 7)) (fun st11 => gi (((q3.2.1 23 7) * 6) + (q1.2.1 23 7)) 36 (bs (sV st11 31 (((q3.2.1 23 7) * 6) + (q1.2.1 23 7)).toNatClampNeg (st11.1 23 7)) (fun st13 => bs (sV st13 24 2 ((st13.1 24 2) + 1)) (fun st14 => (F_X5_readEnd st14).bind (fun q15 => gb q15.1 (some (q15.1, q15.2))))))))) else F_X5_readFriends_65 q6.2)))
set_option maxRecDepth 100000 in
set_option maxHeartbeats 4000000 in
theorem Z_X5_readFriends_0 {l : Launch} {X : Cx} (hX : Ok X) {p : Program} {e : Env} {s : State} {m : MethodId} {args : Array Value} {below : List Frame} {meth : Method} {c : Code} {rr : Int32} {st' : St} (hh : Hy X p s m args meth c cX5_readFriends 3 RX5) (hr : meth.sig.returnType = some .boolean) (st : St) (hf : F_X5_readFriends_0 st = some (rr, st')) : Z X p l e (rmk 3) s m args below meth c 3 (MQ below (Qf X (some (.int rr)) st') args s 0 0 (cA X)) 0 [(0, .ref (X.2.1 23))] [] st := by
  unfold F_X5_readFriends_0 at hf
  refine x_aload_n hh dX5_readFriends_0 rfl 0 rfl 1 rfl ?_
  refine x_iconst hh dX5_readFriends_1 0 rfl 2 rfl ?_
  refine x_aload_n hh dX5_readFriends_2 rfl 0 rfl 3 rfl ?_
  refine x_getR hh cl_5 dX5_readFriends_3 sh_23 0 24 rfl (Nat.le_of_ble_eq_true rfl) wd_203 6 rfl ?_
  refine x_getI hh cl_3 dX5_readFriends_6 sh_24 1 rfl (Nat.le_of_ble_eq_true rfl) wd_114 9 rfl ?_
  refine x_iconst hh dX5_readFriends_9 1 rfl 10 rfl ?_
  refine x_isub hh dX5_readFriends_10 11 rfl ?_
  obtain ⟨q1, hq1, hf⟩ := b_some hf
  refine x_callV (rest := []) hh mi_X5_readNumber [.int 0, .int ((st.1 24 1) - 1)] dX5_readFriends_11 sh_23 wd_393 (C_X5_readNumber l hX  hq1) rfl rfl ⟨Nat.le_of_ble_eq_true rfl, Nat.le_of_ble_eq_true rfl⟩ (Nat.le_of_ble_eq_true rfl) 14 rfl [.int q1.1] rfl ?_
  refine x_if_ne hh dX5_readFriends_14 19 rfl 17 rfl (fun hc2 => ?_) (fun hc2 => ?_)
  · have hf := t_neg hc2 hf
    refine x_aload_n hh dX5_readFriends_19 rfl 0 rfl 20 rfl ?_
    refine x_getI hh cl_5 dX5_readFriends_20 sh_23 7 rfl (Nat.le_of_ble_eq_true rfl) wd_214 23 rfl ?_
    refine x_istore_n hh dX5_readFriends_23 rfl (by decide) [(1, .int (q1.2.1 23 7)), (0, .ref (X.2.1 23))] rfl 24 rfl ?_
    refine x_aload_n hh dX5_readFriends_24 rfl 1 rfl 25 rfl ?_
    refine x_iconst hh dX5_readFriends_25 0 rfl 26 rfl ?_
    refine x_aload_n hh dX5_readFriends_26 rfl 1 rfl 27 rfl ?_
    refine x_getR hh cl_5 dX5_readFriends_27 sh_23 0 24 rfl (Nat.le_of_ble_eq_true rfl) wd_203 30 rfl ?_
    refine x_getI hh cl_3 dX5_readFriends_30 sh_24 1 rfl (Nat.le_of_ble_eq_true rfl) wd_114 33 rfl ?_
    refine x_iconst hh dX5_readFriends_33 1 rfl 34 rfl ?_
    refine x_isub hh dX5_readFriends_34 35 rfl ?_
    obtain ⟨q3, hq3, hf⟩ := b_some hf
    refine x_callV (rest := []) hh mi_X5_readNumber [.int 0, .int ((q1.2.1 24 1) - 1)] dX5_readFriends_35 sh_23 wd_393 (C_X5_readNumber l hX  hq3) rfl rfl ⟨Nat.le_of_ble_eq_true rfl, Nat.le_of_ble_eq_true rfl⟩ (Nat.le_of_ble_eq_true rfl) 38 rfl [.int q3.1] rfl ?_
    refine x_if_ne hh dX5_readFriends_38 43 rfl 41 rfl (fun hc4 => ?_) (fun hc4 => ?_)
    · have hf := t_neg hc4 hf
      refine x_aload_n hh dX5_readFriends_43 rfl 1 rfl 44 rfl ?_
      refine x_getI hh cl_5 dX5_readFriends_44 sh_23 7 rfl (Nat.le_of_ble_eq_true rfl) wd_214 47 rfl ?_
      refine x_istore_n hh dX5_readFriends_47 rfl (by decide) [(2, .int (q3.2.1 23 7)), (1, .int (q1.2.1 23 7)), (0, .ref (X.2.1 23))] rfl 48 rfl ?_
      refine x_iload_n hh dX5_readFriends_48 rfl 1 rfl 49 rfl ?_
      refine x_iload_n hh dX5_readFriends_49 rfl 0 rfl 50 rfl ?_
      refine x_icmp_eq hh dX5_readFriends_50 65 rfl 53 rfl (fun hc5 => ?_) (fun hc5 => ?_)
      · have hf := t_pos hc5 hf
        refine x_sub (lv' := [(0, .ref (X.2.1 23))]) [2] rfl ?_
        exact Z_X5_readFriends_65 hX hh hr  q3.2 hf
      · have hf := t_neg hc5 hf
        refine x_aload_n hh dX5_readFriends_53 rfl 2 rfl 54 rfl ?_
        refine x_getR hh cl_5 dX5_readFriends_54 sh_23 0 24 rfl (Nat.le_of_ble_eq_true rfl) wd_203 57 rfl ?_
        refine x_iload_n hh dX5_readFriends_57 rfl 1 rfl 58 rfl ?_
        refine x_iload_n hh dX5_readFriends_58 rfl 0 rfl 59 rfl ?_
        obtain ⟨q6, hq6, hf⟩ := b_some hf
        refine x_callV (rest := []) hh mi_X3_friendship [.int (q1.2.1 23 7), .int (q3.2.1 23 7)] dX5_readFriends_59 sh_24 wd_411 (C_X3_friendship l hX ho_24 hq6) rfl rfl ⟨Nat.le_of_ble_eq_true rfl, Nat.le_of_ble_eq_true rfl⟩ (Nat.le_of_ble_eq_true rfl) 62 rfl [.int q6.1] rfl ?_
        refine x_if_eq hh dX5_readFriends_62 75 rfl 65 rfl (fun hc7 => ?_) (fun hc7 => ?_)
        · have hf := t_pos hc7 hf
          refine x_aload_n hh dX5_readFriends_75 rfl 2 rfl 76 rfl ?_
          refine x_iconst hh dX5_readFriends_76 1 rfl 77 rfl ?_
          refine x_bipush hh dX5_readFriends_77 99 rfl 79 rfl ?_
          obtain ⟨q8, hq8, hf⟩ := b_some hf
          refine x_callV (rest := []) hh mi_X5_readNumber [.int 1, .int 99] dX5_readFriends_79 sh_23 wd_393 (C_X5_readNumber l hX  hq8) rfl rfl ⟨Nat.le_of_ble_eq_true rfl, Nat.le_of_ble_eq_true rfl⟩ (Nat.le_of_ble_eq_true rfl) 82 rfl [.int q8.1] rfl ?_
          refine x_if_ne hh dX5_readFriends_82 87 rfl 85 rfl (fun hc9 => ?_) (fun hc9 => ?_)
          · have hf := t_neg hc9 hf
            refine x_aload_n hh dX5_readFriends_87 rfl 2 rfl 88 rfl ?_
            refine x_getR hh cl_5 dX5_readFriends_88 sh_23 0 24 rfl (Nat.le_of_ble_eq_true rfl) wd_203 91 rfl ?_
            refine x_getR hh cl_3 dX5_readFriends_91 sh_24 9 31 rfl (Nat.le_of_ble_eq_true rfl) wd_139 94 rfl ?_
            refine x_iload_n hh dX5_readFriends_94 rfl 1 rfl 95 rfl ?_
            refine x_bipush hh dX5_readFriends_95 6 rfl 97 rfl ?_
            refine x_imul hh dX5_readFriends_97 98 rfl ?_
            refine x_iload_n hh dX5_readFriends_98 rfl 0 rfl 99 rfl ?_
            refine x_iadd hh dX5_readFriends_99 100 rfl ?_
            refine x_aload_n hh dX5_readFriends_100 rfl 2 rfl 101 rfl ?_
            refine x_getI hh cl_5 dX5_readFriends_101 sh_23 7 rfl (Nat.le_of_ble_eq_true rfl) wd_214 104 rfl ?_
            obtain ⟨hi10, hf⟩ := gi_some hf
            obtain ⟨st11, est11, hf⟩ := bs_some hf
            refine x_iastore hh dX5_readFriends_104 sh_31 hi10 105 rfl st11 est11 ?_
            refine x_aload_n hh dX5_readFriends_105 rfl 2 rfl 106 rfl ?_
            refine x_getR hh cl_5 dX5_readFriends_106 sh_23 0 24 rfl (Nat.le_of_ble_eq_true rfl) wd_203 109 rfl ?_
            refine x_getR hh cl_3 dX5_readFriends_109 sh_24 9 31 rfl (Nat.le_of_ble_eq_true rfl) wd_139 112 rfl ?_
            refine x_iload_n hh dX5_readFriends_112 rfl 0 rfl 113 rfl ?_
            refine x_bipush hh dX5_readFriends_113 6 rfl 115 rfl ?_
            refine x_imul hh dX5_readFriends_115 116 rfl ?_
            refine x_iload_n hh dX5_readFriends_116 rfl 1 rfl 117 rfl ?_
            refine x_iadd hh dX5_readFriends_117 118 rfl ?_
            refine x_aload_n hh dX5_readFriends_118 rfl 2 rfl 119 rfl ?_
            refine x_getI hh cl_5 dX5_readFriends_119 sh_23 7 rfl (Nat.le_of_ble_eq_true rfl) wd_214 122 rfl ?_
            obtain ⟨hi12, hf⟩ := gi_some hf
            obtain ⟨st13, est13, hf⟩ := bs_some hf
            refine x_iastore hh dX5_readFriends_122 sh_31 hi12 123 rfl st13 est13 ?_
            refine x_aload_n hh dX5_readFriends_123 rfl 2 rfl 124 rfl ?_
            refine x_getR hh cl_5 dX5_readFriends_124 sh_23 0 24 rfl (Nat.le_of_ble_eq_true rfl) wd_203 127 rfl ?_
            refine x_dup hh dX5_readFriends_127 rfl 128 rfl ?_
            refine x_getI hh cl_3 dX5_readFriends_128 sh_24 2 rfl (Nat.le_of_ble_eq_true rfl) wd_117 131 rfl ?_
            refine x_iconst hh dX5_readFriends_131 1 rfl 132 rfl ?_
            refine x_iadd hh dX5_readFriends_132 133 rfl ?_
            obtain ⟨st14, est14, hf⟩ := bs_some hf
            refine x_putI hh cl_3 dX5_readFriends_133 sh_24 2 rfl (Nat.le_of_ble_eq_true rfl) wd_117 rfl rfl rfl 136 rfl st14 est14 ?_
            refine x_aload_n hh dX5_readFriends_136 rfl 2 rfl 137 rfl ?_
            obtain ⟨q15, hq15, hf⟩ := b_some hf
            refine x_callV (rest := []) hh mi_X5_readEnd [] dX5_readFriends_137 sh_23 wd_402 (C_X5_readEnd l hX  hq15) rfl rfl ⟨Nat.le_of_ble_eq_true rfl, Nat.le_of_ble_eq_true rfl⟩ (Nat.le_of_ble_eq_true rfl) 140 rfl [.int q15.1] rfl ?_
            obtain ⟨hb16, hf⟩ := gb_some hf
            obtain ⟨rfl, rfl⟩ := ret2 hf
            exact x_zret hh hr (nb_n hb16) dX5_readFriends_140
          · have hf := t_pos hc9 hf
            refine x_iconst hh dX5_readFriends_85 0 rfl 86 rfl ?_
            obtain ⟨rfl, rfl⟩ := ret2 hf
            exact x_zret hh hr rfl dX5_readFriends_86
        · have hf := t_neg hc7 hf
          refine x_sub (lv' := [(0, .ref (X.2.1 23))]) [2] rfl ?_
          exact Z_X5_readFriends_65 hX hh hr  q6.2 hf
    · have hf := t_pos hc4 hf
      refine x_iconst hh dX5_readFriends_41 0 rfl 42 rfl ?_
      obtain ⟨rfl, rfl⟩ := ret2 hf
      exact x_zret hh hr rfl dX5_readFriends_42
  · have hf := t_pos hc2 hf
    refine x_iconst hh dX5_readFriends_17 0 rfl 18 rfl ?_
    obtain ⟨rfl, rfl⟩ := ret2 hf
    exact x_zret hh hr rfl dX5_readFriends_18
def F_X5_readFriends (st : St) : Option (Int32 × St) := F_X5_readFriends_0  st
set_option maxRecDepth 100000 in
theorem C_X5_readFriends (l : Launch) {X : Cx} (hX : Ok X) {st : St} {q : Int32 × St} (hf : F_X5_readFriends st = some q) : Ct l X 3 yX5_readFriends (.code yX5_readFriends cX5_readFriends 3 (some .boolean)) [.ref (X.2.1 23)] st (some (.int q.1)) q.2 := by
  refine Ct.of hX (by decide) (Nat.le_of_ble_eq_true rfl) ?_
  intro p e s m args below meth c hh hr
  exact Z_X5_readFriends_0 hX hh hr st hf

def F_X5_readPerson_22 : Nat → Int32 → Int32 → St → Option (Int32 × St)
  | 0, _, _, _ => none
  | n + 1, v1, v2, st => if v1 ≤ v2 then gi v1 6 (bs (sV st 27 v1.toNatClampNeg (st.1 23 7)) (fun st5 => (F_X5_readNumber 20 90 st5).bind (fun q6 => if q6.1 = 0 then some (0, q6.2) else gi v1 6 (bs (sV q6.2 28 v1.toNatClampNeg (q6.2.1 23 7)) (fun st9 => (F_X5_readNumber 0 40 st9).bind (fun q10 => if q10.1 = 0 then some (0, q10.2) else gi v1 6 (bs (sV q10.2 29 v1.toNatClampNeg (q10.2.1 23 7)) (fun st13 => (F_X5_readNumber 0 9 st13).bind (fun q14 => if q14.1 = 0 then some (0, q14.2) else gi v1 6 (bs (sV q14.2 30 v1.toNatClampNeg (q14.2.1 23 7)) (fun st17 => bs (sV st17 24 1 ((st17.1 24 1) + 1)) (fun st18 => (F_X5_readEnd st18).bind (fun q19 => gb q19.1 (some (q19.1, q19.2))))))))))))))) else gi v2 6 (if (st.1 27 v2.toNatClampNeg) = (st.1 23 7) then (F_X5_isFault 4 (st.1 23 6) st).bind (fun q23 => gb q23.1 (some (q23.1, q23.2))) else F_X5_readPerson_22 n v1 (v2 + 1) st)
set_option maxRecDepth 100000 in
set_option maxHeartbeats 4000000 in
theorem Z_X5_readPerson_22 {l : Launch} {X : Cx} (hX : Ok X) {p : Program} {e : Env} {s : State} {m : MethodId} {args : Array Value} {below : List Frame} {meth : Method} {c : Code} {rr : Int32} {st' : St} (hh : Hy X p s m args meth c cX5_readPerson 3 RX5) (hr : meth.sig.returnType = some .boolean) : ∀ (n : Nat) (v1 : Int32) (v2 : Int32) (st : St), F_X5_readPerson_22 n v1 v2 st = some (rr, st') → Z X p l e (rmk 3) s m args below meth c 3 (MQ below (Qf X (some (.int rr)) st') args s 0 0 (cA X)) 22 [(0, .ref (X.2.1 23)), (1, .int v1), (2, .int v2)] [] st := by
  intro n
  induction n with
  | zero =>
    intro v1 v2 st hf
    cases hf
  | succ n ih =>
    intro v1 v2 st hf
    rw [F_X5_readPerson_22] at hf
    refine x_iload_n hh dX5_readPerson_22 rfl 2 rfl 23 rfl ?_
    refine x_iload_n hh dX5_readPerson_23 rfl 1 rfl 24 rfl ?_
    refine x_icmp_ge hh dX5_readPerson_24 59 rfl 27 rfl (fun hc3 => ?_) (fun hc3 => ?_)
    · have hf := t_pos hc3 hf
      refine x_aload_n hh dX5_readPerson_59 rfl 0 rfl 60 rfl ?_
      refine x_getR hh cl_5 dX5_readPerson_60 sh_23 0 24 rfl (Nat.le_of_ble_eq_true rfl) wd_203 63 rfl ?_
      refine x_getR hh cl_3 dX5_readPerson_63 sh_24 5 27 rfl (Nat.le_of_ble_eq_true rfl) wd_125 66 rfl ?_
      refine x_iload_n hh dX5_readPerson_66 rfl 1 rfl 67 rfl ?_
      refine x_aload_n hh dX5_readPerson_67 rfl 0 rfl 68 rfl ?_
      refine x_getI hh cl_5 dX5_readPerson_68 sh_23 7 rfl (Nat.le_of_ble_eq_true rfl) wd_214 71 rfl ?_
      obtain ⟨hi4, hf⟩ := gi_some hf
      obtain ⟨st5, est5, hf⟩ := bs_some hf
      refine x_iastore hh dX5_readPerson_71 sh_27 hi4 72 rfl st5 est5 ?_
      refine x_aload_n hh dX5_readPerson_72 rfl 0 rfl 73 rfl ?_
      refine x_bipush hh dX5_readPerson_73 20 rfl 75 rfl ?_
      refine x_bipush hh dX5_readPerson_75 90 rfl 77 rfl ?_
      obtain ⟨q6, hq6, hf⟩ := b_some hf
      refine x_callV (rest := []) hh mi_X5_readNumber [.int 20, .int 90] dX5_readPerson_77 sh_23 wd_393 (C_X5_readNumber l hX  hq6) rfl rfl ⟨Nat.le_of_ble_eq_true rfl, Nat.le_of_ble_eq_true rfl⟩ (Nat.le_of_ble_eq_true rfl) 80 rfl [.int q6.1] rfl ?_
      refine x_if_ne hh dX5_readPerson_80 85 rfl 83 rfl (fun hc7 => ?_) (fun hc7 => ?_)
      · have hf := t_neg hc7 hf
        refine x_aload_n hh dX5_readPerson_85 rfl 0 rfl 86 rfl ?_
        refine x_getR hh cl_5 dX5_readPerson_86 sh_23 0 24 rfl (Nat.le_of_ble_eq_true rfl) wd_203 89 rfl ?_
        refine x_getR hh cl_3 dX5_readPerson_89 sh_24 6 28 rfl (Nat.le_of_ble_eq_true rfl) wd_128 92 rfl ?_
        refine x_iload_n hh dX5_readPerson_92 rfl 1 rfl 93 rfl ?_
        refine x_aload_n hh dX5_readPerson_93 rfl 0 rfl 94 rfl ?_
        refine x_getI hh cl_5 dX5_readPerson_94 sh_23 7 rfl (Nat.le_of_ble_eq_true rfl) wd_214 97 rfl ?_
        obtain ⟨hi8, hf⟩ := gi_some hf
        obtain ⟨st9, est9, hf⟩ := bs_some hf
        refine x_iastore hh dX5_readPerson_97 sh_28 hi8 98 rfl st9 est9 ?_
        refine x_aload_n hh dX5_readPerson_98 rfl 0 rfl 99 rfl ?_
        refine x_iconst hh dX5_readPerson_99 0 rfl 100 rfl ?_
        refine x_bipush hh dX5_readPerson_100 40 rfl 102 rfl ?_
        obtain ⟨q10, hq10, hf⟩ := b_some hf
        refine x_callV (rest := []) hh mi_X5_readNumber [.int 0, .int 40] dX5_readPerson_102 sh_23 wd_393 (C_X5_readNumber l hX  hq10) rfl rfl ⟨Nat.le_of_ble_eq_true rfl, Nat.le_of_ble_eq_true rfl⟩ (Nat.le_of_ble_eq_true rfl) 105 rfl [.int q10.1] rfl ?_
        refine x_if_ne hh dX5_readPerson_105 110 rfl 108 rfl (fun hc11 => ?_) (fun hc11 => ?_)
        · have hf := t_neg hc11 hf
          refine x_aload_n hh dX5_readPerson_110 rfl 0 rfl 111 rfl ?_
          refine x_getR hh cl_5 dX5_readPerson_111 sh_23 0 24 rfl (Nat.le_of_ble_eq_true rfl) wd_203 114 rfl ?_
          refine x_getR hh cl_3 dX5_readPerson_114 sh_24 7 29 rfl (Nat.le_of_ble_eq_true rfl) wd_130 117 rfl ?_
          refine x_iload_n hh dX5_readPerson_117 rfl 1 rfl 118 rfl ?_
          refine x_aload_n hh dX5_readPerson_118 rfl 0 rfl 119 rfl ?_
          refine x_getI hh cl_5 dX5_readPerson_119 sh_23 7 rfl (Nat.le_of_ble_eq_true rfl) wd_214 122 rfl ?_
          obtain ⟨hi12, hf⟩ := gi_some hf
          obtain ⟨st13, est13, hf⟩ := bs_some hf
          refine x_iastore hh dX5_readPerson_122 sh_29 hi12 123 rfl st13 est13 ?_
          refine x_aload_n hh dX5_readPerson_123 rfl 0 rfl 124 rfl ?_
          refine x_iconst hh dX5_readPerson_124 0 rfl 125 rfl ?_
          refine x_bipush hh dX5_readPerson_125 9 rfl 127 rfl ?_
          obtain ⟨q14, hq14, hf⟩ := b_some hf
          refine x_callV (rest := []) hh mi_X5_readNumber [.int 0, .int 9] dX5_readPerson_127 sh_23 wd_393 (C_X5_readNumber l hX  hq14) rfl rfl ⟨Nat.le_of_ble_eq_true rfl, Nat.le_of_ble_eq_true rfl⟩ (Nat.le_of_ble_eq_true rfl) 130 rfl [.int q14.1] rfl ?_
          refine x_if_ne hh dX5_readPerson_130 135 rfl 133 rfl (fun hc15 => ?_) (fun hc15 => ?_)
          · have hf := t_neg hc15 hf
            refine x_aload_n hh dX5_readPerson_135 rfl 0 rfl 136 rfl ?_
            refine x_getR hh cl_5 dX5_readPerson_136 sh_23 0 24 rfl (Nat.le_of_ble_eq_true rfl) wd_203 139 rfl ?_
            refine x_getR hh cl_3 dX5_readPerson_139 sh_24 8 30 rfl (Nat.le_of_ble_eq_true rfl) wd_135 142 rfl ?_
            refine x_iload_n hh dX5_readPerson_142 rfl 1 rfl 143 rfl ?_
            refine x_aload_n hh dX5_readPerson_143 rfl 0 rfl 144 rfl ?_
            refine x_getI hh cl_5 dX5_readPerson_144 sh_23 7 rfl (Nat.le_of_ble_eq_true rfl) wd_214 147 rfl ?_
            obtain ⟨hi16, hf⟩ := gi_some hf
            obtain ⟨st17, est17, hf⟩ := bs_some hf
            refine x_iastore hh dX5_readPerson_147 sh_30 hi16 148 rfl st17 est17 ?_
            refine x_aload_n hh dX5_readPerson_148 rfl 0 rfl 149 rfl ?_
            refine x_getR hh cl_5 dX5_readPerson_149 sh_23 0 24 rfl (Nat.le_of_ble_eq_true rfl) wd_203 152 rfl ?_
            refine x_dup hh dX5_readPerson_152 rfl 153 rfl ?_
            refine x_getI hh cl_3 dX5_readPerson_153 sh_24 1 rfl (Nat.le_of_ble_eq_true rfl) wd_114 156 rfl ?_
            refine x_iconst hh dX5_readPerson_156 1 rfl 157 rfl ?_
            refine x_iadd hh dX5_readPerson_157 158 rfl ?_
            obtain ⟨st18, est18, hf⟩ := bs_some hf
            refine x_putI hh cl_3 dX5_readPerson_158 sh_24 1 rfl (Nat.le_of_ble_eq_true rfl) wd_114 rfl rfl rfl 161 rfl st18 est18 ?_
            refine x_aload_n hh dX5_readPerson_161 rfl 0 rfl 162 rfl ?_
            obtain ⟨q19, hq19, hf⟩ := b_some hf
            refine x_callV (rest := []) hh mi_X5_readEnd [] dX5_readPerson_162 sh_23 wd_402 (C_X5_readEnd l hX  hq19) rfl rfl ⟨Nat.le_of_ble_eq_true rfl, Nat.le_of_ble_eq_true rfl⟩ (Nat.le_of_ble_eq_true rfl) 165 rfl [.int q19.1] rfl ?_
            obtain ⟨hb20, hf⟩ := gb_some hf
            obtain ⟨rfl, rfl⟩ := ret2 hf
            exact x_zret hh hr (nb_n hb20) dX5_readPerson_165
          · have hf := t_pos hc15 hf
            refine x_iconst hh dX5_readPerson_133 0 rfl 134 rfl ?_
            obtain ⟨rfl, rfl⟩ := ret2 hf
            exact x_zret hh hr rfl dX5_readPerson_134
        · have hf := t_pos hc11 hf
          refine x_iconst hh dX5_readPerson_108 0 rfl 109 rfl ?_
          obtain ⟨rfl, rfl⟩ := ret2 hf
          exact x_zret hh hr rfl dX5_readPerson_109
      · have hf := t_pos hc7 hf
        refine x_iconst hh dX5_readPerson_83 0 rfl 84 rfl ?_
        obtain ⟨rfl, rfl⟩ := ret2 hf
        exact x_zret hh hr rfl dX5_readPerson_84
    · have hf := t_neg hc3 hf
      refine x_aload_n hh dX5_readPerson_27 rfl 0 rfl 28 rfl ?_
      refine x_getR hh cl_5 dX5_readPerson_28 sh_23 0 24 rfl (Nat.le_of_ble_eq_true rfl) wd_203 31 rfl ?_
      refine x_getR hh cl_3 dX5_readPerson_31 sh_24 5 27 rfl (Nat.le_of_ble_eq_true rfl) wd_125 34 rfl ?_
      refine x_iload_n hh dX5_readPerson_34 rfl 2 rfl 35 rfl ?_
      obtain ⟨hi21, hf⟩ := gi_some hf
      refine x_iaload hh dX5_readPerson_35 sh_27 hi21 36 rfl ?_
      refine x_aload_n hh dX5_readPerson_36 rfl 0 rfl 37 rfl ?_
      refine x_getI hh cl_5 dX5_readPerson_37 sh_23 7 rfl (Nat.le_of_ble_eq_true rfl) wd_214 40 rfl ?_
      refine x_icmp_ne hh dX5_readPerson_40 53 rfl 43 rfl (fun hc22 => ?_) (fun hc22 => ?_)
      · have hf := t_neg hc22 hf
        refine x_iinc hh dX5_readPerson_53 2 rfl (v2 + 1) rfl (by decide) [(2, .int (v2 + 1)), (0, .ref (X.2.1 23)), (1, .int v1)] rfl 56 rfl ?_
        refine x_goto hh dX5_readPerson_56 22 rfl ?_
        refine x_sub (lv' := [(0, .ref (X.2.1 23)), (1, .int v1), (2, .int (v2 + 1))]) [1, 2, 0] rfl ?_
        exact ih v1 (v2 + 1) st hf
      · have hf := t_pos hc22 hf
        refine x_aload_n hh dX5_readPerson_43 rfl 0 rfl 44 rfl ?_
        refine x_iconst hh dX5_readPerson_44 4 rfl 45 rfl ?_
        refine x_aload_n hh dX5_readPerson_45 rfl 0 rfl 46 rfl ?_
        refine x_getI hh cl_5 dX5_readPerson_46 sh_23 6 rfl (Nat.le_of_ble_eq_true rfl) wd_213 49 rfl ?_
        obtain ⟨q23, hq23, hf⟩ := b_some hf
        refine x_callV (rest := []) hh mi_X5_isFault [.int 4, .int (st.1 23 6)] dX5_readPerson_49 sh_23 wd_396 (C_X5_isFault l hX  hq23) rfl rfl ⟨Nat.le_of_ble_eq_true rfl, Nat.le_of_ble_eq_true rfl⟩ (Nat.le_of_ble_eq_true rfl) 52 rfl [.int q23.1] rfl ?_
        obtain ⟨hb24, hf⟩ := gb_some hf
        obtain ⟨rfl, rfl⟩ := ret2 hf
        exact x_zret hh hr (nb_n hb24) dX5_readPerson_52
def F_X5_readPerson_0 (st : St) : Option (Int32 × St) := (F_X5_readNumber 0 99 st).bind (fun q1 => if q1.1 = 0 then some (0, q1.2) else F_X5_readPerson_22 fN (st.1 24 1) 0 q1.2)
set_option maxRecDepth 100000 in
set_option maxHeartbeats 4000000 in
theorem Z_X5_readPerson_0 {l : Launch} {X : Cx} (hX : Ok X) {p : Program} {e : Env} {s : State} {m : MethodId} {args : Array Value} {below : List Frame} {meth : Method} {c : Code} {rr : Int32} {st' : St} (hh : Hy X p s m args meth c cX5_readPerson 3 RX5) (hr : meth.sig.returnType = some .boolean) (st : St) (hf : F_X5_readPerson_0 st = some (rr, st')) : Z X p l e (rmk 3) s m args below meth c 3 (MQ below (Qf X (some (.int rr)) st') args s 0 0 (cA X)) 0 [(0, .ref (X.2.1 23))] [] st := by
  unfold F_X5_readPerson_0 at hf
  refine x_aload_n hh dX5_readPerson_0 rfl 0 rfl 1 rfl ?_
  refine x_getR hh cl_5 dX5_readPerson_1 sh_23 0 24 rfl (Nat.le_of_ble_eq_true rfl) wd_203 4 rfl ?_
  refine x_getI hh cl_3 dX5_readPerson_4 sh_24 1 rfl (Nat.le_of_ble_eq_true rfl) wd_114 7 rfl ?_
  refine x_istore_n hh dX5_readPerson_7 rfl (by decide) [(1, .int (st.1 24 1)), (0, .ref (X.2.1 23))] rfl 8 rfl ?_
  refine x_aload_n hh dX5_readPerson_8 rfl 1 rfl 9 rfl ?_
  refine x_iconst hh dX5_readPerson_9 0 rfl 10 rfl ?_
  refine x_bipush hh dX5_readPerson_10 99 rfl 12 rfl ?_
  obtain ⟨q1, hq1, hf⟩ := b_some hf
  refine x_callV (rest := []) hh mi_X5_readNumber [.int 0, .int 99] dX5_readPerson_12 sh_23 wd_393 (C_X5_readNumber l hX  hq1) rfl rfl ⟨Nat.le_of_ble_eq_true rfl, Nat.le_of_ble_eq_true rfl⟩ (Nat.le_of_ble_eq_true rfl) 15 rfl [.int q1.1] rfl ?_
  refine x_if_ne hh dX5_readPerson_15 20 rfl 18 rfl (fun hc2 => ?_) (fun hc2 => ?_)
  · have hf := t_neg hc2 hf
    refine x_iconst hh dX5_readPerson_20 0 rfl 21 rfl ?_
    refine x_istore_n hh dX5_readPerson_21 rfl (by decide) [(2, .int 0), (1, .int (st.1 24 1)), (0, .ref (X.2.1 23))] rfl 22 rfl ?_
    refine x_sub (lv' := [(0, .ref (X.2.1 23)), (1, .int (st.1 24 1)), (2, .int 0)]) [2, 1, 0] rfl ?_
    exact Z_X5_readPerson_22 hX hh hr fN (st.1 24 1) 0 q1.2 hf
  · have hf := t_pos hc2 hf
    refine x_iconst hh dX5_readPerson_18 0 rfl 19 rfl ?_
    obtain ⟨rfl, rfl⟩ := ret2 hf
    exact x_zret hh hr rfl dX5_readPerson_19
def F_X5_readPerson (st : St) : Option (Int32 × St) := F_X5_readPerson_0  st
set_option maxRecDepth 100000 in
theorem C_X5_readPerson (l : Launch) {X : Cx} (hX : Ok X) {st : St} {q : Int32 × St} (hf : F_X5_readPerson st = some q) : Ct l X 3 yX5_readPerson (.code yX5_readPerson cX5_readPerson 3 (some .boolean)) [.ref (X.2.1 23)] st (some (.int q.1)) q.2 := by
  refine Ct.of hX (by decide) (Nat.le_of_ble_eq_true rfl) ?_
  intro p e s m args below meth c hh hr
  exact Z_X5_readPerson_0 hX hh hr st hf

def F_X5_readRoom_88 (v1 : Int32) (v2 : Int32) (st : St) : Option (Int32 × St) := gi v1 3 (bs (sV st 25 v1.toNatClampNeg v2) (fun st12 => bs (sV st12 24 0 ((st12.1 24 0) + 1)) (fun st13 => (F_X5_readEnd st13).bind (fun q14 => gb q14.1 (some (q14.1, q14.2))))))
set_option maxRecDepth 100000 in
set_option maxHeartbeats 4000000 in
theorem Z_X5_readRoom_88 {l : Launch} {X : Cx} (hX : Ok X) {p : Program} {e : Env} {s : State} {m : MethodId} {args : Array Value} {below : List Frame} {meth : Method} {c : Code} {rr : Int32} {st' : St} (hh : Hy X p s m args meth c cX5_readRoom 5 RX5) (hr : meth.sig.returnType = some .boolean) (v1 : Int32) (v2 : Int32) (st : St) (hf : F_X5_readRoom_88 v1 v2 st = some (rr, st')) : Z X p l e (rmk 3) s m args below meth c 5 (MQ below (Qf X (some (.int rr)) st') args s 0 0 (cA X)) 88 [(0, .ref (X.2.1 23)), (1, .int v1), (2, .int v2)] [] st := by
  unfold F_X5_readRoom_88 at hf
  refine x_aload_n hh dX5_readRoom_88 rfl 0 rfl 89 rfl ?_
  refine x_getR hh cl_5 dX5_readRoom_89 sh_23 0 24 rfl (Nat.le_of_ble_eq_true rfl) wd_203 92 rfl ?_
  refine x_getR hh cl_3 dX5_readRoom_92 sh_24 3 25 rfl (Nat.le_of_ble_eq_true rfl) wd_120 95 rfl ?_
  refine x_iload_n hh dX5_readRoom_95 rfl 1 rfl 96 rfl ?_
  refine x_iload_n hh dX5_readRoom_96 rfl 2 rfl 97 rfl ?_
  obtain ⟨hi11, hf⟩ := gi_some hf
  obtain ⟨st12, est12, hf⟩ := bs_some hf
  refine x_iastore hh dX5_readRoom_97 sh_25 hi11 98 rfl st12 est12 ?_
  refine x_aload_n hh dX5_readRoom_98 rfl 0 rfl 99 rfl ?_
  refine x_getR hh cl_5 dX5_readRoom_99 sh_23 0 24 rfl (Nat.le_of_ble_eq_true rfl) wd_203 102 rfl ?_
  refine x_dup hh dX5_readRoom_102 rfl 103 rfl ?_
  refine x_getI hh cl_3 dX5_readRoom_103 sh_24 0 rfl (Nat.le_of_ble_eq_true rfl) wd_108 106 rfl ?_
  refine x_iconst hh dX5_readRoom_106 1 rfl 107 rfl ?_
  refine x_iadd hh dX5_readRoom_107 108 rfl ?_
  obtain ⟨st13, est13, hf⟩ := bs_some hf
  refine x_putI hh cl_3 dX5_readRoom_108 sh_24 0 rfl (Nat.le_of_ble_eq_true rfl) wd_108 rfl rfl rfl 111 rfl st13 est13 ?_
  refine x_aload_n hh dX5_readRoom_111 rfl 0 rfl 112 rfl ?_
  obtain ⟨q14, hq14, hf⟩ := b_some hf
  refine x_callV (rest := []) hh mi_X5_readEnd [] dX5_readRoom_112 sh_23 wd_402 (C_X5_readEnd l hX  hq14) rfl rfl ⟨Nat.le_of_ble_eq_true rfl, Nat.le_of_ble_eq_true rfl⟩ (Nat.le_of_ble_eq_true rfl) 115 rfl [.int q14.1] rfl ?_
  obtain ⟨hb15, hf⟩ := gb_some hf
  obtain ⟨rfl, rfl⟩ := ret2 hf
  exact x_zret hh hr (nb_n hb15) dX5_readRoom_115
def F_X5_readRoom_15 : Nat → Int32 → Int32 → Int32 → Int32 → St → Option (Int32 × St)
  | 0, _, _, _, _, _ => none
  | n + 1, v1, v2, v3, v4, st => if (6 : Int32) < v4 then F_X5_readRoom_88 v1 v2 st else if v3 = 0 then F_X5_readRoom_88 v1 v2 st else (F_X5_readNumber 0 40 st).bind (fun q3 => if q3.1 = 0 then some (0, q3.2) else if v2 < 6 then gi ((v1 * 6) + v2) 18 (bs (sV q3.2 26 ((v1 * 6) + v2).toNatClampNeg (q3.2.1 23 7)) (fun st7 => (F_X5_takeSign 44 st7).bind (fun q8 => F_X5_readRoom_15 n v1 (v2 + 1) q8.1 (v4 + 1) q8.2))) else (F_X5_isFault 4 (q3.2.1 23 6) q3.2).bind (fun q9 => gb q9.1 (some (q9.1, q9.2))))
set_option maxRecDepth 100000 in
set_option maxHeartbeats 4000000 in
theorem Z_X5_readRoom_15 {l : Launch} {X : Cx} (hX : Ok X) {p : Program} {e : Env} {s : State} {m : MethodId} {args : Array Value} {below : List Frame} {meth : Method} {c : Code} {rr : Int32} {st' : St} (hh : Hy X p s m args meth c cX5_readRoom 5 RX5) (hr : meth.sig.returnType = some .boolean) : ∀ (n : Nat) (v1 : Int32) (v2 : Int32) (v3 : Int32) (v4 : Int32) (st : St), F_X5_readRoom_15 n v1 v2 v3 v4 st = some (rr, st') → Z X p l e (rmk 3) s m args below meth c 5 (MQ below (Qf X (some (.int rr)) st') args s 0 0 (cA X)) 15 [(0, .ref (X.2.1 23)), (1, .int v1), (2, .int v2), (3, .int v3), (4, .int v4)] [] st := by
  intro n
  induction n with
  | zero =>
    intro v1 v2 v3 v4 st hf
    cases hf
  | succ n ih =>
    intro v1 v2 v3 v4 st hf
    rw [F_X5_readRoom_15] at hf
    refine x_iload hh dX5_readRoom_15 4 rfl 17 rfl ?_
    refine x_bipush hh dX5_readRoom_17 6 rfl 19 rfl ?_
    refine x_icmp_gt hh dX5_readRoom_19 88 rfl 22 rfl (fun hc1 => ?_) (fun hc1 => ?_)
    · have hf := t_pos hc1 hf
      refine x_sub (lv' := [(0, .ref (X.2.1 23)), (1, .int v1), (2, .int v2)]) [0, 1, 2] rfl ?_
      exact Z_X5_readRoom_88 hX hh hr  v1 v2 st hf
    · have hf := t_neg hc1 hf
      refine x_iload_n hh dX5_readRoom_22 rfl 3 rfl 23 rfl ?_
      refine x_if_eq hh dX5_readRoom_23 88 rfl 26 rfl (fun hc2 => ?_) (fun hc2 => ?_)
      · have hf := t_pos hc2 hf
        refine x_sub (lv' := [(0, .ref (X.2.1 23)), (1, .int v1), (2, .int v2)]) [0, 1, 2] rfl ?_
        exact Z_X5_readRoom_88 hX hh hr  v1 v2 st hf
      · have hf := t_neg hc2 hf
        refine x_aload_n hh dX5_readRoom_26 rfl 0 rfl 27 rfl ?_
        refine x_iconst hh dX5_readRoom_27 0 rfl 28 rfl ?_
        refine x_bipush hh dX5_readRoom_28 40 rfl 30 rfl ?_
        obtain ⟨q3, hq3, hf⟩ := b_some hf
        refine x_callV (rest := []) hh mi_X5_readNumber [.int 0, .int 40] dX5_readRoom_30 sh_23 wd_393 (C_X5_readNumber l hX  hq3) rfl rfl ⟨Nat.le_of_ble_eq_true rfl, Nat.le_of_ble_eq_true rfl⟩ (Nat.le_of_ble_eq_true rfl) 33 rfl [.int q3.1] rfl ?_
        refine x_if_ne hh dX5_readRoom_33 38 rfl 36 rfl (fun hc4 => ?_) (fun hc4 => ?_)
        · have hf := t_neg hc4 hf
          refine x_iload_n hh dX5_readRoom_38 rfl 2 rfl 39 rfl ?_
          refine x_bipush hh dX5_readRoom_39 6 rfl 41 rfl ?_
          refine x_icmp_lt hh dX5_readRoom_41 54 rfl 44 rfl (fun hc5 => ?_) (fun hc5 => ?_)
          · have hf := t_pos hc5 hf
            refine x_aload_n hh dX5_readRoom_54 rfl 0 rfl 55 rfl ?_
            refine x_getR hh cl_5 dX5_readRoom_55 sh_23 0 24 rfl (Nat.le_of_ble_eq_true rfl) wd_203 58 rfl ?_
            refine x_getR hh cl_3 dX5_readRoom_58 sh_24 4 26 rfl (Nat.le_of_ble_eq_true rfl) wd_122 61 rfl ?_
            refine x_iload_n hh dX5_readRoom_61 rfl 1 rfl 62 rfl ?_
            refine x_bipush hh dX5_readRoom_62 6 rfl 64 rfl ?_
            refine x_imul hh dX5_readRoom_64 65 rfl ?_
            refine x_iload_n hh dX5_readRoom_65 rfl 2 rfl 66 rfl ?_
            refine x_iadd hh dX5_readRoom_66 67 rfl ?_
            refine x_aload_n hh dX5_readRoom_67 rfl 0 rfl 68 rfl ?_
            refine x_getI hh cl_5 dX5_readRoom_68 sh_23 7 rfl (Nat.le_of_ble_eq_true rfl) wd_214 71 rfl ?_
            obtain ⟨hi6, hf⟩ := gi_some hf
            obtain ⟨st7, est7, hf⟩ := bs_some hf
            refine x_iastore hh dX5_readRoom_71 sh_26 hi6 72 rfl st7 est7 ?_
            refine x_iinc hh dX5_readRoom_72 2 rfl (v2 + 1) rfl (by decide) [(2, .int (v2 + 1)), (0, .ref (X.2.1 23)), (1, .int v1), (3, .int v3), (4, .int v4)] rfl 75 rfl ?_
            refine x_aload_n hh dX5_readRoom_75 rfl 1 rfl 76 rfl ?_
            refine x_bipush hh dX5_readRoom_76 44 rfl 78 rfl ?_
            obtain ⟨q8, hq8, hf⟩ := b_some hf
            refine x_callV (rest := []) hh mi_X5_takeSign [.int 44] dX5_readRoom_78 sh_23 wd_399 (C_X5_takeSign l hX  hq8) rfl rfl ⟨Nat.le_of_ble_eq_true rfl, Nat.le_of_ble_eq_true rfl⟩ (Nat.le_of_ble_eq_true rfl) 81 rfl [.int q8.1] rfl ?_
            refine x_istore_n hh dX5_readRoom_81 rfl (by decide) [(3, .int q8.1), (2, .int (v2 + 1)), (0, .ref (X.2.1 23)), (1, .int v1), (4, .int v4)] rfl 82 rfl ?_
            refine x_iinc hh dX5_readRoom_82 4 rfl (v4 + 1) rfl (by decide) [(4, .int (v4 + 1)), (3, .int q8.1), (2, .int (v2 + 1)), (0, .ref (X.2.1 23)), (1, .int v1)] rfl 85 rfl ?_
            refine x_goto hh dX5_readRoom_85 15 rfl ?_
            refine x_sub (lv' := [(0, .ref (X.2.1 23)), (1, .int v1), (2, .int (v2 + 1)), (3, .int q8.1), (4, .int (v4 + 1))]) [3, 4, 2, 1, 0] rfl ?_
            exact ih v1 (v2 + 1) q8.1 (v4 + 1) q8.2 hf
          · have hf := t_neg hc5 hf
            refine x_aload_n hh dX5_readRoom_44 rfl 0 rfl 45 rfl ?_
            refine x_iconst hh dX5_readRoom_45 4 rfl 46 rfl ?_
            refine x_aload_n hh dX5_readRoom_46 rfl 0 rfl 47 rfl ?_
            refine x_getI hh cl_5 dX5_readRoom_47 sh_23 6 rfl (Nat.le_of_ble_eq_true rfl) wd_213 50 rfl ?_
            obtain ⟨q9, hq9, hf⟩ := b_some hf
            refine x_callV (rest := []) hh mi_X5_isFault [.int 4, .int (q3.2.1 23 6)] dX5_readRoom_50 sh_23 wd_396 (C_X5_isFault l hX  hq9) rfl rfl ⟨Nat.le_of_ble_eq_true rfl, Nat.le_of_ble_eq_true rfl⟩ (Nat.le_of_ble_eq_true rfl) 53 rfl [.int q9.1] rfl ?_
            obtain ⟨hb10, hf⟩ := gb_some hf
            obtain ⟨rfl, rfl⟩ := ret2 hf
            exact x_zret hh hr (nb_n hb10) dX5_readRoom_53
        · have hf := t_pos hc4 hf
          refine x_iconst hh dX5_readRoom_36 0 rfl 37 rfl ?_
          obtain ⟨rfl, rfl⟩ := ret2 hf
          exact x_zret hh hr rfl dX5_readRoom_37
def F_X5_readRoom_0 (st : St) : Option (Int32 × St) := F_X5_readRoom_15 fN (st.1 24 0) 0 1 0 st
set_option maxRecDepth 100000 in
set_option maxHeartbeats 4000000 in
theorem Z_X5_readRoom_0 {l : Launch} {X : Cx} (hX : Ok X) {p : Program} {e : Env} {s : State} {m : MethodId} {args : Array Value} {below : List Frame} {meth : Method} {c : Code} {rr : Int32} {st' : St} (hh : Hy X p s m args meth c cX5_readRoom 5 RX5) (hr : meth.sig.returnType = some .boolean) (st : St) (hf : F_X5_readRoom_0 st = some (rr, st')) : Z X p l e (rmk 3) s m args below meth c 5 (MQ below (Qf X (some (.int rr)) st') args s 0 0 (cA X)) 0 [(0, .ref (X.2.1 23))] [] st := by
  unfold F_X5_readRoom_0 at hf
  refine x_aload_n hh dX5_readRoom_0 rfl 0 rfl 1 rfl ?_
  refine x_getR hh cl_5 dX5_readRoom_1 sh_23 0 24 rfl (Nat.le_of_ble_eq_true rfl) wd_203 4 rfl ?_
  refine x_getI hh cl_3 dX5_readRoom_4 sh_24 0 rfl (Nat.le_of_ble_eq_true rfl) wd_108 7 rfl ?_
  refine x_istore_n hh dX5_readRoom_7 rfl (by decide) [(1, .int (st.1 24 0)), (0, .ref (X.2.1 23))] rfl 8 rfl ?_
  refine x_iconst hh dX5_readRoom_8 0 rfl 9 rfl ?_
  refine x_istore_n hh dX5_readRoom_9 rfl (by decide) [(2, .int 0), (1, .int (st.1 24 0)), (0, .ref (X.2.1 23))] rfl 10 rfl ?_
  refine x_iconst hh dX5_readRoom_10 1 rfl 11 rfl ?_
  refine x_istore_n hh dX5_readRoom_11 rfl (by decide) [(3, .int 1), (2, .int 0), (1, .int (st.1 24 0)), (0, .ref (X.2.1 23))] rfl 12 rfl ?_
  refine x_iconst hh dX5_readRoom_12 0 rfl 13 rfl ?_
  refine x_istore hh dX5_readRoom_13 (by decide) [(4, .int 0), (3, .int 1), (2, .int 0), (1, .int (st.1 24 0)), (0, .ref (X.2.1 23))] rfl 15 rfl ?_
  refine x_sub (lv' := [(0, .ref (X.2.1 23)), (1, .int (st.1 24 0)), (2, .int 0), (3, .int 1), (4, .int 0)]) [4, 3, 2, 1, 0] rfl ?_
  exact Z_X5_readRoom_15 hX hh hr fN (st.1 24 0) 0 1 0 st hf
def F_X5_readRoom (st : St) : Option (Int32 × St) := F_X5_readRoom_0  st
set_option maxRecDepth 100000 in
theorem C_X5_readRoom (l : Launch) {X : Cx} (hX : Ok X) {st : St} {q : Int32 × St} (hf : F_X5_readRoom st = some q) : Ct l X 3 yX5_readRoom (.code yX5_readRoom cX5_readRoom 5 (some .boolean)) [.ref (X.2.1 23)] st (some (.int q.1)) q.2 := by
  refine Ct.of hX (by decide) (Nat.le_of_ble_eq_true rfl) ?_
  intro p e s m args below meth c hh hr
  exact Z_X5_readRoom_0 hX hh hr st hf

def F_X5_readClause_44 (t0 : Int32) (st : St) : Option (Int32 × St) := gb t0 (some (t0, st))
set_option maxRecDepth 100000 in
set_option maxHeartbeats 4000000 in
theorem Z_X5_readClause_44 {l : Launch} {X : Cx} (hX : Ok X) {p : Program} {e : Env} {s : State} {m : MethodId} {args : Array Value} {below : List Frame} {meth : Method} {c : Code} {rr : Int32} {st' : St} (hh : Hy X p s m args meth c cX5_readClause 1 RX5) (hr : meth.sig.returnType = some .boolean) (t0 : Int32) (st : St) (hf : F_X5_readClause_44 t0 st = some (rr, st')) : Z X p l e (rmk 10) s m args below meth c 1 (MQ below (Qf X (some (.int rr)) st') args s 0 0 (cA X)) 44 [(0, .ref (X.2.1 23))] [.int t0] st := by
  unfold F_X5_readClause_44 at hf
  obtain ⟨hb19, hf⟩ := gb_some hf
  obtain ⟨rfl, rfl⟩ := ret2 hf
  exact x_zret hh hr (nb_n hb19) dX5_readClause_44
def F_X5_readClause_82 (t0 : Int32) (st : St) : Option (Int32 × St) := gb t0 (some (t0, st))
set_option maxRecDepth 100000 in
set_option maxHeartbeats 4000000 in
theorem Z_X5_readClause_82 {l : Launch} {X : Cx} (hX : Ok X) {p : Program} {e : Env} {s : State} {m : MethodId} {args : Array Value} {below : List Frame} {meth : Method} {c : Code} {rr : Int32} {st' : St} (hh : Hy X p s m args meth c cX5_readClause 1 RX5) (hr : meth.sig.returnType = some .boolean) (t0 : Int32) (st : St) (hf : F_X5_readClause_82 t0 st = some (rr, st')) : Z X p l e (rmk 10) s m args below meth c 1 (MQ below (Qf X (some (.int rr)) st') args s 0 0 (cA X)) 82 [(0, .ref (X.2.1 23))] [.int t0] st := by
  unfold F_X5_readClause_82 at hf
  obtain ⟨hb20, hf⟩ := gb_some hf
  obtain ⟨rfl, rfl⟩ := ret2 hf
  exact x_zret hh hr (nb_n hb20) dX5_readClause_82
def F_X5_readClause_120 (t0 : Int32) (st : St) : Option (Int32 × St) := gb t0 (some (t0, st))
set_option maxRecDepth 100000 in
set_option maxHeartbeats 4000000 in
theorem Z_X5_readClause_120 {l : Launch} {X : Cx} (hX : Ok X) {p : Program} {e : Env} {s : State} {m : MethodId} {args : Array Value} {below : List Frame} {meth : Method} {c : Code} {rr : Int32} {st' : St} (hh : Hy X p s m args meth c cX5_readClause 1 RX5) (hr : meth.sig.returnType = some .boolean) (t0 : Int32) (st : St) (hf : F_X5_readClause_120 t0 st = some (rr, st')) : Z X p l e (rmk 10) s m args below meth c 1 (MQ below (Qf X (some (.int rr)) st') args s 0 0 (cA X)) 120 [(0, .ref (X.2.1 23))] [.int t0] st := by
  unfold F_X5_readClause_120 at hf
  obtain ⟨hb21, hf⟩ := gb_some hf
  obtain ⟨rfl, rfl⟩ := ret2 hf
  exact x_zret hh hr (nb_n hb21) dX5_readClause_120
def F_X5_readClause_0 (st : St) : Option (Int32 × St) := bs (sV st 23 6 (st.1 23 5)) (fun st1 => (F_X5_isWord 0 st1).bind (fun q2 => if q2.1 = 0 then (F_X5_isWord 1 q2.2).bind (fun q4 => if q4.1 = 0 then (F_X5_isWord 2 q4.2).bind (fun q6 => if q6.1 = 0 then (F_X5_isFault 1 (q6.2.1 23 6) q6.2).bind (fun q8 => gb q8.1 (some (q8.1, q8.2))) else if (15 : Int32) ≤ (q6.2.1 24 2) then (F_X5_isFault 3 (q6.2.1 23 6) q6.2).bind (fun q11 => F_X5_readClause_120 q11.1 q11.2) else (F_X5_readFriends q6.2).bind (fun q12 => F_X5_readClause_120 q12.1 q12.2)) else if (6 : Int32) ≤ (q4.2.1 24 1) then (F_X5_isFault 3 (q4.2.1 23 6) q4.2).bind (fun q14 => F_X5_readClause_82 q14.1 q14.2) else (F_X5_readPerson q4.2).bind (fun q15 => F_X5_readClause_82 q15.1 q15.2)) else if (3 : Int32) ≤ (q2.2.1 24 0) then (F_X5_isFault 3 (q2.2.1 23 6) q2.2).bind (fun q17 => F_X5_readClause_44 q17.1 q17.2) else (F_X5_readRoom q2.2).bind (fun q18 => F_X5_readClause_44 q18.1 q18.2)))
set_option maxRecDepth 100000 in
set_option maxHeartbeats 4000000 in
theorem Z_X5_readClause_0 {l : Launch} {X : Cx} (hX : Ok X) {p : Program} {e : Env} {s : State} {m : MethodId} {args : Array Value} {below : List Frame} {meth : Method} {c : Code} {rr : Int32} {st' : St} (hh : Hy X p s m args meth c cX5_readClause 1 RX5) (hr : meth.sig.returnType = some .boolean) (st : St) (hf : F_X5_readClause_0 st = some (rr, st')) : Z X p l e (rmk 10) s m args below meth c 1 (MQ below (Qf X (some (.int rr)) st') args s 0 0 (cA X)) 0 [(0, .ref (X.2.1 23))] [] st := by
  unfold F_X5_readClause_0 at hf
  refine x_aload_n hh dX5_readClause_0 rfl 0 rfl 1 rfl ?_
  refine x_aload_n hh dX5_readClause_1 rfl 0 rfl 2 rfl ?_
  refine x_getI hh cl_5 dX5_readClause_2 sh_23 5 rfl (Nat.le_of_ble_eq_true rfl) wd_212 5 rfl ?_
  obtain ⟨st1, est1, hf⟩ := bs_some hf
  refine x_putI hh cl_5 dX5_readClause_5 sh_23 6 rfl (Nat.le_of_ble_eq_true rfl) wd_213 rfl rfl rfl 8 rfl st1 est1 ?_
  refine x_aload_n hh dX5_readClause_8 rfl 0 rfl 9 rfl ?_
  refine x_ldcS hh rfl (w := 0) (tx := "room") dX5_readClause_9 (by decide) 11 rfl ?_
  obtain ⟨q2, hq2, hf⟩ := b_some hf
  refine x_callV (rest := []) hh mi_X5_isWord [.ref (X.2.2.2.2.1 0)] dX5_readClause_11 sh_23 wd_344 (C_X5_isWord l hX (Nat.le_of_ble_eq_true rfl) hq2) rfl rfl ⟨Nat.le_of_ble_eq_true rfl, Nat.le_of_ble_eq_true rfl⟩ (Nat.le_of_ble_eq_true rfl) 14 rfl [.int q2.1] rfl ?_
  refine x_if_eq hh dX5_readClause_14 45 rfl 17 rfl (fun hc3 => ?_) (fun hc3 => ?_)
  · have hf := t_pos hc3 hf
    refine x_aload_n hh dX5_readClause_45 rfl 0 rfl 46 rfl ?_
    refine x_ldcS hh rfl (w := 1) (tx := "person") dX5_readClause_46 (by decide) 48 rfl ?_
    obtain ⟨q4, hq4, hf⟩ := b_some hf
    refine x_callV (rest := []) hh mi_X5_isWord [.ref (X.2.2.2.2.1 1)] dX5_readClause_48 sh_23 wd_344 (C_X5_isWord l hX (Nat.le_of_ble_eq_true rfl) hq4) rfl rfl ⟨Nat.le_of_ble_eq_true rfl, Nat.le_of_ble_eq_true rfl⟩ (Nat.le_of_ble_eq_true rfl) 51 rfl [.int q4.1] rfl ?_
    refine x_if_eq hh dX5_readClause_51 83 rfl 54 rfl (fun hc5 => ?_) (fun hc5 => ?_)
    · have hf := t_pos hc5 hf
      refine x_aload_n hh dX5_readClause_83 rfl 0 rfl 84 rfl ?_
      refine x_ldcS hh rfl (w := 2) (tx := "friends") dX5_readClause_84 (by decide) 86 rfl ?_
      obtain ⟨q6, hq6, hf⟩ := b_some hf
      refine x_callV (rest := []) hh mi_X5_isWord [.ref (X.2.2.2.2.1 2)] dX5_readClause_86 sh_23 wd_344 (C_X5_isWord l hX (Nat.le_of_ble_eq_true rfl) hq6) rfl rfl ⟨Nat.le_of_ble_eq_true rfl, Nat.le_of_ble_eq_true rfl⟩ (Nat.le_of_ble_eq_true rfl) 89 rfl [.int q6.1] rfl ?_
      refine x_if_eq hh dX5_readClause_89 121 rfl 92 rfl (fun hc7 => ?_) (fun hc7 => ?_)
      · have hf := t_pos hc7 hf
        refine x_aload_n hh dX5_readClause_121 rfl 0 rfl 122 rfl ?_
        refine x_iconst hh dX5_readClause_122 1 rfl 123 rfl ?_
        refine x_aload_n hh dX5_readClause_123 rfl 0 rfl 124 rfl ?_
        refine x_getI hh cl_5 dX5_readClause_124 sh_23 6 rfl (Nat.le_of_ble_eq_true rfl) wd_213 127 rfl ?_
        obtain ⟨q8, hq8, hf⟩ := b_some hf
        refine x_callV (rest := []) hh mi_X5_isFault [.int 1, .int (q6.2.1 23 6)] dX5_readClause_127 sh_23 wd_396 (C_X5_isFault l hX  hq8) rfl rfl ⟨Nat.le_of_ble_eq_true rfl, Nat.le_of_ble_eq_true rfl⟩ (Nat.le_of_ble_eq_true rfl) 130 rfl [.int q8.1] rfl ?_
        obtain ⟨hb9, hf⟩ := gb_some hf
        obtain ⟨rfl, rfl⟩ := ret2 hf
        exact x_zret hh hr (nb_n hb9) dX5_readClause_130
      · have hf := t_neg hc7 hf
        refine x_aload_n hh dX5_readClause_92 rfl 0 rfl 93 rfl ?_
        refine x_getR hh cl_5 dX5_readClause_93 sh_23 0 24 rfl (Nat.le_of_ble_eq_true rfl) wd_203 96 rfl ?_
        refine x_getI hh cl_3 dX5_readClause_96 sh_24 2 rfl (Nat.le_of_ble_eq_true rfl) wd_117 99 rfl ?_
        refine x_bipush hh dX5_readClause_99 15 rfl 101 rfl ?_
        refine x_icmp_ge hh dX5_readClause_101 111 rfl 104 rfl (fun hc10 => ?_) (fun hc10 => ?_)
        · have hf := t_pos hc10 hf
          refine x_aload_n hh dX5_readClause_111 rfl 0 rfl 112 rfl ?_
          refine x_iconst hh dX5_readClause_112 3 rfl 113 rfl ?_
          refine x_aload_n hh dX5_readClause_113 rfl 0 rfl 114 rfl ?_
          refine x_getI hh cl_5 dX5_readClause_114 sh_23 6 rfl (Nat.le_of_ble_eq_true rfl) wd_213 117 rfl ?_
          obtain ⟨q11, hq11, hf⟩ := b_some hf
          refine x_callV (rest := []) hh mi_X5_isFault [.int 3, .int (q6.2.1 23 6)] dX5_readClause_117 sh_23 wd_396 (C_X5_isFault l hX  hq11) rfl rfl ⟨Nat.le_of_ble_eq_true rfl, Nat.le_of_ble_eq_true rfl⟩ (Nat.le_of_ble_eq_true rfl) 120 rfl [.int q11.1] rfl ?_
          exact Z_X5_readClause_120 hX hh hr  q11.1 q11.2 hf
        · have hf := t_neg hc10 hf
          refine x_aload_n hh dX5_readClause_104 rfl 0 rfl 105 rfl ?_
          obtain ⟨q12, hq12, hf⟩ := b_some hf
          refine x_callV (rest := []) hh mi_X5_readFriends [] dX5_readClause_105 sh_23 wd_408 (C_X5_readFriends l hX  hq12) rfl rfl ⟨Nat.le_of_ble_eq_true rfl, Nat.le_of_ble_eq_true rfl⟩ (Nat.le_of_ble_eq_true rfl) 108 rfl [.int q12.1] rfl ?_
          refine x_goto hh dX5_readClause_108 120 rfl ?_
          exact Z_X5_readClause_120 hX hh hr  q12.1 q12.2 hf
    · have hf := t_neg hc5 hf
      refine x_aload_n hh dX5_readClause_54 rfl 0 rfl 55 rfl ?_
      refine x_getR hh cl_5 dX5_readClause_55 sh_23 0 24 rfl (Nat.le_of_ble_eq_true rfl) wd_203 58 rfl ?_
      refine x_getI hh cl_3 dX5_readClause_58 sh_24 1 rfl (Nat.le_of_ble_eq_true rfl) wd_114 61 rfl ?_
      refine x_bipush hh dX5_readClause_61 6 rfl 63 rfl ?_
      refine x_icmp_ge hh dX5_readClause_63 73 rfl 66 rfl (fun hc13 => ?_) (fun hc13 => ?_)
      · have hf := t_pos hc13 hf
        refine x_aload_n hh dX5_readClause_73 rfl 0 rfl 74 rfl ?_
        refine x_iconst hh dX5_readClause_74 3 rfl 75 rfl ?_
        refine x_aload_n hh dX5_readClause_75 rfl 0 rfl 76 rfl ?_
        refine x_getI hh cl_5 dX5_readClause_76 sh_23 6 rfl (Nat.le_of_ble_eq_true rfl) wd_213 79 rfl ?_
        obtain ⟨q14, hq14, hf⟩ := b_some hf
        refine x_callV (rest := []) hh mi_X5_isFault [.int 3, .int (q4.2.1 23 6)] dX5_readClause_79 sh_23 wd_396 (C_X5_isFault l hX  hq14) rfl rfl ⟨Nat.le_of_ble_eq_true rfl, Nat.le_of_ble_eq_true rfl⟩ (Nat.le_of_ble_eq_true rfl) 82 rfl [.int q14.1] rfl ?_
        exact Z_X5_readClause_82 hX hh hr  q14.1 q14.2 hf
      · have hf := t_neg hc13 hf
        refine x_aload_n hh dX5_readClause_66 rfl 0 rfl 67 rfl ?_
        obtain ⟨q15, hq15, hf⟩ := b_some hf
        refine x_callV (rest := []) hh mi_X5_readPerson [] dX5_readClause_67 sh_23 wd_405 (C_X5_readPerson l hX  hq15) rfl rfl ⟨Nat.le_of_ble_eq_true rfl, Nat.le_of_ble_eq_true rfl⟩ (Nat.le_of_ble_eq_true rfl) 70 rfl [.int q15.1] rfl ?_
        refine x_goto hh dX5_readClause_70 82 rfl ?_
        exact Z_X5_readClause_82 hX hh hr  q15.1 q15.2 hf
  · have hf := t_neg hc3 hf
    refine x_aload_n hh dX5_readClause_17 rfl 0 rfl 18 rfl ?_
    refine x_getR hh cl_5 dX5_readClause_18 sh_23 0 24 rfl (Nat.le_of_ble_eq_true rfl) wd_203 21 rfl ?_
    refine x_getI hh cl_3 dX5_readClause_21 sh_24 0 rfl (Nat.le_of_ble_eq_true rfl) wd_108 24 rfl ?_
    refine x_iconst hh dX5_readClause_24 3 rfl 25 rfl ?_
    refine x_icmp_ge hh dX5_readClause_25 35 rfl 28 rfl (fun hc16 => ?_) (fun hc16 => ?_)
    · have hf := t_pos hc16 hf
      refine x_aload_n hh dX5_readClause_35 rfl 0 rfl 36 rfl ?_
      refine x_iconst hh dX5_readClause_36 3 rfl 37 rfl ?_
      refine x_aload_n hh dX5_readClause_37 rfl 0 rfl 38 rfl ?_
      refine x_getI hh cl_5 dX5_readClause_38 sh_23 6 rfl (Nat.le_of_ble_eq_true rfl) wd_213 41 rfl ?_
      obtain ⟨q17, hq17, hf⟩ := b_some hf
      refine x_callV (rest := []) hh mi_X5_isFault [.int 3, .int (q2.2.1 23 6)] dX5_readClause_41 sh_23 wd_396 (C_X5_isFault l hX  hq17) rfl rfl ⟨Nat.le_of_ble_eq_true rfl, Nat.le_of_ble_eq_true rfl⟩ (Nat.le_of_ble_eq_true rfl) 44 rfl [.int q17.1] rfl ?_
      exact Z_X5_readClause_44 hX hh hr  q17.1 q17.2 hf
    · have hf := t_neg hc16 hf
      refine x_aload_n hh dX5_readClause_28 rfl 0 rfl 29 rfl ?_
      obtain ⟨q18, hq18, hf⟩ := b_some hf
      refine x_callV (rest := []) hh mi_X5_readRoom [] dX5_readClause_29 sh_23 wd_390 (C_X5_readRoom l hX  hq18) rfl rfl ⟨Nat.le_of_ble_eq_true rfl, Nat.le_of_ble_eq_true rfl⟩ (Nat.le_of_ble_eq_true rfl) 32 rfl [.int q18.1] rfl ?_
      refine x_goto hh dX5_readClause_32 44 rfl ?_
      exact Z_X5_readClause_44 hX hh hr  q18.1 q18.2 hf
def F_X5_readClause (st : St) : Option (Int32 × St) := F_X5_readClause_0  st
set_option maxRecDepth 100000 in
theorem C_X5_readClause (l : Launch) {X : Cx} (hX : Ok X) {st : St} {q : Int32 × St} (hf : F_X5_readClause st = some q) : Ct l X 10 yX5_readClause (.code yX5_readClause cX5_readClause 1 (some .boolean)) [.ref (X.2.1 23)] st (some (.int q.1)) q.2 := by
  refine Ct.of hX (by decide) (Nat.le_of_ble_eq_true rfl) ?_
  intro p e s m args below meth c hh hr
  exact Z_X5_readClause_0 hX hh hr st hf

def F_X5_readAll_64 (k26 : Int32 → Int32 → St → Option (St)) (v2 : Int32) (t0 : Int32) (st : St) : Option (St) := k26 t0 (v2 + 1) st
set_option maxRecDepth 100000 in
set_option maxHeartbeats 4000000 in
theorem Z_X5_readAll_64 {l : Launch} {X : Cx} (hX : Ok X) {p : Program} {e : Env} {s : State} {m : MethodId} {args : Array Value} {below : List Frame} {meth : Method} {c : Code} {st' : St} (hh : Hy X p s m args meth c cX5_readAll 3 RX5) (hr : meth.sig.returnType = none) {k26 : Int32 → Int32 → St → Option (St)} (hk26 : ∀ (v1 : Int32) (v2 : Int32) (st : St), k26 v1 v2 st = some st' → Z X p l e (rmk 11) s m args below meth c 3 (MQ below (Qf X none st') args s 0 0 (cA X)) 26 [(0, .ref (X.2.1 23)), (1, .int v1), (2, .int v2)] [] st) (v2 : Int32) (t0 : Int32) (st : St) (hf : F_X5_readAll_64 k26 v2 t0 st = some st') : Z X p l e (rmk 11) s m args below meth c 3 (MQ below (Qf X none st') args s 0 0 (cA X)) 64 [(0, .ref (X.2.1 23)), (2, .int v2)] [.int t0] st := by
  unfold F_X5_readAll_64 at hf
  refine x_istore_n hh dX5_readAll_64 rfl (by decide) [(1, .int t0), (0, .ref (X.2.1 23)), (2, .int v2)] rfl 65 rfl ?_
  refine x_iinc hh dX5_readAll_65 2 rfl (v2 + 1) rfl (by decide) [(2, .int (v2 + 1)), (1, .int t0), (0, .ref (X.2.1 23))] rfl 68 rfl ?_
  refine x_goto hh dX5_readAll_68 26 rfl ?_
  refine x_sub (lv' := [(0, .ref (X.2.1 23)), (1, .int t0), (2, .int (v2 + 1))]) [2, 1, 0] rfl ?_
  exact hk26 t0 (v2 + 1) st hf
def F_X5_readAll_63 (k26 : Int32 → Int32 → St → Option (St)) (v2 : Int32) (st : St) : Option (St) := F_X5_readAll_64 k26 v2 0 st
set_option maxRecDepth 100000 in
set_option maxHeartbeats 4000000 in
theorem Z_X5_readAll_63 {l : Launch} {X : Cx} (hX : Ok X) {p : Program} {e : Env} {s : State} {m : MethodId} {args : Array Value} {below : List Frame} {meth : Method} {c : Code} {st' : St} (hh : Hy X p s m args meth c cX5_readAll 3 RX5) (hr : meth.sig.returnType = none) {k26 : Int32 → Int32 → St → Option (St)} (hk26 : ∀ (v1 : Int32) (v2 : Int32) (st : St), k26 v1 v2 st = some st' → Z X p l e (rmk 11) s m args below meth c 3 (MQ below (Qf X none st') args s 0 0 (cA X)) 26 [(0, .ref (X.2.1 23)), (1, .int v1), (2, .int v2)] [] st) (v2 : Int32) (st : St) (hf : F_X5_readAll_63 k26 v2 st = some st') : Z X p l e (rmk 11) s m args below meth c 3 (MQ below (Qf X none st') args s 0 0 (cA X)) 63 [(0, .ref (X.2.1 23)), (2, .int v2)] [] st := by
  unfold F_X5_readAll_63 at hf
  refine x_iconst hh dX5_readAll_63 0 rfl 64 rfl ?_
  exact Z_X5_readAll_64 hX hh hr hk26  v2 0 st hf
def F_X5_readAll_71 (st : St) : Option (St) := some st
set_option maxRecDepth 100000 in
set_option maxHeartbeats 4000000 in
theorem Z_X5_readAll_71 {l : Launch} {X : Cx} (hX : Ok X) {p : Program} {e : Env} {s : State} {m : MethodId} {args : Array Value} {below : List Frame} {meth : Method} {c : Code} {st' : St} (hh : Hy X p s m args meth c cX5_readAll 3 RX5) (hr : meth.sig.returnType = none) (st : St) (hf : F_X5_readAll_71 st = some st') : Z X p l e (rmk 11) s m args below meth c 3 (MQ below (Qf X none st') args s 0 0 (cA X)) 71 [(0, .ref (X.2.1 23))] [] st := by
  unfold F_X5_readAll_71 at hf
  obtain rfl := ret1 hf
  exact x_vret hh hr dX5_readAll_71
def F_X5_readAll_26 : Nat → Int32 → Int32 → St → Option (St)
  | 0, _, _, _ => none
  | n + 1, v1, v2, st => if (500 : Int32) ≤ v2 then F_X5_readAll_71 st else if v1 = 0 then F_X5_readAll_71 st else (F_X5_skipBlanks st).bind (fun q7 => if (q7.1 23 1) ≤ (q7.1 23 5) then F_X5_readAll_63 (F_X5_readAll_26 n) v2 q7 else (F_X5_readClause q7).bind (fun q9 => if q9.1 = 0 then F_X5_readAll_63 (F_X5_readAll_26 n) v2 q9.2 else F_X5_readAll_64 (F_X5_readAll_26 n) v2 1 q9.2))
set_option maxRecDepth 100000 in
set_option maxHeartbeats 4000000 in
theorem Z_X5_readAll_26 {l : Launch} {X : Cx} (hX : Ok X) {p : Program} {e : Env} {s : State} {m : MethodId} {args : Array Value} {below : List Frame} {meth : Method} {c : Code} {st' : St} (hh : Hy X p s m args meth c cX5_readAll 3 RX5) (hr : meth.sig.returnType = none) : ∀ (n : Nat) (v1 : Int32) (v2 : Int32) (st : St), F_X5_readAll_26 n v1 v2 st = some st' → Z X p l e (rmk 11) s m args below meth c 3 (MQ below (Qf X none st') args s 0 0 (cA X)) 26 [(0, .ref (X.2.1 23)), (1, .int v1), (2, .int v2)] [] st := by
  intro n
  induction n with
  | zero =>
    intro v1 v2 st hf
    cases hf
  | succ n ih =>
    intro v1 v2 st hf
    rw [F_X5_readAll_26] at hf
    refine x_iload_n hh dX5_readAll_26 rfl 2 rfl 27 rfl ?_
    refine x_sipush hh dX5_readAll_27 500 rfl 30 rfl ?_
    refine x_icmp_ge hh dX5_readAll_30 71 rfl 33 rfl (fun hc5 => ?_) (fun hc5 => ?_)
    · have hf := t_pos hc5 hf
      refine x_sub (lv' := [(0, .ref (X.2.1 23))]) [0] rfl ?_
      exact Z_X5_readAll_71 hX hh hr  st hf
    · have hf := t_neg hc5 hf
      refine x_iload_n hh dX5_readAll_33 rfl 1 rfl 34 rfl ?_
      refine x_if_eq hh dX5_readAll_34 71 rfl 37 rfl (fun hc6 => ?_) (fun hc6 => ?_)
      · have hf := t_pos hc6 hf
        refine x_sub (lv' := [(0, .ref (X.2.1 23))]) [0] rfl ?_
        exact Z_X5_readAll_71 hX hh hr  st hf
      · have hf := t_neg hc6 hf
        refine x_aload_n hh dX5_readAll_37 rfl 0 rfl 38 rfl ?_
        obtain ⟨q7, hq7, hf⟩ := b_some hf
        refine x_callV (rest := []) hh mi_X5_skipBlanks [] dX5_readAll_38 sh_23 wd_338 (C_X5_skipBlanks l hX  hq7) rfl rfl ⟨Nat.le_of_ble_eq_true rfl, Nat.le_of_ble_eq_true rfl⟩ (Nat.le_of_ble_eq_true rfl) 41 rfl [] rfl ?_
        refine x_aload_n hh dX5_readAll_41 rfl 0 rfl 42 rfl ?_
        refine x_getI hh cl_5 dX5_readAll_42 sh_23 5 rfl (Nat.le_of_ble_eq_true rfl) wd_212 45 rfl ?_
        refine x_aload_n hh dX5_readAll_45 rfl 0 rfl 46 rfl ?_
        refine x_getI hh cl_5 dX5_readAll_46 sh_23 1 rfl (Nat.le_of_ble_eq_true rfl) wd_205 49 rfl ?_
        refine x_icmp_ge hh dX5_readAll_49 63 rfl 52 rfl (fun hc8 => ?_) (fun hc8 => ?_)
        · have hf := t_pos hc8 hf
          refine x_sub (lv' := [(0, .ref (X.2.1 23)), (2, .int v2)]) [0, 2] rfl ?_
          exact Z_X5_readAll_63 hX hh hr ih  v2 q7 hf
        · have hf := t_neg hc8 hf
          refine x_aload_n hh dX5_readAll_52 rfl 0 rfl 53 rfl ?_
          obtain ⟨q9, hq9, hf⟩ := b_some hf
          refine x_callV (rest := []) hh mi_X5_readClause [] dX5_readAll_53 sh_23 wd_341 (C_X5_readClause l hX  hq9) rfl rfl ⟨Nat.le_of_ble_eq_true rfl, Nat.le_of_ble_eq_true rfl⟩ (Nat.le_of_ble_eq_true rfl) 56 rfl [.int q9.1] rfl ?_
          refine x_if_eq hh dX5_readAll_56 63 rfl 59 rfl (fun hc10 => ?_) (fun hc10 => ?_)
          · have hf := t_pos hc10 hf
            refine x_sub (lv' := [(0, .ref (X.2.1 23)), (2, .int v2)]) [0, 2] rfl ?_
            exact Z_X5_readAll_63 hX hh hr ih  v2 q9.2 hf
          · have hf := t_neg hc10 hf
            refine x_iconst hh dX5_readAll_59 1 rfl 60 rfl ?_
            refine x_goto hh dX5_readAll_60 64 rfl ?_
            refine x_sub (lv' := [(0, .ref (X.2.1 23)), (2, .int v2)]) [0, 2] rfl ?_
            exact Z_X5_readAll_64 hX hh hr ih  v2 1 q9.2 hf
def F_X5_readAll_0 (st : St) : Option (St) := (F_X3_clearAll 24 st).bind (fun q1 => bs (sV q1 23 2 0) (fun st2 => bs (sV st2 23 3 ((-1))) (fun st3 => bs (sV st3 23 5 0) (fun st4 => F_X5_readAll_26 fN 1 0 st4))))
set_option maxRecDepth 100000 in
set_option maxHeartbeats 4000000 in
theorem Z_X5_readAll_0 {l : Launch} {X : Cx} (hX : Ok X) {p : Program} {e : Env} {s : State} {m : MethodId} {args : Array Value} {below : List Frame} {meth : Method} {c : Code} {st' : St} (hh : Hy X p s m args meth c cX5_readAll 3 RX5) (hr : meth.sig.returnType = none) (st : St) (hf : F_X5_readAll_0 st = some st') : Z X p l e (rmk 11) s m args below meth c 3 (MQ below (Qf X none st') args s 0 0 (cA X)) 0 [(0, .ref (X.2.1 23))] [] st := by
  unfold F_X5_readAll_0 at hf
  refine x_aload_n hh dX5_readAll_0 rfl 0 rfl 1 rfl ?_
  refine x_getR hh cl_5 dX5_readAll_1 sh_23 0 24 rfl (Nat.le_of_ble_eq_true rfl) wd_203 4 rfl ?_
  obtain ⟨q1, hq1, hf⟩ := b_some hf
  refine x_callV (rest := []) hh mi_X3_clearAll [] dX5_readAll_4 sh_24 wd_334 (C_X3_clearAll l hX ho_24 hq1) rfl rfl ⟨Nat.le_of_ble_eq_true rfl, Nat.le_of_ble_eq_true rfl⟩ (Nat.le_of_ble_eq_true rfl) 7 rfl [] rfl ?_
  refine x_aload_n hh dX5_readAll_7 rfl 0 rfl 8 rfl ?_
  refine x_iconst hh dX5_readAll_8 0 rfl 9 rfl ?_
  obtain ⟨st2, est2, hf⟩ := bs_some hf
  refine x_putI hh cl_5 dX5_readAll_9 sh_23 2 rfl (Nat.le_of_ble_eq_true rfl) wd_207 rfl rfl rfl 12 rfl st2 est2 ?_
  refine x_aload_n hh dX5_readAll_12 rfl 0 rfl 13 rfl ?_
  refine x_iconst hh dX5_readAll_13 (-1) rfl 14 rfl ?_
  obtain ⟨st3, est3, hf⟩ := bs_some hf
  refine x_putI hh cl_5 dX5_readAll_14 sh_23 3 rfl (Nat.le_of_ble_eq_true rfl) wd_209 rfl rfl rfl 17 rfl st3 est3 ?_
  refine x_aload_n hh dX5_readAll_17 rfl 0 rfl 18 rfl ?_
  refine x_iconst hh dX5_readAll_18 0 rfl 19 rfl ?_
  obtain ⟨st4, est4, hf⟩ := bs_some hf
  refine x_putI hh cl_5 dX5_readAll_19 sh_23 5 rfl (Nat.le_of_ble_eq_true rfl) wd_212 rfl rfl rfl 22 rfl st4 est4 ?_
  refine x_iconst hh dX5_readAll_22 1 rfl 23 rfl ?_
  refine x_istore_n hh dX5_readAll_23 rfl (by decide) [(1, .int 1), (0, .ref (X.2.1 23))] rfl 24 rfl ?_
  refine x_iconst hh dX5_readAll_24 0 rfl 25 rfl ?_
  refine x_istore_n hh dX5_readAll_25 rfl (by decide) [(2, .int 0), (1, .int 1), (0, .ref (X.2.1 23))] rfl 26 rfl ?_
  refine x_sub (lv' := [(0, .ref (X.2.1 23)), (1, .int 1), (2, .int 0)]) [2, 1, 0] rfl ?_
  exact Z_X5_readAll_26 hX hh hr fN 1 0 st4 hf
def F_X5_readAll (st : St) : Option (St) := F_X5_readAll_0  st
set_option maxRecDepth 100000 in
theorem C_X5_readAll (l : Launch) {X : Cx} (hX : Ok X) {st : St} {q : St} (hf : F_X5_readAll st = some q) : Ct l X 11 yX5_readAll (.code yX5_readAll cX5_readAll 3 (none)) [.ref (X.2.1 23)] st none q := by
  refine Ct.of hX (by decide) (Nat.le_of_ble_eq_true rfl) ?_
  intro p e s m args below meth c hh hr
  exact Z_X5_readAll_0 hX hh hr st hf

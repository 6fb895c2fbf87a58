def F_X4_forget_2 : Nat → Int32 → St → Option (St)
  | 0, _, _ => none
  | n + 1, v1, st => if (384 : Int32) ≤ v1 then (F_X7_copyRow 14 37 st).bind (fun q2 => some q2) else gi v1 384 (bs (sV st 36 v1.toNatClampNeg ((-2))) (fun st4 => F_X4_forget_2 n (v1 + 1) st4))
set_option maxRecDepth 100000 in
set_option maxHeartbeats 4000000 in
theorem Z_X4_forget_2 {l : Launch} {X : Cx} (hX : Ok X) {p : Program} {e : Env} {s : State} {m : MethodId} {args : Array Value} {below : List Frame} {meth : Method} {c : Code} {st' : St} (hh : Hy X p s m args meth c cX4_forget 2 RX4) (hr : meth.sig.returnType = none) : ∀ (n : Nat) (v1 : Int32) (st : St), F_X4_forget_2 n v1 st = some st' → Z X p l e (rmk 3) s m args below meth c 2 (MQ below (Qf X none st') args s 0 0 (cA X)) 2 [(0, .ref (X.2.1 33)), (1, .int v1)] [] st := by
  intro n
  induction n with
  | zero =>
    intro v1 st hf
    cases hf
  | succ n ih =>
    intro v1 st hf
    rw [F_X4_forget_2] at hf
    refine x_iload_n hh dX4_forget_2 rfl 1 rfl 3 rfl ?_
    refine x_aload_n hh dX4_forget_3 rfl 0 rfl 4 rfl ?_
    refine x_getR hh cl_4 dX4_forget_4 sh_33 4 36 rfl (Nat.le_of_ble_eq_true rfl) wd_234 7 rfl ?_
    refine x_alen hh dX4_forget_7 sh_36 ⟨_, rfl⟩ 384 rfl 8 rfl ?_
    refine x_icmp_ge hh dX4_forget_8 25 rfl 11 rfl (fun hc1 => ?_) (fun hc1 => ?_)
    · have hf := t_pos hc1 hf
      refine x_aload_n hh dX4_forget_25 rfl 0 rfl 26 rfl ?_
      refine x_getR hh cl_4 dX4_forget_26 sh_33 1 9 rfl (Nat.le_of_ble_eq_true rfl) wd_231 29 rfl ?_
      refine x_getR hh cl_6 dX4_forget_29 sh_9 4 14 rfl (Nat.le_of_ble_eq_true rfl) wd_170 32 rfl ?_
      refine x_aload_n hh dX4_forget_32 rfl 0 rfl 33 rfl ?_
      refine x_getR hh cl_4 dX4_forget_33 sh_33 5 37 rfl (Nat.le_of_ble_eq_true rfl) wd_235 36 rfl ?_
      obtain ⟨q2, hq2, hf⟩ := b_some hf
      refine x_callSN (rest := []) hh ms_X7_copyRow [.ref (X.2.1 14), .ref (X.2.1 37)] dX4_forget_36 (by decide) (C_X7_copyRow l hX sh_14 sh_37 hq2) rfl rfl ⟨Nat.le_of_ble_eq_true rfl, Nat.le_of_ble_eq_true rfl⟩ (Nat.le_of_ble_eq_true rfl) 39 rfl [] rfl ?_
      obtain rfl := ret1 hf
      exact x_vret hh hr dX4_forget_39
    · have hf := t_neg hc1 hf
      refine x_aload_n hh dX4_forget_11 rfl 0 rfl 12 rfl ?_
      refine x_getR hh cl_4 dX4_forget_12 sh_33 4 36 rfl (Nat.le_of_ble_eq_true rfl) wd_234 15 rfl ?_
      refine x_iload_n hh dX4_forget_15 rfl 1 rfl 16 rfl ?_
      refine x_bipush hh dX4_forget_16 (-2) rfl 18 rfl ?_
      obtain ⟨hi3, hf⟩ := gi_some hf
      obtain ⟨st4, est4, hf⟩ := bs_some hf
      refine x_iastore hh dX4_forget_18 sh_36 hi3 19 rfl st4 est4 ?_
      refine x_iinc hh dX4_forget_19 1 rfl (v1 + 1) rfl (by decide) [(1, .int (v1 + 1)), (0, .ref (X.2.1 33))] rfl 22 rfl ?_
      refine x_goto hh dX4_forget_22 2 rfl ?_
      refine x_sub (lv' := [(0, .ref (X.2.1 33)), (1, .int (v1 + 1))]) [1, 0] rfl ?_
      exact ih (v1 + 1) st4 hf
def F_X4_forget_0 (st : St) : Option (St) := F_X4_forget_2 fN 0 st
set_option maxRecDepth 100000 in
set_option maxHeartbeats 4000000 in
theorem Z_X4_forget_0 {l : Launch} {X : Cx} (hX : Ok X) {p : Program} {e : Env} {s : State} {m : MethodId} {args : Array Value} {below : List Frame} {meth : Method} {c : Code} {st' : St} (hh : Hy X p s m args meth c cX4_forget 2 RX4) (hr : meth.sig.returnType = none) (st : St) (hf : F_X4_forget_0 st = some st') : Z X p l e (rmk 3) s m args below meth c 2 (MQ below (Qf X none st') args s 0 0 (cA X)) 0 [(0, .ref (X.2.1 33))] [] st := by
  unfold F_X4_forget_0 at hf
  refine x_iconst hh dX4_forget_0 0 rfl 1 rfl ?_
  refine x_istore_n hh dX4_forget_1 rfl (by decide) [(1, .int 0), (0, .ref (X.2.1 33))] rfl 2 rfl ?_
  refine x_sub (lv' := [(0, .ref (X.2.1 33)), (1, .int 0)]) [1, 0] rfl ?_
  exact Z_X4_forget_2 hX hh hr fN 0 st hf
def F_X4_forget (st : St) : Option (St) := F_X4_forget_0  st
set_option maxRecDepth 100000 in
theorem C_X4_forget (l : Launch) {X : Cx} (hX : Ok X) {st : St} {q : St} (hf : F_X4_forget st = some q) : Ct l X 3 yX4_forget (.code yX4_forget cX4_forget 2 (none)) [.ref (X.2.1 33)] st none q := by
  refine Ct.of hX (by decide) (Nat.le_of_ble_eq_true rfl) ?_
  intro p e s m args below meth c hh hr
  exact Z_X4_forget_0 hX hh hr st hf

def F_X4_lookAtFloors_122 (k18 : Int32 → St → Option (St)) (k71 : Int32 → Int32 → St → Option (St)) (v1 : Int32) (v2 : Int32) (st : St) : Option (St) := k71 v1 (v2 + 1) st
set_option maxRecDepth 100000 in
set_option maxHeartbeats 4000000 in
theorem Z_X4_lookAtFloors_122 {l : Launch} {X : Cx} (hX : Ok X) {p : Program} {e : Env} {s : State} {m : MethodId} {args : Array Value} {below : List Frame} {meth : Method} {c : Code} {st' : St} (hh : Hy X p s m args meth c cX4_lookAtFloors 3 RX4) (hr : meth.sig.returnType = none) {k18 : Int32 → St → Option (St)} (hk18 : ∀ (v1 : Int32) (st : St), k18 v1 st = some st' → Z X p l e (rmk 1) s m args below meth c 3 (MQ below (Qf X none st') args s 0 0 (cA X)) 18 [(0, .ref (X.2.1 33)), (1, .int v1)] [] st) {k71 : Int32 → Int32 → St → Option (St)} (hk71 : ∀ (v1 : Int32) (v2 : Int32) (st : St), k71 v1 v2 st = some st' → Z X p l e (rmk 1) s m args below meth c 3 (MQ below (Qf X none st') args s 0 0 (cA X)) 71 [(0, .ref (X.2.1 33)), (1, .int v1), (2, .int v2)] [] st) (v1 : Int32) (v2 : Int32) (st : St) (hf : F_X4_lookAtFloors_122 k18 k71 v1 v2 st = some st') : Z X p l e (rmk 1) s m args below meth c 3 (MQ below (Qf X none st') args s 0 0 (cA X)) 122 [(0, .ref (X.2.1 33)), (1, .int v1), (2, .int v2)] [] st := by
  unfold F_X4_lookAtFloors_122 at hf
  refine x_iinc hh dX4_lookAtFloors_122 2 rfl (v2 + 1) rfl (by decide) [(2, .int (v2 + 1)), (0, .ref (X.2.1 33)), (1, .int v1)] rfl 125 rfl ?_
  refine x_goto hh dX4_lookAtFloors_125 71 rfl ?_
  refine x_sub (lv' := [(0, .ref (X.2.1 33)), (1, .int v1), (2, .int (v2 + 1))]) [1, 2, 0] rfl ?_
  exact hk71 v1 (v2 + 1) st hf
def F_X4_lookAtFloors_128 (k18 : Int32 → St → Option (St)) (v1 : Int32) (st : St) : Option (St) := k18 (v1 + 1) st
set_option maxRecDepth 100000 in
set_option maxHeartbeats 4000000 in
theorem Z_X4_lookAtFloors_128 {l : Launch} {X : Cx} (hX : Ok X) {p : Program} {e : Env} {s : State} {m : MethodId} {args : Array Value} {below : List Frame} {meth : Method} {c : Code} {st' : St} (hh : Hy X p s m args meth c cX4_lookAtFloors 3 RX4) (hr : meth.sig.returnType = none) {k18 : Int32 → St → Option (St)} (hk18 : ∀ (v1 : Int32) (st : St), k18 v1 st = some st' → Z X p l e (rmk 1) s m args below meth c 3 (MQ below (Qf X none st') args s 0 0 (cA X)) 18 [(0, .ref (X.2.1 33)), (1, .int v1)] [] st) (v1 : Int32) (st : St) (hf : F_X4_lookAtFloors_128 k18 v1 st = some st') : Z X p l e (rmk 1) s m args below meth c 3 (MQ below (Qf X none st') args s 0 0 (cA X)) 128 [(0, .ref (X.2.1 33)), (1, .int v1)] [] st := by
  unfold F_X4_lookAtFloors_128 at hf
  refine x_iinc hh dX4_lookAtFloors_128 1 rfl (v1 + 1) rfl (by decide) [(1, .int (v1 + 1)), (0, .ref (X.2.1 33))] rfl 131 rfl ?_
  refine x_goto hh dX4_lookAtFloors_131 18 rfl ?_
  refine x_sub (lv' := [(0, .ref (X.2.1 33)), (1, .int (v1 + 1))]) [1, 0] rfl ?_
  exact hk18 (v1 + 1) st hf
def F_X4_lookAtFloors_71 (k18 : Int32 → St → Option (St)) : Nat → Int32 → Int32 → St → Option (St)
  | 0, _, _, _ => none
  | n + 1, v1, v2, st => if v1 ≤ v2 then F_X4_lookAtFloors_128 k18 v1 st else if (st.1 33 9) = 0 then (F_X3_floorAt 1 (st.1 33 7) v2 st).bind (fun q12 => (F_X3_floorAt 1 (q12.2.1 33 7) v1 q12.2).bind (fun q13 => if q12.1 = q13.1 then gi v1 6 (gi v1 6 (bs (sV q13.2 35 v1.toNatClampNeg ((q13.2.1 35 v1.toNatClampNeg) ||| (1 <<< (v2 &&& 31)))) (fun st17 => F_X4_lookAtFloors_122 k18 (F_X4_lookAtFloors_71 k18 n) v1 v2 st17))) else F_X4_lookAtFloors_122 k18 (F_X4_lookAtFloors_71 k18 n) v1 v2 q13.2)) else F_X4_lookAtFloors_128 k18 v1 st
set_option maxRecDepth 100000 in
set_option maxHeartbeats 4000000 in
theorem Z_X4_lookAtFloors_71 {l : Launch} {X : Cx} (hX : Ok X) {p : Program} {e : Env} {s : State} {m : MethodId} {args : Array Value} {below : List Frame} {meth : Method} {c : Code} {st' : St} (hh : Hy X p s m args meth c cX4_lookAtFloors 3 RX4) (hr : meth.sig.returnType = none) {k18 : Int32 → St → Option (St)} (hk18 : ∀ (v1 : Int32) (st : St), k18 v1 st = some st' → Z X p l e (rmk 1) s m args below meth c 3 (MQ below (Qf X none st') args s 0 0 (cA X)) 18 [(0, .ref (X.2.1 33)), (1, .int v1)] [] st) : ∀ (n : Nat) (v1 : Int32) (v2 : Int32) (st : St), F_X4_lookAtFloors_71 k18 n v1 v2 st = some st' → Z X p l e (rmk 1) s m args below meth c 3 (MQ below (Qf X none st') args s 0 0 (cA X)) 71 [(0, .ref (X.2.1 33)), (1, .int v1), (2, .int v2)] [] st := by
  intro n
  induction n with
  | zero =>
    intro v1 v2 st hf
    cases hf
  | succ n ih =>
    intro v1 v2 st hf
    rw [F_X4_lookAtFloors_71] at hf
    refine x_iload_n hh dX4_lookAtFloors_71 rfl 2 rfl 72 rfl ?_
    refine x_iload_n hh dX4_lookAtFloors_72 rfl 1 rfl 73 rfl ?_
    refine x_icmp_ge hh dX4_lookAtFloors_73 128 rfl 76 rfl (fun hc10 => ?_) (fun hc10 => ?_)
    · have hf := t_pos hc10 hf
      refine x_sub (lv' := [(0, .ref (X.2.1 33)), (1, .int v1)]) [0, 1] rfl ?_
      exact Z_X4_lookAtFloors_128 hX hh hr hk18  v1 st hf
    · have hf := t_neg hc10 hf
      refine x_aload_n hh dX4_lookAtFloors_76 rfl 0 rfl 77 rfl ?_
      refine x_getI hh cl_4 dX4_lookAtFloors_77 sh_33 9 rfl (Nat.le_of_ble_eq_true rfl) wd_239 80 rfl ?_
      refine x_if_ne hh dX4_lookAtFloors_80 128 rfl 83 rfl (fun hc11 => ?_) (fun hc11 => ?_)
      · have hf := t_neg hc11 hf
        refine x_sub (lv' := [(0, .ref (X.2.1 33)), (1, .int v1)]) [0, 1] rfl ?_
        exact Z_X4_lookAtFloors_128 hX hh hr hk18  v1 st hf
      · have hf := t_pos hc11 hf
        refine x_aload_n hh dX4_lookAtFloors_83 rfl 0 rfl 84 rfl ?_
        refine x_getR hh cl_4 dX4_lookAtFloors_84 sh_33 0 1 rfl (Nat.le_of_ble_eq_true rfl) wd_230 87 rfl ?_
        refine x_aload_n hh dX4_lookAtFloors_87 rfl 0 rfl 88 rfl ?_
        refine x_getI hh cl_4 dX4_lookAtFloors_88 sh_33 7 rfl (Nat.le_of_ble_eq_true rfl) wd_237 91 rfl ?_
        refine x_iload_n hh dX4_lookAtFloors_91 rfl 2 rfl 92 rfl ?_
        obtain ⟨q12, hq12, hf⟩ := b_some hf
        refine x_callV (rest := []) hh mi_X3_floorAt [.int (st.1 33 7), .int v2] dX4_lookAtFloors_92 sh_1 wd_631 (C_X3_floorAt l hX ho_1 hq12) rfl rfl ⟨Nat.le_of_ble_eq_true rfl, Nat.le_of_ble_eq_true rfl⟩ (Nat.le_of_ble_eq_true rfl) 95 rfl [.int q12.1] rfl ?_
        refine x_aload_n hh dX4_lookAtFloors_95 rfl 0 rfl 96 rfl ?_
        refine x_getR hh cl_4 dX4_lookAtFloors_96 sh_33 0 1 rfl (Nat.le_of_ble_eq_true rfl) wd_230 99 rfl ?_
        refine x_aload_n hh dX4_lookAtFloors_99 rfl 0 rfl 100 rfl ?_
        refine x_getI hh cl_4 dX4_lookAtFloors_100 sh_33 7 rfl (Nat.le_of_ble_eq_true rfl) wd_237 103 rfl ?_
        refine x_iload_n hh dX4_lookAtFloors_103 rfl 1 rfl 104 rfl ?_
        obtain ⟨q13, hq13, hf⟩ := b_some hf
        refine x_callV (rest := [.int q12.1]) hh mi_X3_floorAt [.int (q12.2.1 33 7), .int v1] dX4_lookAtFloors_104 sh_1 wd_631 (C_X3_floorAt l hX ho_1 hq13) rfl rfl ⟨Nat.le_of_ble_eq_true rfl, Nat.le_of_ble_eq_true rfl⟩ (Nat.le_of_ble_eq_true rfl) 107 rfl [.int q13.1, .int q12.1] rfl ?_
        refine x_icmp_ne hh dX4_lookAtFloors_107 122 rfl 110 rfl (fun hc14 => ?_) (fun hc14 => ?_)
        · have hf := t_neg hc14 hf
          exact Z_X4_lookAtFloors_122 hX hh hr hk18 ih  v1 v2 q13.2 hf
        · have hf := t_pos hc14 hf
          refine x_aload_n hh dX4_lookAtFloors_110 rfl 0 rfl 111 rfl ?_
          refine x_getR hh cl_4 dX4_lookAtFloors_111 sh_33 3 35 rfl (Nat.le_of_ble_eq_true rfl) wd_233 114 rfl ?_
          refine x_iload_n hh dX4_lookAtFloors_114 rfl 1 rfl 115 rfl ?_
          refine x_dup2 hh dX4_lookAtFloors_115 rfl rfl 116 rfl ?_
          obtain ⟨hi15, hf⟩ := gi_some hf
          refine x_iaload hh dX4_lookAtFloors_116 sh_35 hi15 117 rfl ?_
          refine x_iconst hh dX4_lookAtFloors_117 1 rfl 118 rfl ?_
          refine x_iload_n hh dX4_lookAtFloors_118 rfl 2 rfl 119 rfl ?_
          refine x_ishl hh dX4_lookAtFloors_119 120 rfl ?_
          refine x_ior hh dX4_lookAtFloors_120 121 rfl ?_
          obtain ⟨hi16, hf⟩ := gi_some hf
          obtain ⟨st17, est17, hf⟩ := bs_some hf
          refine x_iastore hh dX4_lookAtFloors_121 sh_35 hi16 122 rfl st17 est17 ?_
          exact Z_X4_lookAtFloors_122 hX hh hr hk18 ih  v1 v2 st17 hf
def F_X4_lookAtFloors_134 (st : St) : Option (St) := some st
set_option maxRecDepth 100000 in
set_option maxHeartbeats 4000000 in
theorem Z_X4_lookAtFloors_134 {l : Launch} {X : Cx} (hX : Ok X) {p : Program} {e : Env} {s : State} {m : MethodId} {args : Array Value} {below : List Frame} {meth : Method} {c : Code} {st' : St} (hh : Hy X p s m args meth c cX4_lookAtFloors 3 RX4) (hr : meth.sig.returnType = none) (st : St) (hf : F_X4_lookAtFloors_134 st = some st') : Z X p l e (rmk 1) s m args below meth c 3 (MQ below (Qf X none st') args s 0 0 (cA X)) 134 [(0, .ref (X.2.1 33))] [] st := by
  unfold F_X4_lookAtFloors_134 at hf
  obtain rfl := ret1 hf
  exact x_vret hh hr dX4_lookAtFloors_134
def F_X4_lookAtFloors_18 : Nat → Int32 → St → Option (St)
  | 0, _, _ => none
  | n + 1, v1, st => (F_X3_placesOf 1 (st.1 33 7) st).bind (fun q3 => if q3.1 ≤ v1 then F_X4_lookAtFloors_134 q3.2 else if (6 : Int32) ≤ v1 then F_X4_lookAtFloors_134 q3.2 else (F_X3_floorAt 1 (q3.2.1 33 7) v1 q3.2).bind (fun q6 => bs (sV q6.2 33 8 (imn (q3.2.1 33 8) q6.1)) (fun st7 => gi v1 6 (bs (sV st7 35 v1.toNatClampNeg 0) (fun st9 => F_X4_lookAtFloors_71 (F_X4_lookAtFloors_18 n) fN v1 0 st9)))))
set_option maxRecDepth 100000 in
set_option maxHeartbeats 4000000 in
theorem Z_X4_lookAtFloors_18 {l : Launch} {X : Cx} (hX : Ok X) {p : Program} {e : Env} {s : State} {m : MethodId} {args : Array Value} {below : List Frame} {meth : Method} {c : Code} {st' : St} (hh : Hy X p s m args meth c cX4_lookAtFloors 3 RX4) (hr : meth.sig.returnType = none) : ∀ (n : Nat) (v1 : Int32) (st : St), F_X4_lookAtFloors_18 n v1 st = some st' → Z X p l e (rmk 1) s m args below meth c 3 (MQ below (Qf X none st') args s 0 0 (cA X)) 18 [(0, .ref (X.2.1 33)), (1, .int v1)] [] st := by
  intro n
  induction n with
  | zero =>
    intro v1 st hf
    cases hf
  | succ n ih =>
    intro v1 st hf
    rw [F_X4_lookAtFloors_18] at hf
    refine x_iload_n hh dX4_lookAtFloors_18 rfl 1 rfl 19 rfl ?_
    refine x_aload_n hh dX4_lookAtFloors_19 rfl 0 rfl 20 rfl ?_
    refine x_getR hh cl_4 dX4_lookAtFloors_20 sh_33 0 1 rfl (Nat.le_of_ble_eq_true rfl) wd_230 23 rfl ?_
    refine x_aload_n hh dX4_lookAtFloors_23 rfl 0 rfl 24 rfl ?_
    refine x_getI hh cl_4 dX4_lookAtFloors_24 sh_33 7 rfl (Nat.le_of_ble_eq_true rfl) wd_237 27 rfl ?_
    obtain ⟨q3, hq3, hf⟩ := b_some hf
    refine x_callV (rest := [.int v1]) hh mi_X3_placesOf [.int (st.1 33 7)] dX4_lookAtFloors_27 sh_1 wd_632 (C_X3_placesOf l hX ho_1 hq3) rfl rfl ⟨Nat.le_of_ble_eq_true rfl, Nat.le_of_ble_eq_true rfl⟩ (Nat.le_of_ble_eq_true rfl) 30 rfl [.int q3.1, .int v1] rfl ?_
    refine x_icmp_ge hh dX4_lookAtFloors_30 134 rfl 33 rfl (fun hc4 => ?_) (fun hc4 => ?_)
    · have hf := t_pos hc4 hf
      refine x_sub (lv' := [(0, .ref (X.2.1 33))]) [0] rfl ?_
      exact Z_X4_lookAtFloors_134 hX hh hr  q3.2 hf
    · have hf := t_neg hc4 hf
      refine x_iload_n hh dX4_lookAtFloors_33 rfl 1 rfl 34 rfl ?_
      refine x_bipush hh dX4_lookAtFloors_34 6 rfl 36 rfl ?_
      refine x_icmp_ge hh dX4_lookAtFloors_36 134 rfl 39 rfl (fun hc5 => ?_) (fun hc5 => ?_)
      · have hf := t_pos hc5 hf
        refine x_sub (lv' := [(0, .ref (X.2.1 33))]) [0] rfl ?_
        exact Z_X4_lookAtFloors_134 hX hh hr  q3.2 hf
      · have hf := t_neg hc5 hf
        refine x_aload_n hh dX4_lookAtFloors_39 rfl 0 rfl 40 rfl ?_
        refine x_aload_n hh dX4_lookAtFloors_40 rfl 0 rfl 41 rfl ?_
        refine x_getI hh cl_4 dX4_lookAtFloors_41 sh_33 8 rfl (Nat.le_of_ble_eq_true rfl) wd_238 44 rfl ?_
        refine x_aload_n hh dX4_lookAtFloors_44 rfl 0 rfl 45 rfl ?_
        refine x_getR hh cl_4 dX4_lookAtFloors_45 sh_33 0 1 rfl (Nat.le_of_ble_eq_true rfl) wd_230 48 rfl ?_
        refine x_aload_n hh dX4_lookAtFloors_48 rfl 0 rfl 49 rfl ?_
        refine x_getI hh cl_4 dX4_lookAtFloors_49 sh_33 7 rfl (Nat.le_of_ble_eq_true rfl) wd_237 52 rfl ?_
        refine x_iload_n hh dX4_lookAtFloors_52 rfl 1 rfl 53 rfl ?_
        obtain ⟨q6, hq6, hf⟩ := b_some hf
        refine x_callV (rest := [.int (q3.2.1 33 8), .ref (X.2.1 33)]) hh mi_X3_floorAt [.int (q3.2.1 33 7), .int v1] dX4_lookAtFloors_53 sh_1 wd_631 (C_X3_floorAt l hX ho_1 hq6) rfl rfl ⟨Nat.le_of_ble_eq_true rfl, Nat.le_of_ble_eq_true rfl⟩ (Nat.le_of_ble_eq_true rfl) 56 rfl [.int q6.1, .int (q3.2.1 33 8), .ref (X.2.1 33)] rfl ?_
        refine x_mmin hh dX4_lookAtFloors_56 wd_633 wd_426 wd_89 wd_427 ⟨Nat.le_of_ble_eq_true rfl, Nat.le_of_ble_eq_true rfl⟩ 59 rfl ?_
        obtain ⟨st7, est7, hf⟩ := bs_some hf
        refine x_putI hh cl_4 dX4_lookAtFloors_59 sh_33 8 rfl (Nat.le_of_ble_eq_true rfl) wd_238 rfl rfl rfl 62 rfl st7 est7 ?_
        refine x_aload_n hh dX4_lookAtFloors_62 rfl 0 rfl 63 rfl ?_
        refine x_getR hh cl_4 dX4_lookAtFloors_63 sh_33 3 35 rfl (Nat.le_of_ble_eq_true rfl) wd_233 66 rfl ?_
        refine x_iload_n hh dX4_lookAtFloors_66 rfl 1 rfl 67 rfl ?_
        refine x_iconst hh dX4_lookAtFloors_67 0 rfl 68 rfl ?_
        obtain ⟨hi8, hf⟩ := gi_some hf
        obtain ⟨st9, est9, hf⟩ := bs_some hf
        refine x_iastore hh dX4_lookAtFloors_68 sh_35 hi8 69 rfl st9 est9 ?_
        refine x_iconst hh dX4_lookAtFloors_69 0 rfl 70 rfl ?_
        refine x_istore_n hh dX4_lookAtFloors_70 rfl (by decide) [(2, .int 0), (0, .ref (X.2.1 33)), (1, .int v1)] rfl 71 rfl ?_
        refine x_sub (lv' := [(0, .ref (X.2.1 33)), (1, .int v1), (2, .int 0)]) [1, 2, 0] rfl ?_
        exact Z_X4_lookAtFloors_71 hX hh hr ih fN v1 0 st9 hf
def F_X4_lookAtFloors_0 (st : St) : Option (St) := (F_X3_floorAt 1 (st.1 33 7) 0 st).bind (fun q1 => bs (sV q1.2 33 8 q1.1) (fun st2 => F_X4_lookAtFloors_18 fN 0 st2))
set_option maxRecDepth 100000 in
set_option maxHeartbeats 4000000 in
theorem Z_X4_lookAtFloors_0 {l : Launch} {X : Cx} (hX : Ok X) {p : Program} {e : Env} {s : State} {m : MethodId} {args : Array Value} {below : List Frame} {meth : Method} {c : Code} {st' : St} (hh : Hy X p s m args meth c cX4_lookAtFloors 3 RX4) (hr : meth.sig.returnType = none) (st : St) (hf : F_X4_lookAtFloors_0 st = some st') : Z X p l e (rmk 1) s m args below meth c 3 (MQ below (Qf X none st') args s 0 0 (cA X)) 0 [(0, .ref (X.2.1 33))] [] st := by
  unfold F_X4_lookAtFloors_0 at hf
  refine x_aload_n hh dX4_lookAtFloors_0 rfl 0 rfl 1 rfl ?_
  refine x_aload_n hh dX4_lookAtFloors_1 rfl 0 rfl 2 rfl ?_
  refine x_getR hh cl_4 dX4_lookAtFloors_2 sh_33 0 1 rfl (Nat.le_of_ble_eq_true rfl) wd_230 5 rfl ?_
  refine x_aload_n hh dX4_lookAtFloors_5 rfl 0 rfl 6 rfl ?_
  refine x_getI hh cl_4 dX4_lookAtFloors_6 sh_33 7 rfl (Nat.le_of_ble_eq_true rfl) wd_237 9 rfl ?_
  refine x_iconst hh dX4_lookAtFloors_9 0 rfl 10 rfl ?_
  obtain ⟨q1, hq1, hf⟩ := b_some hf
  refine x_callV (rest := [.ref (X.2.1 33)]) hh mi_X3_floorAt [.int (st.1 33 7), .int 0] dX4_lookAtFloors_10 sh_1 wd_631 (C_X3_floorAt l hX ho_1 hq1) rfl rfl ⟨Nat.le_of_ble_eq_true rfl, Nat.le_of_ble_eq_true rfl⟩ (Nat.le_of_ble_eq_true rfl) 13 rfl [.int q1.1, .ref (X.2.1 33)] rfl ?_
  obtain ⟨st2, est2, hf⟩ := bs_some hf
  refine x_putI hh cl_4 dX4_lookAtFloors_13 sh_33 8 rfl (Nat.le_of_ble_eq_true rfl) wd_238 rfl rfl rfl 16 rfl st2 est2 ?_
  refine x_iconst hh dX4_lookAtFloors_16 0 rfl 17 rfl ?_
  refine x_istore_n hh dX4_lookAtFloors_17 rfl (by decide) [(1, .int 0), (0, .ref (X.2.1 33))] rfl 18 rfl ?_
  refine x_sub (lv' := [(0, .ref (X.2.1 33)), (1, .int 0)]) [1, 0] rfl ?_
  exact Z_X4_lookAtFloors_18 hX hh hr fN 0 st2 hf
def F_X4_lookAtFloors (st : St) : Option (St) := F_X4_lookAtFloors_0  st
set_option maxRecDepth 100000 in
theorem C_X4_lookAtFloors (l : Launch) {X : Cx} (hX : Ok X) {st : St} {q : St} (hf : F_X4_lookAtFloors st = some q) : Ct l X 1 yX4_lookAtFloors (.code yX4_lookAtFloors cX4_lookAtFloors 3 (none)) [.ref (X.2.1 33)] st none q := by
  refine Ct.of hX (by decide) (Nat.le_of_ble_eq_true rfl) ?_
  intro p e s m args below meth c hh hr
  exact Z_X4_lookAtFloors_0 hX hh hr st hf

def F_X4_orderByAge_67 (st : St) : Option (St) := some st
set_option maxRecDepth 100000 in
set_option maxHeartbeats 4000000 in
theorem Z_X4_orderByAge_67 {l : Launch} {X : Cx} (hX : Ok X) {p : Program} {e : Env} {s : State} {m : MethodId} {args : Array Value} {below : List Frame} {meth : Method} {c : Code} {st' : St} (hh : Hy X p s m args meth c cX4_orderByAge 5 RX4) (hr : meth.sig.returnType = none) (st : St) (hf : F_X4_orderByAge_67 st = some st') : Z X p l e (rmk 1) s m args below meth c 5 (MQ below (Qf X none st') args s 0 0 (cA X)) 67 [(0, .ref (X.2.1 33))] [] st := by
  unfold F_X4_orderByAge_67 at hf
  obtain rfl := ret1 hf
  exact x_vret hh hr dX4_orderByAge_67
def F_X4_orderByAge_9 : Nat → Int32 → Int32 → St → Option (St)
  | 0, _, _, _ => none
  | n + 1, v2, v3, st => if (6 : Int32) ≤ v3 then F_X4_orderByAge_67 st else (F_X6_eldestOf 9 v2 st).bind (fun q3 => if q3.1 = ((-1)) then F_X4_orderByAge_67 q3.2 else gi v3 6 (bs (sV q3.2 34 v3.toNatClampNeg q3.1) (fun st6 => bs (sV st6 33 6 ((st6.1 33 6) + 1)) (fun st7 => F_X4_orderByAge_9 n (v2 &&& ((1 <<< (q3.1 &&& 31)) ^^^ ((-1)))) (v3 + 1) st7))))
set_option maxRecDepth 100000 in
set_option maxHeartbeats 4000000 in
theorem Z_X4_orderByAge_9 {l : Launch} {X : Cx} (hX : Ok X) {p : Program} {e : Env} {s : State} {m : MethodId} {args : Array Value} {below : List Frame} {meth : Method} {c : Code} {st' : St} (hh : Hy X p s m args meth c cX4_orderByAge 5 RX4) (hr : meth.sig.returnType = none) : ∀ (n : Nat) (v2 : Int32) (v3 : Int32) (st : St), F_X4_orderByAge_9 n v2 v3 st = some st' → Z X p l e (rmk 1) s m args below meth c 5 (MQ below (Qf X none st') args s 0 0 (cA X)) 9 [(0, .ref (X.2.1 33)), (2, .int v2), (3, .int v3)] [] st := by
  intro n
  induction n with
  | zero =>
    intro v2 v3 st hf
    cases hf
  | succ n ih =>
    intro v2 v3 st hf
    rw [F_X4_orderByAge_9] at hf
    refine x_iload_n hh dX4_orderByAge_9 rfl 2 rfl 10 rfl ?_
    refine x_bipush hh dX4_orderByAge_10 6 rfl 12 rfl ?_
    refine x_icmp_ge hh dX4_orderByAge_12 67 rfl 15 rfl (fun hc2 => ?_) (fun hc2 => ?_)
    · have hf := t_pos hc2 hf
      refine x_sub (lv' := [(0, .ref (X.2.1 33))]) [0] rfl ?_
      exact Z_X4_orderByAge_67 hX hh hr  st hf
    · have hf := t_neg hc2 hf
      refine x_aload_n hh dX4_orderByAge_15 rfl 0 rfl 16 rfl ?_
      refine x_getR hh cl_4 dX4_orderByAge_16 sh_33 1 9 rfl (Nat.le_of_ble_eq_true rfl) wd_231 19 rfl ?_
      refine x_iload_n hh dX4_orderByAge_19 rfl 1 rfl 20 rfl ?_
      obtain ⟨q3, hq3, hf⟩ := b_some hf
      refine x_callV (rest := []) hh mi_X6_eldestOf [.int v2] dX4_orderByAge_20 sh_9 wd_627 (C_X6_eldestOf l hX sc_9 hq3) rfl rfl ⟨Nat.le_of_ble_eq_true rfl, Nat.le_of_ble_eq_true rfl⟩ (Nat.le_of_ble_eq_true rfl) 23 rfl [.int q3.1] rfl ?_
      refine x_istore hh dX4_orderByAge_23 (by decide) [(4, .int q3.1), (0, .ref (X.2.1 33)), (2, .int v2), (3, .int v3)] rfl 25 rfl ?_
      refine x_iload hh dX4_orderByAge_25 0 rfl 27 rfl ?_
      refine x_iconst hh dX4_orderByAge_27 (-1) rfl 28 rfl ?_
      refine x_icmp_ne hh dX4_orderByAge_28 34 rfl 31 rfl (fun hc4 => ?_) (fun hc4 => ?_)
      · have hf := t_neg hc4 hf
        refine x_aload_n hh dX4_orderByAge_34 rfl 1 rfl 35 rfl ?_
        refine x_getR hh cl_4 dX4_orderByAge_35 sh_33 2 34 rfl (Nat.le_of_ble_eq_true rfl) wd_232 38 rfl ?_
        refine x_iload_n hh dX4_orderByAge_38 rfl 3 rfl 39 rfl ?_
        refine x_iload hh dX4_orderByAge_39 0 rfl 41 rfl ?_
        obtain ⟨hi5, hf⟩ := gi_some hf
        obtain ⟨st6, est6, hf⟩ := bs_some hf
        refine x_iastore hh dX4_orderByAge_41 sh_34 hi5 42 rfl st6 est6 ?_
        refine x_aload_n hh dX4_orderByAge_42 rfl 1 rfl 43 rfl ?_
        refine x_dup hh dX4_orderByAge_43 rfl 44 rfl ?_
        refine x_getI hh cl_4 dX4_orderByAge_44 sh_33 6 rfl (Nat.le_of_ble_eq_true rfl) wd_236 47 rfl ?_
        refine x_iconst hh dX4_orderByAge_47 1 rfl 48 rfl ?_
        refine x_iadd hh dX4_orderByAge_48 49 rfl ?_
        obtain ⟨st7, est7, hf⟩ := bs_some hf
        refine x_putI hh cl_4 dX4_orderByAge_49 sh_33 6 rfl (Nat.le_of_ble_eq_true rfl) wd_236 rfl rfl rfl 52 rfl st7 est7 ?_
        refine x_iload_n hh dX4_orderByAge_52 rfl 2 rfl 53 rfl ?_
        refine x_iconst hh dX4_orderByAge_53 1 rfl 54 rfl ?_
        refine x_iload hh dX4_orderByAge_54 0 rfl 56 rfl ?_
        refine x_ishl hh dX4_orderByAge_56 57 rfl ?_
        refine x_iconst hh dX4_orderByAge_57 (-1) rfl 58 rfl ?_
        refine x_ixor hh dX4_orderByAge_58 59 rfl ?_
        refine x_iand hh dX4_orderByAge_59 60 rfl ?_
        refine x_istore_n hh dX4_orderByAge_60 rfl (by decide) [(2, .int (v2 &&& ((1 <<< (q3.1 &&& 31)) ^^^ ((-1))))), (4, .int q3.1), (0, .ref (X.2.1 33)), (3, .int v3)] rfl 61 rfl ?_
        refine x_iinc hh dX4_orderByAge_61 3 rfl (v3 + 1) rfl (by decide) [(3, .int (v3 + 1)), (2, .int (v2 &&& ((1 <<< (q3.1 &&& 31)) ^^^ ((-1))))), (4, .int q3.1), (0, .ref (X.2.1 33))] rfl 64 rfl ?_
        refine x_goto hh dX4_orderByAge_64 9 rfl ?_
        refine x_sub (lv' := [(0, .ref (X.2.1 33)), (2, .int (v2 &&& ((1 <<< (q3.1 &&& 31)) ^^^ ((-1))))), (3, .int (v3 + 1))]) [3, 1, 0] rfl ?_
        exact ih (v2 &&& ((1 <<< (q3.1 &&& 31)) ^^^ ((-1)))) (v3 + 1) st7 hf
      · have hf := t_pos hc4 hf
        refine x_goto hh dX4_orderByAge_31 67 rfl ?_
        refine x_sub (lv' := [(0, .ref (X.2.1 33))]) [1] rfl ?_
        exact Z_X4_orderByAge_67 hX hh hr  q3.2 hf
def F_X4_orderByAge_0 (v1 : Int32) (st : St) : Option (St) := bs (sV st 33 6 0) (fun st1 => F_X4_orderByAge_9 fN v1 0 st1)
set_option maxRecDepth 100000 in
set_option maxHeartbeats 4000000 in
theorem Z_X4_orderByAge_0 {l : Launch} {X : Cx} (hX : Ok X) {p : Program} {e : Env} {s : State} {m : MethodId} {args : Array Value} {below : List Frame} {meth : Method} {c : Code} {st' : St} (hh : Hy X p s m args meth c cX4_orderByAge 5 RX4) (hr : meth.sig.returnType = none) (v1 : Int32) (st : St) (hf : F_X4_orderByAge_0 v1 st = some st') : Z X p l e (rmk 1) s m args below meth c 5 (MQ below (Qf X none st') args s 0 0 (cA X)) 0 [(0, .ref (X.2.1 33)), (1, .int v1)] [] st := by
  unfold F_X4_orderByAge_0 at hf
  refine x_iload_n hh dX4_orderByAge_0 rfl 1 rfl 1 rfl ?_
  refine x_istore_n hh dX4_orderByAge_1 rfl (by decide) [(2, .int v1), (0, .ref (X.2.1 33)), (1, .int v1)] rfl 2 rfl ?_
  refine x_aload_n hh dX4_orderByAge_2 rfl 1 rfl 3 rfl ?_
  refine x_iconst hh dX4_orderByAge_3 0 rfl 4 rfl ?_
  obtain ⟨st1, est1, hf⟩ := bs_some hf
  refine x_putI hh cl_4 dX4_orderByAge_4 sh_33 6 rfl (Nat.le_of_ble_eq_true rfl) wd_236 rfl rfl rfl 7 rfl st1 est1 ?_
  refine x_iconst hh dX4_orderByAge_7 0 rfl 8 rfl ?_
  refine x_istore_n hh dX4_orderByAge_8 rfl (by decide) [(3, .int 0), (2, .int v1), (0, .ref (X.2.1 33)), (1, .int v1)] rfl 9 rfl ?_
  refine x_sub (lv' := [(0, .ref (X.2.1 33)), (2, .int v1), (3, .int 0)]) [2, 1, 0] rfl ?_
  exact Z_X4_orderByAge_9 hX hh hr fN v1 0 st1 hf
def F_X4_orderByAge (v1 : Int32) (st : St) : Option (St) := F_X4_orderByAge_0  v1 st
set_option maxRecDepth 100000 in
theorem C_X4_orderByAge (l : Launch) {X : Cx} (hX : Ok X) {v1 : Int32} {st : St} {q : St} (hf : F_X4_orderByAge v1 st = some q) : Ct l X 1 yX4_orderByAge (.code yX4_orderByAge cX4_orderByAge 5 (none)) [.ref (X.2.1 33), .int v1] st none q := by
  refine Ct.of hX (by decide) (Nat.le_of_ble_eq_true rfl) ?_
  intro p e s m args below meth c hh hr
  exact Z_X4_orderByAge_0 hX hh hr v1 st hf

def F_X4_leastOfRest_81 (v3 : Int32) (st : St) : Option (Int32 × St) := some (v3, st)
set_option maxRecDepth 100000 in
set_option maxHeartbeats 4000000 in
theorem Z_X4_leastOfRest_81 {l : Launch} {X : Cx} (hX : Ok X) {p : Program} {e : Env} {s : State} {m : MethodId} {args : Array Value} {below : List Frame} {meth : Method} {c : Code} {rr : Int32} {st' : St} (hh : Hy X p s m args meth c cX4_leastOfRest 7 RX4) (hr : meth.sig.returnType = some .int) (v3 : Int32) (st : St) (hf : F_X4_leastOfRest_81 v3 st = some (rr, st')) : Z X p l e (rmk 1) s m args below meth c 7 (MQ below (Qf X (some (.int rr)) st') args s 0 0 (cA X)) 81 [(0, .ref (X.2.1 33)), (3, .int v3)] [] st := by
  unfold F_X4_leastOfRest_81 at hf
  refine x_iload_n hh dX4_leastOfRest_81 rfl 1 rfl 82 rfl ?_
  obtain ⟨rfl, rfl⟩ := ret2 hf
  exact x_iret hh hr dX4_leastOfRest_82
def F_X4_leastOfRest_5 : Nat → Int32 → Int32 → Int32 → St → Option (Int32 × St)
  | 0, _, _, _, _ => none
  | n + 1, v2, v3, v4, st => if (st.1 33 6) ≤ v4 then F_X4_leastOfRest_81 v3 st else if (6 : Int32) ≤ v4 then F_X4_leastOfRest_81 v3 st else gi v4 6 (gi (st.1 34 v4.toNatClampNeg) 6 (gi (st.1 34 v4.toNatClampNeg) 6 (if (imx 0 (((st.1 33 8) + (st.1 14 (st.1 34 v4.toNatClampNeg).toNatClampNeg)) - v2)) ≤ (st.1 6 (st.1 34 v4.toNatClampNeg).toNatClampNeg) then F_X4_leastOfRest_5 n v2 (v3 + (imx 0 (((st.1 33 8) + (st.1 14 (st.1 34 v4.toNatClampNeg).toNatClampNeg)) - v2))) (v4 + 1) st else some ((-1), st))))
set_option maxRecDepth 100000 in
set_option maxHeartbeats 4000000 in
theorem Z_X4_leastOfRest_5 {l : Launch} {X : Cx} (hX : Ok X) {p : Program} {e : Env} {s : State} {m : MethodId} {args : Array Value} {below : List Frame} {meth : Method} {c : Code} {rr : Int32} {st' : St} (hh : Hy X p s m args meth c cX4_leastOfRest 7 RX4) (hr : meth.sig.returnType = some .int) : ∀ (n : Nat) (v2 : Int32) (v3 : Int32) (v4 : Int32) (st : St), F_X4_leastOfRest_5 n v2 v3 v4 st = some (rr, st') → Z X p l e (rmk 1) s m args below meth c 7 (MQ below (Qf X (some (.int rr)) st') args s 0 0 (cA X)) 5 [(0, .ref (X.2.1 33)), (2, .int v2), (3, .int v3), (4, .int v4)] [] st := by
  intro n
  induction n with
  | zero =>
    intro v2 v3 v4 st hf
    cases hf
  | succ n ih =>
    intro v2 v3 v4 st hf
    rw [F_X4_leastOfRest_5] at hf
    refine x_iload hh dX4_leastOfRest_5 3 rfl 7 rfl ?_
    refine x_aload_n hh dX4_leastOfRest_7 rfl 0 rfl 8 rfl ?_
    refine x_getI hh cl_4 dX4_leastOfRest_8 sh_33 6 rfl (Nat.le_of_ble_eq_true rfl) wd_236 11 rfl ?_
    refine x_icmp_ge hh dX4_leastOfRest_11 81 rfl 14 rfl (fun hc1 => ?_) (fun hc1 => ?_)
    · have hf := t_pos hc1 hf
      refine x_sub (lv' := [(0, .ref (X.2.1 33)), (3, .int v3)]) [0, 2] rfl ?_
      exact Z_X4_leastOfRest_81 hX hh hr  v3 st hf
    · have hf := t_neg hc1 hf
      refine x_iload hh dX4_leastOfRest_14 3 rfl 16 rfl ?_
      refine x_bipush hh dX4_leastOfRest_16 6 rfl 18 rfl ?_
      refine x_icmp_ge hh dX4_leastOfRest_18 81 rfl 21 rfl (fun hc2 => ?_) (fun hc2 => ?_)
      · have hf := t_pos hc2 hf
        refine x_sub (lv' := [(0, .ref (X.2.1 33)), (3, .int v3)]) [0, 2] rfl ?_
        exact Z_X4_leastOfRest_81 hX hh hr  v3 st hf
      · have hf := t_neg hc2 hf
        refine x_aload_n hh dX4_leastOfRest_21 rfl 0 rfl 22 rfl ?_
        refine x_getR hh cl_4 dX4_leastOfRest_22 sh_33 2 34 rfl (Nat.le_of_ble_eq_true rfl) wd_232 25 rfl ?_
        refine x_iload hh dX4_leastOfRest_25 3 rfl 27 rfl ?_
        obtain ⟨hi3, hf⟩ := gi_some hf
        refine x_iaload hh dX4_leastOfRest_27 sh_34 hi3 28 rfl ?_
        refine x_istore hh dX4_leastOfRest_28 (by decide) [(5, .int (st.1 34 v4.toNatClampNeg)), (0, .ref (X.2.1 33)), (2, .int v2), (3, .int v3), (4, .int v4)] rfl 30 rfl ?_
        refine x_iconst hh dX4_leastOfRest_30 0 rfl 31 rfl ?_
        refine x_aload_n hh dX4_leastOfRest_31 rfl 1 rfl 32 rfl ?_
        refine x_getI hh cl_4 dX4_leastOfRest_32 sh_33 8 rfl (Nat.le_of_ble_eq_true rfl) wd_238 35 rfl ?_
        refine x_aload_n hh dX4_leastOfRest_35 rfl 1 rfl 36 rfl ?_
        refine x_getR hh cl_4 dX4_leastOfRest_36 sh_33 1 9 rfl (Nat.le_of_ble_eq_true rfl) wd_231 39 rfl ?_
        refine x_getR hh cl_6 dX4_leastOfRest_39 sh_9 4 14 rfl (Nat.le_of_ble_eq_true rfl) wd_170 42 rfl ?_
        refine x_iload hh dX4_leastOfRest_42 0 rfl 44 rfl ?_
        obtain ⟨hi4, hf⟩ := gi_some hf
        refine x_iaload hh dX4_leastOfRest_44 sh_14 hi4 45 rfl ?_
        refine x_iadd hh dX4_leastOfRest_45 46 rfl ?_
        refine x_iload_n hh dX4_leastOfRest_46 rfl 2 rfl 47 rfl ?_
        refine x_isub hh dX4_leastOfRest_47 48 rfl ?_
        refine x_mmax hh dX4_leastOfRest_48 wd_637 wd_557 wd_89 wd_558 ⟨Nat.le_of_ble_eq_true rfl, Nat.le_of_ble_eq_true rfl⟩ 51 rfl ?_
        refine x_istore hh dX4_leastOfRest_51 (by decide) [(6, .int (imx 0 (((st.1 33 8) + (st.1 14 (st.1 34 v4.toNatClampNeg).toNatClampNeg)) - v2))), (5, .int (st.1 34 v4.toNatClampNeg)), (0, .ref (X.2.1 33)), (2, .int v2), (3, .int v3), (4, .int v4)] rfl 53 rfl ?_
        refine x_iload hh dX4_leastOfRest_53 0 rfl 55 rfl ?_
        refine x_aload_n hh dX4_leastOfRest_55 rfl 2 rfl 56 rfl ?_
        refine x_getR hh cl_4 dX4_leastOfRest_56 sh_33 0 1 rfl (Nat.le_of_ble_eq_true rfl) wd_230 59 rfl ?_
        refine x_getR hh cl_3 dX4_leastOfRest_59 sh_1 7 6 rfl (Nat.le_of_ble_eq_true rfl) wd_133 62 rfl ?_
        refine x_iload hh dX4_leastOfRest_62 1 rfl 64 rfl ?_
        obtain ⟨hi5, hf⟩ := gi_some hf
        refine x_iaload hh dX4_leastOfRest_64 sh_6 hi5 65 rfl ?_
        refine x_icmp_le hh dX4_leastOfRest_65 70 rfl 68 rfl (fun hc6 => ?_) (fun hc6 => ?_)
        · have hf := t_pos hc6 hf
          refine x_iload_n hh dX4_leastOfRest_70 rfl 4 rfl 71 rfl ?_
          refine x_iload hh dX4_leastOfRest_71 0 rfl 73 rfl ?_
          refine x_iadd hh dX4_leastOfRest_73 74 rfl ?_
          refine x_istore_n hh dX4_leastOfRest_74 rfl (by decide) [(3, .int (v3 + (imx 0 (((st.1 33 8) + (st.1 14 (st.1 34 v4.toNatClampNeg).toNatClampNeg)) - v2)))), (6, .int (imx 0 (((st.1 33 8) + (st.1 14 (st.1 34 v4.toNatClampNeg).toNatClampNeg)) - v2))), (5, .int (st.1 34 v4.toNatClampNeg)), (0, .ref (X.2.1 33)), (2, .int v2), (4, .int v4)] rfl 75 rfl ?_
          refine x_iinc hh dX4_leastOfRest_75 5 rfl (v4 + 1) rfl (by decide) [(4, .int (v4 + 1)), (3, .int (v3 + (imx 0 (((st.1 33 8) + (st.1 14 (st.1 34 v4.toNatClampNeg).toNatClampNeg)) - v2)))), (6, .int (imx 0 (((st.1 33 8) + (st.1 14 (st.1 34 v4.toNatClampNeg).toNatClampNeg)) - v2))), (5, .int (st.1 34 v4.toNatClampNeg)), (0, .ref (X.2.1 33)), (2, .int v2)] rfl 78 rfl ?_
          refine x_goto hh dX4_leastOfRest_78 5 rfl ?_
          refine x_sub (lv' := [(0, .ref (X.2.1 33)), (2, .int v2), (3, .int (v3 + (imx 0 (((st.1 33 8) + (st.1 14 (st.1 34 v4.toNatClampNeg).toNatClampNeg)) - v2)))), (4, .int (v4 + 1))]) [4, 5, 1, 0] rfl ?_
          exact ih v2 (v3 + (imx 0 (((st.1 33 8) + (st.1 14 (st.1 34 v4.toNatClampNeg).toNatClampNeg)) - v2))) (v4 + 1) st hf
        · have hf := t_neg hc6 hf
          refine x_iconst hh dX4_leastOfRest_68 (-1) rfl 69 rfl ?_
          obtain ⟨rfl, rfl⟩ := ret2 hf
          exact x_iret hh hr dX4_leastOfRest_69
def F_X4_leastOfRest_0 (v1 : Int32) (v2 : Int32) (st : St) : Option (Int32 × St) := F_X4_leastOfRest_5 fN v2 0 v1 st
set_option maxRecDepth 100000 in
set_option maxHeartbeats 4000000 in
theorem Z_X4_leastOfRest_0 {l : Launch} {X : Cx} (hX : Ok X) {p : Program} {e : Env} {s : State} {m : MethodId} {args : Array Value} {below : List Frame} {meth : Method} {c : Code} {rr : Int32} {st' : St} (hh : Hy X p s m args meth c cX4_leastOfRest 7 RX4) (hr : meth.sig.returnType = some .int) (v1 : Int32) (v2 : Int32) (st : St) (hf : F_X4_leastOfRest_0 v1 v2 st = some (rr, st')) : Z X p l e (rmk 1) s m args below meth c 7 (MQ below (Qf X (some (.int rr)) st') args s 0 0 (cA X)) 0 [(0, .ref (X.2.1 33)), (1, .int v1), (2, .int v2)] [] st := by
  unfold F_X4_leastOfRest_0 at hf
  refine x_iconst hh dX4_leastOfRest_0 0 rfl 1 rfl ?_
  refine x_istore_n hh dX4_leastOfRest_1 rfl (by decide) [(3, .int 0), (0, .ref (X.2.1 33)), (1, .int v1), (2, .int v2)] rfl 2 rfl ?_
  refine x_iload_n hh dX4_leastOfRest_2 rfl 2 rfl 3 rfl ?_
  refine x_istore hh dX4_leastOfRest_3 (by decide) [(4, .int v1), (3, .int 0), (0, .ref (X.2.1 33)), (1, .int v1), (2, .int v2)] rfl 5 rfl ?_
  refine x_sub (lv' := [(0, .ref (X.2.1 33)), (2, .int v2), (3, .int 0), (4, .int v1)]) [2, 4, 1, 0] rfl ?_
  exact Z_X4_leastOfRest_5 hX hh hr fN v2 0 v1 st hf
def F_X4_leastOfRest (v1 : Int32) (v2 : Int32) (st : St) : Option (Int32 × St) := F_X4_leastOfRest_0  v1 v2 st
set_option maxRecDepth 100000 in
theorem C_X4_leastOfRest (l : Launch) {X : Cx} (hX : Ok X) {v1 : Int32} {v2 : Int32} {st : St} {q : Int32 × St} (hf : F_X4_leastOfRest v1 v2 st = some q) : Ct l X 1 yX4_leastOfRest (.code yX4_leastOfRest cX4_leastOfRest 7 (some .int)) [.ref (X.2.1 33), .int v1, .int v2] st (some (.int q.1)) q.2 := by
  refine Ct.of hX (by decide) (Nat.le_of_ble_eq_true rfl) ?_
  intro p e s m args below meth c hh hr
  exact Z_X4_leastOfRest_0 hX hh hr v1 v2 st hf

def F_X4_limitBehind_20 (t0 : Int32) (st : St) : Option (Int32 × St) := some (t0, st)
set_option maxRecDepth 100000 in
set_option maxHeartbeats 4000000 in
theorem Z_X4_limitBehind_20 {l : Launch} {X : Cx} (hX : Ok X) {p : Program} {e : Env} {s : State} {m : MethodId} {args : Array Value} {below : List Frame} {meth : Method} {c : Code} {rr : Int32} {st' : St} (hh : Hy X p s m args meth c cX4_limitBehind 3 RX4) (hr : meth.sig.returnType = some .int) (t0 : Int32) (st : St) (hf : F_X4_limitBehind_20 t0 st = some (rr, st')) : Z X p l e (rmk 1) s m args below meth c 3 (MQ below (Qf X (some (.int rr)) st') args s 0 0 (cA X)) 20 [(0, .ref (X.2.1 33))] [.int t0] st := by
  unfold F_X4_limitBehind_20 at hf
  obtain ⟨rfl, rfl⟩ := ret2 hf
  exact x_iret hh hr dX4_limitBehind_20
def F_X4_limitBehind_0 (v1 : Int32) (v2 : Int32) (st : St) : Option (Int32 × St) := if (st.1 9 5) = 1 then F_X4_limitBehind_20 (imn v1 v2) st else F_X4_limitBehind_20 v1 st
set_option maxRecDepth 100000 in
set_option maxHeartbeats 4000000 in
theorem Z_X4_limitBehind_0 {l : Launch} {X : Cx} (hX : Ok X) {p : Program} {e : Env} {s : State} {m : MethodId} {args : Array Value} {below : List Frame} {meth : Method} {c : Code} {rr : Int32} {st' : St} (hh : Hy X p s m args meth c cX4_limitBehind 3 RX4) (hr : meth.sig.returnType = some .int) (v1 : Int32) (v2 : Int32) (st : St) (hf : F_X4_limitBehind_0 v1 v2 st = some (rr, st')) : Z X p l e (rmk 1) s m args below meth c 3 (MQ below (Qf X (some (.int rr)) st') args s 0 0 (cA X)) 0 [(0, .ref (X.2.1 33)), (1, .int v1), (2, .int v2)] [] st := by
  unfold F_X4_limitBehind_0 at hf
  refine x_aload_n hh dX4_limitBehind_0 rfl 0 rfl 1 rfl ?_
  refine x_getR hh cl_4 dX4_limitBehind_1 sh_33 1 9 rfl (Nat.le_of_ble_eq_true rfl) wd_231 4 rfl ?_
  refine x_getI hh cl_6 dX4_limitBehind_4 sh_9 5 rfl (Nat.le_of_ble_eq_true rfl) wd_176 7 rfl ?_
  refine x_iconst hh dX4_limitBehind_7 1 rfl 8 rfl ?_
  refine x_icmp_ne hh dX4_limitBehind_8 19 rfl 11 rfl (fun hc1 => ?_) (fun hc1 => ?_)
  · have hf := t_neg hc1 hf
    refine x_iload_n hh dX4_limitBehind_19 rfl 1 rfl 20 rfl ?_
    refine x_sub (lv' := [(0, .ref (X.2.1 33))]) [0] rfl ?_
    exact Z_X4_limitBehind_20 hX hh hr  v1 st hf
  · have hf := t_pos hc1 hf
    refine x_iload_n hh dX4_limitBehind_11 rfl 1 rfl 12 rfl ?_
    refine x_iload_n hh dX4_limitBehind_12 rfl 2 rfl 13 rfl ?_
    refine x_mmin hh dX4_limitBehind_13 wd_633 wd_426 wd_89 wd_427 ⟨Nat.le_of_ble_eq_true rfl, Nat.le_of_ble_eq_true rfl⟩ 16 rfl ?_
    refine x_goto hh dX4_limitBehind_16 20 rfl ?_
    refine x_sub (lv' := [(0, .ref (X.2.1 33))]) [0] rfl ?_
    exact Z_X4_limitBehind_20 hX hh hr  (imn v1 v2) st hf
def F_X4_limitBehind (v1 : Int32) (v2 : Int32) (st : St) : Option (Int32 × St) := F_X4_limitBehind_0  v1 v2 st
set_option maxRecDepth 100000 in
theorem C_X4_limitBehind (l : Launch) {X : Cx} (hX : Ok X) {v1 : Int32} {v2 : Int32} {st : St} {q : Int32 × St} (hf : F_X4_limitBehind v1 v2 st = some q) : Ct l X 1 yX4_limitBehind (.code yX4_limitBehind cX4_limitBehind 3 (some .int)) [.ref (X.2.1 33), .int v1, .int v2] st (some (.int q.1)) q.2 := by
  refine Ct.of hX (by decide) (Nat.le_of_ble_eq_true rfl) ?_
  intro p e s m args below meth c hh hr
  exact Z_X4_limitBehind_0 hX hh hr v1 v2 st hf

def F_X4_shiftOf_0 (v0 : Int32) (st : St) : Option (Int32 × St) := some (3 * (5 - v0), st)
set_option maxRecDepth 100000 in
set_option maxHeartbeats 4000000 in
theorem Z_X4_shiftOf_0 {l : Launch} {X : Cx} (hX : Ok X) {p : Program} {e : Env} {s : State} {m : MethodId} {args : Array Value} {below : List Frame} {meth : Method} {c : Code} {rr : Int32} {st' : St} (hh : Hy X p s m args meth c cX4_shiftOf 1 RX4) (hr : meth.sig.returnType = some .int) (v0 : Int32) (st : St) (hf : F_X4_shiftOf_0 v0 st = some (rr, st')) : Z X p l e (rmk 0) s m args below meth c 1 (MQ below (Qf X (some (.int rr)) st') args s 0 0 (cA X)) 0 [(0, .int v0)] [] st := by
  unfold F_X4_shiftOf_0 at hf
  refine x_iconst hh dX4_shiftOf_0 3 rfl 1 rfl ?_
  refine x_iconst hh dX4_shiftOf_1 5 rfl 2 rfl ?_
  refine x_iload_n hh dX4_shiftOf_2 rfl 0 rfl 3 rfl ?_
  refine x_isub hh dX4_shiftOf_3 4 rfl ?_
  refine x_imul hh dX4_shiftOf_4 5 rfl ?_
  obtain ⟨rfl, rfl⟩ := ret2 hf
  exact x_iret hh hr dX4_shiftOf_5
def F_X4_shiftOf (v0 : Int32) (st : St) : Option (Int32 × St) := F_X4_shiftOf_0  v0 st
set_option maxRecDepth 100000 in
theorem C_X4_shiftOf (l : Launch) {X : Cx} (hX : Ok X) {v0 : Int32} {st : St} {q : Int32 × St} (hf : F_X4_shiftOf v0 st = some q) : Ct l X 0 yX4_shiftOf (.code yX4_shiftOf cX4_shiftOf 1 (some .int)) [.int v0] st (some (.int q.1)) q.2 := by
  refine Ct.of hX (by decide) (Nat.le_of_ble_eq_true rfl) ?_
  intro p e s m args below meth c hh hr
  exact Z_X4_shiftOf_0 hX hh hr v0 st hf

def F_X4_placeFrom_14 (self : Int32 → Int32 → Int32 → Int32 → St → Option (St)) (v4 : Int32) (st : St) : Option (St) := bs (sV st 33 10 v4) (fun st23 => some st23)
set_option maxRecDepth 100000 in
set_option maxHeartbeats 4000000 in
theorem Z_X4_placeFrom_14 {l : Launch} {X : Cx} (hX : Ok X) {p : Program} {e : Env} {s : State} {m : MethodId} {args : Array Value} {below : List Frame} {meth : Method} {c : Code} {st' : St} (hh : Hy X p s m args meth c cX4_placeFrom 12 RX4) (hr : meth.sig.returnType = none) {dd : Nat} {self : Int32 → Int32 → Int32 → Int32 → St → Option (St)} (hself : ∀ (v1 : Int32) (v2 : Int32) (v3 : Int32) (v4 : Int32) (st : St) (q : St), self v1 v2 v3 v4 st = some q → Ct l X (2 + dd) yX4_placeFrom (.code yX4_placeFrom cX4_placeFrom 12 (none)) [.ref (X.2.1 33), .int v1, .int v2, .int v3, .int v4] st none q) (v4 : Int32) (st : St) (hf : F_X4_placeFrom_14 self v4 st = some st') : Z X p l e (rmk (2 + (dd + 1))) s m args below meth c 12 (MQ below (Qf X none st') args s 0 0 (cA X)) 14 [(0, .ref (X.2.1 33)), (4, .int v4)] [] st := by
  unfold F_X4_placeFrom_14 at hf
  refine x_aload_n hh dX4_placeFrom_14 rfl 0 rfl 15 rfl ?_
  refine x_iload hh dX4_placeFrom_15 1 rfl 17 rfl ?_
  obtain ⟨st23, est23, hf⟩ := bs_some hf
  refine x_putI hh cl_4 dX4_placeFrom_17 sh_33 10 rfl (Nat.le_of_ble_eq_true rfl) wd_240 rfl rfl rfl 20 rfl st23 est23 ?_
  obtain rfl := ret1 hf
  exact x_vret hh hr dX4_placeFrom_20
def F_X4_placeFrom_240 (self : Int32 → Int32 → Int32 → Int32 → St → Option (St)) (k32 : Int32 → Int32 → Int32 → Int32 → Int32 → Int32 → St → Option (St)) (v1 : Int32) (v2 : Int32) (v3 : Int32) (v4 : Int32) (v5 : Int32) (v6 : Int32) (st : St) : Option (St) := k32 v1 v2 v3 v4 v5 (v6 + 1) st
set_option maxRecDepth 100000 in
set_option maxHeartbeats 4000000 in
theorem Z_X4_placeFrom_240 {l : Launch} {X : Cx} (hX : Ok X) {p : Program} {e : Env} {s : State} {m : MethodId} {args : Array Value} {below : List Frame} {meth : Method} {c : Code} {st' : St} (hh : Hy X p s m args meth c cX4_placeFrom 12 RX4) (hr : meth.sig.returnType = none) {dd : Nat} {self : Int32 → Int32 → Int32 → Int32 → St → Option (St)} (hself : ∀ (v1 : Int32) (v2 : Int32) (v3 : Int32) (v4 : Int32) (st : St) (q : St), self v1 v2 v3 v4 st = some q → Ct l X (2 + dd) yX4_placeFrom (.code yX4_placeFrom cX4_placeFrom 12 (none)) [.ref (X.2.1 33), .int v1, .int v2, .int v3, .int v4] st none q) {k32 : Int32 → Int32 → Int32 → Int32 → Int32 → Int32 → St → Option (St)} (hk32 : ∀ (v1 : Int32) (v2 : Int32) (v3 : Int32) (v4 : Int32) (v5 : Int32) (v6 : Int32) (st : St), k32 v1 v2 v3 v4 v5 v6 st = some st' → Z X p l e (rmk (2 + (dd + 1))) s m args below meth c 12 (MQ below (Qf X none st') args s 0 0 (cA X)) 32 [(0, .ref (X.2.1 33)), (1, .int v1), (2, .int v2), (3, .int v3), (4, .int v4), (5, .int v5), (6, .int v6)] [] st) (v1 : Int32) (v2 : Int32) (v3 : Int32) (v4 : Int32) (v5 : Int32) (v6 : Int32) (st : St) (hf : F_X4_placeFrom_240 self k32 v1 v2 v3 v4 v5 v6 st = some st') : Z X p l e (rmk (2 + (dd + 1))) s m args below meth c 12 (MQ below (Qf X none st') args s 0 0 (cA X)) 240 [(0, .ref (X.2.1 33)), (1, .int v1), (2, .int v2), (3, .int v3), (4, .int v4), (5, .int v5), (6, .int v6)] [] st := by
  unfold F_X4_placeFrom_240 at hf
  refine x_iinc hh dX4_placeFrom_240 6 rfl (v6 + 1) rfl (by decide) [(6, .int (v6 + 1)), (0, .ref (X.2.1 33)), (1, .int v1), (2, .int v2), (3, .int v3), (4, .int v4), (5, .int v5)] rfl 243 rfl ?_
  refine x_goto hh dX4_placeFrom_243 32 rfl ?_
  refine x_sub (lv' := [(0, .ref (X.2.1 33)), (1, .int v1), (2, .int v2), (3, .int v3), (4, .int v4), (5, .int v5), (6, .int (v6 + 1))]) [1, 2, 3, 4, 5, 6, 0] rfl ?_
  exact hk32 v1 v2 v3 v4 v5 (v6 + 1) st hf
def F_X4_placeFrom_189 (self : Int32 → Int32 → Int32 → Int32 → St → Option (St)) (k32 : Int32 → Int32 → Int32 → Int32 → Int32 → Int32 → St → Option (St)) (v1 : Int32) (v2 : Int32) (v3 : Int32) (v4 : Int32) (v5 : Int32) (v6 : Int32) (v9 : Int32) (t0 : Int32) (st : St) : Option (St) := (F_X4_leastOfRest (v1 + 1) t0 st).bind (fun q19 => if q19.1 = ((-1)) then F_X4_placeFrom_240 self k32 v1 v2 v3 v4 v5 v6 q19.2 else if (q19.2.1 33 10) ≤ (v9 + (q19.1 <<< (18 &&& 31))) then F_X4_placeFrom_240 self k32 v1 v2 v3 v4 v5 v6 q19.2 else (self (v1 + 1) t0 (v3 ||| (1 <<< (v6 &&& 31))) v9 q19.2).bind (fun q22 => F_X4_placeFrom_240 self k32 v1 v2 v3 v4 v5 v6 q22))
set_option maxRecDepth 100000 in
set_option maxHeartbeats 4000000 in
theorem Z_X4_placeFrom_189 {l : Launch} {X : Cx} (hX : Ok X) {p : Program} {e : Env} {s : State} {m : MethodId} {args : Array Value} {below : List Frame} {meth : Method} {c : Code} {st' : St} (hh : Hy X p s m args meth c cX4_placeFrom 12 RX4) (hr : meth.sig.returnType = none) {dd : Nat} {self : Int32 → Int32 → Int32 → Int32 → St → Option (St)} (hself : ∀ (v1 : Int32) (v2 : Int32) (v3 : Int32) (v4 : Int32) (st : St) (q : St), self v1 v2 v3 v4 st = some q → Ct l X (2 + dd) yX4_placeFrom (.code yX4_placeFrom cX4_placeFrom 12 (none)) [.ref (X.2.1 33), .int v1, .int v2, .int v3, .int v4] st none q) {k32 : Int32 → Int32 → Int32 → Int32 → Int32 → Int32 → St → Option (St)} (hk32 : ∀ (v1 : Int32) (v2 : Int32) (v3 : Int32) (v4 : Int32) (v5 : Int32) (v6 : Int32) (st : St), k32 v1 v2 v3 v4 v5 v6 st = some st' → Z X p l e (rmk (2 + (dd + 1))) s m args below meth c 12 (MQ below (Qf X none st') args s 0 0 (cA X)) 32 [(0, .ref (X.2.1 33)), (1, .int v1), (2, .int v2), (3, .int v3), (4, .int v4), (5, .int v5), (6, .int v6)] [] st) (v1 : Int32) (v2 : Int32) (v3 : Int32) (v4 : Int32) (v5 : Int32) (v6 : Int32) (v9 : Int32) (t0 : Int32) (st : St) (hf : F_X4_placeFrom_189 self k32 v1 v2 v3 v4 v5 v6 v9 t0 st = some st') : Z X p l e (rmk (2 + (dd + 1))) s m args below meth c 12 (MQ below (Qf X none st') args s 0 0 (cA X)) 189 [(0, .ref (X.2.1 33)), (1, .int v1), (2, .int v2), (3, .int v3), (4, .int v4), (5, .int v5), (6, .int v6), (9, .int v9)] [.int t0] st := by
  unfold F_X4_placeFrom_189 at hf
  refine x_istore hh dX4_placeFrom_189 (by decide) [(10, .int t0), (0, .ref (X.2.1 33)), (1, .int v1), (2, .int v2), (3, .int v3), (4, .int v4), (5, .int v5), (6, .int v6), (9, .int v9)] rfl 191 rfl ?_
  refine x_aload_n hh dX4_placeFrom_191 rfl 1 rfl 192 rfl ?_
  refine x_iload_n hh dX4_placeFrom_192 rfl 2 rfl 193 rfl ?_
  refine x_iconst hh dX4_placeFrom_193 1 rfl 194 rfl ?_
  refine x_iadd hh dX4_placeFrom_194 195 rfl ?_
  refine x_iload hh dX4_placeFrom_195 0 rfl 197 rfl ?_
  obtain ⟨q19, hq19, hf⟩ := b_some hf
  refine x_callV (rest := []) hh mi_X4_leastOfRest [.int (v1 + 1), .int t0] dX4_placeFrom_197 sh_33 wd_644 (C_X4_leastOfRest l hX  hq19) rfl rfl (by simp only [rmk]; omega) (Nat.le_of_ble_eq_true rfl) 200 rfl [.int q19.1] rfl ?_
  refine x_istore hh dX4_placeFrom_200 (by decide) [(11, .int q19.1), (10, .int t0), (0, .ref (X.2.1 33)), (1, .int v1), (2, .int v2), (3, .int v3), (4, .int v4), (5, .int v5), (6, .int v6), (9, .int v9)] rfl 202 rfl ?_
  refine x_iload hh dX4_placeFrom_202 0 rfl 204 rfl ?_
  refine x_iconst hh dX4_placeFrom_204 (-1) rfl 205 rfl ?_
  refine x_icmp_eq hh dX4_placeFrom_205 240 rfl 208 rfl (fun hc20 => ?_) (fun hc20 => ?_)
  · have hf := t_pos hc20 hf
    refine x_sub (lv' := [(0, .ref (X.2.1 33)), (1, .int v1), (2, .int v2), (3, .int v3), (4, .int v4), (5, .int v5), (6, .int v6)]) [2, 3, 4, 5, 6, 7, 8] rfl ?_
    exact Z_X4_placeFrom_240 hX hh hr hself hk32  v1 v2 v3 v4 v5 v6 q19.2 hf
  · have hf := t_neg hc20 hf
    refine x_iload hh dX4_placeFrom_208 9 rfl 210 rfl ?_
    refine x_iload hh dX4_placeFrom_210 0 rfl 212 rfl ?_
    refine x_bipush hh dX4_placeFrom_212 18 rfl 214 rfl ?_
    refine x_ishl hh dX4_placeFrom_214 215 rfl ?_
    refine x_iadd hh dX4_placeFrom_215 216 rfl ?_
    refine x_aload_n hh dX4_placeFrom_216 rfl 2 rfl 217 rfl ?_
    refine x_getI hh cl_4 dX4_placeFrom_217 sh_33 10 rfl (Nat.le_of_ble_eq_true rfl) wd_240 220 rfl ?_
    refine x_icmp_ge hh dX4_placeFrom_220 240 rfl 223 rfl (fun hc21 => ?_) (fun hc21 => ?_)
    · have hf := t_pos hc21 hf
      refine x_sub (lv' := [(0, .ref (X.2.1 33)), (1, .int v1), (2, .int v2), (3, .int v3), (4, .int v4), (5, .int v5), (6, .int v6)]) [2, 3, 4, 5, 6, 7, 8] rfl ?_
      exact Z_X4_placeFrom_240 hX hh hr hself hk32  v1 v2 v3 v4 v5 v6 q19.2 hf
    · have hf := t_neg hc21 hf
      refine x_aload_n hh dX4_placeFrom_223 rfl 2 rfl 224 rfl ?_
      refine x_iload_n hh dX4_placeFrom_224 rfl 3 rfl 225 rfl ?_
      refine x_iconst hh dX4_placeFrom_225 1 rfl 226 rfl ?_
      refine x_iadd hh dX4_placeFrom_226 227 rfl ?_
      refine x_iload hh dX4_placeFrom_227 1 rfl 229 rfl ?_
      refine x_iload_n hh dX4_placeFrom_229 rfl 5 rfl 230 rfl ?_
      refine x_iconst hh dX4_placeFrom_230 1 rfl 231 rfl ?_
      refine x_iload hh dX4_placeFrom_231 8 rfl 233 rfl ?_
      refine x_ishl hh dX4_placeFrom_233 234 rfl ?_
      refine x_ior hh dX4_placeFrom_234 235 rfl ?_
      refine x_iload hh dX4_placeFrom_235 9 rfl 237 rfl ?_
      obtain ⟨q22, hq22, hf⟩ := b_some hf
      refine x_callV (rest := []) hh mi_X4_placeFrom [.int (v1 + 1), .int t0, .int (v3 ||| (1 <<< (v6 &&& 31))), .int v9] dX4_placeFrom_237 sh_33 wd_634 (hself (v1 + 1) t0 (v3 ||| (1 <<< (v6 &&& 31))) v9 q19.2 q22 hq22) rfl rfl (by simp only [rmk]; omega) (Nat.le_of_ble_eq_true rfl) 240 rfl [] rfl ?_
      refine x_sub (lv' := [(0, .ref (X.2.1 33)), (1, .int v1), (2, .int v2), (3, .int v3), (4, .int v4), (5, .int v5), (6, .int v6)]) [2, 3, 4, 5, 6, 7, 8] rfl ?_
      exact Z_X4_placeFrom_240 hX hh hr hself hk32  v1 v2 v3 v4 v5 v6 q22 hf
def F_X4_placeFrom_170 (self : Int32 → Int32 → Int32 → Int32 → St → Option (St)) (k32 : Int32 → Int32 → Int32 → Int32 → Int32 → Int32 → St → Option (St)) (v1 : Int32) (v2 : Int32) (v3 : Int32) (v4 : Int32) (v5 : Int32) (v6 : Int32) (v7 : Int32) (t0 : Int32) (t1 : Int32) (st : St) : Option (St) := if v1 = 0 then F_X4_placeFrom_189 self k32 v1 v2 v3 v4 v5 v6 (t1 + t0) v7 st else (F_X4_limitBehind v2 v7 st).bind (fun q18 => F_X4_placeFrom_189 self k32 v1 v2 v3 v4 v5 v6 (t1 + t0) q18.1 q18.2)
set_option maxRecDepth 100000 in
set_option maxHeartbeats 4000000 in
theorem Z_X4_placeFrom_170 {l : Launch} {X : Cx} (hX : Ok X) {p : Program} {e : Env} {s : State} {m : MethodId} {args : Array Value} {below : List Frame} {meth : Method} {c : Code} {st' : St} (hh : Hy X p s m args meth c cX4_placeFrom 12 RX4) (hr : meth.sig.returnType = none) {dd : Nat} {self : Int32 → Int32 → Int32 → Int32 → St → Option (St)} (hself : ∀ (v1 : Int32) (v2 : Int32) (v3 : Int32) (v4 : Int32) (st : St) (q : St), self v1 v2 v3 v4 st = some q → Ct l X (2 + dd) yX4_placeFrom (.code yX4_placeFrom cX4_placeFrom 12 (none)) [.ref (X.2.1 33), .int v1, .int v2, .int v3, .int v4] st none q) {k32 : Int32 → Int32 → Int32 → Int32 → Int32 → Int32 → St → Option (St)} (hk32 : ∀ (v1 : Int32) (v2 : Int32) (v3 : Int32) (v4 : Int32) (v5 : Int32) (v6 : Int32) (st : St), k32 v1 v2 v3 v4 v5 v6 st = some st' → Z X p l e (rmk (2 + (dd + 1))) s m args below meth c 12 (MQ below (Qf X none st') args s 0 0 (cA X)) 32 [(0, .ref (X.2.1 33)), (1, .int v1), (2, .int v2), (3, .int v3), (4, .int v4), (5, .int v5), (6, .int v6)] [] st) (v1 : Int32) (v2 : Int32) (v3 : Int32) (v4 : Int32) (v5 : Int32) (v6 : Int32) (v7 : Int32) (t0 : Int32) (t1 : Int32) (st : St) (hf : F_X4_placeFrom_170 self k32 v1 v2 v3 v4 v5 v6 v7 t0 t1 st = some st') : Z X p l e (rmk (2 + (dd + 1))) s m args below meth c 12 (MQ below (Qf X none st') args s 0 0 (cA X)) 170 [(0, .ref (X.2.1 33)), (1, .int v1), (2, .int v2), (3, .int v3), (4, .int v4), (5, .int v5), (6, .int v6), (7, .int v7)] [.int t0, .int t1] st := by
  unfold F_X4_placeFrom_170 at hf
  refine x_iadd hh dX4_placeFrom_170 171 rfl ?_
  refine x_istore hh dX4_placeFrom_171 (by decide) [(9, .int (t1 + t0)), (0, .ref (X.2.1 33)), (1, .int v1), (2, .int v2), (3, .int v3), (4, .int v4), (5, .int v5), (6, .int v6), (7, .int v7)] rfl 173 rfl ?_
  refine x_iload_n hh dX4_placeFrom_173 rfl 2 rfl 174 rfl ?_
  refine x_if_ne hh dX4_placeFrom_174 182 rfl 177 rfl (fun hc17 => ?_) (fun hc17 => ?_)
  · have hf := t_neg hc17 hf
    refine x_aload_n hh dX4_placeFrom_182 rfl 1 rfl 183 rfl ?_
    refine x_iload_n hh dX4_placeFrom_183 rfl 3 rfl 184 rfl ?_
    refine x_iload hh dX4_placeFrom_184 8 rfl 186 rfl ?_
    obtain ⟨q18, hq18, hf⟩ := b_some hf
    refine x_callV (rest := []) hh mi_X4_limitBehind [.int v2, .int v7] dX4_placeFrom_186 sh_33 wd_641 (C_X4_limitBehind l hX  hq18) rfl rfl (by simp only [rmk]; omega) (Nat.le_of_ble_eq_true rfl) 189 rfl [.int q18.1] rfl ?_
    refine x_sub (lv' := [(0, .ref (X.2.1 33)), (1, .int v1), (2, .int v2), (3, .int v3), (4, .int v4), (5, .int v5), (6, .int v6), (9, .int (t1 + t0))]) [1, 2, 3, 4, 5, 6, 7, 0] rfl ?_
    exact Z_X4_placeFrom_189 hX hh hr hself hk32  v1 v2 v3 v4 v5 v6 (t1 + t0) q18.1 q18.2 hf
  · have hf := t_pos hc17 hf
    refine x_iload hh dX4_placeFrom_177 8 rfl 179 rfl ?_
    refine x_goto hh dX4_placeFrom_179 189 rfl ?_
    refine x_sub (lv' := [(0, .ref (X.2.1 33)), (1, .int v1), (2, .int v2), (3, .int v3), (4, .int v4), (5, .int v5), (6, .int v6), (9, .int (t1 + t0))]) [1, 2, 3, 4, 5, 6, 7, 0] rfl ?_
    exact Z_X4_placeFrom_189 hX hh hr hself hk32  v1 v2 v3 v4 v5 v6 (t1 + t0) v7 st hf
def F_X4_placeFrom_123 (self : Int32 → Int32 → Int32 → Int32 → St → Option (St)) (k32 : Int32 → Int32 → Int32 → Int32 → Int32 → Int32 → St → Option (St)) (v1 : Int32) (v2 : Int32) (v3 : Int32) (v4 : Int32) (v5 : Int32) (v6 : Int32) (v7 : Int32) (t0 : Int32) (st : St) : Option (St) := gi v5 6 (if t0 ≤ (st.1 6 v5.toNatClampNeg) then if (st.1 33 9) = 0 then F_X4_placeFrom_170 self k32 v1 v2 v3 v4 v5 v6 v7 0 (v4 + (t0 <<< (18 &&& 31))) st else (F_X4_shiftOf v5 st).bind (fun q16 => F_X4_placeFrom_170 self k32 v1 v2 v3 v4 v5 v6 v7 (v6 <<< (q16.1 &&& 31)) (v4 + (t0 <<< (18 &&& 31))) q16.2) else F_X4_placeFrom_240 self k32 v1 v2 v3 v4 v5 v6 st)
set_option maxRecDepth 100000 in
set_option maxHeartbeats 4000000 in
theorem Z_X4_placeFrom_123 {l : Launch} {X : Cx} (hX : Ok X) {p : Program} {e : Env} {s : State} {m : MethodId} {args : Array Value} {below : List Frame} {meth : Method} {c : Code} {st' : St} (hh : Hy X p s m args meth c cX4_placeFrom 12 RX4) (hr : meth.sig.returnType = none) {dd : Nat} {self : Int32 → Int32 → Int32 → Int32 → St → Option (St)} (hself : ∀ (v1 : Int32) (v2 : Int32) (v3 : Int32) (v4 : Int32) (st : St) (q : St), self v1 v2 v3 v4 st = some q → Ct l X (2 + dd) yX4_placeFrom (.code yX4_placeFrom cX4_placeFrom 12 (none)) [.ref (X.2.1 33), .int v1, .int v2, .int v3, .int v4] st none q) {k32 : Int32 → Int32 → Int32 → Int32 → Int32 → Int32 → St → Option (St)} (hk32 : ∀ (v1 : Int32) (v2 : Int32) (v3 : Int32) (v4 : Int32) (v5 : Int32) (v6 : Int32) (st : St), k32 v1 v2 v3 v4 v5 v6 st = some st' → Z X p l e (rmk (2 + (dd + 1))) s m args below meth c 12 (MQ below (Qf X none st') args s 0 0 (cA X)) 32 [(0, .ref (X.2.1 33)), (1, .int v1), (2, .int v2), (3, .int v3), (4, .int v4), (5, .int v5), (6, .int v6)] [] st) (v1 : Int32) (v2 : Int32) (v3 : Int32) (v4 : Int32) (v5 : Int32) (v6 : Int32) (v7 : Int32) (t0 : Int32) (st : St) (hf : F_X4_placeFrom_123 self k32 v1 v2 v3 v4 v5 v6 v7 t0 st = some st') : Z X p l e (rmk (2 + (dd + 1))) s m args below meth c 12 (MQ below (Qf X none st') args s 0 0 (cA X)) 123 [(0, .ref (X.2.1 33)), (1, .int v1), (2, .int v2), (3, .int v3), (4, .int v4), (5, .int v5), (6, .int v6), (7, .int v7)] [.int t0] st := by
  unfold F_X4_placeFrom_123 at hf
  refine x_istore hh dX4_placeFrom_123 (by decide) [(8, .int t0), (0, .ref (X.2.1 33)), (1, .int v1), (2, .int v2), (3, .int v3), (4, .int v4), (5, .int v5), (6, .int v6), (7, .int v7)] rfl 125 rfl ?_
  refine x_iload hh dX4_placeFrom_125 0 rfl 127 rfl ?_
  refine x_aload_n hh dX4_placeFrom_127 rfl 1 rfl 128 rfl ?_
  refine x_getR hh cl_4 dX4_placeFrom_128 sh_33 0 1 rfl (Nat.le_of_ble_eq_true rfl) wd_230 131 rfl ?_
  refine x_getR hh cl_3 dX4_placeFrom_131 sh_1 7 6 rfl (Nat.le_of_ble_eq_true rfl) wd_133 134 rfl ?_
  refine x_iload hh dX4_placeFrom_134 6 rfl 136 rfl ?_
  obtain ⟨hi13, hf⟩ := gi_some hf
  refine x_iaload hh dX4_placeFrom_136 sh_6 hi13 137 rfl ?_
  refine x_icmp_le hh dX4_placeFrom_137 143 rfl 140 rfl (fun hc14 => ?_) (fun hc14 => ?_)
  · have hf := t_pos hc14 hf
    refine x_iload hh dX4_placeFrom_143 5 rfl 145 rfl ?_
    refine x_iload hh dX4_placeFrom_145 0 rfl 147 rfl ?_
    refine x_bipush hh dX4_placeFrom_147 18 rfl 149 rfl ?_
    refine x_ishl hh dX4_placeFrom_149 150 rfl ?_
    refine x_iadd hh dX4_placeFrom_150 151 rfl ?_
    refine x_aload_n hh dX4_placeFrom_151 rfl 1 rfl 152 rfl ?_
    refine x_getI hh cl_4 dX4_placeFrom_152 sh_33 9 rfl (Nat.le_of_ble_eq_true rfl) wd_239 155 rfl ?_
    refine x_if_eq hh dX4_placeFrom_155 169 rfl 158 rfl (fun hc15 => ?_) (fun hc15 => ?_)
    · have hf := t_pos hc15 hf
      refine x_iconst hh dX4_placeFrom_169 0 rfl 170 rfl ?_
      refine x_sub (lv' := [(0, .ref (X.2.1 33)), (1, .int v1), (2, .int v2), (3, .int v3), (4, .int v4), (5, .int v5), (6, .int v6), (7, .int v7)]) [1, 2, 3, 4, 5, 6, 7, 8] rfl ?_
      exact Z_X4_placeFrom_170 hX hh hr hself hk32  v1 v2 v3 v4 v5 v6 v7 0 (v4 + (t0 <<< (18 &&& 31))) st hf
    · have hf := t_neg hc15 hf
      refine x_iload hh dX4_placeFrom_158 7 rfl 160 rfl ?_
      refine x_iload hh dX4_placeFrom_160 6 rfl 162 rfl ?_
      obtain ⟨q16, hq16, hf⟩ := b_some hf
      refine x_callS (rest := [.int v6, .int (v4 + (t0 <<< (18 &&& 31)))]) hh ms_X4_shiftOf [.int v5] dX4_placeFrom_162 wd_638 (C_X4_shiftOf l hX  hq16) rfl rfl (by simp only [rmk]; omega) (Nat.le_of_ble_eq_true rfl) 165 rfl [.int q16.1, .int v6, .int (v4 + (t0 <<< (18 &&& 31)))] rfl ?_
      refine x_ishl hh dX4_placeFrom_165 166 rfl ?_
      refine x_goto hh dX4_placeFrom_166 170 rfl ?_
      refine x_sub (lv' := [(0, .ref (X.2.1 33)), (1, .int v1), (2, .int v2), (3, .int v3), (4, .int v4), (5, .int v5), (6, .int v6), (7, .int v7)]) [1, 2, 3, 4, 5, 6, 7, 8] rfl ?_
      exact Z_X4_placeFrom_170 hX hh hr hself hk32  v1 v2 v3 v4 v5 v6 v7 (v6 <<< (q16.1 &&& 31)) (v4 + (t0 <<< (18 &&& 31))) q16.2 hf
  · have hf := t_neg hc14 hf
    refine x_goto hh dX4_placeFrom_140 240 rfl ?_
    refine x_sub (lv' := [(0, .ref (X.2.1 33)), (1, .int v1), (2, .int v2), (3, .int v3), (4, .int v4), (5, .int v5), (6, .int v6)]) [1, 2, 3, 4, 5, 6, 7] rfl ?_
    exact Z_X4_placeFrom_240 hX hh hr hself hk32  v1 v2 v3 v4 v5 v6 st hf
def F_X4_placeFrom_246 (self : Int32 → Int32 → Int32 → Int32 → St → Option (St)) (st : St) : Option (St) := some st
set_option maxRecDepth 100000 in
set_option maxHeartbeats 4000000 in
theorem Z_X4_placeFrom_246 {l : Launch} {X : Cx} (hX : Ok X) {p : Program} {e : Env} {s : State} {m : MethodId} {args : Array Value} {below : List Frame} {meth : Method} {c : Code} {st' : St} (hh : Hy X p s m args meth c cX4_placeFrom 12 RX4) (hr : meth.sig.returnType = none) {dd : Nat} {self : Int32 → Int32 → Int32 → Int32 → St → Option (St)} (hself : ∀ (v1 : Int32) (v2 : Int32) (v3 : Int32) (v4 : Int32) (st : St) (q : St), self v1 v2 v3 v4 st = some q → Ct l X (2 + dd) yX4_placeFrom (.code yX4_placeFrom cX4_placeFrom 12 (none)) [.ref (X.2.1 33), .int v1, .int v2, .int v3, .int v4] st none q) (st : St) (hf : F_X4_placeFrom_246 self st = some st') : Z X p l e (rmk (2 + (dd + 1))) s m args below meth c 12 (MQ below (Qf X none st') args s 0 0 (cA X)) 246 [(0, .ref (X.2.1 33))] [] st := by
  unfold F_X4_placeFrom_246 at hf
  obtain rfl := ret1 hf
  exact x_vret hh hr dX4_placeFrom_246
def F_X4_placeFrom_32 (self : Int32 → Int32 → Int32 → Int32 → St → Option (St)) : Nat → Int32 → Int32 → Int32 → Int32 → Int32 → Int32 → St → Option (St)
  | 0, _, _, _, _, _, _, _ => none
  | n + 1, v1, v2, v3, v4, v5, v6, st => (F_X3_placesOf 1 (st.1 33 7) st).bind (fun q4 => if q4.1 ≤ v6 then F_X4_placeFrom_246 self q4.2 else if (6 : Int32) ≤ v6 then F_X4_placeFrom_246 self q4.2 else if ((v3 >>> (v6 &&& 31)) &&& 1) = 0 then gi v6 6 (if ((q4.2.1 35 v6.toNatClampNeg) &&& (v3 ^^^ ((-1)))) = 0 then (F_X3_floorAt 1 (q4.2.1 33 7) v6 q4.2).bind (fun q10 => gi v5 6 (if v1 = 0 then F_X4_placeFrom_123 self (F_X4_placeFrom_32 self n) v1 v2 v3 v4 v5 v6 (q10.1 + (q10.2.1 14 v5.toNatClampNeg)) 0 q10.2 else F_X4_placeFrom_123 self (F_X4_placeFrom_32 self n) v1 v2 v3 v4 v5 v6 (q10.1 + (q10.2.1 14 v5.toNatClampNeg)) (imx 0 ((q10.1 + (q10.2.1 14 v5.toNatClampNeg)) - v2)) q10.2)) else F_X4_placeFrom_240 self (F_X4_placeFrom_32 self n) v1 v2 v3 v4 v5 v6 q4.2) else F_X4_placeFrom_240 self (F_X4_placeFrom_32 self n) v1 v2 v3 v4 v5 v6 q4.2)
set_option maxRecDepth 100000 in
set_option maxHeartbeats 4000000 in
theorem Z_X4_placeFrom_32 {l : Launch} {X : Cx} (hX : Ok X) {p : Program} {e : Env} {s : State} {m : MethodId} {args : Array Value} {below : List Frame} {meth : Method} {c : Code} {st' : St} (hh : Hy X p s m args meth c cX4_placeFrom 12 RX4) (hr : meth.sig.returnType = none) {dd : Nat} {self : Int32 → Int32 → Int32 → Int32 → St → Option (St)} (hself : ∀ (v1 : Int32) (v2 : Int32) (v3 : Int32) (v4 : Int32) (st : St) (q : St), self v1 v2 v3 v4 st = some q → Ct l X (2 + dd) yX4_placeFrom (.code yX4_placeFrom cX4_placeFrom 12 (none)) [.ref (X.2.1 33), .int v1, .int v2, .int v3, .int v4] st none q) : ∀ (n : Nat) (v1 : Int32) (v2 : Int32) (v3 : Int32) (v4 : Int32) (v5 : Int32) (v6 : Int32) (st : St), F_X4_placeFrom_32 self n v1 v2 v3 v4 v5 v6 st = some st' → Z X p l e (rmk (2 + (dd + 1))) s m args below meth c 12 (MQ below (Qf X none st') args s 0 0 (cA X)) 32 [(0, .ref (X.2.1 33)), (1, .int v1), (2, .int v2), (3, .int v3), (4, .int v4), (5, .int v5), (6, .int v6)] [] st := by
  intro n
  induction n with
  | zero =>
    intro v1 v2 v3 v4 v5 v6 st hf
    cases hf
  | succ n ih =>
    intro v1 v2 v3 v4 v5 v6 st hf
    rw [F_X4_placeFrom_32] at hf
    refine x_iload hh dX4_placeFrom_32 6 rfl 34 rfl ?_
    refine x_aload_n hh dX4_placeFrom_34 rfl 0 rfl 35 rfl ?_
    refine x_getR hh cl_4 dX4_placeFrom_35 sh_33 0 1 rfl (Nat.le_of_ble_eq_true rfl) wd_230 38 rfl ?_
    refine x_aload_n hh dX4_placeFrom_38 rfl 0 rfl 39 rfl ?_
    refine x_getI hh cl_4 dX4_placeFrom_39 sh_33 7 rfl (Nat.le_of_ble_eq_true rfl) wd_237 42 rfl ?_
    obtain ⟨q4, hq4, hf⟩ := b_some hf
    refine x_callV (rest := [.int v6]) hh mi_X3_placesOf [.int (st.1 33 7)] dX4_placeFrom_42 sh_1 wd_632 (C_X3_placesOf l hX ho_1 hq4) rfl rfl (by simp only [rmk]; omega) (Nat.le_of_ble_eq_true rfl) 45 rfl [.int q4.1, .int v6] rfl ?_
    refine x_icmp_ge hh dX4_placeFrom_45 246 rfl 48 rfl (fun hc5 => ?_) (fun hc5 => ?_)
    · have hf := t_pos hc5 hf
      refine x_sub (lv' := [(0, .ref (X.2.1 33))]) [0] rfl ?_
      exact Z_X4_placeFrom_246 hX hh hr hself  q4.2 hf
    · have hf := t_neg hc5 hf
      refine x_iload hh dX4_placeFrom_48 6 rfl 50 rfl ?_
      refine x_bipush hh dX4_placeFrom_50 6 rfl 52 rfl ?_
      refine x_icmp_ge hh dX4_placeFrom_52 246 rfl 55 rfl (fun hc6 => ?_) (fun hc6 => ?_)
      · have hf := t_pos hc6 hf
        refine x_sub (lv' := [(0, .ref (X.2.1 33))]) [0] rfl ?_
        exact Z_X4_placeFrom_246 hX hh hr hself  q4.2 hf
      · have hf := t_neg hc6 hf
        refine x_iload_n hh dX4_placeFrom_55 rfl 3 rfl 56 rfl ?_
        refine x_iload hh dX4_placeFrom_56 6 rfl 58 rfl ?_
        refine x_ishr hh dX4_placeFrom_58 59 rfl ?_
        refine x_iconst hh dX4_placeFrom_59 1 rfl 60 rfl ?_
        refine x_iand hh dX4_placeFrom_60 61 rfl ?_
        refine x_if_ne hh dX4_placeFrom_61 240 rfl 64 rfl (fun hc7 => ?_) (fun hc7 => ?_)
        · have hf := t_neg hc7 hf
          exact Z_X4_placeFrom_240 hX hh hr hself ih  v1 v2 v3 v4 v5 v6 q4.2 hf
        · have hf := t_pos hc7 hf
          refine x_aload_n hh dX4_placeFrom_64 rfl 0 rfl 65 rfl ?_
          refine x_getR hh cl_4 dX4_placeFrom_65 sh_33 3 35 rfl (Nat.le_of_ble_eq_true rfl) wd_233 68 rfl ?_
          refine x_iload hh dX4_placeFrom_68 6 rfl 70 rfl ?_
          obtain ⟨hi8, hf⟩ := gi_some hf
          refine x_iaload hh dX4_placeFrom_70 sh_35 hi8 71 rfl ?_
          refine x_iload_n hh dX4_placeFrom_71 rfl 3 rfl 72 rfl ?_
          refine x_iconst hh dX4_placeFrom_72 (-1) rfl 73 rfl ?_
          refine x_ixor hh dX4_placeFrom_73 74 rfl ?_
          refine x_iand hh dX4_placeFrom_74 75 rfl ?_
          refine x_if_eq hh dX4_placeFrom_75 81 rfl 78 rfl (fun hc9 => ?_) (fun hc9 => ?_)
          · have hf := t_pos hc9 hf
            refine x_aload_n hh dX4_placeFrom_81 rfl 0 rfl 82 rfl ?_
            refine x_getR hh cl_4 dX4_placeFrom_82 sh_33 0 1 rfl (Nat.le_of_ble_eq_true rfl) wd_230 85 rfl ?_
            refine x_aload_n hh dX4_placeFrom_85 rfl 0 rfl 86 rfl ?_
            refine x_getI hh cl_4 dX4_placeFrom_86 sh_33 7 rfl (Nat.le_of_ble_eq_true rfl) wd_237 89 rfl ?_
            refine x_iload hh dX4_placeFrom_89 6 rfl 91 rfl ?_
            obtain ⟨q10, hq10, hf⟩ := b_some hf
            refine x_callV (rest := []) hh mi_X3_floorAt [.int (q4.2.1 33 7), .int v6] dX4_placeFrom_91 sh_1 wd_631 (C_X3_floorAt l hX ho_1 hq10) rfl rfl (by simp only [rmk]; omega) (Nat.le_of_ble_eq_true rfl) 94 rfl [.int q10.1] rfl ?_
            refine x_aload_n hh dX4_placeFrom_94 rfl 0 rfl 95 rfl ?_
            refine x_getR hh cl_4 dX4_placeFrom_95 sh_33 1 9 rfl (Nat.le_of_ble_eq_true rfl) wd_231 98 rfl ?_
            refine x_getR hh cl_6 dX4_placeFrom_98 sh_9 4 14 rfl (Nat.le_of_ble_eq_true rfl) wd_170 101 rfl ?_
            refine x_iload hh dX4_placeFrom_101 5 rfl 103 rfl ?_
            obtain ⟨hi11, hf⟩ := gi_some hf
            refine x_iaload hh dX4_placeFrom_103 sh_14 hi11 104 rfl ?_
            refine x_iadd hh dX4_placeFrom_104 105 rfl ?_
            refine x_istore hh dX4_placeFrom_105 (by decide) [(7, .int (q10.1 + (q10.2.1 14 v5.toNatClampNeg))), (0, .ref (X.2.1 33)), (1, .int v1), (2, .int v2), (3, .int v3), (4, .int v4), (5, .int v5), (6, .int v6)] rfl 107 rfl ?_
            refine x_iload_n hh dX4_placeFrom_107 rfl 2 rfl 108 rfl ?_
            refine x_if_ne hh dX4_placeFrom_108 115 rfl 111 rfl (fun hc12 => ?_) (fun hc12 => ?_)
            · have hf := t_neg hc12 hf
              refine x_iconst hh dX4_placeFrom_115 0 rfl 116 rfl ?_
              refine x_iload hh dX4_placeFrom_116 0 rfl 118 rfl ?_
              refine x_iload_n hh dX4_placeFrom_118 rfl 3 rfl 119 rfl ?_
              refine x_isub hh dX4_placeFrom_119 120 rfl ?_
              refine x_mmax hh dX4_placeFrom_120 wd_637 wd_557 wd_89 wd_558 ⟨Nat.le_of_ble_eq_true rfl, Nat.le_of_ble_eq_true rfl⟩ 123 rfl ?_
              refine x_sub (lv' := [(0, .ref (X.2.1 33)), (1, .int v1), (2, .int v2), (3, .int v3), (4, .int v4), (5, .int v5), (6, .int v6), (7, .int (q10.1 + (q10.2.1 14 v5.toNatClampNeg)))]) [1, 2, 3, 4, 5, 6, 7, 0] rfl ?_
              exact Z_X4_placeFrom_123 hX hh hr hself ih  v1 v2 v3 v4 v5 v6 (q10.1 + (q10.2.1 14 v5.toNatClampNeg)) (imx 0 ((q10.1 + (q10.2.1 14 v5.toNatClampNeg)) - v2)) q10.2 hf
            · have hf := t_pos hc12 hf
              refine x_iconst hh dX4_placeFrom_111 0 rfl 112 rfl ?_
              refine x_goto hh dX4_placeFrom_112 123 rfl ?_
              refine x_sub (lv' := [(0, .ref (X.2.1 33)), (1, .int v1), (2, .int v2), (3, .int v3), (4, .int v4), (5, .int v5), (6, .int v6), (7, .int (q10.1 + (q10.2.1 14 v5.toNatClampNeg)))]) [1, 2, 3, 4, 5, 6, 7, 0] rfl ?_
              exact Z_X4_placeFrom_123 hX hh hr hself ih  v1 v2 v3 v4 v5 v6 (q10.1 + (q10.2.1 14 v5.toNatClampNeg)) 0 q10.2 hf
          · have hf := t_neg hc9 hf
            refine x_goto hh dX4_placeFrom_78 240 rfl ?_
            exact Z_X4_placeFrom_240 hX hh hr hself ih  v1 v2 v3 v4 v5 v6 q4.2 hf
def F_X4_placeFrom_0 (self : Int32 → Int32 → Int32 → Int32 → St → Option (St)) (v1 : Int32) (v2 : Int32) (v3 : Int32) (v4 : Int32) (st : St) : Option (St) := if (st.1 33 6) ≤ v1 then F_X4_placeFrom_14 self v4 st else if v1 < 6 then gi v1 6 (F_X4_placeFrom_32 self fN v1 v2 v3 v4 (st.1 34 v1.toNatClampNeg) 0 st) else F_X4_placeFrom_14 self v4 st
set_option maxRecDepth 100000 in
set_option maxHeartbeats 4000000 in
theorem Z_X4_placeFrom_0 {l : Launch} {X : Cx} (hX : Ok X) {p : Program} {e : Env} {s : State} {m : MethodId} {args : Array Value} {below : List Frame} {meth : Method} {c : Code} {st' : St} (hh : Hy X p s m args meth c cX4_placeFrom 12 RX4) (hr : meth.sig.returnType = none) {dd : Nat} {self : Int32 → Int32 → Int32 → Int32 → St → Option (St)} (hself : ∀ (v1 : Int32) (v2 : Int32) (v3 : Int32) (v4 : Int32) (st : St) (q : St), self v1 v2 v3 v4 st = some q → Ct l X (2 + dd) yX4_placeFrom (.code yX4_placeFrom cX4_placeFrom 12 (none)) [.ref (X.2.1 33), .int v1, .int v2, .int v3, .int v4] st none q) (v1 : Int32) (v2 : Int32) (v3 : Int32) (v4 : Int32) (st : St) (hf : F_X4_placeFrom_0 self v1 v2 v3 v4 st = some st') : Z X p l e (rmk (2 + (dd + 1))) s m args below meth c 12 (MQ below (Qf X none st') args s 0 0 (cA X)) 0 [(0, .ref (X.2.1 33)), (1, .int v1), (2, .int v2), (3, .int v3), (4, .int v4)] [] st := by
  unfold F_X4_placeFrom_0 at hf
  refine x_iload_n hh dX4_placeFrom_0 rfl 1 rfl 1 rfl ?_
  refine x_aload_n hh dX4_placeFrom_1 rfl 0 rfl 2 rfl ?_
  refine x_getI hh cl_4 dX4_placeFrom_2 sh_33 6 rfl (Nat.le_of_ble_eq_true rfl) wd_236 5 rfl ?_
  refine x_icmp_ge hh dX4_placeFrom_5 14 rfl 8 rfl (fun hc1 => ?_) (fun hc1 => ?_)
  · have hf := t_pos hc1 hf
    refine x_sub (lv' := [(0, .ref (X.2.1 33)), (4, .int v4)]) [0, 4] rfl ?_
    exact Z_X4_placeFrom_14 hX hh hr hself  v4 st hf
  · have hf := t_neg hc1 hf
    refine x_iload_n hh dX4_placeFrom_8 rfl 1 rfl 9 rfl ?_
    refine x_bipush hh dX4_placeFrom_9 6 rfl 11 rfl ?_
    refine x_icmp_lt hh dX4_placeFrom_11 21 rfl 14 rfl (fun hc2 => ?_) (fun hc2 => ?_)
    · have hf := t_pos hc2 hf
      refine x_aload_n hh dX4_placeFrom_21 rfl 0 rfl 22 rfl ?_
      refine x_getR hh cl_4 dX4_placeFrom_22 sh_33 2 34 rfl (Nat.le_of_ble_eq_true rfl) wd_232 25 rfl ?_
      refine x_iload_n hh dX4_placeFrom_25 rfl 1 rfl 26 rfl ?_
      obtain ⟨hi3, hf⟩ := gi_some hf
      refine x_iaload hh dX4_placeFrom_26 sh_34 hi3 27 rfl ?_
      refine x_istore hh dX4_placeFrom_27 (by decide) [(5, .int (st.1 34 v1.toNatClampNeg)), (0, .ref (X.2.1 33)), (1, .int v1), (2, .int v2), (3, .int v3), (4, .int v4)] rfl 29 rfl ?_
      refine x_iconst hh dX4_placeFrom_29 0 rfl 30 rfl ?_
      refine x_istore hh dX4_placeFrom_30 (by decide) [(6, .int 0), (5, .int (st.1 34 v1.toNatClampNeg)), (0, .ref (X.2.1 33)), (1, .int v1), (2, .int v2), (3, .int v3), (4, .int v4)] rfl 32 rfl ?_
      refine x_sub (lv' := [(0, .ref (X.2.1 33)), (1, .int v1), (2, .int v2), (3, .int v3), (4, .int v4), (5, .int (st.1 34 v1.toNatClampNeg)), (6, .int 0)]) [2, 3, 4, 5, 6, 1, 0] rfl ?_
      exact Z_X4_placeFrom_32 hX hh hr hself fN v1 v2 v3 v4 (st.1 34 v1.toNatClampNeg) 0 st hf
    · have hf := t_neg hc2 hf
      refine x_sub (lv' := [(0, .ref (X.2.1 33)), (4, .int v4)]) [0, 4] rfl ?_
      exact Z_X4_placeFrom_14 hX hh hr hself  v4 st hf
def F_X4_placeFrom : Nat → Int32 → Int32 → Int32 → Int32 → St → Option (St)
  | 0, _, _, _, _, _ => none
  | d + 1, v1, v2, v3, v4, st => F_X4_placeFrom_0  (F_X4_placeFrom d) v1 v2 v3 v4 st
set_option maxRecDepth 100000 in
theorem C_X4_placeFrom (l : Launch) {X : Cx} (hX : Ok X) : ∀ (d : Nat) (v1 : Int32) (v2 : Int32) (v3 : Int32) (v4 : Int32) (st : St) (q : St), F_X4_placeFrom d v1 v2 v3 v4 st = some q → Ct l X (2 + d) yX4_placeFrom (.code yX4_placeFrom cX4_placeFrom 12 (none)) [.ref (X.2.1 33), .int v1, .int v2, .int v3, .int v4] st none q := by
  intro d
  induction d with
  | zero => intro v1 v2 v3 v4 st q hf; cases hf
  | succ d ih =>
    intro v1 v2 v3 v4 st q hf
    refine Ct.of hX (by decide) (Nat.le_of_ble_eq_true rfl) ?_
    intro p e s m args below meth c hh hr
    exact Z_X4_placeFrom_0 hX hh hr ih v1 v2 v3 v4 st hf

def F_X4_findBest_59 (t0 : Int32) (st : St) : Option (Int32 × St) := gb t0 (some (t0, st))
set_option maxRecDepth 100000 in
set_option maxHeartbeats 4000000 in
theorem Z_X4_findBest_59 {l : Launch} {X : Cx} (hX : Ok X) {p : Program} {e : Env} {s : State} {m : MethodId} {args : Array Value} {below : List Frame} {meth : Method} {c : Code} {rr : Int32} {st' : St} (hh : Hy X p s m args meth c cX4_findBest 3 RX4) (hr : meth.sig.returnType = some .boolean) (t0 : Int32) (st : St) (hf : F_X4_findBest_59 t0 st = some (rr, st')) : Z X p l e (rmk 15) s m args below meth c 3 (MQ below (Qf X (some (.int rr)) st') args s 0 0 (cA X)) 59 [(0, .ref (X.2.1 33))] [.int t0] st := by
  unfold F_X4_findBest_59 at hf
  obtain ⟨hb9, hf⟩ := gb_some hf
  obtain ⟨rfl, rfl⟩ := ret2 hf
  exact x_zret hh hr (nb_n hb9) dX4_findBest_59
def F_X4_findBest_0 (v1 : Int32) (v2 : Int32) (st : St) : Option (Int32 × St) := bs (sV st 33 10 2147483647) (fun st1 => bs (sV st1 33 7 v1) (fun st2 => (F_X4_orderByAge v2 st2).bind (fun q3 => (F_X4_lookAtFloors q3).bind (fun q4 => (F_X3_placesOf 1 v1 q4).bind (fun q5 => if (q4.1 33 6) ≤ q5.1 then (F_X4_placeFrom 10 0 0 0 0 q5.2).bind (fun q7 => if (q7.1 33 10) = 2147483647 then F_X4_findBest_59 0 q7 else F_X4_findBest_59 1 q7) else some (0, q5.2))))))
set_option maxRecDepth 100000 in
set_option maxHeartbeats 4000000 in
theorem Z_X4_findBest_0 {l : Launch} {X : Cx} (hX : Ok X) {p : Program} {e : Env} {s : State} {m : MethodId} {args : Array Value} {below : List Frame} {meth : Method} {c : Code} {rr : Int32} {st' : St} (hh : Hy X p s m args meth c cX4_findBest 3 RX4) (hr : meth.sig.returnType = some .boolean) (v1 : Int32) (v2 : Int32) (st : St) (hf : F_X4_findBest_0 v1 v2 st = some (rr, st')) : Z X p l e (rmk 15) s m args below meth c 3 (MQ below (Qf X (some (.int rr)) st') args s 0 0 (cA X)) 0 [(0, .ref (X.2.1 33)), (1, .int v1), (2, .int v2)] [] st := by
  unfold F_X4_findBest_0 at hf
  refine x_aload_n hh dX4_findBest_0 rfl 0 rfl 1 rfl ?_
  refine x_ldc hh dX4_findBest_1 wd_623 3 rfl ?_
  obtain ⟨st1, est1, hf⟩ := bs_some hf
  refine x_putI hh cl_4 dX4_findBest_3 sh_33 10 rfl (Nat.le_of_ble_eq_true rfl) wd_240 rfl rfl rfl 6 rfl st1 est1 ?_
  refine x_aload_n hh dX4_findBest_6 rfl 0 rfl 7 rfl ?_
  refine x_iload_n hh dX4_findBest_7 rfl 1 rfl 8 rfl ?_
  obtain ⟨st2, est2, hf⟩ := bs_some hf
  refine x_putI hh cl_4 dX4_findBest_8 sh_33 7 rfl (Nat.le_of_ble_eq_true rfl) wd_237 rfl rfl rfl 11 rfl st2 est2 ?_
  refine x_aload_n hh dX4_findBest_11 rfl 0 rfl 12 rfl ?_
  refine x_iload_n hh dX4_findBest_12 rfl 2 rfl 13 rfl ?_
  obtain ⟨q3, hq3, hf⟩ := b_some hf
  refine x_callV (rest := []) hh mi_X4_orderByAge [.int v2] dX4_findBest_13 sh_33 wd_624 (C_X4_orderByAge l hX  hq3) rfl rfl ⟨Nat.le_of_ble_eq_true rfl, Nat.le_of_ble_eq_true rfl⟩ (Nat.le_of_ble_eq_true rfl) 16 rfl [] rfl ?_
  refine x_aload_n hh dX4_findBest_16 rfl 0 rfl 17 rfl ?_
  obtain ⟨q4, hq4, hf⟩ := b_some hf
  refine x_callV (rest := []) hh mi_X4_lookAtFloors [] dX4_findBest_17 sh_33 wd_628 (C_X4_lookAtFloors l hX  hq4) rfl rfl ⟨Nat.le_of_ble_eq_true rfl, Nat.le_of_ble_eq_true rfl⟩ (Nat.le_of_ble_eq_true rfl) 20 rfl [] rfl ?_
  refine x_aload_n hh dX4_findBest_20 rfl 0 rfl 21 rfl ?_
  refine x_getI hh cl_4 dX4_findBest_21 sh_33 6 rfl (Nat.le_of_ble_eq_true rfl) wd_236 24 rfl ?_
  refine x_aload_n hh dX4_findBest_24 rfl 0 rfl 25 rfl ?_
  refine x_getR hh cl_4 dX4_findBest_25 sh_33 0 1 rfl (Nat.le_of_ble_eq_true rfl) wd_230 28 rfl ?_
  refine x_iload_n hh dX4_findBest_28 rfl 1 rfl 29 rfl ?_
  obtain ⟨q5, hq5, hf⟩ := b_some hf
  refine x_callV (rest := [.int (q4.1 33 6)]) hh mi_X3_placesOf [.int v1] dX4_findBest_29 sh_1 wd_632 (C_X3_placesOf l hX ho_1 hq5) rfl rfl ⟨Nat.le_of_ble_eq_true rfl, Nat.le_of_ble_eq_true rfl⟩ (Nat.le_of_ble_eq_true rfl) 32 rfl [.int q5.1, .int (q4.1 33 6)] rfl ?_
  refine x_icmp_le hh dX4_findBest_32 37 rfl 35 rfl (fun hc6 => ?_) (fun hc6 => ?_)
  · have hf := t_pos hc6 hf
    refine x_aload_n hh dX4_findBest_37 rfl 0 rfl 38 rfl ?_
    refine x_iconst hh dX4_findBest_38 0 rfl 39 rfl ?_
    refine x_iconst hh dX4_findBest_39 0 rfl 40 rfl ?_
    refine x_iconst hh dX4_findBest_40 0 rfl 41 rfl ?_
    refine x_iconst hh dX4_findBest_41 0 rfl 42 rfl ?_
    obtain ⟨q7, hq7, hf⟩ := b_some hf
    refine x_callV (rest := []) hh mi_X4_placeFrom [.int 0, .int 0, .int 0, .int 0] dX4_findBest_42 sh_33 wd_634 (C_X4_placeFrom l hX 10 0 0 0 0 q5.2 q7 hq7) rfl rfl ⟨Nat.le_of_ble_eq_true rfl, Nat.le_of_ble_eq_true rfl⟩ (Nat.le_of_ble_eq_true rfl) 45 rfl [] rfl ?_
    refine x_aload_n hh dX4_findBest_45 rfl 0 rfl 46 rfl ?_
    refine x_getI hh cl_4 dX4_findBest_46 sh_33 10 rfl (Nat.le_of_ble_eq_true rfl) wd_240 49 rfl ?_
    refine x_ldc hh dX4_findBest_49 wd_623 51 rfl ?_
    refine x_icmp_eq hh dX4_findBest_51 58 rfl 54 rfl (fun hc8 => ?_) (fun hc8 => ?_)
    · have hf := t_pos hc8 hf
      refine x_iconst hh dX4_findBest_58 0 rfl 59 rfl ?_
      refine x_sub (lv' := [(0, .ref (X.2.1 33))]) [0] rfl ?_
      exact Z_X4_findBest_59 hX hh hr  0 q7 hf
    · have hf := t_neg hc8 hf
      refine x_iconst hh dX4_findBest_54 1 rfl 55 rfl ?_
      refine x_goto hh dX4_findBest_55 59 rfl ?_
      refine x_sub (lv' := [(0, .ref (X.2.1 33))]) [0] rfl ?_
      exact Z_X4_findBest_59 hX hh hr  1 q7 hf
  · have hf := t_neg hc6 hf
    refine x_iconst hh dX4_findBest_35 0 rfl 36 rfl ?_
    obtain ⟨rfl, rfl⟩ := ret2 hf
    exact x_zret hh hr rfl dX4_findBest_36
def F_X4_findBest (v1 : Int32) (v2 : Int32) (st : St) : Option (Int32 × St) := F_X4_findBest_0  v1 v2 st
set_option maxRecDepth 100000 in
theorem C_X4_findBest (l : Launch) {X : Cx} (hX : Ok X) {v1 : Int32} {v2 : Int32} {st : St} {q : Int32 × St} (hf : F_X4_findBest v1 v2 st = some q) : Ct l X 15 yX4_findBest (.code yX4_findBest cX4_findBest 3 (some .boolean)) [.ref (X.2.1 33), .int v1, .int v2] st (some (.int q.1)) q.2 := by
  refine Ct.of hX (by decide) (Nat.le_of_ble_eq_true rfl) ?_
  intro p e s m args below meth c hh hr
  exact Z_X4_findBest_0 hX hh hr v1 v2 st hf

def F_X4_findPlaces_0 (v1 : Int32) (v2 : Int32) (st : St) : Option (Int32 × St) := bs (sV st 33 9 1) (fun st1 => (F_X4_findBest v1 v2 st1).bind (fun q2 => gb q2.1 (some (q2.1, q2.2))))
set_option maxRecDepth 100000 in
set_option maxHeartbeats 4000000 in
theorem Z_X4_findPlaces_0 {l : Launch} {X : Cx} (hX : Ok X) {p : Program} {e : Env} {s : State} {m : MethodId} {args : Array Value} {below : List Frame} {meth : Method} {c : Code} {rr : Int32} {st' : St} (hh : Hy X p s m args meth c cX4_findPlaces 3 RX4) (hr : meth.sig.returnType = some .boolean) (v1 : Int32) (v2 : Int32) (st : St) (hf : F_X4_findPlaces_0 v1 v2 st = some (rr, st')) : Z X p l e (rmk 16) s m args below meth c 3 (MQ below (Qf X (some (.int rr)) st') args s 0 0 (cA X)) 0 [(0, .ref (X.2.1 33)), (1, .int v1), (2, .int v2)] [] st := by
  unfold F_X4_findPlaces_0 at hf
  refine x_aload_n hh dX4_findPlaces_0 rfl 0 rfl 1 rfl ?_
  refine x_iconst hh dX4_findPlaces_1 1 rfl 2 rfl ?_
  obtain ⟨st1, est1, hf⟩ := bs_some hf
  refine x_putI hh cl_4 dX4_findPlaces_2 sh_33 9 rfl (Nat.le_of_ble_eq_true rfl) wd_239 rfl rfl rfl 5 rfl st1 est1 ?_
  refine x_aload_n hh dX4_findPlaces_5 rfl 0 rfl 6 rfl ?_
  refine x_iload_n hh dX4_findPlaces_6 rfl 1 rfl 7 rfl ?_
  refine x_iload_n hh dX4_findPlaces_7 rfl 2 rfl 8 rfl ?_
  obtain ⟨q2, hq2, hf⟩ := b_some hf
  refine x_callV (rest := []) hh mi_X4_findBest [.int v1, .int v2] dX4_findPlaces_8 sh_33 wd_620 (C_X4_findBest l hX  hq2) rfl rfl ⟨Nat.le_of_ble_eq_true rfl, Nat.le_of_ble_eq_true rfl⟩ (Nat.le_of_ble_eq_true rfl) 11 rfl [.int q2.1] rfl ?_
  obtain ⟨hb3, hf⟩ := gb_some hf
  obtain ⟨rfl, rfl⟩ := ret2 hf
  exact x_zret hh hr (nb_n hb3) dX4_findPlaces_11
def F_X4_findPlaces (v1 : Int32) (v2 : Int32) (st : St) : Option (Int32 × St) := F_X4_findPlaces_0  v1 v2 st
set_option maxRecDepth 100000 in
theorem C_X4_findPlaces (l : Launch) {X : Cx} (hX : Ok X) {v1 : Int32} {v2 : Int32} {st : St} {q : Int32 × St} (hf : F_X4_findPlaces v1 v2 st = some q) : Ct l X 16 yX4_findPlaces (.code yX4_findPlaces cX4_findPlaces 3 (some .boolean)) [.ref (X.2.1 33), .int v1, .int v2] st (some (.int q.1)) q.2 := by
  refine Ct.of hX (by decide) (Nat.le_of_ble_eq_true rfl) ?_
  intro p e s m args below meth c hh hr
  exact Z_X4_findPlaces_0 hX hh hr v1 v2 st hf

def F_X4_leastSum_0 (st : St) : Option (Int32 × St) := some ((st.1 33 10) >>> (18 &&& 31), st)
set_option maxRecDepth 100000 in
set_option maxHeartbeats 4000000 in
theorem Z_X4_leastSum_0 {l : Launch} {X : Cx} (hX : Ok X) {p : Program} {e : Env} {s : State} {m : MethodId} {args : Array Value} {below : List Frame} {meth : Method} {c : Code} {rr : Int32} {st' : St} (hh : Hy X p s m args meth c cX4_leastSum 1 RX4) (hr : meth.sig.returnType = some .int) (st : St) (hf : F_X4_leastSum_0 st = some (rr, st')) : Z X p l e (rmk 0) s m args below meth c 1 (MQ below (Qf X (some (.int rr)) st') args s 0 0 (cA X)) 0 [(0, .ref (X.2.1 33))] [] st := by
  unfold F_X4_leastSum_0 at hf
  refine x_aload_n hh dX4_leastSum_0 rfl 0 rfl 1 rfl ?_
  refine x_getI hh cl_4 dX4_leastSum_1 sh_33 10 rfl (Nat.le_of_ble_eq_true rfl) wd_240 4 rfl ?_
  refine x_bipush hh dX4_leastSum_4 18 rfl 6 rfl ?_
  refine x_ishr hh dX4_leastSum_6 7 rfl ?_
  obtain ⟨rfl, rfl⟩ := ret2 hf
  exact x_iret hh hr dX4_leastSum_7
def F_X4_leastSum (st : St) : Option (Int32 × St) := F_X4_leastSum_0  st
set_option maxRecDepth 100000 in
theorem C_X4_leastSum (l : Launch) {X : Cx} (hX : Ok X) {st : St} {q : Int32 × St} (hf : F_X4_leastSum st = some q) : Ct l X 0 yX4_leastSum (.code yX4_leastSum cX4_leastSum 1 (some .int)) [.ref (X.2.1 33)] st (some (.int q.1)) q.2 := by
  refine Ct.of hX (by decide) (Nat.le_of_ble_eq_true rfl) ?_
  intro p e s m args below meth c hh hr
  exact Z_X4_leastSum_0 hX hh hr st hf

def F_X4_placeOf_0 (v1 : Int32) (st : St) : Option (Int32 × St) := (F_X4_shiftOf v1 st).bind (fun q1 => some (((st.1 33 10) >>> (q1.1 &&& 31)) &&& 7, q1.2))
set_option maxRecDepth 100000 in
set_option maxHeartbeats 4000000 in
theorem Z_X4_placeOf_0 {l : Launch} {X : Cx} (hX : Ok X) {p : Program} {e : Env} {s : State} {m : MethodId} {args : Array Value} {below : List Frame} {meth : Method} {c : Code} {rr : Int32} {st' : St} (hh : Hy X p s m args meth c cX4_placeOf 2 RX4) (hr : meth.sig.returnType = some .int) (v1 : Int32) (st : St) (hf : F_X4_placeOf_0 v1 st = some (rr, st')) : Z X p l e (rmk 1) s m args below meth c 2 (MQ below (Qf X (some (.int rr)) st') args s 0 0 (cA X)) 0 [(0, .ref (X.2.1 33)), (1, .int v1)] [] st := by
  unfold F_X4_placeOf_0 at hf
  refine x_aload_n hh dX4_placeOf_0 rfl 0 rfl 1 rfl ?_
  refine x_getI hh cl_4 dX4_placeOf_1 sh_33 10 rfl (Nat.le_of_ble_eq_true rfl) wd_240 4 rfl ?_
  refine x_iload_n hh dX4_placeOf_4 rfl 1 rfl 5 rfl ?_
  obtain ⟨q1, hq1, hf⟩ := b_some hf
  refine x_callS (rest := [.int (st.1 33 10)]) hh ms_X4_shiftOf [.int v1] dX4_placeOf_5 wd_638 (C_X4_shiftOf l hX  hq1) rfl rfl ⟨Nat.le_of_ble_eq_true rfl, Nat.le_of_ble_eq_true rfl⟩ (Nat.le_of_ble_eq_true rfl) 8 rfl [.int q1.1, .int (st.1 33 10)] rfl ?_
  refine x_ishr hh dX4_placeOf_8 9 rfl ?_
  refine x_bipush hh dX4_placeOf_9 7 rfl 11 rfl ?_
  refine x_iand hh dX4_placeOf_11 12 rfl ?_
  obtain ⟨rfl, rfl⟩ := ret2 hf
  exact x_iret hh hr dX4_placeOf_12
def F_X4_placeOf (v1 : Int32) (st : St) : Option (Int32 × St) := F_X4_placeOf_0  v1 st
set_option maxRecDepth 100000 in
theorem C_X4_placeOf (l : Launch) {X : Cx} (hX : Ok X) {v1 : Int32} {st : St} {q : Int32 × St} (hf : F_X4_placeOf v1 st = some q) : Ct l X 1 yX4_placeOf (.code yX4_placeOf cX4_placeOf 2 (some .int)) [.ref (X.2.1 33), .int v1] st (some (.int q.1)) q.2 := by
  refine Ct.of hX (by decide) (Nat.le_of_ble_eq_true rfl) ?_
  intro p e s m args below meth c hh hr
  exact Z_X4_placeOf_0 hX hh hr v1 st hf

def F_X4_forgetIfGrown_2 : Nat → Int32 → St → Option (St)
  | 0, _, _ => none
  | n + 1, v1, st => if (6 : Int32) ≤ v1 then some st else gi v1 6 (gi v1 6 (if (st.1 14 v1.toNatClampNeg) = (st.1 37 v1.toNatClampNeg) then F_X4_forgetIfGrown_2 n (v1 + 1) st else (F_X4_forget st).bind (fun q5 => some q5)))
set_option maxRecDepth 100000 in
set_option maxHeartbeats 4000000 in
theorem Z_X4_forgetIfGrown_2 {l : Launch} {X : Cx} (hX : Ok X) {p : Program} {e : Env} {s : State} {m : MethodId} {args : Array Value} {below : List Frame} {meth : Method} {c : Code} {st' : St} (hh : Hy X p s m args meth c cX4_forgetIfGrown 2 RX4) (hr : meth.sig.returnType = none) : ∀ (n : Nat) (v1 : Int32) (st : St), F_X4_forgetIfGrown_2 n v1 st = some st' → Z X p l e (rmk 4) s m args below meth c 2 (MQ below (Qf X none st') args s 0 0 (cA X)) 2 [(0, .ref (X.2.1 33)), (1, .int v1)] [] st := by
  intro n
  induction n with
  | zero =>
    intro v1 st hf
    cases hf
  | succ n ih =>
    intro v1 st hf
    rw [F_X4_forgetIfGrown_2] at hf
    refine x_iload_n hh dX4_forgetIfGrown_2 rfl 1 rfl 3 rfl ?_
    refine x_bipush hh dX4_forgetIfGrown_3 6 rfl 5 rfl ?_
    refine x_icmp_ge hh dX4_forgetIfGrown_5 37 rfl 8 rfl (fun hc1 => ?_) (fun hc1 => ?_)
    · have hf := t_pos hc1 hf
      obtain rfl := ret1 hf
      exact x_vret hh hr dX4_forgetIfGrown_37
    · have hf := t_neg hc1 hf
      refine x_aload_n hh dX4_forgetIfGrown_8 rfl 0 rfl 9 rfl ?_
      refine x_getR hh cl_4 dX4_forgetIfGrown_9 sh_33 1 9 rfl (Nat.le_of_ble_eq_true rfl) wd_231 12 rfl ?_
      refine x_getR hh cl_6 dX4_forgetIfGrown_12 sh_9 4 14 rfl (Nat.le_of_ble_eq_true rfl) wd_170 15 rfl ?_
      refine x_iload_n hh dX4_forgetIfGrown_15 rfl 1 rfl 16 rfl ?_
      obtain ⟨hi2, hf⟩ := gi_some hf
      refine x_iaload hh dX4_forgetIfGrown_16 sh_14 hi2 17 rfl ?_
      refine x_aload_n hh dX4_forgetIfGrown_17 rfl 0 rfl 18 rfl ?_
      refine x_getR hh cl_4 dX4_forgetIfGrown_18 sh_33 5 37 rfl (Nat.le_of_ble_eq_true rfl) wd_235 21 rfl ?_
      refine x_iload_n hh dX4_forgetIfGrown_21 rfl 1 rfl 22 rfl ?_
      obtain ⟨hi3, hf⟩ := gi_some hf
      refine x_iaload hh dX4_forgetIfGrown_22 sh_37 hi3 23 rfl ?_
      refine x_icmp_eq hh dX4_forgetIfGrown_23 31 rfl 26 rfl (fun hc4 => ?_) (fun hc4 => ?_)
      · have hf := t_pos hc4 hf
        refine x_iinc hh dX4_forgetIfGrown_31 1 rfl (v1 + 1) rfl (by decide) [(1, .int (v1 + 1)), (0, .ref (X.2.1 33))] rfl 34 rfl ?_
        refine x_goto hh dX4_forgetIfGrown_34 2 rfl ?_
        refine x_sub (lv' := [(0, .ref (X.2.1 33)), (1, .int (v1 + 1))]) [1, 0] rfl ?_
        exact ih (v1 + 1) st hf
      · have hf := t_neg hc4 hf
        refine x_aload_n hh dX4_forgetIfGrown_26 rfl 0 rfl 27 rfl ?_
        obtain ⟨q5, hq5, hf⟩ := b_some hf
        refine x_callV (rest := []) hh mi_X4_forget [] dX4_forgetIfGrown_27 sh_33 wd_670 (C_X4_forget l hX  hq5) rfl rfl ⟨Nat.le_of_ble_eq_true rfl, Nat.le_of_ble_eq_true rfl⟩ (Nat.le_of_ble_eq_true rfl) 30 rfl [] rfl ?_
        obtain rfl := ret1 hf
        exact x_vret hh hr dX4_forgetIfGrown_30
def F_X4_forgetIfGrown_0 (st : St) : Option (St) := F_X4_forgetIfGrown_2 fN 0 st
set_option maxRecDepth 100000 in
set_option maxHeartbeats 4000000 in
theorem Z_X4_forgetIfGrown_0 {l : Launch} {X : Cx} (hX : Ok X) {p : Program} {e : Env} {s : State} {m : MethodId} {args : Array Value} {below : List Frame} {meth : Method} {c : Code} {st' : St} (hh : Hy X p s m args meth c cX4_forgetIfGrown 2 RX4) (hr : meth.sig.returnType = none) (st : St) (hf : F_X4_forgetIfGrown_0 st = some st') : Z X p l e (rmk 4) s m args below meth c 2 (MQ below (Qf X none st') args s 0 0 (cA X)) 0 [(0, .ref (X.2.1 33))] [] st := by
  unfold F_X4_forgetIfGrown_0 at hf
  refine x_iconst hh dX4_forgetIfGrown_0 0 rfl 1 rfl ?_
  refine x_istore_n hh dX4_forgetIfGrown_1 rfl (by decide) [(1, .int 0), (0, .ref (X.2.1 33))] rfl 2 rfl ?_
  refine x_sub (lv' := [(0, .ref (X.2.1 33)), (1, .int 0)]) [1, 0] rfl ?_
  exact Z_X4_forgetIfGrown_2 hX hh hr fN 0 st hf
def F_X4_forgetIfGrown (st : St) : Option (St) := F_X4_forgetIfGrown_0  st
set_option maxRecDepth 100000 in
theorem C_X4_forgetIfGrown (l : Launch) {X : Cx} (hX : Ok X) {st : St} {q : St} (hf : F_X4_forgetIfGrown st = some q) : Ct l X 4 yX4_forgetIfGrown (.code yX4_forgetIfGrown cX4_forgetIfGrown 2 (none)) [.ref (X.2.1 33)] st none q := by
  refine Ct.of hX (by decide) (Nat.le_of_ble_eq_true rfl) ?_
  intro p e s m args below meth c hh hr
  exact Z_X4_forgetIfGrown_0 hX hh hr st hf

def F_X4_indexOf_0 (v1 : Int32) (v2 : Int32) (st : St) : Option (Int32 × St) := some (((((st.1 9 5) * 3) + v1) * 64) + v2, st)
set_option maxRecDepth 100000 in
set_option maxHeartbeats 4000000 in
theorem Z_X4_indexOf_0 {l : Launch} {X : Cx} (hX : Ok X) {p : Program} {e : Env} {s : State} {m : MethodId} {args : Array Value} {below : List Frame} {meth : Method} {c : Code} {rr : Int32} {st' : St} (hh : Hy X p s m args meth c cX4_indexOf 3 RX4) (hr : meth.sig.returnType = some .int) (v1 : Int32) (v2 : Int32) (st : St) (hf : F_X4_indexOf_0 v1 v2 st = some (rr, st')) : Z X p l e (rmk 0) s m args below meth c 3 (MQ below (Qf X (some (.int rr)) st') args s 0 0 (cA X)) 0 [(0, .ref (X.2.1 33)), (1, .int v1), (2, .int v2)] [] st := by
  unfold F_X4_indexOf_0 at hf
  refine x_aload_n hh dX4_indexOf_0 rfl 0 rfl 1 rfl ?_
  refine x_getR hh cl_4 dX4_indexOf_1 sh_33 1 9 rfl (Nat.le_of_ble_eq_true rfl) wd_231 4 rfl ?_
  refine x_getI hh cl_6 dX4_indexOf_4 sh_9 5 rfl (Nat.le_of_ble_eq_true rfl) wd_176 7 rfl ?_
  refine x_iconst hh dX4_indexOf_7 3 rfl 8 rfl ?_
  refine x_imul hh dX4_indexOf_8 9 rfl ?_
  refine x_iload_n hh dX4_indexOf_9 rfl 1 rfl 10 rfl ?_
  refine x_iadd hh dX4_indexOf_10 11 rfl ?_
  refine x_bipush hh dX4_indexOf_11 64 rfl 13 rfl ?_
  refine x_imul hh dX4_indexOf_13 14 rfl ?_
  refine x_iload_n hh dX4_indexOf_14 rfl 2 rfl 15 rfl ?_
  refine x_iadd hh dX4_indexOf_15 16 rfl ?_
  obtain ⟨rfl, rfl⟩ := ret2 hf
  exact x_iret hh hr dX4_indexOf_16
def F_X4_indexOf (v1 : Int32) (v2 : Int32) (st : St) : Option (Int32 × St) := F_X4_indexOf_0  v1 v2 st
set_option maxRecDepth 100000 in
theorem C_X4_indexOf (l : Launch) {X : Cx} (hX : Ok X) {v1 : Int32} {v2 : Int32} {st : St} {q : Int32 × St} (hf : F_X4_indexOf v1 v2 st = some q) : Ct l X 0 yX4_indexOf (.code yX4_indexOf cX4_indexOf 3 (some .int)) [.ref (X.2.1 33), .int v1, .int v2] st (some (.int q.1)) q.2 := by
  refine Ct.of hX (by decide) (Nat.le_of_ble_eq_true rfl) ?_
  intro p e s m args below meth c hh hr
  exact Z_X4_indexOf_0 hX hh hr v1 v2 st hf

def F_X4_findSums_82 (k11 : Int32 → Int32 → St → Option (St)) (k24 : Int32 → Int32 → Int32 → St → Option (St)) (v1 : Int32) (v2 : Int32) (v3 : Int32) (st : St) : Option (St) := k24 v1 v2 (v3 + 1) st
set_option maxRecDepth 100000 in
set_option maxHeartbeats 4000000 in
theorem Z_X4_findSums_82 {l : Launch} {X : Cx} (hX : Ok X) {p : Program} {e : Env} {s : State} {m : MethodId} {args : Array Value} {below : List Frame} {meth : Method} {c : Code} {st' : St} (hh : Hy X p s m args meth c cX4_findSums 5 RX4) (hr : meth.sig.returnType = none) {k11 : Int32 → Int32 → St → Option (St)} (hk11 : ∀ (v1 : Int32) (v2 : Int32) (st : St), k11 v1 v2 st = some st' → Z X p l e (rmk 16) s m args below meth c 5 (MQ below (Qf X none st') args s 0 0 (cA X)) 11 [(0, .ref (X.2.1 33)), (1, .int v1), (2, .int v2)] [] st) {k24 : Int32 → Int32 → Int32 → St → Option (St)} (hk24 : ∀ (v1 : Int32) (v2 : Int32) (v3 : Int32) (st : St), k24 v1 v2 v3 st = some st' → Z X p l e (rmk 16) s m args below meth c 5 (MQ below (Qf X none st') args s 0 0 (cA X)) 24 [(0, .ref (X.2.1 33)), (1, .int v1), (2, .int v2), (3, .int v3)] [] st) (v1 : Int32) (v2 : Int32) (v3 : Int32) (st : St) (hf : F_X4_findSums_82 k11 k24 v1 v2 v3 st = some st') : Z X p l e (rmk 16) s m args below meth c 5 (MQ below (Qf X none st') args s 0 0 (cA X)) 82 [(0, .ref (X.2.1 33)), (1, .int v1), (2, .int v2), (3, .int v3)] [] st := by
  unfold F_X4_findSums_82 at hf
  refine x_iinc hh dX4_findSums_82 3 rfl (v3 + 1) rfl (by decide) [(3, .int (v3 + 1)), (0, .ref (X.2.1 33)), (1, .int v1), (2, .int v2)] rfl 85 rfl ?_
  refine x_goto hh dX4_findSums_85 24 rfl ?_
  refine x_sub (lv' := [(0, .ref (X.2.1 33)), (1, .int v1), (2, .int v2), (3, .int (v3 + 1))]) [1, 2, 3, 0] rfl ?_
  exact hk24 v1 v2 (v3 + 1) st hf
def F_X4_findSums_81 (k11 : Int32 → Int32 → St → Option (St)) (k24 : Int32 → Int32 → Int32 → St → Option (St)) (v1 : Int32) (v2 : Int32) (v3 : Int32) (t0 : Int32) (t1 : Int32) (st : St) : Option (St) := gi t1 384 (bs (sV st 36 t1.toNatClampNeg t0) (fun st13 => F_X4_findSums_82 k11 k24 v1 v2 v3 st13))
set_option maxRecDepth 100000 in
set_option maxHeartbeats 4000000 in
theorem Z_X4_findSums_81 {l : Launch} {X : Cx} (hX : Ok X) {p : Program} {e : Env} {s : State} {m : MethodId} {args : Array Value} {below : List Frame} {meth : Method} {c : Code} {st' : St} (hh : Hy X p s m args meth c cX4_findSums 5 RX4) (hr : meth.sig.returnType = none) {k11 : Int32 → Int32 → St → Option (St)} (hk11 : ∀ (v1 : Int32) (v2 : Int32) (st : St), k11 v1 v2 st = some st' → Z X p l e (rmk 16) s m args below meth c 5 (MQ below (Qf X none st') args s 0 0 (cA X)) 11 [(0, .ref (X.2.1 33)), (1, .int v1), (2, .int v2)] [] st) {k24 : Int32 → Int32 → Int32 → St → Option (St)} (hk24 : ∀ (v1 : Int32) (v2 : Int32) (v3 : Int32) (st : St), k24 v1 v2 v3 st = some st' → Z X p l e (rmk 16) s m args below meth c 5 (MQ below (Qf X none st') args s 0 0 (cA X)) 24 [(0, .ref (X.2.1 33)), (1, .int v1), (2, .int v2), (3, .int v3)] [] st) (v1 : Int32) (v2 : Int32) (v3 : Int32) (t0 : Int32) (t1 : Int32) (st : St) (hf : F_X4_findSums_81 k11 k24 v1 v2 v3 t0 t1 st = some st') : Z X p l e (rmk 16) s m args below meth c 5 (MQ below (Qf X none st') args s 0 0 (cA X)) 81 [(0, .ref (X.2.1 33)), (1, .int v1), (2, .int v2), (3, .int v3)] [.int t0, .int t1, .ref (X.2.1 36)] st := by
  unfold F_X4_findSums_81 at hf
  obtain ⟨hi12, hf⟩ := gi_some hf
  obtain ⟨st13, est13, hf⟩ := bs_some hf
  refine x_iastore hh dX4_findSums_81 sh_36 hi12 82 rfl st13 est13 ?_
  exact Z_X4_findSums_82 hX hh hr hk11 hk24  v1 v2 v3 st13 hf
def F_X4_findSums_24 (k11 : Int32 → Int32 → St → Option (St)) : Nat → Int32 → Int32 → Int32 → St → Option (St)
  | 0, _, _, _, _ => none
  | n + 1, v1, v2, v3, st => if (64 : Int32) ≤ v3 then k11 v1 (v2 + 1) st else (F_X4_indexOf v2 v3 st).bind (fun q5 => if (v3 &&& (v1 ^^^ ((-1)))) = 0 then gi q5.1 384 (if (q5.2.1 36 q5.1.toNatClampNeg) = ((-2)) then (F_X4_findBest v2 v3 q5.2).bind (fun q9 => if q9.1 = 0 then F_X4_findSums_81 k11 (F_X4_findSums_24 k11 n) v1 v2 v3 ((-1)) q5.1 q9.2 else (F_X4_leastSum q9.2).bind (fun q11 => F_X4_findSums_81 k11 (F_X4_findSums_24 k11 n) v1 v2 v3 q11.1 q5.1 q11.2)) else F_X4_findSums_82 k11 (F_X4_findSums_24 k11 n) v1 v2 v3 q5.2) else F_X4_findSums_82 k11 (F_X4_findSums_24 k11 n) v1 v2 v3 q5.2)
set_option maxRecDepth 100000 in
set_option maxHeartbeats 4000000 in
theorem Z_X4_findSums_24 {l : Launch} {X : Cx} (hX : Ok X) {p : Program} {e : Env} {s : State} {m : MethodId} {args : Array Value} {below : List Frame} {meth : Method} {c : Code} {st' : St} (hh : Hy X p s m args meth c cX4_findSums 5 RX4) (hr : meth.sig.returnType = none) {k11 : Int32 → Int32 → St → Option (St)} (hk11 : ∀ (v1 : Int32) (v2 : Int32) (st : St), k11 v1 v2 st = some st' → Z X p l e (rmk 16) s m args below meth c 5 (MQ below (Qf X none st') args s 0 0 (cA X)) 11 [(0, .ref (X.2.1 33)), (1, .int v1), (2, .int v2)] [] st) : ∀ (n : Nat) (v1 : Int32) (v2 : Int32) (v3 : Int32) (st : St), F_X4_findSums_24 k11 n v1 v2 v3 st = some st' → Z X p l e (rmk 16) s m args below meth c 5 (MQ below (Qf X none st') args s 0 0 (cA X)) 24 [(0, .ref (X.2.1 33)), (1, .int v1), (2, .int v2), (3, .int v3)] [] st := by
  intro n
  induction n with
  | zero =>
    intro v1 v2 v3 st hf
    cases hf
  | succ n ih =>
    intro v1 v2 v3 st hf
    rw [F_X4_findSums_24] at hf
    refine x_iload_n hh dX4_findSums_24 rfl 3 rfl 25 rfl ?_
    refine x_bipush hh dX4_findSums_25 64 rfl 27 rfl ?_
    refine x_icmp_ge hh dX4_findSums_27 88 rfl 30 rfl (fun hc4 => ?_) (fun hc4 => ?_)
    · have hf := t_pos hc4 hf
      refine x_iinc hh dX4_findSums_88 2 rfl (v2 + 1) rfl (by decide) [(2, .int (v2 + 1)), (0, .ref (X.2.1 33)), (1, .int v1), (3, .int v3)] rfl 91 rfl ?_
      refine x_goto hh dX4_findSums_91 11 rfl ?_
      refine x_sub (lv' := [(0, .ref (X.2.1 33)), (1, .int v1), (2, .int (v2 + 1))]) [1, 2, 0] rfl ?_
      exact hk11 v1 (v2 + 1) st hf
    · have hf := t_neg hc4 hf
      refine x_aload_n hh dX4_findSums_30 rfl 0 rfl 31 rfl ?_
      refine x_iload_n hh dX4_findSums_31 rfl 2 rfl 32 rfl ?_
      refine x_iload_n hh dX4_findSums_32 rfl 3 rfl 33 rfl ?_
      obtain ⟨q5, hq5, hf⟩ := b_some hf
      refine x_callV (rest := []) hh mi_X4_indexOf [.int v2, .int v3] dX4_findSums_33 sh_33 wd_671 (C_X4_indexOf l hX  hq5) rfl rfl ⟨Nat.le_of_ble_eq_true rfl, Nat.le_of_ble_eq_true rfl⟩ (Nat.le_of_ble_eq_true rfl) 36 rfl [.int q5.1] rfl ?_
      refine x_istore hh dX4_findSums_36 (by decide) [(4, .int q5.1), (0, .ref (X.2.1 33)), (1, .int v1), (2, .int v2), (3, .int v3)] rfl 38 rfl ?_
      refine x_iload_n hh dX4_findSums_38 rfl 4 rfl 39 rfl ?_
      refine x_iload_n hh dX4_findSums_39 rfl 2 rfl 40 rfl ?_
      refine x_iconst hh dX4_findSums_40 (-1) rfl 41 rfl ?_
      refine x_ixor hh dX4_findSums_41 42 rfl ?_
      refine x_iand hh dX4_findSums_42 43 rfl ?_
      refine x_if_ne hh dX4_findSums_43 82 rfl 46 rfl (fun hc6 => ?_) (fun hc6 => ?_)
      · have hf := t_neg hc6 hf
        refine x_sub (lv' := [(0, .ref (X.2.1 33)), (1, .int v1), (2, .int v2), (3, .int v3)]) [1, 2, 3, 4] rfl ?_
        exact Z_X4_findSums_82 hX hh hr hk11 ih  v1 v2 v3 q5.2 hf
      · have hf := t_pos hc6 hf
        refine x_aload_n hh dX4_findSums_46 rfl 1 rfl 47 rfl ?_
        refine x_getR hh cl_4 dX4_findSums_47 sh_33 4 36 rfl (Nat.le_of_ble_eq_true rfl) wd_234 50 rfl ?_
        refine x_iload hh dX4_findSums_50 0 rfl 52 rfl ?_
        obtain ⟨hi7, hf⟩ := gi_some hf
        refine x_iaload hh dX4_findSums_52 sh_36 hi7 53 rfl ?_
        refine x_bipush hh dX4_findSums_53 (-2) rfl 55 rfl ?_
        refine x_icmp_ne hh dX4_findSums_55 82 rfl 58 rfl (fun hc8 => ?_) (fun hc8 => ?_)
        · have hf := t_neg hc8 hf
          refine x_sub (lv' := [(0, .ref (X.2.1 33)), (1, .int v1), (2, .int v2), (3, .int v3)]) [1, 2, 3, 4] rfl ?_
          exact Z_X4_findSums_82 hX hh hr hk11 ih  v1 v2 v3 q5.2 hf
        · have hf := t_pos hc8 hf
          refine x_aload_n hh dX4_findSums_58 rfl 1 rfl 59 rfl ?_
          refine x_getR hh cl_4 dX4_findSums_59 sh_33 4 36 rfl (Nat.le_of_ble_eq_true rfl) wd_234 62 rfl ?_
          refine x_iload hh dX4_findSums_62 0 rfl 64 rfl ?_
          refine x_aload_n hh dX4_findSums_64 rfl 1 rfl 65 rfl ?_
          refine x_iload_n hh dX4_findSums_65 rfl 3 rfl 66 rfl ?_
          refine x_iload_n hh dX4_findSums_66 rfl 4 rfl 67 rfl ?_
          obtain ⟨q9, hq9, hf⟩ := b_some hf
          refine x_callV (rest := [.int q5.1, .ref (X.2.1 36)]) hh mi_X4_findBest [.int v2, .int v3] dX4_findSums_67 sh_33 wd_620 (C_X4_findBest l hX  hq9) rfl rfl ⟨Nat.le_of_ble_eq_true rfl, Nat.le_of_ble_eq_true rfl⟩ (Nat.le_of_ble_eq_true rfl) 70 rfl [.int q9.1, .int q5.1, .ref (X.2.1 36)] rfl ?_
          refine x_if_eq hh dX4_findSums_70 80 rfl 73 rfl (fun hc10 => ?_) (fun hc10 => ?_)
          · have hf := t_pos hc10 hf
            refine x_iconst hh dX4_findSums_80 (-1) rfl 81 rfl ?_
            refine x_sub (lv' := [(0, .ref (X.2.1 33)), (1, .int v1), (2, .int v2), (3, .int v3)]) [1, 2, 3, 4] rfl ?_
            exact Z_X4_findSums_81 hX hh hr hk11 ih  v1 v2 v3 ((-1)) q5.1 q9.2 hf
          · have hf := t_neg hc10 hf
            refine x_aload_n hh dX4_findSums_73 rfl 1 rfl 74 rfl ?_
            obtain ⟨q11, hq11, hf⟩ := b_some hf
            refine x_callV (rest := [.int q5.1, .ref (X.2.1 36)]) hh mi_X4_leastSum [] dX4_findSums_74 sh_33 wd_674 (C_X4_leastSum l hX  hq11) rfl rfl ⟨Nat.le_of_ble_eq_true rfl, Nat.le_of_ble_eq_true rfl⟩ (Nat.le_of_ble_eq_true rfl) 77 rfl [.int q11.1, .int q5.1, .ref (X.2.1 36)] rfl ?_
            refine x_goto hh dX4_findSums_77 81 rfl ?_
            refine x_sub (lv' := [(0, .ref (X.2.1 33)), (1, .int v1), (2, .int v2), (3, .int v3)]) [1, 2, 3, 4] rfl ?_
            exact Z_X4_findSums_81 hX hh hr hk11 ih  v1 v2 v3 q11.1 q5.1 q11.2 hf
def F_X4_findSums_11 : Nat → Int32 → Int32 → St → Option (St)
  | 0, _, _, _ => none
  | n + 1, v1, v2, st => if (st.1 1 0) ≤ v2 then some st else F_X4_findSums_24 (F_X4_findSums_11 n) fN v1 v2 0 st
set_option maxRecDepth 100000 in
set_option maxHeartbeats 4000000 in
theorem Z_X4_findSums_11 {l : Launch} {X : Cx} (hX : Ok X) {p : Program} {e : Env} {s : State} {m : MethodId} {args : Array Value} {below : List Frame} {meth : Method} {c : Code} {st' : St} (hh : Hy X p s m args meth c cX4_findSums 5 RX4) (hr : meth.sig.returnType = none) : ∀ (n : Nat) (v1 : Int32) (v2 : Int32) (st : St), F_X4_findSums_11 n v1 v2 st = some st' → Z X p l e (rmk 16) s m args below meth c 5 (MQ below (Qf X none st') args s 0 0 (cA X)) 11 [(0, .ref (X.2.1 33)), (1, .int v1), (2, .int v2)] [] st := by
  intro n
  induction n with
  | zero =>
    intro v1 v2 st hf
    cases hf
  | succ n ih =>
    intro v1 v2 st hf
    rw [F_X4_findSums_11] at hf
    refine x_iload_n hh dX4_findSums_11 rfl 2 rfl 12 rfl ?_
    refine x_aload_n hh dX4_findSums_12 rfl 0 rfl 13 rfl ?_
    refine x_getR hh cl_4 dX4_findSums_13 sh_33 0 1 rfl (Nat.le_of_ble_eq_true rfl) wd_230 16 rfl ?_
    refine x_getI hh cl_3 dX4_findSums_16 sh_1 0 rfl (Nat.le_of_ble_eq_true rfl) wd_107 19 rfl ?_
    refine x_icmp_ge hh dX4_findSums_19 94 rfl 22 rfl (fun hc3 => ?_) (fun hc3 => ?_)
    · have hf := t_pos hc3 hf
      obtain rfl := ret1 hf
      exact x_vret hh hr dX4_findSums_94
    · have hf := t_neg hc3 hf
      refine x_iconst hh dX4_findSums_22 0 rfl 23 rfl ?_
      refine x_istore_n hh dX4_findSums_23 rfl (by decide) [(3, .int 0), (0, .ref (X.2.1 33)), (1, .int v1), (2, .int v2)] rfl 24 rfl ?_
      refine x_sub (lv' := [(0, .ref (X.2.1 33)), (1, .int v1), (2, .int v2), (3, .int 0)]) [1, 2, 3, 0] rfl ?_
      exact Z_X4_findSums_24 hX hh hr ih fN v1 v2 0 st hf
def F_X4_findSums_0 (v1 : Int32) (st : St) : Option (St) := (F_X4_forgetIfGrown st).bind (fun q1 => bs (sV q1 33 9 0) (fun st2 => F_X4_findSums_11 fN v1 0 st2))
set_option maxRecDepth 100000 in
set_option maxHeartbeats 4000000 in
theorem Z_X4_findSums_0 {l : Launch} {X : Cx} (hX : Ok X) {p : Program} {e : Env} {s : State} {m : MethodId} {args : Array Value} {below : List Frame} {meth : Method} {c : Code} {st' : St} (hh : Hy X p s m args meth c cX4_findSums 5 RX4) (hr : meth.sig.returnType = none) (v1 : Int32) (st : St) (hf : F_X4_findSums_0 v1 st = some st') : Z X p l e (rmk 16) s m args below meth c 5 (MQ below (Qf X none st') args s 0 0 (cA X)) 0 [(0, .ref (X.2.1 33)), (1, .int v1)] [] st := by
  unfold F_X4_findSums_0 at hf
  refine x_aload_n hh dX4_findSums_0 rfl 0 rfl 1 rfl ?_
  obtain ⟨q1, hq1, hf⟩ := b_some hf
  refine x_callV (rest := []) hh mi_X4_forgetIfGrown [] dX4_findSums_1 sh_33 wd_667 (C_X4_forgetIfGrown l hX  hq1) rfl rfl ⟨Nat.le_of_ble_eq_true rfl, Nat.le_of_ble_eq_true rfl⟩ (Nat.le_of_ble_eq_true rfl) 4 rfl [] rfl ?_
  refine x_aload_n hh dX4_findSums_4 rfl 0 rfl 5 rfl ?_
  refine x_iconst hh dX4_findSums_5 0 rfl 6 rfl ?_
  obtain ⟨st2, est2, hf⟩ := bs_some hf
  refine x_putI hh cl_4 dX4_findSums_6 sh_33 9 rfl (Nat.le_of_ble_eq_true rfl) wd_239 rfl rfl rfl 9 rfl st2 est2 ?_
  refine x_iconst hh dX4_findSums_9 0 rfl 10 rfl ?_
  refine x_istore_n hh dX4_findSums_10 rfl (by decide) [(2, .int 0), (0, .ref (X.2.1 33)), (1, .int v1)] rfl 11 rfl ?_
  refine x_sub (lv' := [(0, .ref (X.2.1 33)), (1, .int v1), (2, .int 0)]) [1, 2, 0] rfl ?_
  exact Z_X4_findSums_11 hX hh hr fN v1 0 st2 hf
def F_X4_findSums (v1 : Int32) (st : St) : Option (St) := F_X4_findSums_0  v1 st
set_option maxRecDepth 100000 in
theorem C_X4_findSums (l : Launch) {X : Cx} (hX : Ok X) {v1 : Int32} {st : St} {q : St} (hf : F_X4_findSums v1 st = some q) : Ct l X 16 yX4_findSums (.code yX4_findSums cX4_findSums 5 (none)) [.ref (X.2.1 33), .int v1] st none q := by
  refine Ct.of hX (by decide) (Nat.le_of_ble_eq_true rfl) ?_
  intro p e s m args below meth c hh hr
  exact Z_X4_findSums_0 hX hh hr v1 st hf

def F_X4_sumOf_37 (t0 : Int32) (st : St) : Option (Int32 × St) := some (t0, st)
set_option maxRecDepth 100000 in
set_option maxHeartbeats 4000000 in
theorem Z_X4_sumOf_37 {l : Launch} {X : Cx} (hX : Ok X) {p : Program} {e : Env} {s : State} {m : MethodId} {args : Array Value} {below : List Frame} {meth : Method} {c : Code} {rr : Int32} {st' : St} (hh : Hy X p s m args meth c cX4_sumOf 3 RX4) (hr : meth.sig.returnType = some .int) (t0 : Int32) (st : St) (hf : F_X4_sumOf_37 t0 st = some (rr, st')) : Z X p l e (rmk 1) s m args below meth c 3 (MQ below (Qf X (some (.int rr)) st') args s 0 0 (cA X)) 37 [(0, .ref (X.2.1 33))] [.int t0] st := by
  unfold F_X4_sumOf_37 at hf
  obtain ⟨rfl, rfl⟩ := ret2 hf
  exact x_iret hh hr dX4_sumOf_37
def F_X4_sumOf_36 (st : St) : Option (Int32 × St) := F_X4_sumOf_37 ((-1)) st
set_option maxRecDepth 100000 in
set_option maxHeartbeats 4000000 in
theorem Z_X4_sumOf_36 {l : Launch} {X : Cx} (hX : Ok X) {p : Program} {e : Env} {s : State} {m : MethodId} {args : Array Value} {below : List Frame} {meth : Method} {c : Code} {rr : Int32} {st' : St} (hh : Hy X p s m args meth c cX4_sumOf 3 RX4) (hr : meth.sig.returnType = some .int) (st : St) (hf : F_X4_sumOf_36 st = some (rr, st')) : Z X p l e (rmk 1) s m args below meth c 3 (MQ below (Qf X (some (.int rr)) st') args s 0 0 (cA X)) 36 [(0, .ref (X.2.1 33))] [] st := by
  unfold F_X4_sumOf_36 at hf
  refine x_iconst hh dX4_sumOf_36 (-1) rfl 37 rfl ?_
  exact Z_X4_sumOf_37 hX hh hr  ((-1)) st hf
def F_X4_sumOf_0 (v1 : Int32) (v2 : Int32) (st : St) : Option (Int32 × St) := (F_X3_hasRoom 1 v1 st).bind (fun q1 => if q1.1 = 0 then F_X4_sumOf_36 q1.2 else (F_X3_hasAll 1 v2 q1.2).bind (fun q3 => if q3.1 = 0 then F_X4_sumOf_36 q3.2 else (F_X4_indexOf v1 v2 q3.2).bind (fun q5 => gi q5.1 384 (F_X4_sumOf_37 (q5.2.1 36 q5.1.toNatClampNeg) q5.2))))
set_option maxRecDepth 100000 in
set_option maxHeartbeats 4000000 in
theorem Z_X4_sumOf_0 {l : Launch} {X : Cx} (hX : Ok X) {p : Program} {e : Env} {s : State} {m : MethodId} {args : Array Value} {below : List Frame} {meth : Method} {c : Code} {rr : Int32} {st' : St} (hh : Hy X p s m args meth c cX4_sumOf 3 RX4) (hr : meth.sig.returnType = some .int) (v1 : Int32) (v2 : Int32) (st : St) (hf : F_X4_sumOf_0 v1 v2 st = some (rr, st')) : Z X p l e (rmk 1) s m args below meth c 3 (MQ below (Qf X (some (.int rr)) st') args s 0 0 (cA X)) 0 [(0, .ref (X.2.1 33)), (1, .int v1), (2, .int v2)] [] st := by
  unfold F_X4_sumOf_0 at hf
  refine x_aload_n hh dX4_sumOf_0 rfl 0 rfl 1 rfl ?_
  refine x_getR hh cl_4 dX4_sumOf_1 sh_33 0 1 rfl (Nat.le_of_ble_eq_true rfl) wd_230 4 rfl ?_
  refine x_iload_n hh dX4_sumOf_4 rfl 1 rfl 5 rfl ?_
  obtain ⟨q1, hq1, hf⟩ := b_some hf
  refine x_callV (rest := []) hh mi_X3_hasRoom [.int v1] dX4_sumOf_5 sh_1 wd_685 (C_X3_hasRoom l hX ho_1 hq1) rfl rfl ⟨Nat.le_of_ble_eq_true rfl, Nat.le_of_ble_eq_true rfl⟩ (Nat.le_of_ble_eq_true rfl) 8 rfl [.int q1.1] rfl ?_
  refine x_if_eq hh dX4_sumOf_8 36 rfl 11 rfl (fun hc2 => ?_) (fun hc2 => ?_)
  · have hf := t_pos hc2 hf
    refine x_sub (lv' := [(0, .ref (X.2.1 33))]) [0] rfl ?_
    exact Z_X4_sumOf_36 hX hh hr  q1.2 hf
  · have hf := t_neg hc2 hf
    refine x_aload_n hh dX4_sumOf_11 rfl 0 rfl 12 rfl ?_
    refine x_getR hh cl_4 dX4_sumOf_12 sh_33 0 1 rfl (Nat.le_of_ble_eq_true rfl) wd_230 15 rfl ?_
    refine x_iload_n hh dX4_sumOf_15 rfl 2 rfl 16 rfl ?_
    obtain ⟨q3, hq3, hf⟩ := b_some hf
    refine x_callV (rest := []) hh mi_X3_hasAll [.int v2] dX4_sumOf_16 sh_1 wd_686 (C_X3_hasAll l hX ho_1 hq3) rfl rfl ⟨Nat.le_of_ble_eq_true rfl, Nat.le_of_ble_eq_true rfl⟩ (Nat.le_of_ble_eq_true rfl) 19 rfl [.int q3.1] rfl ?_
    refine x_if_eq hh dX4_sumOf_19 36 rfl 22 rfl (fun hc4 => ?_) (fun hc4 => ?_)
    · have hf := t_pos hc4 hf
      refine x_sub (lv' := [(0, .ref (X.2.1 33))]) [0] rfl ?_
      exact Z_X4_sumOf_36 hX hh hr  q3.2 hf
    · have hf := t_neg hc4 hf
      refine x_aload_n hh dX4_sumOf_22 rfl 0 rfl 23 rfl ?_
      refine x_getR hh cl_4 dX4_sumOf_23 sh_33 4 36 rfl (Nat.le_of_ble_eq_true rfl) wd_234 26 rfl ?_
      refine x_aload_n hh dX4_sumOf_26 rfl 0 rfl 27 rfl ?_
      refine x_iload_n hh dX4_sumOf_27 rfl 1 rfl 28 rfl ?_
      refine x_iload_n hh dX4_sumOf_28 rfl 2 rfl 29 rfl ?_
      obtain ⟨q5, hq5, hf⟩ := b_some hf
      refine x_callV (rest := [.ref (X.2.1 36)]) hh mi_X4_indexOf [.int v1, .int v2] dX4_sumOf_29 sh_33 wd_671 (C_X4_indexOf l hX  hq5) rfl rfl ⟨Nat.le_of_ble_eq_true rfl, Nat.le_of_ble_eq_true rfl⟩ (Nat.le_of_ble_eq_true rfl) 32 rfl [.int q5.1, .ref (X.2.1 36)] rfl ?_
      obtain ⟨hi6, hf⟩ := gi_some hf
      refine x_iaload hh dX4_sumOf_32 sh_36 hi6 33 rfl ?_
      refine x_goto hh dX4_sumOf_33 37 rfl ?_
      refine x_sub (lv' := [(0, .ref (X.2.1 33))]) [0] rfl ?_
      exact Z_X4_sumOf_37 hX hh hr  (q5.2.1 36 q5.1.toNatClampNeg) q5.2 hf
def F_X4_sumOf (v1 : Int32) (v2 : Int32) (st : St) : Option (Int32 × St) := F_X4_sumOf_0  v1 v2 st
set_option maxRecDepth 100000 in
theorem C_X4_sumOf (l : Launch) {X : Cx} (hX : Ok X) {v1 : Int32} {v2 : Int32} {st : St} {q : Int32 × St} (hf : F_X4_sumOf v1 v2 st = some q) : Ct l X 1 yX4_sumOf (.code yX4_sumOf cX4_sumOf 3 (some .int)) [.ref (X.2.1 33), .int v1, .int v2] st (some (.int q.1)) q.2 := by
  refine Ct.of hX (by decide) (Nat.le_of_ble_eq_true rfl) ?_
  intro p e s m args below meth c hh hr
  exact Z_X4_sumOf_0 hX hh hr v1 v2 st hf

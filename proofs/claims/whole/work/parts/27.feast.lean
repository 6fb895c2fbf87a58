def F_X2_weigh_116 (st : St) : Option (St) := some st
set_option maxRecDepth 100000 in
set_option maxHeartbeats 4000000 in
theorem Z_X2_weigh_116 {l : Launch} {X : Cx} (hX : Ok X) {p : Program} {e : Env} {s : State} {m : MethodId} {args : Array Value} {below : List Frame} {meth : Method} {c : Code} {st' : St} (hh : Hy X p s m args meth c cX2_weigh 5 RX2) (hr : meth.sig.returnType = none) (st : St) (hf : F_X2_weigh_116 st = some st') : Z X p l e (rmk 3) s m args below meth c 5 (MQ below (Qf X none st') args s 0 0 (cA X)) 116 [(0, .ref (X.2.1 38))] [] st := by
  unfold F_X2_weigh_116 at hf
  obtain rfl := ret1 hf
  exact x_vret hh hr dX2_weigh_116
def F_X2_weigh_90 (v1 : Int32) (v2 : Int32) (st : St) : Option (St) := bs (sV st 38 4 1) (fun st10 => bs (sV st10 38 5 v2) (fun st11 => bs (sV st11 38 6 v1) (fun st12 => (F_X7_copyRow 39 40 st12).bind (fun q13 => F_X2_weigh_116 q13))))
set_option maxRecDepth 100000 in
set_option maxHeartbeats 4000000 in
theorem Z_X2_weigh_90 {l : Launch} {X : Cx} (hX : Ok X) {p : Program} {e : Env} {s : State} {m : MethodId} {args : Array Value} {below : List Frame} {meth : Method} {c : Code} {st' : St} (hh : Hy X p s m args meth c cX2_weigh 5 RX2) (hr : meth.sig.returnType = none) (v1 : Int32) (v2 : Int32) (st : St) (hf : F_X2_weigh_90 v1 v2 st = some st') : Z X p l e (rmk 3) s m args below meth c 5 (MQ below (Qf X none st') args s 0 0 (cA X)) 90 [(0, .ref (X.2.1 38)), (1, .int v1), (2, .int v2)] [] st := by
  unfold F_X2_weigh_90 at hf
  refine x_aload_n hh dX2_weigh_90 rfl 0 rfl 91 rfl ?_
  refine x_iconst hh dX2_weigh_91 1 rfl 92 rfl ?_
  obtain ⟨st10, est10, hf⟩ := bs_some hf
  refine x_putI hh cl_2 dX2_weigh_92 sh_38 4 rfl (Nat.le_of_ble_eq_true rfl) wd_262 rfl rfl rfl 95 rfl st10 est10 ?_
  refine x_aload_n hh dX2_weigh_95 rfl 0 rfl 96 rfl ?_
  refine x_iload_n hh dX2_weigh_96 rfl 2 rfl 97 rfl ?_
  obtain ⟨st11, est11, hf⟩ := bs_some hf
  refine x_putI hh cl_2 dX2_weigh_97 sh_38 5 rfl (Nat.le_of_ble_eq_true rfl) wd_263 rfl rfl rfl 100 rfl st11 est11 ?_
  refine x_aload_n hh dX2_weigh_100 rfl 0 rfl 101 rfl ?_
  refine x_iload_n hh dX2_weigh_101 rfl 1 rfl 102 rfl ?_
  obtain ⟨st12, est12, hf⟩ := bs_some hf
  refine x_putI hh cl_2 dX2_weigh_102 sh_38 6 rfl (Nat.le_of_ble_eq_true rfl) wd_265 rfl rfl rfl 105 rfl st12 est12 ?_
  refine x_aload_n hh dX2_weigh_105 rfl 0 rfl 106 rfl ?_
  refine x_getR hh cl_2 dX2_weigh_106 sh_38 2 39 rfl (Nat.le_of_ble_eq_true rfl) wd_260 109 rfl ?_
  refine x_aload_n hh dX2_weigh_109 rfl 0 rfl 110 rfl ?_
  refine x_getR hh cl_2 dX2_weigh_110 sh_38 3 40 rfl (Nat.le_of_ble_eq_true rfl) wd_261 113 rfl ?_
  obtain ⟨q13, hq13, hf⟩ := b_some hf
  refine x_callSN (rest := []) hh ms_X7_copyRow [.ref (X.2.1 39), .ref (X.2.1 40)] dX2_weigh_113 (by decide) (C_X7_copyRow l hX sh_39 sh_40 hq13) rfl rfl ⟨Nat.le_of_ble_eq_true rfl, Nat.le_of_ble_eq_true rfl⟩ (Nat.le_of_ble_eq_true rfl) 116 rfl [] rfl ?_
  refine x_sub (lv' := [(0, .ref (X.2.1 38))]) [0] rfl ?_
  exact Z_X2_weigh_116 hX hh hr  q13 hf
def F_X2_weigh_78 (v1 : Int32) (v2 : Int32) (t0 : Int32) (st : St) : Option (St) := if (st.1 38 4) = 0 then F_X2_weigh_90 v1 v2 st else if t0 = 0 then F_X2_weigh_116 st else F_X2_weigh_90 v1 v2 st
set_option maxRecDepth 100000 in
set_option maxHeartbeats 4000000 in
theorem Z_X2_weigh_78 {l : Launch} {X : Cx} (hX : Ok X) {p : Program} {e : Env} {s : State} {m : MethodId} {args : Array Value} {below : List Frame} {meth : Method} {c : Code} {st' : St} (hh : Hy X p s m args meth c cX2_weigh 5 RX2) (hr : meth.sig.returnType = none) (v1 : Int32) (v2 : Int32) (t0 : Int32) (st : St) (hf : F_X2_weigh_78 v1 v2 t0 st = some st') : Z X p l e (rmk 3) s m args below meth c 5 (MQ below (Qf X none st') args s 0 0 (cA X)) 78 [(0, .ref (X.2.1 38)), (1, .int v1), (2, .int v2)] [.int t0] st := by
  unfold F_X2_weigh_78 at hf
  refine x_istore_n hh dX2_weigh_78 rfl (by decide) [(3, .int t0), (0, .ref (X.2.1 38)), (1, .int v1), (2, .int v2)] rfl 79 rfl ?_
  refine x_aload_n hh dX2_weigh_79 rfl 1 rfl 80 rfl ?_
  refine x_getI hh cl_2 dX2_weigh_80 sh_38 4 rfl (Nat.le_of_ble_eq_true rfl) wd_262 83 rfl ?_
  refine x_if_eq hh dX2_weigh_83 90 rfl 86 rfl (fun hc8 => ?_) (fun hc8 => ?_)
  · have hf := t_pos hc8 hf
    refine x_sub (lv' := [(0, .ref (X.2.1 38)), (1, .int v1), (2, .int v2)]) [1, 2, 3] rfl ?_
    exact Z_X2_weigh_90 hX hh hr  v1 v2 st hf
  · have hf := t_neg hc8 hf
    refine x_iload_n hh dX2_weigh_86 rfl 0 rfl 87 rfl ?_
    refine x_if_eq hh dX2_weigh_87 116 rfl 90 rfl (fun hc9 => ?_) (fun hc9 => ?_)
    · have hf := t_pos hc9 hf
      refine x_sub (lv' := [(0, .ref (X.2.1 38))]) [1] rfl ?_
      exact Z_X2_weigh_116 hX hh hr  st hf
    · have hf := t_neg hc9 hf
      refine x_sub (lv' := [(0, .ref (X.2.1 38)), (1, .int v1), (2, .int v2)]) [1, 2, 3] rfl ?_
      exact Z_X2_weigh_90 hX hh hr  v1 v2 st hf
def F_X2_weigh_73 (v1 : Int32) (v2 : Int32) (st : St) : Option (St) := F_X2_weigh_78 v1 v2 1 st
set_option maxRecDepth 100000 in
set_option maxHeartbeats 4000000 in
theorem Z_X2_weigh_73 {l : Launch} {X : Cx} (hX : Ok X) {p : Program} {e : Env} {s : State} {m : MethodId} {args : Array Value} {below : List Frame} {meth : Method} {c : Code} {st' : St} (hh : Hy X p s m args meth c cX2_weigh 5 RX2) (hr : meth.sig.returnType = none) (v1 : Int32) (v2 : Int32) (st : St) (hf : F_X2_weigh_73 v1 v2 st = some st') : Z X p l e (rmk 3) s m args below meth c 5 (MQ below (Qf X none st') args s 0 0 (cA X)) 73 [(0, .ref (X.2.1 38)), (1, .int v1), (2, .int v2)] [] st := by
  unfold F_X2_weigh_73 at hf
  refine x_iconst hh dX2_weigh_73 1 rfl 74 rfl ?_
  refine x_goto hh dX2_weigh_74 78 rfl ?_
  exact Z_X2_weigh_78 hX hh hr  v1 v2 1 st hf
def F_X2_weigh_77 (v1 : Int32) (v2 : Int32) (st : St) : Option (St) := F_X2_weigh_78 v1 v2 0 st
set_option maxRecDepth 100000 in
set_option maxHeartbeats 4000000 in
theorem Z_X2_weigh_77 {l : Launch} {X : Cx} (hX : Ok X) {p : Program} {e : Env} {s : State} {m : MethodId} {args : Array Value} {below : List Frame} {meth : Method} {c : Code} {st' : St} (hh : Hy X p s m args meth c cX2_weigh 5 RX2) (hr : meth.sig.returnType = none) (v1 : Int32) (v2 : Int32) (st : St) (hf : F_X2_weigh_77 v1 v2 st = some st') : Z X p l e (rmk 3) s m args below meth c 5 (MQ below (Qf X none st') args s 0 0 (cA X)) 77 [(0, .ref (X.2.1 38)), (1, .int v1), (2, .int v2)] [] st := by
  unfold F_X2_weigh_77 at hf
  refine x_iconst hh dX2_weigh_77 0 rfl 78 rfl ?_
  exact Z_X2_weigh_78 hX hh hr  v1 v2 0 st hf
def F_X2_weigh_4 : Nat → Int32 → Int32 → Int32 → St → Option (St)
  | 0, _, _, _, _ => none
  | n + 1, v1, v2, v3, st => if (st.1 1 0) ≤ v3 then if v2 < (st.1 38 5) then F_X2_weigh_73 v1 v2 st else if v2 = (st.1 38 5) then if v1 ≤ (st.1 38 6) then F_X2_weigh_77 v1 v2 st else F_X2_weigh_73 v1 v2 st else F_X2_weigh_77 v1 v2 st else gi v3 3 ((F_X4_sumOf v3 (st.1 39 v3.toNatClampNeg) st).bind (fun q6 => if q6.1 = ((-1)) then some q6.2 else F_X2_weigh_4 n v1 (v2 + q6.1) (v3 + 1) q6.2))
set_option maxRecDepth 100000 in
set_option maxHeartbeats 4000000 in
theorem Z_X2_weigh_4 {l : Launch} {X : Cx} (hX : Ok X) {p : Program} {e : Env} {s : State} {m : MethodId} {args : Array Value} {below : List Frame} {meth : Method} {c : Code} {st' : St} (hh : Hy X p s m args meth c cX2_weigh 5 RX2) (hr : meth.sig.returnType = none) : ∀ (n : Nat) (v1 : Int32) (v2 : Int32) (v3 : Int32) (st : St), F_X2_weigh_4 n v1 v2 v3 st = some st' → Z X p l e (rmk 3) s m args below meth c 5 (MQ below (Qf X none st') args s 0 0 (cA X)) 4 [(0, .ref (X.2.1 38)), (1, .int v1), (2, .int v2), (3, .int v3)] [] st := by
  intro n
  induction n with
  | zero =>
    intro v1 v2 v3 st hf
    cases hf
  | succ n ih =>
    intro v1 v2 v3 st hf
    rw [F_X2_weigh_4] at hf
    refine x_iload_n hh dX2_weigh_4 rfl 3 rfl 5 rfl ?_
    refine x_aload_n hh dX2_weigh_5 rfl 0 rfl 6 rfl ?_
    refine x_getR hh cl_2 dX2_weigh_6 sh_38 0 1 rfl (Nat.le_of_ble_eq_true rfl) wd_258 9 rfl ?_
    refine x_getI hh cl_3 dX2_weigh_9 sh_1 0 rfl (Nat.le_of_ble_eq_true rfl) wd_106 12 rfl ?_
    refine x_icmp_ge hh dX2_weigh_12 49 rfl 15 rfl (fun hc1 => ?_) (fun hc1 => ?_)
    · have hf := t_pos hc1 hf
      refine x_iload_n hh dX2_weigh_49 rfl 2 rfl 50 rfl ?_
      refine x_aload_n hh dX2_weigh_50 rfl 0 rfl 51 rfl ?_
      refine x_getI hh cl_2 dX2_weigh_51 sh_38 5 rfl (Nat.le_of_ble_eq_true rfl) wd_263 54 rfl ?_
      refine x_icmp_lt hh dX2_weigh_54 73 rfl 57 rfl (fun hc2 => ?_) (fun hc2 => ?_)
      · have hf := t_pos hc2 hf
        refine x_sub (lv' := [(0, .ref (X.2.1 38)), (1, .int v1), (2, .int v2)]) [0, 1, 2] rfl ?_
        exact Z_X2_weigh_73 hX hh hr  v1 v2 st hf
      · have hf := t_neg hc2 hf
        refine x_iload_n hh dX2_weigh_57 rfl 2 rfl 58 rfl ?_
        refine x_aload_n hh dX2_weigh_58 rfl 0 rfl 59 rfl ?_
        refine x_getI hh cl_2 dX2_weigh_59 sh_38 5 rfl (Nat.le_of_ble_eq_true rfl) wd_263 62 rfl ?_
        refine x_icmp_ne hh dX2_weigh_62 77 rfl 65 rfl (fun hc3 => ?_) (fun hc3 => ?_)
        · have hf := t_neg hc3 hf
          refine x_sub (lv' := [(0, .ref (X.2.1 38)), (1, .int v1), (2, .int v2)]) [0, 1, 2] rfl ?_
          exact Z_X2_weigh_77 hX hh hr  v1 v2 st hf
        · have hf := t_pos hc3 hf
          refine x_iload_n hh dX2_weigh_65 rfl 1 rfl 66 rfl ?_
          refine x_aload_n hh dX2_weigh_66 rfl 0 rfl 67 rfl ?_
          refine x_getI hh cl_2 dX2_weigh_67 sh_38 6 rfl (Nat.le_of_ble_eq_true rfl) wd_265 70 rfl ?_
          refine x_icmp_le hh dX2_weigh_70 77 rfl 73 rfl (fun hc4 => ?_) (fun hc4 => ?_)
          · have hf := t_pos hc4 hf
            refine x_sub (lv' := [(0, .ref (X.2.1 38)), (1, .int v1), (2, .int v2)]) [0, 1, 2] rfl ?_
            exact Z_X2_weigh_77 hX hh hr  v1 v2 st hf
          · have hf := t_neg hc4 hf
            refine x_sub (lv' := [(0, .ref (X.2.1 38)), (1, .int v1), (2, .int v2)]) [0, 1, 2] rfl ?_
            exact Z_X2_weigh_73 hX hh hr  v1 v2 st hf
    · have hf := t_neg hc1 hf
      refine x_aload_n hh dX2_weigh_15 rfl 0 rfl 16 rfl ?_
      refine x_getR hh cl_2 dX2_weigh_16 sh_38 1 33 rfl (Nat.le_of_ble_eq_true rfl) wd_259 19 rfl ?_
      refine x_iload_n hh dX2_weigh_19 rfl 3 rfl 20 rfl ?_
      refine x_aload_n hh dX2_weigh_20 rfl 0 rfl 21 rfl ?_
      refine x_getR hh cl_2 dX2_weigh_21 sh_38 2 39 rfl (Nat.le_of_ble_eq_true rfl) wd_260 24 rfl ?_
      refine x_iload_n hh dX2_weigh_24 rfl 3 rfl 25 rfl ?_
      obtain ⟨hi5, hf⟩ := gi_some hf
      refine x_iaload hh dX2_weigh_25 sh_39 hi5 26 rfl ?_
      obtain ⟨q6, hq6, hf⟩ := b_some hf
      refine x_callV (rest := []) hh mi_X4_sumOf [.int v3, .int (st.1 39 v3.toNatClampNeg)] dX2_weigh_26 sh_33 wd_681 (C_X4_sumOf l hX  hq6) rfl rfl ⟨Nat.le_of_ble_eq_true rfl, Nat.le_of_ble_eq_true rfl⟩ (Nat.le_of_ble_eq_true rfl) 29 rfl [.int q6.1] rfl ?_
      refine x_istore hh dX2_weigh_29 (by decide) [(4, .int q6.1), (0, .ref (X.2.1 38)), (1, .int v1), (2, .int v2), (3, .int v3)] rfl 31 rfl ?_
      refine x_iload hh dX2_weigh_31 0 rfl 33 rfl ?_
      refine x_iconst hh dX2_weigh_33 (-1) rfl 34 rfl ?_
      refine x_icmp_ne hh dX2_weigh_34 38 rfl 37 rfl (fun hc7 => ?_) (fun hc7 => ?_)
      · have hf := t_neg hc7 hf
        refine x_iload_n hh dX2_weigh_38 rfl 3 rfl 39 rfl ?_
        refine x_iload hh dX2_weigh_39 0 rfl 41 rfl ?_
        refine x_iadd hh dX2_weigh_41 42 rfl ?_
        refine x_istore_n hh dX2_weigh_42 rfl (by decide) [(2, .int (v2 + q6.1)), (4, .int q6.1), (0, .ref (X.2.1 38)), (1, .int v1), (3, .int v3)] rfl 43 rfl ?_
        refine x_iinc hh dX2_weigh_43 4 rfl (v3 + 1) rfl (by decide) [(3, .int (v3 + 1)), (2, .int (v2 + q6.1)), (4, .int q6.1), (0, .ref (X.2.1 38)), (1, .int v1)] rfl 46 rfl ?_
        refine x_goto hh dX2_weigh_46 4 rfl ?_
        refine x_sub (lv' := [(0, .ref (X.2.1 38)), (1, .int v1), (2, .int (v2 + q6.1)), (3, .int (v3 + 1))]) [3, 4, 1, 0] rfl ?_
        exact ih v1 (v2 + q6.1) (v3 + 1) q6.2 hf
      · have hf := t_pos hc7 hf
        obtain rfl := ret1 hf
        exact x_vret hh hr dX2_weigh_37
def F_X2_weigh_0 (v1 : Int32) (st : St) : Option (St) := F_X2_weigh_4 fN v1 0 0 st
set_option maxRecDepth 100000 in
set_option maxHeartbeats 4000000 in
theorem Z_X2_weigh_0 {l : Launch} {X : Cx} (hX : Ok X) {p : Program} {e : Env} {s : State} {m : MethodId} {args : Array Value} {below : List Frame} {meth : Method} {c : Code} {st' : St} (hh : Hy X p s m args meth c cX2_weigh 5 RX2) (hr : meth.sig.returnType = none) (v1 : Int32) (st : St) (hf : F_X2_weigh_0 v1 st = some st') : Z X p l e (rmk 3) s m args below meth c 5 (MQ below (Qf X none st') args s 0 0 (cA X)) 0 [(0, .ref (X.2.1 38)), (1, .int v1)] [] st := by
  unfold F_X2_weigh_0 at hf
  refine x_iconst hh dX2_weigh_0 0 rfl 1 rfl ?_
  refine x_istore_n hh dX2_weigh_1 rfl (by decide) [(2, .int 0), (0, .ref (X.2.1 38)), (1, .int v1)] rfl 2 rfl ?_
  refine x_iconst hh dX2_weigh_2 0 rfl 3 rfl ?_
  refine x_istore_n hh dX2_weigh_3 rfl (by decide) [(3, .int 0), (2, .int 0), (0, .ref (X.2.1 38)), (1, .int v1)] rfl 4 rfl ?_
  refine x_sub (lv' := [(0, .ref (X.2.1 38)), (1, .int v1), (2, .int 0), (3, .int 0)]) [2, 3, 1, 0] rfl ?_
  exact Z_X2_weigh_4 hX hh hr fN v1 0 0 st hf
def F_X2_weigh (v1 : Int32) (st : St) : Option (St) := F_X2_weigh_0  v1 st
set_option maxRecDepth 100000 in
theorem C_X2_weigh (l : Launch) {X : Cx} (hX : Ok X) {v1 : Int32} {st : St} {q : St} (hf : F_X2_weigh v1 st = some q) : Ct l X 3 yX2_weigh (.code yX2_weigh cX2_weigh 5 (none)) [.ref (X.2.1 38), .int v1] st none q := by
  refine Ct.of hX (by decide) (Nat.le_of_ble_eq_true rfl) ?_
  intro p e s m args below meth c hh hr
  exact Z_X2_weigh_0 hX hh hr v1 st hf

def F_X2_dealFrom_117 (self : Int32 → Int32 → Int32 → St → Option (St)) (st : St) : Option (St) := some st
set_option maxRecDepth 100000 in
set_option maxHeartbeats 4000000 in
theorem Z_X2_dealFrom_117 {l : Launch} {X : Cx} (hX : Ok X) {p : Program} {e : Env} {s : State} {m : MethodId} {args : Array Value} {below : List Frame} {meth : Method} {c : Code} {st' : St} (hh : Hy X p s m args meth c cX2_dealFrom 6 RX2) (hr : meth.sig.returnType = none) {dd : Nat} {self : Int32 → Int32 → Int32 → St → Option (St)} (hself : ∀ (v1 : Int32) (v2 : Int32) (v3 : Int32) (st : St) (q : St), self v1 v2 v3 st = some q → Ct l X (4 + dd) yX2_dealFrom (.code yX2_dealFrom cX2_dealFrom 6 (none)) [.ref (X.2.1 38), .int v1, .int v2, .int v3] st none q) (st : St) (hf : F_X2_dealFrom_117 self st = some st') : Z X p l e (rmk (4 + (dd + 1))) s m args below meth c 6 (MQ below (Qf X none st') args s 0 0 (cA X)) 117 [(0, .ref (X.2.1 38))] [] st := by
  unfold F_X2_dealFrom_117 at hf
  obtain rfl := ret1 hf
  exact x_vret hh hr dX2_dealFrom_117
def F_X2_dealFrom_42 (self : Int32 → Int32 → Int32 → St → Option (St)) : Nat → Int32 → Int32 → Int32 → Int32 → St → Option (St)
  | 0, _, _, _, _, _ => none
  | n + 1, v1, v2, v3, v4, st => if (st.1 1 0) ≤ v4 then F_X2_dealFrom_117 self st else gi v4 3 ((F_X3_friendshipWithAll 1 v1 (st.1 39 v4.toNatClampNeg) st).bind (fun q7 => gi v4 3 (gi v4 3 (bs (sV q7.2 39 v4.toNatClampNeg ((q7.2.1 39 v4.toNatClampNeg) ||| (1 <<< (v1 &&& 31)))) (fun st10 => (self (v1 + 1) v2 (v3 + q7.1) st10).bind (fun q11 => gi v4 3 (gi v4 3 (bs (sV q11 39 v4.toNatClampNeg ((q11.1 39 v4.toNatClampNeg) &&& ((1 <<< (v1 &&& 31)) ^^^ ((-1))))) (fun st14 => F_X2_dealFrom_42 self n v1 v2 v3 (v4 + 1) st14)))))))))
set_option maxRecDepth 100000 in
set_option maxHeartbeats 4000000 in
theorem Z_X2_dealFrom_42 {l : Launch} {X : Cx} (hX : Ok X) {p : Program} {e : Env} {s : State} {m : MethodId} {args : Array Value} {below : List Frame} {meth : Method} {c : Code} {st' : St} (hh : Hy X p s m args meth c cX2_dealFrom 6 RX2) (hr : meth.sig.returnType = none) {dd : Nat} {self : Int32 → Int32 → Int32 → St → Option (St)} (hself : ∀ (v1 : Int32) (v2 : Int32) (v3 : Int32) (st : St) (q : St), self v1 v2 v3 st = some q → Ct l X (4 + dd) yX2_dealFrom (.code yX2_dealFrom cX2_dealFrom 6 (none)) [.ref (X.2.1 38), .int v1, .int v2, .int v3] st none q) : ∀ (n : Nat) (v1 : Int32) (v2 : Int32) (v3 : Int32) (v4 : Int32) (st : St), F_X2_dealFrom_42 self n v1 v2 v3 v4 st = some st' → Z X p l e (rmk (4 + (dd + 1))) s m args below meth c 6 (MQ below (Qf X none st') args s 0 0 (cA X)) 42 [(0, .ref (X.2.1 38)), (1, .int v1), (2, .int v2), (3, .int v3), (4, .int v4)] [] st := by
  intro n
  induction n with
  | zero =>
    intro v1 v2 v3 v4 st hf
    cases hf
  | succ n ih =>
    intro v1 v2 v3 v4 st hf
    rw [F_X2_dealFrom_42] at hf
    refine x_iload hh dX2_dealFrom_42 4 rfl 44 rfl ?_
    refine x_aload_n hh dX2_dealFrom_44 rfl 0 rfl 45 rfl ?_
    refine x_getR hh cl_2 dX2_dealFrom_45 sh_38 0 1 rfl (Nat.le_of_ble_eq_true rfl) wd_258 48 rfl ?_
    refine x_getI hh cl_3 dX2_dealFrom_48 sh_1 0 rfl (Nat.le_of_ble_eq_true rfl) wd_106 51 rfl ?_
    refine x_icmp_ge hh dX2_dealFrom_51 117 rfl 54 rfl (fun hc5 => ?_) (fun hc5 => ?_)
    · have hf := t_pos hc5 hf
      refine x_sub (lv' := [(0, .ref (X.2.1 38))]) [0] rfl ?_
      exact Z_X2_dealFrom_117 hX hh hr hself  st hf
    · have hf := t_neg hc5 hf
      refine x_aload_n hh dX2_dealFrom_54 rfl 0 rfl 55 rfl ?_
      refine x_getR hh cl_2 dX2_dealFrom_55 sh_38 0 1 rfl (Nat.le_of_ble_eq_true rfl) wd_258 58 rfl ?_
      refine x_iload_n hh dX2_dealFrom_58 rfl 1 rfl 59 rfl ?_
      refine x_aload_n hh dX2_dealFrom_59 rfl 0 rfl 60 rfl ?_
      refine x_getR hh cl_2 dX2_dealFrom_60 sh_38 2 39 rfl (Nat.le_of_ble_eq_true rfl) wd_260 63 rfl ?_
      refine x_iload hh dX2_dealFrom_63 4 rfl 65 rfl ?_
      obtain ⟨hi6, hf⟩ := gi_some hf
      refine x_iaload hh dX2_dealFrom_65 sh_39 hi6 66 rfl ?_
      obtain ⟨q7, hq7, hf⟩ := b_some hf
      refine x_callV (rest := []) hh mi_X3_friendshipWithAll [.int v1, .int (st.1 39 v4.toNatClampNeg)] dX2_dealFrom_66 sh_1 wd_687 (C_X3_friendshipWithAll l hX ho_1 hq7) rfl rfl (by simp only [rmk]; omega) (Nat.le_of_ble_eq_true rfl) 69 rfl [.int q7.1] rfl ?_
      refine x_istore hh dX2_dealFrom_69 (by decide) [(5, .int q7.1), (0, .ref (X.2.1 38)), (1, .int v1), (2, .int v2), (3, .int v3), (4, .int v4)] rfl 71 rfl ?_
      refine x_aload_n hh dX2_dealFrom_71 rfl 1 rfl 72 rfl ?_
      refine x_getR hh cl_2 dX2_dealFrom_72 sh_38 2 39 rfl (Nat.le_of_ble_eq_true rfl) wd_260 75 rfl ?_
      refine x_iload hh dX2_dealFrom_75 5 rfl 77 rfl ?_
      refine x_dup2 hh dX2_dealFrom_77 rfl rfl 78 rfl ?_
      obtain ⟨hi8, hf⟩ := gi_some hf
      refine x_iaload hh dX2_dealFrom_78 sh_39 hi8 79 rfl ?_
      refine x_iconst hh dX2_dealFrom_79 1 rfl 80 rfl ?_
      refine x_iload_n hh dX2_dealFrom_80 rfl 2 rfl 81 rfl ?_
      refine x_ishl hh dX2_dealFrom_81 82 rfl ?_
      refine x_ior hh dX2_dealFrom_82 83 rfl ?_
      obtain ⟨hi9, hf⟩ := gi_some hf
      obtain ⟨st10, est10, hf⟩ := bs_some hf
      refine x_iastore hh dX2_dealFrom_83 sh_39 hi9 84 rfl st10 est10 ?_
      refine x_aload_n hh dX2_dealFrom_84 rfl 1 rfl 85 rfl ?_
      refine x_iload_n hh dX2_dealFrom_85 rfl 2 rfl 86 rfl ?_
      refine x_iconst hh dX2_dealFrom_86 1 rfl 87 rfl ?_
      refine x_iadd hh dX2_dealFrom_87 88 rfl ?_
      refine x_iload_n hh dX2_dealFrom_88 rfl 3 rfl 89 rfl ?_
      refine x_iload_n hh dX2_dealFrom_89 rfl 4 rfl 90 rfl ?_
      refine x_iload hh dX2_dealFrom_90 0 rfl 92 rfl ?_
      refine x_iadd hh dX2_dealFrom_92 93 rfl ?_
      obtain ⟨q11, hq11, hf⟩ := b_some hf
      refine x_callV (rest := []) hh mi_X2_dealFrom [.int (v1 + 1), .int v2, .int (v3 + q7.1)] dX2_dealFrom_93 sh_38 wd_675 (hself (v1 + 1) v2 (v3 + q7.1) st10 q11 hq11) rfl rfl (by simp only [rmk]; omega) (Nat.le_of_ble_eq_true rfl) 96 rfl [] rfl ?_
      refine x_aload_n hh dX2_dealFrom_96 rfl 1 rfl 97 rfl ?_
      refine x_getR hh cl_2 dX2_dealFrom_97 sh_38 2 39 rfl (Nat.le_of_ble_eq_true rfl) wd_260 100 rfl ?_
      refine x_iload hh dX2_dealFrom_100 5 rfl 102 rfl ?_
      refine x_dup2 hh dX2_dealFrom_102 rfl rfl 103 rfl ?_
      obtain ⟨hi12, hf⟩ := gi_some hf
      refine x_iaload hh dX2_dealFrom_103 sh_39 hi12 104 rfl ?_
      refine x_iconst hh dX2_dealFrom_104 1 rfl 105 rfl ?_
      refine x_iload_n hh dX2_dealFrom_105 rfl 2 rfl 106 rfl ?_
      refine x_ishl hh dX2_dealFrom_106 107 rfl ?_
      refine x_iconst hh dX2_dealFrom_107 (-1) rfl 108 rfl ?_
      refine x_ixor hh dX2_dealFrom_108 109 rfl ?_
      refine x_iand hh dX2_dealFrom_109 110 rfl ?_
      obtain ⟨hi13, hf⟩ := gi_some hf
      obtain ⟨st14, est14, hf⟩ := bs_some hf
      refine x_iastore hh dX2_dealFrom_110 sh_39 hi13 111 rfl st14 est14 ?_
      refine x_iinc hh dX2_dealFrom_111 5 rfl (v4 + 1) rfl (by decide) [(4, .int (v4 + 1)), (5, .int q7.1), (0, .ref (X.2.1 38)), (1, .int v1), (2, .int v2), (3, .int v3)] rfl 114 rfl ?_
      refine x_goto hh dX2_dealFrom_114 42 rfl ?_
      refine x_sub (lv' := [(0, .ref (X.2.1 38)), (1, .int v1), (2, .int v2), (3, .int v3), (4, .int (v4 + 1))]) [2, 3, 4, 5, 0] rfl ?_
      exact ih v1 v2 v3 (v4 + 1) st14 hf
def F_X2_dealFrom_0 (self : Int32 → Int32 → Int32 → St → Option (St)) (v1 : Int32) (v2 : Int32) (v3 : Int32) (st : St) : Option (St) := if v1 < (st.1 1 1) then if ((v2 >>> (v1 &&& 31)) &&& 1) = 0 then (self (v1 + 1) v2 v3 st).bind (fun q3 => F_X2_dealFrom_117 self q3) else F_X2_dealFrom_42 self fN v1 v2 v3 0 st else (F_X2_weigh v3 st).bind (fun q4 => F_X2_dealFrom_117 self q4)
set_option maxRecDepth 100000 in
set_option maxHeartbeats 4000000 in
theorem Z_X2_dealFrom_0 {l : Launch} {X : Cx} (hX : Ok X) {p : Program} {e : Env} {s : State} {m : MethodId} {args : Array Value} {below : List Frame} {meth : Method} {c : Code} {st' : St} (hh : Hy X p s m args meth c cX2_dealFrom 6 RX2) (hr : meth.sig.returnType = none) {dd : Nat} {self : Int32 → Int32 → Int32 → St → Option (St)} (hself : ∀ (v1 : Int32) (v2 : Int32) (v3 : Int32) (st : St) (q : St), self v1 v2 v3 st = some q → Ct l X (4 + dd) yX2_dealFrom (.code yX2_dealFrom cX2_dealFrom 6 (none)) [.ref (X.2.1 38), .int v1, .int v2, .int v3] st none q) (v1 : Int32) (v2 : Int32) (v3 : Int32) (st : St) (hf : F_X2_dealFrom_0 self v1 v2 v3 st = some st') : Z X p l e (rmk (4 + (dd + 1))) s m args below meth c 6 (MQ below (Qf X none st') args s 0 0 (cA X)) 0 [(0, .ref (X.2.1 38)), (1, .int v1), (2, .int v2), (3, .int v3)] [] st := by
  unfold F_X2_dealFrom_0 at hf
  refine x_iload_n hh dX2_dealFrom_0 rfl 1 rfl 1 rfl ?_
  refine x_aload_n hh dX2_dealFrom_1 rfl 0 rfl 2 rfl ?_
  refine x_getR hh cl_2 dX2_dealFrom_2 sh_38 0 1 rfl (Nat.le_of_ble_eq_true rfl) wd_258 5 rfl ?_
  refine x_getI hh cl_3 dX2_dealFrom_5 sh_1 1 rfl (Nat.le_of_ble_eq_true rfl) wd_113 8 rfl ?_
  refine x_icmp_lt hh dX2_dealFrom_8 19 rfl 11 rfl (fun hc1 => ?_) (fun hc1 => ?_)
  · have hf := t_pos hc1 hf
    refine x_iload_n hh dX2_dealFrom_19 rfl 2 rfl 20 rfl ?_
    refine x_iload_n hh dX2_dealFrom_20 rfl 1 rfl 21 rfl ?_
    refine x_ishr hh dX2_dealFrom_21 22 rfl ?_
    refine x_iconst hh dX2_dealFrom_22 1 rfl 23 rfl ?_
    refine x_iand hh dX2_dealFrom_23 24 rfl ?_
    refine x_if_ne hh dX2_dealFrom_24 39 rfl 27 rfl (fun hc2 => ?_) (fun hc2 => ?_)
    · have hf := t_neg hc2 hf
      refine x_iconst hh dX2_dealFrom_39 0 rfl 40 rfl ?_
      refine x_istore hh dX2_dealFrom_40 (by decide) [(4, .int 0), (0, .ref (X.2.1 38)), (1, .int v1), (2, .int v2), (3, .int v3)] rfl 42 rfl ?_
      refine x_sub (lv' := [(0, .ref (X.2.1 38)), (1, .int v1), (2, .int v2), (3, .int v3), (4, .int 0)]) [1, 2, 3, 4, 0] rfl ?_
      exact Z_X2_dealFrom_42 hX hh hr hself fN v1 v2 v3 0 st hf
    · have hf := t_pos hc2 hf
      refine x_aload_n hh dX2_dealFrom_27 rfl 0 rfl 28 rfl ?_
      refine x_iload_n hh dX2_dealFrom_28 rfl 1 rfl 29 rfl ?_
      refine x_iconst hh dX2_dealFrom_29 1 rfl 30 rfl ?_
      refine x_iadd hh dX2_dealFrom_30 31 rfl ?_
      refine x_iload_n hh dX2_dealFrom_31 rfl 2 rfl 32 rfl ?_
      refine x_iload_n hh dX2_dealFrom_32 rfl 3 rfl 33 rfl ?_
      obtain ⟨q3, hq3, hf⟩ := b_some hf
      refine x_callV (rest := []) hh mi_X2_dealFrom [.int (v1 + 1), .int v2, .int v3] dX2_dealFrom_33 sh_38 wd_675 (hself (v1 + 1) v2 v3 st q3 hq3) rfl rfl (by simp only [rmk]; omega) (Nat.le_of_ble_eq_true rfl) 36 rfl [] rfl ?_
      refine x_goto hh dX2_dealFrom_36 117 rfl ?_
      refine x_sub (lv' := [(0, .ref (X.2.1 38))]) [0] rfl ?_
      exact Z_X2_dealFrom_117 hX hh hr hself  q3 hf
  · have hf := t_neg hc1 hf
    refine x_aload_n hh dX2_dealFrom_11 rfl 0 rfl 12 rfl ?_
    refine x_iload_n hh dX2_dealFrom_12 rfl 3 rfl 13 rfl ?_
    obtain ⟨q4, hq4, hf⟩ := b_some hf
    refine x_callV (rest := []) hh mi_X2_weigh [.int v3] dX2_dealFrom_13 sh_38 wd_678 (C_X2_weigh l hX  hq4) rfl rfl (by simp only [rmk]; omega) (Nat.le_of_ble_eq_true rfl) 16 rfl [] rfl ?_
    refine x_goto hh dX2_dealFrom_16 117 rfl ?_
    refine x_sub (lv' := [(0, .ref (X.2.1 38))]) [0] rfl ?_
    exact Z_X2_dealFrom_117 hX hh hr hself  q4 hf
def F_X2_dealFrom : Nat → Int32 → Int32 → Int32 → St → Option (St)
  | 0, _, _, _, _ => none
  | d + 1, v1, v2, v3, st => F_X2_dealFrom_0  (F_X2_dealFrom d) v1 v2 v3 st
set_option maxRecDepth 100000 in
theorem C_X2_dealFrom (l : Launch) {X : Cx} (hX : Ok X) : ∀ (d : Nat) (v1 : Int32) (v2 : Int32) (v3 : Int32) (st : St) (q : St), F_X2_dealFrom d v1 v2 v3 st = some q → Ct l X (4 + d) yX2_dealFrom (.code yX2_dealFrom cX2_dealFrom 6 (none)) [.ref (X.2.1 38), .int v1, .int v2, .int v3] st none q := by
  intro d
  induction d with
  | zero => intro v1 v2 v3 st q hf; cases hf
  | succ d ih =>
    intro v1 v2 v3 st q hf
    refine Ct.of hX (by decide) (Nat.le_of_ble_eq_true rfl) ?_
    intro p e s m args below meth c hh hr
    exact Z_X2_dealFrom_0 hX hh hr ih v1 v2 v3 st hf

def F_X2_findDeal_7 : Nat → Int32 → Int32 → St → Option (Int32 × St)
  | 0, _, _, _ => none
  | n + 1, v1, v2, st => if (3 : Int32) ≤ v2 then (F_X4_findSums v1 st).bind (fun q3 => (F_X2_dealFrom 10 0 v1 0 q3).bind (fun q4 => gb (q4.1 38 4) (some (q4.1 38 4, q4)))) else gi v2 3 (bs (sV st 39 v2.toNatClampNeg 0) (fun st7 => F_X2_findDeal_7 n v1 (v2 + 1) st7))
set_option maxRecDepth 100000 in
set_option maxHeartbeats 4000000 in
theorem Z_X2_findDeal_7 {l : Launch} {X : Cx} (hX : Ok X) {p : Program} {e : Env} {s : State} {m : MethodId} {args : Array Value} {below : List Frame} {meth : Method} {c : Code} {rr : Int32} {st' : St} (hh : Hy X p s m args meth c cX2_findDeal 3 RX2) (hr : meth.sig.returnType = some .boolean) : ∀ (n : Nat) (v1 : Int32) (v2 : Int32) (st : St), F_X2_findDeal_7 n v1 v2 st = some (rr, st') → Z X p l e (rmk 17) s m args below meth c 3 (MQ below (Qf X (some (.int rr)) st') args s 0 0 (cA X)) 7 [(0, .ref (X.2.1 38)), (1, .int v1), (2, .int v2)] [] st := by
  intro n
  induction n with
  | zero =>
    intro v1 v2 st hf
    cases hf
  | succ n ih =>
    intro v1 v2 st hf
    rw [F_X2_findDeal_7] at hf
    refine x_iload_n hh dX2_findDeal_7 rfl 2 rfl 8 rfl ?_
    refine x_iconst hh dX2_findDeal_8 3 rfl 9 rfl ?_
    refine x_icmp_ge hh dX2_findDeal_9 25 rfl 12 rfl (fun hc2 => ?_) (fun hc2 => ?_)
    · have hf := t_pos hc2 hf
      refine x_aload_n hh dX2_findDeal_25 rfl 0 rfl 26 rfl ?_
      refine x_getR hh cl_2 dX2_findDeal_26 sh_38 1 33 rfl (Nat.le_of_ble_eq_true rfl) wd_259 29 rfl ?_
      refine x_iload_n hh dX2_findDeal_29 rfl 1 rfl 30 rfl ?_
      obtain ⟨q3, hq3, hf⟩ := b_some hf
      refine x_callV (rest := []) hh mi_X4_findSums [.int v1] dX2_findDeal_30 sh_33 wd_663 (C_X4_findSums l hX  hq3) rfl rfl ⟨Nat.le_of_ble_eq_true rfl, Nat.le_of_ble_eq_true rfl⟩ (Nat.le_of_ble_eq_true rfl) 33 rfl [] rfl ?_
      refine x_aload_n hh dX2_findDeal_33 rfl 0 rfl 34 rfl ?_
      refine x_iconst hh dX2_findDeal_34 0 rfl 35 rfl ?_
      refine x_iload_n hh dX2_findDeal_35 rfl 1 rfl 36 rfl ?_
      refine x_iconst hh dX2_findDeal_36 0 rfl 37 rfl ?_
      obtain ⟨q4, hq4, hf⟩ := b_some hf
      refine x_callV (rest := []) hh mi_X2_dealFrom [.int 0, .int v1, .int 0] dX2_findDeal_37 sh_38 wd_675 (C_X2_dealFrom l hX 10 0 v1 0 q3 q4 hq4) rfl rfl ⟨Nat.le_of_ble_eq_true rfl, Nat.le_of_ble_eq_true rfl⟩ (Nat.le_of_ble_eq_true rfl) 40 rfl [] rfl ?_
      refine x_aload_n hh dX2_findDeal_40 rfl 0 rfl 41 rfl ?_
      refine x_getI hh cl_2 dX2_findDeal_41 sh_38 4 rfl (Nat.le_of_ble_eq_true rfl) wd_262 44 rfl ?_
      obtain ⟨hb5, hf⟩ := gb_some hf
      obtain ⟨rfl, rfl⟩ := ret2 hf
      exact x_zret hh hr (nb_n hb5) dX2_findDeal_44
    · have hf := t_neg hc2 hf
      refine x_aload_n hh dX2_findDeal_12 rfl 0 rfl 13 rfl ?_
      refine x_getR hh cl_2 dX2_findDeal_13 sh_38 2 39 rfl (Nat.le_of_ble_eq_true rfl) wd_260 16 rfl ?_
      refine x_iload_n hh dX2_findDeal_16 rfl 2 rfl 17 rfl ?_
      refine x_iconst hh dX2_findDeal_17 0 rfl 18 rfl ?_
      obtain ⟨hi6, hf⟩ := gi_some hf
      obtain ⟨st7, est7, hf⟩ := bs_some hf
      refine x_iastore hh dX2_findDeal_18 sh_39 hi6 19 rfl st7 est7 ?_
      refine x_iinc hh dX2_findDeal_19 2 rfl (v2 + 1) rfl (by decide) [(2, .int (v2 + 1)), (0, .ref (X.2.1 38)), (1, .int v1)] rfl 22 rfl ?_
      refine x_goto hh dX2_findDeal_22 7 rfl ?_
      refine x_sub (lv' := [(0, .ref (X.2.1 38)), (1, .int v1), (2, .int (v2 + 1))]) [1, 2, 0] rfl ?_
      exact ih v1 (v2 + 1) st7 hf
def F_X2_findDeal_0 (v1 : Int32) (st : St) : Option (Int32 × St) := bs (sV st 38 4 0) (fun st1 => F_X2_findDeal_7 fN v1 0 st1)
set_option maxRecDepth 100000 in
set_option maxHeartbeats 4000000 in
theorem Z_X2_findDeal_0 {l : Launch} {X : Cx} (hX : Ok X) {p : Program} {e : Env} {s : State} {m : MethodId} {args : Array Value} {below : List Frame} {meth : Method} {c : Code} {rr : Int32} {st' : St} (hh : Hy X p s m args meth c cX2_findDeal 3 RX2) (hr : meth.sig.returnType = some .boolean) (v1 : Int32) (st : St) (hf : F_X2_findDeal_0 v1 st = some (rr, st')) : Z X p l e (rmk 17) s m args below meth c 3 (MQ below (Qf X (some (.int rr)) st') args s 0 0 (cA X)) 0 [(0, .ref (X.2.1 38)), (1, .int v1)] [] st := by
  unfold F_X2_findDeal_0 at hf
  refine x_aload_n hh dX2_findDeal_0 rfl 0 rfl 1 rfl ?_
  refine x_iconst hh dX2_findDeal_1 0 rfl 2 rfl ?_
  obtain ⟨st1, est1, hf⟩ := bs_some hf
  refine x_putI hh cl_2 dX2_findDeal_2 sh_38 4 rfl (Nat.le_of_ble_eq_true rfl) wd_262 rfl rfl rfl 5 rfl st1 est1 ?_
  refine x_iconst hh dX2_findDeal_5 0 rfl 6 rfl ?_
  refine x_istore_n hh dX2_findDeal_6 rfl (by decide) [(2, .int 0), (0, .ref (X.2.1 38)), (1, .int v1)] rfl 7 rfl ?_
  refine x_sub (lv' := [(0, .ref (X.2.1 38)), (1, .int v1), (2, .int 0)]) [1, 2, 0] rfl ?_
  exact Z_X2_findDeal_7 hX hh hr fN v1 0 st1 hf
def F_X2_findDeal (v1 : Int32) (st : St) : Option (Int32 × St) := F_X2_findDeal_0  v1 st
set_option maxRecDepth 100000 in
theorem C_X2_findDeal (l : Launch) {X : Cx} (hX : Ok X) {v1 : Int32} {st : St} {q : Int32 × St} (hf : F_X2_findDeal v1 st = some q) : Ct l X 17 yX2_findDeal (.code yX2_findDeal cX2_findDeal 3 (some .boolean)) [.ref (X.2.1 38), .int v1] st (some (.int q.1)) q.2 := by
  refine Ct.of hX (by decide) (Nat.le_of_ble_eq_true rfl) ?_
  intro p e s m args below meth c hh hr
  exact Z_X2_findDeal_0 hX hh hr v1 st hf

def F_X2_roomFor_2 : Nat → Int32 → Int32 → St → Option (Int32 × St)
  | 0, _, _, _ => none
  | n + 1, v1, v2, st => if (st.1 1 0) ≤ v2 then some ((-1), st) else gi v2 3 (if (((st.1 40 v2.toNatClampNeg) >>> (v1 &&& 31)) &&& 1) = 0 then F_X2_roomFor_2 n v1 (v2 + 1) st else some (v2, st))
set_option maxRecDepth 100000 in
set_option maxHeartbeats 4000000 in
theorem Z_X2_roomFor_2 {l : Launch} {X : Cx} (hX : Ok X) {p : Program} {e : Env} {s : State} {m : MethodId} {args : Array Value} {below : List Frame} {meth : Method} {c : Code} {rr : Int32} {st' : St} (hh : Hy X p s m args meth c cX2_roomFor 3 RX2) (hr : meth.sig.returnType = some .int) : ∀ (n : Nat) (v1 : Int32) (v2 : Int32) (st : St), F_X2_roomFor_2 n v1 v2 st = some (rr, st') → Z X p l e (rmk 0) s m args below meth c 3 (MQ below (Qf X (some (.int rr)) st') args s 0 0 (cA X)) 2 [(0, .ref (X.2.1 38)), (1, .int v1), (2, .int v2)] [] st := by
  intro n
  induction n with
  | zero =>
    intro v1 v2 st hf
    cases hf
  | succ n ih =>
    intro v1 v2 st hf
    rw [F_X2_roomFor_2] at hf
    refine x_iload_n hh dX2_roomFor_2 rfl 2 rfl 3 rfl ?_
    refine x_aload_n hh dX2_roomFor_3 rfl 0 rfl 4 rfl ?_
    refine x_getR hh cl_2 dX2_roomFor_4 sh_38 0 1 rfl (Nat.le_of_ble_eq_true rfl) wd_258 7 rfl ?_
    refine x_getI hh cl_3 dX2_roomFor_7 sh_1 0 rfl (Nat.le_of_ble_eq_true rfl) wd_106 10 rfl ?_
    refine x_icmp_ge hh dX2_roomFor_10 34 rfl 13 rfl (fun hc1 => ?_) (fun hc1 => ?_)
    · have hf := t_pos hc1 hf
      refine x_iconst hh dX2_roomFor_34 (-1) rfl 35 rfl ?_
      obtain ⟨rfl, rfl⟩ := ret2 hf
      exact x_iret hh hr dX2_roomFor_35
    · have hf := t_neg hc1 hf
      refine x_aload_n hh dX2_roomFor_13 rfl 0 rfl 14 rfl ?_
      refine x_getR hh cl_2 dX2_roomFor_14 sh_38 3 40 rfl (Nat.le_of_ble_eq_true rfl) wd_261 17 rfl ?_
      refine x_iload_n hh dX2_roomFor_17 rfl 2 rfl 18 rfl ?_
      obtain ⟨hi2, hf⟩ := gi_some hf
      refine x_iaload hh dX2_roomFor_18 sh_40 hi2 19 rfl ?_
      refine x_iload_n hh dX2_roomFor_19 rfl 1 rfl 20 rfl ?_
      refine x_ishr hh dX2_roomFor_20 21 rfl ?_
      refine x_iconst hh dX2_roomFor_21 1 rfl 22 rfl ?_
      refine x_iand hh dX2_roomFor_22 23 rfl ?_
      refine x_if_eq hh dX2_roomFor_23 28 rfl 26 rfl (fun hc3 => ?_) (fun hc3 => ?_)
      · have hf := t_pos hc3 hf
        refine x_iinc hh dX2_roomFor_28 2 rfl (v2 + 1) rfl (by decide) [(2, .int (v2 + 1)), (0, .ref (X.2.1 38)), (1, .int v1)] rfl 31 rfl ?_
        refine x_goto hh dX2_roomFor_31 2 rfl ?_
        refine x_sub (lv' := [(0, .ref (X.2.1 38)), (1, .int v1), (2, .int (v2 + 1))]) [1, 2, 0] rfl ?_
        exact ih v1 (v2 + 1) st hf
      · have hf := t_neg hc3 hf
        refine x_iload_n hh dX2_roomFor_26 rfl 2 rfl 27 rfl ?_
        obtain ⟨rfl, rfl⟩ := ret2 hf
        exact x_iret hh hr dX2_roomFor_27
def F_X2_roomFor_0 (v1 : Int32) (st : St) : Option (Int32 × St) := F_X2_roomFor_2 fN v1 0 st
set_option maxRecDepth 100000 in
set_option maxHeartbeats 4000000 in
theorem Z_X2_roomFor_0 {l : Launch} {X : Cx} (hX : Ok X) {p : Program} {e : Env} {s : State} {m : MethodId} {args : Array Value} {below : List Frame} {meth : Method} {c : Code} {rr : Int32} {st' : St} (hh : Hy X p s m args meth c cX2_roomFor 3 RX2) (hr : meth.sig.returnType = some .int) (v1 : Int32) (st : St) (hf : F_X2_roomFor_0 v1 st = some (rr, st')) : Z X p l e (rmk 0) s m args below meth c 3 (MQ below (Qf X (some (.int rr)) st') args s 0 0 (cA X)) 0 [(0, .ref (X.2.1 38)), (1, .int v1)] [] st := by
  unfold F_X2_roomFor_0 at hf
  refine x_iconst hh dX2_roomFor_0 0 rfl 1 rfl ?_
  refine x_istore_n hh dX2_roomFor_1 rfl (by decide) [(2, .int 0), (0, .ref (X.2.1 38)), (1, .int v1)] rfl 2 rfl ?_
  refine x_sub (lv' := [(0, .ref (X.2.1 38)), (1, .int v1), (2, .int 0)]) [1, 2, 0] rfl ?_
  exact Z_X2_roomFor_2 hX hh hr fN v1 0 st hf
def F_X2_roomFor (v1 : Int32) (st : St) : Option (Int32 × St) := F_X2_roomFor_0  v1 st
set_option maxRecDepth 100000 in
theorem C_X2_roomFor (l : Launch) {X : Cx} (hX : Ok X) {v1 : Int32} {st : St} {q : Int32 × St} (hf : F_X2_roomFor v1 st = some q) : Ct l X 0 yX2_roomFor (.code yX2_roomFor cX2_roomFor 3 (some .int)) [.ref (X.2.1 38), .int v1] st (some (.int q.1)) q.2 := by
  refine Ct.of hX (by decide) (Nat.le_of_ble_eq_true rfl) ?_
  intro p e s m args below meth c hh hr
  exact Z_X2_roomFor_0 hX hh hr v1 st hf

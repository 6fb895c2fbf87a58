def F_X1_headOf_0 (sc : Nat) (v1 : Int32) (st : St) : Option (Int32 × St) := gi v1 6 (gi v1 6 ((F_X3_floorAt 1 (st.1 (sc + 1) v1.toNatClampNeg) (st.1 (sc + 2) v1.toNatClampNeg) st).bind (fun q3 => gi v1 6 (gi v1 6 (some ((q3.1 + (q3.2.1 (sc + 5) v1.toNatClampNeg)) - (q3.2.1 (sc + 3) v1.toNatClampNeg), q3.2))))))
set_option maxRecDepth 100000 in
set_option maxHeartbeats 4000000 in
theorem Z_X1_headOf_0 {l : Launch} {X : Cx} (hX : Ok X) {sc : Nat} (hev : Ev sc) {p : Program} {e : Env} {s : State} {m : MethodId} {args : Array Value} {below : List Frame} {meth : Method} {c : Code} {rr : Int32} {st' : St} (hh : Hy X p s m args meth c cX1_headOf 3 RX1) (hr : meth.sig.returnType = some .int) (v1 : Int32) (st : St) (hf : F_X1_headOf_0 sc v1 st = some (rr, st')) : Z X p l e (rmk 1) s m args below meth c 3 (MQ below (Qf X (some (.int rr)) st') args s 0 0 (cA X)) 0 [(0, .ref (X.2.1 (sc + 6))), (1, .int v1)] [] st := by
  unfold F_X1_headOf_0 at hf
  refine x_aload_n hh dX1_headOf_0 rfl 0 rfl 1 rfl ?_
  refine x_getR hh cl_1 dX1_headOf_1 hev.1 0 1 rfl (Nat.le_of_ble_eq_true rfl) wd_193 4 rfl ?_
  refine x_aload_n hh dX1_headOf_4 rfl 0 rfl 5 rfl ?_
  refine x_getR hh cl_1 dX1_headOf_5 hev.1 1 sc rfl (Nat.le_of_ble_eq_true rfl) wd_194 8 rfl ?_
  refine x_getR hh cl_6 dX1_headOf_8 hev.2.1 0 (sc + 1) rfl (Nat.le_of_ble_eq_true rfl) wd_158 11 rfl ?_
  refine x_iload_n hh dX1_headOf_11 rfl 1 rfl 12 rfl ?_
  obtain ⟨hi1, hf⟩ := gi_some hf
  refine x_iaload hh dX1_headOf_12 hev.2.2.1 hi1 13 rfl ?_
  refine x_aload_n hh dX1_headOf_13 rfl 0 rfl 14 rfl ?_
  refine x_getR hh cl_1 dX1_headOf_14 hev.1 1 sc rfl (Nat.le_of_ble_eq_true rfl) wd_194 17 rfl ?_
  refine x_getR hh cl_6 dX1_headOf_17 hev.2.1 1 (sc + 2) rfl (Nat.le_of_ble_eq_true rfl) wd_161 20 rfl ?_
  refine x_iload_n hh dX1_headOf_20 rfl 1 rfl 21 rfl ?_
  obtain ⟨hi2, hf⟩ := gi_some hf
  refine x_iaload hh dX1_headOf_21 hev.2.2.2.1 hi2 22 rfl ?_
  obtain ⟨q3, hq3, hf⟩ := b_some hf
  refine x_callV (rest := []) hh mi_X3_floorAt [.int (st.1 (sc + 1) v1.toNatClampNeg), .int (st.1 (sc + 2) v1.toNatClampNeg)] dX1_headOf_22 sh_1 wd_501 (C_X3_floorAt l hX ho_1 hq3) rfl rfl ⟨Nat.le_of_ble_eq_true rfl, Nat.le_of_ble_eq_true rfl⟩ (Nat.le_of_ble_eq_true rfl) 25 rfl [.int q3.1] rfl ?_
  refine x_istore_n hh dX1_headOf_25 rfl (by decide) [(2, .int q3.1), (0, .ref (X.2.1 (sc + 6))), (1, .int v1)] rfl 26 rfl ?_
  refine x_iload_n hh dX1_headOf_26 rfl 0 rfl 27 rfl ?_
  refine x_aload_n hh dX1_headOf_27 rfl 1 rfl 28 rfl ?_
  refine x_getR hh cl_1 dX1_headOf_28 hev.1 1 sc rfl (Nat.le_of_ble_eq_true rfl) wd_194 31 rfl ?_
  refine x_getR hh cl_6 dX1_headOf_31 hev.2.1 4 (sc + 5) rfl (Nat.le_of_ble_eq_true rfl) wd_171 34 rfl ?_
  refine x_iload_n hh dX1_headOf_34 rfl 2 rfl 35 rfl ?_
  obtain ⟨hi4, hf⟩ := gi_some hf
  refine x_iaload hh dX1_headOf_35 hev.2.2.2.2.2.2 hi4 36 rfl ?_
  refine x_iadd hh dX1_headOf_36 37 rfl ?_
  refine x_aload_n hh dX1_headOf_37 rfl 1 rfl 38 rfl ?_
  refine x_getR hh cl_1 dX1_headOf_38 hev.1 1 sc rfl (Nat.le_of_ble_eq_true rfl) wd_194 41 rfl ?_
  refine x_getR hh cl_6 dX1_headOf_41 hev.2.1 2 (sc + 3) rfl (Nat.le_of_ble_eq_true rfl) wd_164 44 rfl ?_
  refine x_iload_n hh dX1_headOf_44 rfl 2 rfl 45 rfl ?_
  obtain ⟨hi5, hf⟩ := gi_some hf
  refine x_iaload hh dX1_headOf_45 hev.2.2.2.2.1 hi5 46 rfl ?_
  refine x_isub hh dX1_headOf_46 47 rfl ?_
  obtain ⟨rfl, rfl⟩ := ret2 hf
  exact x_iret hh hr dX1_headOf_47
def F_X1_headOf (sc : Nat) (v1 : Int32) (st : St) : Option (Int32 × St) := F_X1_headOf_0 sc v1 st
set_option maxRecDepth 100000 in
theorem C_X1_headOf (l : Launch) {X : Cx} (hX : Ok X) {sc : Nat} (hev : Ev sc) {v1 : Int32} {st : St} {q : Int32 × St} (hf : F_X1_headOf sc v1 st = some q) : Ct l X 1 yX1_headOf (.code yX1_headOf cX1_headOf 3 (some .int)) [.ref (X.2.1 (sc + 6)), .int v1] st (some (.int q.1)) q.2 := by
  refine Ct.of hX (by decide) (Nat.le_of_ble_eq_true rfl) ?_
  intro p e s m args below meth c hh hr
  exact Z_X1_headOf_0 hX hev hh hr v1 st hf

def F_X1_excessOf_65 (sc : Nat) (t0 : Int32) (st : St) : Option (Int32 × St) := some (t0, st)
set_option maxRecDepth 100000 in
set_option maxHeartbeats 4000000 in
theorem Z_X1_excessOf_65 {l : Launch} {X : Cx} (hX : Ok X) {sc : Nat} (hev : Ev sc) {p : Program} {e : Env} {s : State} {m : MethodId} {args : Array Value} {below : List Frame} {meth : Method} {c : Code} {rr : Int32} {st' : St} (hh : Hy X p s m args meth c cX1_excessOf 6 RX1) (hr : meth.sig.returnType = some .int) (t0 : Int32) (st : St) (hf : F_X1_excessOf_65 sc t0 st = some (rr, st')) : Z X p l e (rmk 2) s m args below meth c 6 (MQ below (Qf X (some (.int rr)) st') args s 0 0 (cA X)) 65 [(0, .ref (X.2.1 (sc + 6)))] [.int t0] st := by
  unfold F_X1_excessOf_65 at hf
  obtain ⟨rfl, rfl⟩ := ret2 hf
  exact x_iret hh hr dX1_excessOf_65
def F_X1_excessOf_112 (sc : Nat) (k72 : Int32 → Int32 → Int32 → Int32 → St → Option (Int32 × St)) (v1 : Int32) (v3 : Int32) (v4 : Int32) (v5 : Int32) (st : St) : Option (Int32 × St) := k72 v1 v3 v4 (v5 + 1) st
set_option maxRecDepth 100000 in
set_option maxHeartbeats 4000000 in
theorem Z_X1_excessOf_112 {l : Launch} {X : Cx} (hX : Ok X) {sc : Nat} (hev : Ev sc) {p : Program} {e : Env} {s : State} {m : MethodId} {args : Array Value} {below : List Frame} {meth : Method} {c : Code} {rr : Int32} {st' : St} (hh : Hy X p s m args meth c cX1_excessOf 6 RX1) (hr : meth.sig.returnType = some .int) {k72 : Int32 → Int32 → Int32 → Int32 → St → Option (Int32 × St)} (hk72 : ∀ (v1 : Int32) (v3 : Int32) (v4 : Int32) (v5 : Int32) (st : St), k72 v1 v3 v4 v5 st = some (rr, st') → Z X p l e (rmk 2) s m args below meth c 6 (MQ below (Qf X (some (.int rr)) st') args s 0 0 (cA X)) 72 [(0, .ref (X.2.1 (sc + 6))), (1, .int v1), (3, .int v3), (4, .int v4), (5, .int v5)] [] st) (v1 : Int32) (v3 : Int32) (v4 : Int32) (v5 : Int32) (st : St) (hf : F_X1_excessOf_112 sc k72 v1 v3 v4 v5 st = some (rr, st')) : Z X p l e (rmk 2) s m args below meth c 6 (MQ below (Qf X (some (.int rr)) st') args s 0 0 (cA X)) 112 [(0, .ref (X.2.1 (sc + 6))), (1, .int v1), (3, .int v3), (4, .int v4), (5, .int v5)] [] st := by
  unfold F_X1_excessOf_112 at hf
  refine x_iinc hh dX1_excessOf_112 4 rfl (v5 + 1) rfl (by decide) [(5, .int (v5 + 1)), (0, .ref (X.2.1 (sc + 6))), (1, .int v1), (3, .int v3), (4, .int v4)] rfl 115 rfl ?_
  refine x_goto hh dX1_excessOf_115 72 rfl ?_
  refine x_sub (lv' := [(0, .ref (X.2.1 (sc + 6))), (1, .int v1), (3, .int v3), (4, .int v4), (5, .int (v5 + 1))]) [1, 2, 3, 4, 0] rfl ?_
  exact hk72 v1 v3 v4 (v5 + 1) st hf
def F_X1_excessOf_72 (sc : Nat) : Nat → Int32 → Int32 → Int32 → Int32 → St → Option (Int32 × St)
  | 0, _, _, _, _, _ => none
  | n + 1, v1, v3, v4, v5, st => if (st.1 1 1) ≤ v5 then some (v4, st) else if ((v3 >>> (v5 &&& 31)) &&& 1) = 0 then F_X1_excessOf_112 sc (F_X1_excessOf_72 sc n) v1 v3 v4 v5 st else (F_X1_headOf sc v1 st).bind (fun q10 => (F_X1_headOf sc v5 q10.2).bind (fun q11 => F_X1_excessOf_112 sc (F_X1_excessOf_72 sc n) v1 v3 (imx v4 (q10.1 - q11.1)) v5 q11.2))
set_option maxRecDepth 100000 in
set_option maxHeartbeats 4000000 in
theorem Z_X1_excessOf_72 {l : Launch} {X : Cx} (hX : Ok X) {sc : Nat} (hev : Ev sc) {p : Program} {e : Env} {s : State} {m : MethodId} {args : Array Value} {below : List Frame} {meth : Method} {c : Code} {rr : Int32} {st' : St} (hh : Hy X p s m args meth c cX1_excessOf 6 RX1) (hr : meth.sig.returnType = some .int) : ∀ (n : Nat) (v1 : Int32) (v3 : Int32) (v4 : Int32) (v5 : Int32) (st : St), F_X1_excessOf_72 sc n v1 v3 v4 v5 st = some (rr, st') → Z X p l e (rmk 2) s m args below meth c 6 (MQ below (Qf X (some (.int rr)) st') args s 0 0 (cA X)) 72 [(0, .ref (X.2.1 (sc + 6))), (1, .int v1), (3, .int v3), (4, .int v4), (5, .int v5)] [] st := by
  intro n
  induction n with
  | zero =>
    intro v1 v3 v4 v5 st hf
    cases hf
  | succ n ih =>
    intro v1 v3 v4 v5 st hf
    rw [F_X1_excessOf_72] at hf
    refine x_iload hh dX1_excessOf_72 4 rfl 74 rfl ?_
    refine x_aload_n hh dX1_excessOf_74 rfl 0 rfl 75 rfl ?_
    refine x_getR hh cl_1 dX1_excessOf_75 hev.1 0 1 rfl (Nat.le_of_ble_eq_true rfl) wd_193 78 rfl ?_
    refine x_getI hh cl_3 dX1_excessOf_78 sh_1 1 rfl (Nat.le_of_ble_eq_true rfl) wd_115 81 rfl ?_
    refine x_icmp_ge hh dX1_excessOf_81 118 rfl 84 rfl (fun hc8 => ?_) (fun hc8 => ?_)
    · have hf := t_pos hc8 hf
      refine x_iload hh dX1_excessOf_118 3 rfl 120 rfl ?_
      obtain ⟨rfl, rfl⟩ := ret2 hf
      exact x_iret hh hr dX1_excessOf_120
    · have hf := t_neg hc8 hf
      refine x_iload_n hh dX1_excessOf_84 rfl 2 rfl 85 rfl ?_
      refine x_iload hh dX1_excessOf_85 4 rfl 87 rfl ?_
      refine x_ishr hh dX1_excessOf_87 88 rfl ?_
      refine x_iconst hh dX1_excessOf_88 1 rfl 89 rfl ?_
      refine x_iand hh dX1_excessOf_89 90 rfl ?_
      refine x_if_eq hh dX1_excessOf_90 112 rfl 93 rfl (fun hc9 => ?_) (fun hc9 => ?_)
      · have hf := t_pos hc9 hf
        exact Z_X1_excessOf_112 hX hev hh hr ih  v1 v3 v4 v5 st hf
      · have hf := t_neg hc9 hf
        refine x_iload hh dX1_excessOf_93 3 rfl 95 rfl ?_
        refine x_aload_n hh dX1_excessOf_95 rfl 0 rfl 96 rfl ?_
        refine x_iload_n hh dX1_excessOf_96 rfl 1 rfl 97 rfl ?_
        obtain ⟨q10, hq10, hf⟩ := b_some hf
        refine x_callV (rest := [.int v4]) hh mi_X1_headOf [.int v1] dX1_excessOf_97 hev.1 wd_555 (C_X1_headOf l hX hev hq10) rfl rfl ⟨Nat.le_of_ble_eq_true rfl, Nat.le_of_ble_eq_true rfl⟩ (Nat.le_of_ble_eq_true rfl) 100 rfl [.int q10.1, .int v4] rfl ?_
        refine x_aload_n hh dX1_excessOf_100 rfl 0 rfl 101 rfl ?_
        refine x_iload hh dX1_excessOf_101 4 rfl 103 rfl ?_
        obtain ⟨q11, hq11, hf⟩ := b_some hf
        refine x_callV (rest := [.int q10.1, .int v4]) hh mi_X1_headOf [.int v5] dX1_excessOf_103 hev.1 wd_555 (C_X1_headOf l hX hev hq11) rfl rfl ⟨Nat.le_of_ble_eq_true rfl, Nat.le_of_ble_eq_true rfl⟩ (Nat.le_of_ble_eq_true rfl) 106 rfl [.int q11.1, .int q10.1, .int v4] rfl ?_
        refine x_isub hh dX1_excessOf_106 107 rfl ?_
        refine x_mmax hh dX1_excessOf_107 wd_556 wd_557 wd_89 wd_558 ⟨Nat.le_of_ble_eq_true rfl, Nat.le_of_ble_eq_true rfl⟩ 110 rfl ?_
        refine x_istore hh dX1_excessOf_110 (by decide) [(4, .int (imx v4 (q10.1 - q11.1))), (0, .ref (X.2.1 (sc + 6))), (1, .int v1), (3, .int v3), (5, .int v5)] rfl 112 rfl ?_
        refine x_sub (lv' := [(0, .ref (X.2.1 (sc + 6))), (1, .int v1), (3, .int v3), (4, .int (imx v4 (q10.1 - q11.1))), (5, .int v5)]) [1, 2, 3, 0, 4] rfl ?_
        exact Z_X1_excessOf_112 hX hev hh hr ih  v1 v3 (imx v4 (q10.1 - q11.1)) v5 q11.2 hf
def F_X1_excessOf_0 (sc : Nat) (v1 : Int32) (v2 : Int32) (st : St) : Option (Int32 × St) := gi v1 6 ((F_X6_whoIsOlderIn sc v2 (st.1 (sc + 4) v1.toNatClampNeg) st).bind (fun q2 => if (q2.2.1 sc 5) = 1 then F_X1_excessOf_72 sc fN v1 q2.1 0 0 q2.2 else (F_X6_eldestOf sc q2.1 q2.2).bind (fun q4 => if q4.1 = ((-1)) then F_X1_excessOf_65 sc 0 q4.2 else (F_X1_headOf sc v1 q4.2).bind (fun q6 => (F_X1_headOf sc q4.1 q6.2).bind (fun q7 => F_X1_excessOf_65 sc (imx 0 (q6.1 - q7.1)) q7.2)))))
set_option maxRecDepth 100000 in
set_option maxHeartbeats 4000000 in
theorem Z_X1_excessOf_0 {l : Launch} {X : Cx} (hX : Ok X) {sc : Nat} (hev : Ev sc) {p : Program} {e : Env} {s : State} {m : MethodId} {args : Array Value} {below : List Frame} {meth : Method} {c : Code} {rr : Int32} {st' : St} (hh : Hy X p s m args meth c cX1_excessOf 6 RX1) (hr : meth.sig.returnType = some .int) (v1 : Int32) (v2 : Int32) (st : St) (hf : F_X1_excessOf_0 sc v1 v2 st = some (rr, st')) : Z X p l e (rmk 2) s m args below meth c 6 (MQ below (Qf X (some (.int rr)) st') args s 0 0 (cA X)) 0 [(0, .ref (X.2.1 (sc + 6))), (1, .int v1), (2, .int v2)] [] st := by
  unfold F_X1_excessOf_0 at hf
  refine x_aload_n hh dX1_excessOf_0 rfl 0 rfl 1 rfl ?_
  refine x_getR hh cl_1 dX1_excessOf_1 hev.1 1 sc rfl (Nat.le_of_ble_eq_true rfl) wd_194 4 rfl ?_
  refine x_iload_n hh dX1_excessOf_4 rfl 2 rfl 5 rfl ?_
  refine x_aload_n hh dX1_excessOf_5 rfl 0 rfl 6 rfl ?_
  refine x_getR hh cl_1 dX1_excessOf_6 hev.1 1 sc rfl (Nat.le_of_ble_eq_true rfl) wd_194 9 rfl ?_
  refine x_getR hh cl_6 dX1_excessOf_9 hev.2.1 3 (sc + 4) rfl (Nat.le_of_ble_eq_true rfl) wd_167 12 rfl ?_
  refine x_iload_n hh dX1_excessOf_12 rfl 1 rfl 13 rfl ?_
  obtain ⟨hi1, hf⟩ := gi_some hf
  refine x_iaload hh dX1_excessOf_13 hev.2.2.2.2.2.1 hi1 14 rfl ?_
  obtain ⟨q2, hq2, hf⟩ := b_some hf
  refine x_callV (rest := []) hh mi_X6_whoIsOlderIn [.int v2, .int (st.1 (sc + 4) v1.toNatClampNeg)] dX1_excessOf_14 hev.2.1 wd_547 (C_X6_whoIsOlderIn l hX hev.2 hq2) rfl rfl ⟨Nat.le_of_ble_eq_true rfl, Nat.le_of_ble_eq_true rfl⟩ (Nat.le_of_ble_eq_true rfl) 17 rfl [.int q2.1] rfl ?_
  refine x_istore_n hh dX1_excessOf_17 rfl (by decide) [(3, .int q2.1), (0, .ref (X.2.1 (sc + 6))), (1, .int v1), (2, .int v2)] rfl 18 rfl ?_
  refine x_aload_n hh dX1_excessOf_18 rfl 1 rfl 19 rfl ?_
  refine x_getR hh cl_1 dX1_excessOf_19 hev.1 1 sc rfl (Nat.le_of_ble_eq_true rfl) wd_194 22 rfl ?_
  refine x_getI hh cl_6 dX1_excessOf_22 hev.2.1 5 rfl (Nat.le_of_ble_eq_true rfl) wd_174 25 rfl ?_
  refine x_iconst hh dX1_excessOf_25 1 rfl 26 rfl ?_
  refine x_icmp_eq hh dX1_excessOf_26 66 rfl 29 rfl (fun hc3 => ?_) (fun hc3 => ?_)
  · have hf := t_pos hc3 hf
    refine x_iconst hh dX1_excessOf_66 0 rfl 67 rfl ?_
    refine x_istore hh dX1_excessOf_67 (by decide) [(4, .int 0), (3, .int q2.1), (0, .ref (X.2.1 (sc + 6))), (1, .int v1), (2, .int v2)] rfl 69 rfl ?_
    refine x_iconst hh dX1_excessOf_69 0 rfl 70 rfl ?_
    refine x_istore hh dX1_excessOf_70 (by decide) [(5, .int 0), (4, .int 0), (3, .int q2.1), (0, .ref (X.2.1 (sc + 6))), (1, .int v1), (2, .int v2)] rfl 72 rfl ?_
    refine x_sub (lv' := [(0, .ref (X.2.1 (sc + 6))), (1, .int v1), (3, .int q2.1), (4, .int 0), (5, .int 0)]) [3, 4, 2, 1, 0] rfl ?_
    exact Z_X1_excessOf_72 hX hev hh hr fN v1 q2.1 0 0 q2.2 hf
  · have hf := t_neg hc3 hf
    refine x_aload_n hh dX1_excessOf_29 rfl 1 rfl 30 rfl ?_
    refine x_getR hh cl_1 dX1_excessOf_30 hev.1 1 sc rfl (Nat.le_of_ble_eq_true rfl) wd_194 33 rfl ?_
    refine x_iload_n hh dX1_excessOf_33 rfl 0 rfl 34 rfl ?_
    obtain ⟨q4, hq4, hf⟩ := b_some hf
    refine x_callV (rest := []) hh mi_X6_eldestOf [.int q2.1] dX1_excessOf_34 hev.2.1 wd_551 (C_X6_eldestOf l hX hev.2 hq4) rfl rfl ⟨Nat.le_of_ble_eq_true rfl, Nat.le_of_ble_eq_true rfl⟩ (Nat.le_of_ble_eq_true rfl) 37 rfl [.int q4.1] rfl ?_
    refine x_istore hh dX1_excessOf_37 (by decide) [(4, .int q4.1), (3, .int q2.1), (0, .ref (X.2.1 (sc + 6))), (1, .int v1), (2, .int v2)] rfl 39 rfl ?_
    refine x_iload hh dX1_excessOf_39 0 rfl 41 rfl ?_
    refine x_iconst hh dX1_excessOf_41 (-1) rfl 42 rfl ?_
    refine x_icmp_ne hh dX1_excessOf_42 49 rfl 45 rfl (fun hc5 => ?_) (fun hc5 => ?_)
    · have hf := t_neg hc5 hf
      refine x_iconst hh dX1_excessOf_49 0 rfl 50 rfl ?_
      refine x_aload_n hh dX1_excessOf_50 rfl 2 rfl 51 rfl ?_
      refine x_iload_n hh dX1_excessOf_51 rfl 3 rfl 52 rfl ?_
      obtain ⟨q6, hq6, hf⟩ := b_some hf
      refine x_callV (rest := [.int 0]) hh mi_X1_headOf [.int v1] dX1_excessOf_52 hev.1 wd_555 (C_X1_headOf l hX hev hq6) rfl rfl ⟨Nat.le_of_ble_eq_true rfl, Nat.le_of_ble_eq_true rfl⟩ (Nat.le_of_ble_eq_true rfl) 55 rfl [.int q6.1, .int 0] rfl ?_
      refine x_aload_n hh dX1_excessOf_55 rfl 2 rfl 56 rfl ?_
      refine x_iload hh dX1_excessOf_56 0 rfl 58 rfl ?_
      obtain ⟨q7, hq7, hf⟩ := b_some hf
      refine x_callV (rest := [.int q6.1, .int 0]) hh mi_X1_headOf [.int q4.1] dX1_excessOf_58 hev.1 wd_555 (C_X1_headOf l hX hev hq7) rfl rfl ⟨Nat.le_of_ble_eq_true rfl, Nat.le_of_ble_eq_true rfl⟩ (Nat.le_of_ble_eq_true rfl) 61 rfl [.int q7.1, .int q6.1, .int 0] rfl ?_
      refine x_isub hh dX1_excessOf_61 62 rfl ?_
      refine x_mmax hh dX1_excessOf_62 wd_556 wd_557 wd_89 wd_558 ⟨Nat.le_of_ble_eq_true rfl, Nat.le_of_ble_eq_true rfl⟩ 65 rfl ?_
      refine x_sub (lv' := [(0, .ref (X.2.1 (sc + 6)))]) [2] rfl ?_
      exact Z_X1_excessOf_65 hX hev hh hr  (imx 0 (q6.1 - q7.1)) q7.2 hf
    · have hf := t_pos hc5 hf
      refine x_iconst hh dX1_excessOf_45 0 rfl 46 rfl ?_
      refine x_goto hh dX1_excessOf_46 65 rfl ?_
      refine x_sub (lv' := [(0, .ref (X.2.1 (sc + 6)))]) [2] rfl ?_
      exact Z_X1_excessOf_65 hX hev hh hr  0 q4.2 hf
def F_X1_excessOf (sc : Nat) (v1 : Int32) (v2 : Int32) (st : St) : Option (Int32 × St) := F_X1_excessOf_0 sc v1 v2 st
set_option maxRecDepth 100000 in
theorem C_X1_excessOf (l : Launch) {X : Cx} (hX : Ok X) {sc : Nat} (hev : Ev sc) {v1 : Int32} {v2 : Int32} {st : St} {q : Int32 × St} (hf : F_X1_excessOf sc v1 v2 st = some q) : Ct l X 2 yX1_excessOf (.code yX1_excessOf cX1_excessOf 6 (some .int)) [.ref (X.2.1 (sc + 6)), .int v1, .int v2] st (some (.int q.1)) q.2 := by
  refine Ct.of hX (by decide) (Nat.le_of_ble_eq_true rfl) ?_
  intro p e s m args below meth c hh hr
  exact Z_X1_excessOf_0 hX hev hh hr v1 v2 st hf

def F_X1_firstTooHigh_37 (sc : Nat) (k2 : Int32 → Int32 → St → Option (Int32 × St)) (v1 : Int32) (v2 : Int32) (st : St) : Option (Int32 × St) := k2 v1 (v2 + 1) st
set_option maxRecDepth 100000 in
set_option maxHeartbeats 4000000 in
theorem Z_X1_firstTooHigh_37 {l : Launch} {X : Cx} (hX : Ok X) {sc : Nat} (hev : Ev sc) {p : Program} {e : Env} {s : State} {m : MethodId} {args : Array Value} {below : List Frame} {meth : Method} {c : Code} {rr : Int32} {st' : St} (hh : Hy X p s m args meth c cX1_firstTooHigh 3 RX1) (hr : meth.sig.returnType = some .int) {k2 : Int32 → Int32 → St → Option (Int32 × St)} (hk2 : ∀ (v1 : Int32) (v2 : Int32) (st : St), k2 v1 v2 st = some (rr, st') → Z X p l e (rmk 3) s m args below meth c 3 (MQ below (Qf X (some (.int rr)) st') args s 0 0 (cA X)) 2 [(0, .ref (X.2.1 (sc + 6))), (1, .int v1), (2, .int v2)] [] st) (v1 : Int32) (v2 : Int32) (st : St) (hf : F_X1_firstTooHigh_37 sc k2 v1 v2 st = some (rr, st')) : Z X p l e (rmk 3) s m args below meth c 3 (MQ below (Qf X (some (.int rr)) st') args s 0 0 (cA X)) 37 [(0, .ref (X.2.1 (sc + 6))), (1, .int v1), (2, .int v2)] [] st := by
  unfold F_X1_firstTooHigh_37 at hf
  refine x_iinc hh dX1_firstTooHigh_37 2 rfl (v2 + 1) rfl (by decide) [(2, .int (v2 + 1)), (0, .ref (X.2.1 (sc + 6))), (1, .int v1)] rfl 40 rfl ?_
  refine x_goto hh dX1_firstTooHigh_40 2 rfl ?_
  refine x_sub (lv' := [(0, .ref (X.2.1 (sc + 6))), (1, .int v1), (2, .int (v2 + 1))]) [1, 2, 0] rfl ?_
  exact hk2 v1 (v2 + 1) st hf
def F_X1_firstTooHigh_2 (sc : Nat) : Nat → Int32 → Int32 → St → Option (Int32 × St)
  | 0, _, _, _ => none
  | n + 1, v1, v2, st => if (st.1 1 1) ≤ v2 then some ((-1), st) else gi v2 6 (if (st.1 (sc + 1) v2.toNatClampNeg) = v1 then (F_X1_excessOf sc v2 v1 st).bind (fun q4 => if q4.1 ≤ 0 then F_X1_firstTooHigh_37 sc (F_X1_firstTooHigh_2 sc n) v1 v2 q4.2 else some (v2, q4.2)) else F_X1_firstTooHigh_37 sc (F_X1_firstTooHigh_2 sc n) v1 v2 st)
set_option maxRecDepth 100000 in
set_option maxHeartbeats 4000000 in
theorem Z_X1_firstTooHigh_2 {l : Launch} {X : Cx} (hX : Ok X) {sc : Nat} (hev : Ev sc) {p : Program} {e : Env} {s : State} {m : MethodId} {args : Array Value} {below : List Frame} {meth : Method} {c : Code} {rr : Int32} {st' : St} (hh : Hy X p s m args meth c cX1_firstTooHigh 3 RX1) (hr : meth.sig.returnType = some .int) : ∀ (n : Nat) (v1 : Int32) (v2 : Int32) (st : St), F_X1_firstTooHigh_2 sc n v1 v2 st = some (rr, st') → Z X p l e (rmk 3) s m args below meth c 3 (MQ below (Qf X (some (.int rr)) st') args s 0 0 (cA X)) 2 [(0, .ref (X.2.1 (sc + 6))), (1, .int v1), (2, .int v2)] [] st := by
  intro n
  induction n with
  | zero =>
    intro v1 v2 st hf
    cases hf
  | succ n ih =>
    intro v1 v2 st hf
    rw [F_X1_firstTooHigh_2] at hf
    refine x_iload_n hh dX1_firstTooHigh_2 rfl 2 rfl 3 rfl ?_
    refine x_aload_n hh dX1_firstTooHigh_3 rfl 0 rfl 4 rfl ?_
    refine x_getR hh cl_1 dX1_firstTooHigh_4 hev.1 0 1 rfl (Nat.le_of_ble_eq_true rfl) wd_193 7 rfl ?_
    refine x_getI hh cl_3 dX1_firstTooHigh_7 sh_1 1 rfl (Nat.le_of_ble_eq_true rfl) wd_115 10 rfl ?_
    refine x_icmp_ge hh dX1_firstTooHigh_10 43 rfl 13 rfl (fun hc1 => ?_) (fun hc1 => ?_)
    · have hf := t_pos hc1 hf
      refine x_iconst hh dX1_firstTooHigh_43 (-1) rfl 44 rfl ?_
      obtain ⟨rfl, rfl⟩ := ret2 hf
      exact x_iret hh hr dX1_firstTooHigh_44
    · have hf := t_neg hc1 hf
      refine x_aload_n hh dX1_firstTooHigh_13 rfl 0 rfl 14 rfl ?_
      refine x_getR hh cl_1 dX1_firstTooHigh_14 hev.1 1 sc rfl (Nat.le_of_ble_eq_true rfl) wd_194 17 rfl ?_
      refine x_getR hh cl_6 dX1_firstTooHigh_17 hev.2.1 0 (sc + 1) rfl (Nat.le_of_ble_eq_true rfl) wd_158 20 rfl ?_
      refine x_iload_n hh dX1_firstTooHigh_20 rfl 2 rfl 21 rfl ?_
      obtain ⟨hi2, hf⟩ := gi_some hf
      refine x_iaload hh dX1_firstTooHigh_21 hev.2.2.1 hi2 22 rfl ?_
      refine x_iload_n hh dX1_firstTooHigh_22 rfl 1 rfl 23 rfl ?_
      refine x_icmp_ne hh dX1_firstTooHigh_23 37 rfl 26 rfl (fun hc3 => ?_) (fun hc3 => ?_)
      · have hf := t_neg hc3 hf
        exact Z_X1_firstTooHigh_37 hX hev hh hr ih  v1 v2 st hf
      · have hf := t_pos hc3 hf
        refine x_aload_n hh dX1_firstTooHigh_26 rfl 0 rfl 27 rfl ?_
        refine x_iload_n hh dX1_firstTooHigh_27 rfl 2 rfl 28 rfl ?_
        refine x_iload_n hh dX1_firstTooHigh_28 rfl 1 rfl 29 rfl ?_
        obtain ⟨q4, hq4, hf⟩ := b_some hf
        refine x_callV (rest := []) hh mi_X1_excessOf [.int v2, .int v1] dX1_firstTooHigh_29 hev.1 wd_543 (C_X1_excessOf l hX hev hq4) rfl rfl ⟨Nat.le_of_ble_eq_true rfl, Nat.le_of_ble_eq_true rfl⟩ (Nat.le_of_ble_eq_true rfl) 32 rfl [.int q4.1] rfl ?_
        refine x_if_le hh dX1_firstTooHigh_32 37 rfl 35 rfl (fun hc5 => ?_) (fun hc5 => ?_)
        · have hf := t_pos hc5 hf
          exact Z_X1_firstTooHigh_37 hX hev hh hr ih  v1 v2 q4.2 hf
        · have hf := t_neg hc5 hf
          refine x_iload_n hh dX1_firstTooHigh_35 rfl 2 rfl 36 rfl ?_
          obtain ⟨rfl, rfl⟩ := ret2 hf
          exact x_iret hh hr dX1_firstTooHigh_36
def F_X1_firstTooHigh_0 (sc : Nat) (v1 : Int32) (st : St) : Option (Int32 × St) := F_X1_firstTooHigh_2 sc fN v1 0 st
set_option maxRecDepth 100000 in
set_option maxHeartbeats 4000000 in
theorem Z_X1_firstTooHigh_0 {l : Launch} {X : Cx} (hX : Ok X) {sc : Nat} (hev : Ev sc) {p : Program} {e : Env} {s : State} {m : MethodId} {args : Array Value} {below : List Frame} {meth : Method} {c : Code} {rr : Int32} {st' : St} (hh : Hy X p s m args meth c cX1_firstTooHigh 3 RX1) (hr : meth.sig.returnType = some .int) (v1 : Int32) (st : St) (hf : F_X1_firstTooHigh_0 sc v1 st = some (rr, st')) : Z X p l e (rmk 3) s m args below meth c 3 (MQ below (Qf X (some (.int rr)) st') args s 0 0 (cA X)) 0 [(0, .ref (X.2.1 (sc + 6))), (1, .int v1)] [] st := by
  unfold F_X1_firstTooHigh_0 at hf
  refine x_iconst hh dX1_firstTooHigh_0 0 rfl 1 rfl ?_
  refine x_istore_n hh dX1_firstTooHigh_1 rfl (by decide) [(2, .int 0), (0, .ref (X.2.1 (sc + 6))), (1, .int v1)] rfl 2 rfl ?_
  refine x_sub (lv' := [(0, .ref (X.2.1 (sc + 6))), (1, .int v1), (2, .int 0)]) [1, 2, 0] rfl ?_
  exact Z_X1_firstTooHigh_2 hX hev hh hr fN v1 0 st hf
def F_X1_firstTooHigh (sc : Nat) (v1 : Int32) (st : St) : Option (Int32 × St) := F_X1_firstTooHigh_0 sc v1 st
set_option maxRecDepth 100000 in
theorem C_X1_firstTooHigh (l : Launch) {X : Cx} (hX : Ok X) {sc : Nat} (hev : Ev sc) {v1 : Int32} {st : St} {q : Int32 × St} (hf : F_X1_firstTooHigh sc v1 st = some q) : Ct l X 3 yX1_firstTooHigh (.code yX1_firstTooHigh cX1_firstTooHigh 3 (some .int)) [.ref (X.2.1 (sc + 6)), .int v1] st (some (.int q.1)) q.2 := by
  refine Ct.of hX (by decide) (Nat.le_of_ble_eq_true rfl) ?_
  intro p e s m args below meth c hh hr
  exact Z_X1_firstTooHigh_0 hX hev hh hr v1 st hf

def F_X1_nextLimit_20 (sc : Nat) (t0 : Int32) (st : St) : Option (Int32 × St) := some (t0, st)
set_option maxRecDepth 100000 in
set_option maxHeartbeats 4000000 in
theorem Z_X1_nextLimit_20 {l : Launch} {X : Cx} (hX : Ok X) {sc : Nat} (hev : Ev sc) {p : Program} {e : Env} {s : State} {m : MethodId} {args : Array Value} {below : List Frame} {meth : Method} {c : Code} {rr : Int32} {st' : St} (hh : Hy X p s m args meth c cX1_nextLimit 3 RX1) (hr : meth.sig.returnType = some .int) (t0 : Int32) (st : St) (hf : F_X1_nextLimit_20 sc t0 st = some (rr, st')) : Z X p l e (rmk 1) s m args below meth c 3 (MQ below (Qf X (some (.int rr)) st') args s 0 0 (cA X)) 20 [(0, .ref (X.2.1 (sc + 6)))] [.int t0] st := by
  unfold F_X1_nextLimit_20 at hf
  obtain ⟨rfl, rfl⟩ := ret2 hf
  exact x_iret hh hr dX1_nextLimit_20
def F_X1_nextLimit_0 (sc : Nat) (v1 : Int32) (v2 : Int32) (st : St) : Option (Int32 × St) := if (st.1 sc 5) = 1 then F_X1_nextLimit_20 sc (imn v1 v2) st else F_X1_nextLimit_20 sc v1 st
set_option maxRecDepth 100000 in
set_option maxHeartbeats 4000000 in
theorem Z_X1_nextLimit_0 {l : Launch} {X : Cx} (hX : Ok X) {sc : Nat} (hev : Ev sc) {p : Program} {e : Env} {s : State} {m : MethodId} {args : Array Value} {below : List Frame} {meth : Method} {c : Code} {rr : Int32} {st' : St} (hh : Hy X p s m args meth c cX1_nextLimit 3 RX1) (hr : meth.sig.returnType = some .int) (v1 : Int32) (v2 : Int32) (st : St) (hf : F_X1_nextLimit_0 sc v1 v2 st = some (rr, st')) : Z X p l e (rmk 1) s m args below meth c 3 (MQ below (Qf X (some (.int rr)) st') args s 0 0 (cA X)) 0 [(0, .ref (X.2.1 (sc + 6))), (1, .int v1), (2, .int v2)] [] st := by
  unfold F_X1_nextLimit_0 at hf
  refine x_aload_n hh dX1_nextLimit_0 rfl 0 rfl 1 rfl ?_
  refine x_getR hh cl_1 dX1_nextLimit_1 hev.1 1 sc rfl (Nat.le_of_ble_eq_true rfl) wd_194 4 rfl ?_
  refine x_getI hh cl_6 dX1_nextLimit_4 hev.2.1 5 rfl (Nat.le_of_ble_eq_true rfl) wd_174 7 rfl ?_
  refine x_iconst hh dX1_nextLimit_7 1 rfl 8 rfl ?_
  refine x_icmp_ne hh dX1_nextLimit_8 19 rfl 11 rfl (fun hc1 => ?_) (fun hc1 => ?_)
  · have hf := t_neg hc1 hf
    refine x_iload_n hh dX1_nextLimit_19 rfl 1 rfl 20 rfl ?_
    refine x_sub (lv' := [(0, .ref (X.2.1 (sc + 6)))]) [0] rfl ?_
    exact Z_X1_nextLimit_20 hX hev hh hr  v1 st hf
  · have hf := t_pos hc1 hf
    refine x_iload_n hh dX1_nextLimit_11 rfl 1 rfl 12 rfl ?_
    refine x_iload_n hh dX1_nextLimit_12 rfl 2 rfl 13 rfl ?_
    refine x_mmin hh dX1_nextLimit_13 wd_572 wd_426 wd_89 wd_427 ⟨Nat.le_of_ble_eq_true rfl, Nat.le_of_ble_eq_true rfl⟩ 16 rfl ?_
    refine x_goto hh dX1_nextLimit_16 20 rfl ?_
    refine x_sub (lv' := [(0, .ref (X.2.1 (sc + 6)))]) [0] rfl ?_
    exact Z_X1_nextLimit_20 hX hev hh hr  (imn v1 v2) st hf
def F_X1_nextLimit (sc : Nat) (v1 : Int32) (v2 : Int32) (st : St) : Option (Int32 × St) := F_X1_nextLimit_0 sc v1 v2 st
set_option maxRecDepth 100000 in
theorem C_X1_nextLimit (l : Launch) {X : Cx} (hX : Ok X) {sc : Nat} (hev : Ev sc) {v1 : Int32} {v2 : Int32} {st : St} {q : Int32 × St} (hf : F_X1_nextLimit sc v1 v2 st = some q) : Ct l X 1 yX1_nextLimit (.code yX1_nextLimit cX1_nextLimit 3 (some .int)) [.ref (X.2.1 (sc + 6)), .int v1, .int v2] st (some (.int q.1)) q.2 := by
  refine Ct.of hX (by decide) (Nat.le_of_ble_eq_true rfl) ?_
  intro p e s m args below meth c hh hr
  exact Z_X1_nextLimit_0 hX hev hh hr v1 v2 st hf

def F_X1_tallOf_0 (sc : Nat) (v1 : Int32) (st : St) : Option (Int32 × St) := gi v1 6 (gi v1 6 ((F_X3_floorAt 1 (st.1 (sc + 1) v1.toNatClampNeg) (st.1 (sc + 2) v1.toNatClampNeg) st).bind (fun q3 => gi v1 6 (some (q3.1 + (q3.2.1 (sc + 5) v1.toNatClampNeg), q3.2)))))
set_option maxRecDepth 100000 in
set_option maxHeartbeats 4000000 in
theorem Z_X1_tallOf_0 {l : Launch} {X : Cx} (hX : Ok X) {sc : Nat} (hev : Ev sc) {p : Program} {e : Env} {s : State} {m : MethodId} {args : Array Value} {below : List Frame} {meth : Method} {c : Code} {rr : Int32} {st' : St} (hh : Hy X p s m args meth c cX1_tallOf 2 RX1) (hr : meth.sig.returnType = some .int) (v1 : Int32) (st : St) (hf : F_X1_tallOf_0 sc v1 st = some (rr, st')) : Z X p l e (rmk 1) s m args below meth c 2 (MQ below (Qf X (some (.int rr)) st') args s 0 0 (cA X)) 0 [(0, .ref (X.2.1 (sc + 6))), (1, .int v1)] [] st := by
  unfold F_X1_tallOf_0 at hf
  refine x_aload_n hh dX1_tallOf_0 rfl 0 rfl 1 rfl ?_
  refine x_getR hh cl_1 dX1_tallOf_1 hev.1 0 1 rfl (Nat.le_of_ble_eq_true rfl) wd_193 4 rfl ?_
  refine x_aload_n hh dX1_tallOf_4 rfl 0 rfl 5 rfl ?_
  refine x_getR hh cl_1 dX1_tallOf_5 hev.1 1 sc rfl (Nat.le_of_ble_eq_true rfl) wd_194 8 rfl ?_
  refine x_getR hh cl_6 dX1_tallOf_8 hev.2.1 0 (sc + 1) rfl (Nat.le_of_ble_eq_true rfl) wd_158 11 rfl ?_
  refine x_iload_n hh dX1_tallOf_11 rfl 1 rfl 12 rfl ?_
  obtain ⟨hi1, hf⟩ := gi_some hf
  refine x_iaload hh dX1_tallOf_12 hev.2.2.1 hi1 13 rfl ?_
  refine x_aload_n hh dX1_tallOf_13 rfl 0 rfl 14 rfl ?_
  refine x_getR hh cl_1 dX1_tallOf_14 hev.1 1 sc rfl (Nat.le_of_ble_eq_true rfl) wd_194 17 rfl ?_
  refine x_getR hh cl_6 dX1_tallOf_17 hev.2.1 1 (sc + 2) rfl (Nat.le_of_ble_eq_true rfl) wd_161 20 rfl ?_
  refine x_iload_n hh dX1_tallOf_20 rfl 1 rfl 21 rfl ?_
  obtain ⟨hi2, hf⟩ := gi_some hf
  refine x_iaload hh dX1_tallOf_21 hev.2.2.2.1 hi2 22 rfl ?_
  obtain ⟨q3, hq3, hf⟩ := b_some hf
  refine x_callV (rest := []) hh mi_X3_floorAt [.int (st.1 (sc + 1) v1.toNatClampNeg), .int (st.1 (sc + 2) v1.toNatClampNeg)] dX1_tallOf_22 sh_1 wd_501 (C_X3_floorAt l hX ho_1 hq3) rfl rfl ⟨Nat.le_of_ble_eq_true rfl, Nat.le_of_ble_eq_true rfl⟩ (Nat.le_of_ble_eq_true rfl) 25 rfl [.int q3.1] rfl ?_
  refine x_aload_n hh dX1_tallOf_25 rfl 0 rfl 26 rfl ?_
  refine x_getR hh cl_1 dX1_tallOf_26 hev.1 1 sc rfl (Nat.le_of_ble_eq_true rfl) wd_194 29 rfl ?_
  refine x_getR hh cl_6 dX1_tallOf_29 hev.2.1 4 (sc + 5) rfl (Nat.le_of_ble_eq_true rfl) wd_171 32 rfl ?_
  refine x_iload_n hh dX1_tallOf_32 rfl 1 rfl 33 rfl ?_
  obtain ⟨hi4, hf⟩ := gi_some hf
  refine x_iaload hh dX1_tallOf_33 hev.2.2.2.2.2.2 hi4 34 rfl ?_
  refine x_iadd hh dX1_tallOf_34 35 rfl ?_
  obtain ⟨rfl, rfl⟩ := ret2 hf
  exact x_iret hh hr dX1_tallOf_35
def F_X1_tallOf (sc : Nat) (v1 : Int32) (st : St) : Option (Int32 × St) := F_X1_tallOf_0 sc v1 st
set_option maxRecDepth 100000 in
theorem C_X1_tallOf (l : Launch) {X : Cx} (hX : Ok X) {sc : Nat} (hev : Ev sc) {v1 : Int32} {st : St} {q : Int32 × St} (hf : F_X1_tallOf sc v1 st = some q) : Ct l X 1 yX1_tallOf (.code yX1_tallOf cX1_tallOf 2 (some .int)) [.ref (X.2.1 (sc + 6)), .int v1] st (some (.int q.1)) q.2 := by
  refine Ct.of hX (by decide) (Nat.le_of_ble_eq_true rfl) ?_
  intro p e s m args below meth c hh hr
  exact Z_X1_tallOf_0 hX hev hh hr v1 st hf

def F_X1_allBow_139 (sc : Nat) (k48 : Int32 → Int32 → Int32 → Int32 → Int32 → St → Option (Int32 × St)) (v2 : Int32) (v3 : Int32) (v4 : Int32) (v5 : Int32) (v6 : Int32) (st : St) : Option (Int32 × St) := (F_X1_headOf sc v3 st).bind (fun q16 => (F_X1_nextLimit sc v4 q16.1 q16.2).bind (fun q17 => k48 v2 v3 q17.1 v5 (v6 + 1) q17.2))
set_option maxRecDepth 100000 in
set_option maxHeartbeats 4000000 in
theorem Z_X1_allBow_139 {l : Launch} {X : Cx} (hX : Ok X) {sc : Nat} (hev : Ev sc) {p : Program} {e : Env} {s : State} {m : MethodId} {args : Array Value} {below : List Frame} {meth : Method} {c : Code} {rr : Int32} {st' : St} (hh : Hy X p s m args meth c cX1_allBow 8 RX1) (hr : meth.sig.returnType = some .int) {k48 : Int32 → Int32 → Int32 → Int32 → Int32 → St → Option (Int32 × St)} (hk48 : ∀ (v2 : Int32) (v3 : Int32) (v4 : Int32) (v5 : Int32) (v6 : Int32) (st : St), k48 v2 v3 v4 v5 v6 st = some (rr, st') → Z X p l e (rmk 2) s m args below meth c 8 (MQ below (Qf X (some (.int rr)) st') args s 0 0 (cA X)) 48 [(0, .ref (X.2.1 (sc + 6))), (2, .int v2), (3, .int v3), (4, .int v4), (5, .int v5), (6, .int v6)] [] st) (v2 : Int32) (v3 : Int32) (v4 : Int32) (v5 : Int32) (v6 : Int32) (st : St) (hf : F_X1_allBow_139 sc k48 v2 v3 v4 v5 v6 st = some (rr, st')) : Z X p l e (rmk 2) s m args below meth c 8 (MQ below (Qf X (some (.int rr)) st') args s 0 0 (cA X)) 139 [(0, .ref (X.2.1 (sc + 6))), (2, .int v2), (3, .int v3), (4, .int v4), (5, .int v5), (6, .int v6)] [] st := by
  unfold F_X1_allBow_139 at hf
  refine x_aload_n hh dX1_allBow_139 rfl 0 rfl 140 rfl ?_
  refine x_iload hh dX1_allBow_140 3 rfl 142 rfl ?_
  refine x_aload_n hh dX1_allBow_142 rfl 0 rfl 143 rfl ?_
  refine x_iload_n hh dX1_allBow_143 rfl 2 rfl 144 rfl ?_
  obtain ⟨q16, hq16, hf⟩ := b_some hf
  refine x_callV (rest := [.int v4, .ref (X.2.1 (sc + 6))]) hh mi_X1_headOf [.int v3] dX1_allBow_144 hev.1 wd_555 (C_X1_headOf l hX hev hq16) rfl rfl ⟨Nat.le_of_ble_eq_true rfl, Nat.le_of_ble_eq_true rfl⟩ (Nat.le_of_ble_eq_true rfl) 147 rfl [.int q16.1, .int v4, .ref (X.2.1 (sc + 6))] rfl ?_
  obtain ⟨q17, hq17, hf⟩ := b_some hf
  refine x_callV (rest := []) hh mi_X1_nextLimit [.int v4, .int q16.1] dX1_allBow_147 hev.1 wd_573 (C_X1_nextLimit l hX hev hq17) rfl rfl ⟨Nat.le_of_ble_eq_true rfl, Nat.le_of_ble_eq_true rfl⟩ (Nat.le_of_ble_eq_true rfl) 150 rfl [.int q17.1] rfl ?_
  refine x_istore hh dX1_allBow_150 (by decide) [(4, .int q17.1), (0, .ref (X.2.1 (sc + 6))), (2, .int v2), (3, .int v3), (5, .int v5), (6, .int v6)] rfl 152 rfl ?_
  refine x_iinc hh dX1_allBow_152 5 rfl (v6 + 1) rfl (by decide) [(6, .int (v6 + 1)), (4, .int q17.1), (0, .ref (X.2.1 (sc + 6))), (2, .int v2), (3, .int v3), (5, .int v5)] rfl 155 rfl ?_
  refine x_goto hh dX1_allBow_155 48 rfl ?_
  refine x_sub (lv' := [(0, .ref (X.2.1 (sc + 6))), (2, .int v2), (3, .int v3), (4, .int q17.1), (5, .int v5), (6, .int (v6 + 1))]) [2, 3, 4, 1, 5, 0] rfl ?_
  exact hk48 v2 v3 q17.1 v5 (v6 + 1) q17.2 hf
def F_X1_allBow_158 (sc : Nat) (v5 : Int32) (st : St) : Option (Int32 × St) := some (v5, st)
set_option maxRecDepth 100000 in
set_option maxHeartbeats 4000000 in
theorem Z_X1_allBow_158 {l : Launch} {X : Cx} (hX : Ok X) {sc : Nat} (hev : Ev sc) {p : Program} {e : Env} {s : State} {m : MethodId} {args : Array Value} {below : List Frame} {meth : Method} {c : Code} {rr : Int32} {st' : St} (hh : Hy X p s m args meth c cX1_allBow 8 RX1) (hr : meth.sig.returnType = some .int) (v5 : Int32) (st : St) (hf : F_X1_allBow_158 sc v5 st = some (rr, st')) : Z X p l e (rmk 2) s m args below meth c 8 (MQ below (Qf X (some (.int rr)) st') args s 0 0 (cA X)) 158 [(0, .ref (X.2.1 (sc + 6))), (5, .int v5)] [] st := by
  unfold F_X1_allBow_158 at hf
  refine x_iload hh dX1_allBow_158 1 rfl 160 rfl ?_
  obtain ⟨rfl, rfl⟩ := ret2 hf
  exact x_iret hh hr dX1_allBow_160
def F_X1_allBow_48 (sc : Nat) : Nat → Int32 → Int32 → Int32 → Int32 → Int32 → St → Option (Int32 × St)
  | 0, _, _, _, _, _, _ => none
  | n + 1, v2, v3, v4, v5, v6, st => if (6 : Int32) ≤ v6 then F_X1_allBow_158 sc v5 st else (F_X6_eldestOf sc (v2 &&& ((1 <<< (v3 &&& 31)) ^^^ ((-1)))) st).bind (fun q8 => if q8.1 = ((-1)) then F_X1_allBow_158 sc v5 q8.2 else (F_X1_tallOf sc q8.1 q8.2).bind (fun q10 => gi q8.1 6 (gi q8.1 6 (bs (sV q10.2 (sc + 3) q8.1.toNatClampNeg (imn (imx 0 (q10.1 - v4)) (q10.2.1 6 q8.1.toNatClampNeg))) (fun st13 => gi q8.1 6 (if (imx 0 (q10.1 - v4)) ≤ (st13.1 6 q8.1.toNatClampNeg) then F_X1_allBow_139 sc (F_X1_allBow_48 sc n) (v2 &&& ((1 <<< (v3 &&& 31)) ^^^ ((-1)))) q8.1 v4 v5 v6 st13 else F_X1_allBow_139 sc (F_X1_allBow_48 sc n) (v2 &&& ((1 <<< (v3 &&& 31)) ^^^ ((-1)))) q8.1 v4 (v5 ||| (1 <<< (q8.1 &&& 31))) v6 st13))))))
set_option maxRecDepth 100000 in
set_option maxHeartbeats 4000000 in
theorem Z_X1_allBow_48 {l : Launch} {X : Cx} (hX : Ok X) {sc : Nat} (hev : Ev sc) {p : Program} {e : Env} {s : State} {m : MethodId} {args : Array Value} {below : List Frame} {meth : Method} {c : Code} {rr : Int32} {st' : St} (hh : Hy X p s m args meth c cX1_allBow 8 RX1) (hr : meth.sig.returnType = some .int) : ∀ (n : Nat) (v2 : Int32) (v3 : Int32) (v4 : Int32) (v5 : Int32) (v6 : Int32) (st : St), F_X1_allBow_48 sc n v2 v3 v4 v5 v6 st = some (rr, st') → Z X p l e (rmk 2) s m args below meth c 8 (MQ below (Qf X (some (.int rr)) st') args s 0 0 (cA X)) 48 [(0, .ref (X.2.1 (sc + 6))), (2, .int v2), (3, .int v3), (4, .int v4), (5, .int v5), (6, .int v6)] [] st := by
  intro n
  induction n with
  | zero =>
    intro v2 v3 v4 v5 v6 st hf
    cases hf
  | succ n ih =>
    intro v2 v3 v4 v5 v6 st hf
    rw [F_X1_allBow_48] at hf
    refine x_iload hh dX1_allBow_48 5 rfl 50 rfl ?_
    refine x_bipush hh dX1_allBow_50 6 rfl 52 rfl ?_
    refine x_icmp_ge hh dX1_allBow_52 158 rfl 55 rfl (fun hc7 => ?_) (fun hc7 => ?_)
    · have hf := t_pos hc7 hf
      refine x_sub (lv' := [(0, .ref (X.2.1 (sc + 6))), (5, .int v5)]) [0, 4] rfl ?_
      exact Z_X1_allBow_158 hX hev hh hr  v5 st hf
    · have hf := t_neg hc7 hf
      refine x_iload_n hh dX1_allBow_55 rfl 1 rfl 56 rfl ?_
      refine x_iconst hh dX1_allBow_56 1 rfl 57 rfl ?_
      refine x_iload_n hh dX1_allBow_57 rfl 2 rfl 58 rfl ?_
      refine x_ishl hh dX1_allBow_58 59 rfl ?_
      refine x_iconst hh dX1_allBow_59 (-1) rfl 60 rfl ?_
      refine x_ixor hh dX1_allBow_60 61 rfl ?_
      refine x_iand hh dX1_allBow_61 62 rfl ?_
      refine x_istore_n hh dX1_allBow_62 rfl (by decide) [(2, .int (v2 &&& ((1 <<< (v3 &&& 31)) ^^^ ((-1))))), (0, .ref (X.2.1 (sc + 6))), (3, .int v3), (4, .int v4), (5, .int v5), (6, .int v6)] rfl 63 rfl ?_
      refine x_aload_n hh dX1_allBow_63 rfl 1 rfl 64 rfl ?_
      refine x_getR hh cl_1 dX1_allBow_64 hev.1 1 sc rfl (Nat.le_of_ble_eq_true rfl) wd_194 67 rfl ?_
      refine x_iload_n hh dX1_allBow_67 rfl 0 rfl 68 rfl ?_
      obtain ⟨q8, hq8, hf⟩ := b_some hf
      refine x_callV (rest := []) hh mi_X6_eldestOf [.int (v2 &&& ((1 <<< (v3 &&& 31)) ^^^ ((-1))))] dX1_allBow_68 hev.2.1 wd_551 (C_X6_eldestOf l hX hev.2 hq8) rfl rfl ⟨Nat.le_of_ble_eq_true rfl, Nat.le_of_ble_eq_true rfl⟩ (Nat.le_of_ble_eq_true rfl) 71 rfl [.int q8.1] rfl ?_
      refine x_istore_n hh dX1_allBow_71 rfl (by decide) [(3, .int q8.1), (2, .int (v2 &&& ((1 <<< (v3 &&& 31)) ^^^ ((-1))))), (0, .ref (X.2.1 (sc + 6))), (4, .int v4), (5, .int v5), (6, .int v6)] rfl 72 rfl ?_
      refine x_iload_n hh dX1_allBow_72 rfl 0 rfl 73 rfl ?_
      refine x_iconst hh dX1_allBow_73 (-1) rfl 74 rfl ?_
      refine x_icmp_ne hh dX1_allBow_74 80 rfl 77 rfl (fun hc9 => ?_) (fun hc9 => ?_)
      · have hf := t_neg hc9 hf
        refine x_iconst hh dX1_allBow_80 0 rfl 81 rfl ?_
        refine x_aload_n hh dX1_allBow_81 rfl 2 rfl 82 rfl ?_
        refine x_iload_n hh dX1_allBow_82 rfl 0 rfl 83 rfl ?_
        obtain ⟨q10, hq10, hf⟩ := b_some hf
        refine x_callV (rest := [.int 0]) hh mi_X1_tallOf [.int q8.1] dX1_allBow_83 hev.1 wd_569 (C_X1_tallOf l hX hev hq10) rfl rfl ⟨Nat.le_of_ble_eq_true rfl, Nat.le_of_ble_eq_true rfl⟩ (Nat.le_of_ble_eq_true rfl) 86 rfl [.int q10.1, .int 0] rfl ?_
        refine x_iload hh dX1_allBow_86 3 rfl 88 rfl ?_
        refine x_isub hh dX1_allBow_88 89 rfl ?_
        refine x_mmax hh dX1_allBow_89 wd_556 wd_557 wd_89 wd_558 ⟨Nat.le_of_ble_eq_true rfl, Nat.le_of_ble_eq_true rfl⟩ 92 rfl ?_
        refine x_istore hh dX1_allBow_92 (by decide) [(7, .int (imx 0 (q10.1 - v4))), (3, .int q8.1), (2, .int (v2 &&& ((1 <<< (v3 &&& 31)) ^^^ ((-1))))), (0, .ref (X.2.1 (sc + 6))), (4, .int v4), (5, .int v5), (6, .int v6)] rfl 94 rfl ?_
        refine x_aload_n hh dX1_allBow_94 rfl 3 rfl 95 rfl ?_
        refine x_getR hh cl_1 dX1_allBow_95 hev.1 1 sc rfl (Nat.le_of_ble_eq_true rfl) wd_194 98 rfl ?_
        refine x_getR hh cl_6 dX1_allBow_98 hev.2.1 2 (sc + 3) rfl (Nat.le_of_ble_eq_true rfl) wd_164 101 rfl ?_
        refine x_iload_n hh dX1_allBow_101 rfl 1 rfl 102 rfl ?_
        refine x_iload hh dX1_allBow_102 0 rfl 104 rfl ?_
        refine x_aload_n hh dX1_allBow_104 rfl 3 rfl 105 rfl ?_
        refine x_getR hh cl_1 dX1_allBow_105 hev.1 0 1 rfl (Nat.le_of_ble_eq_true rfl) wd_193 108 rfl ?_
        refine x_getR hh cl_3 dX1_allBow_108 sh_1 7 6 rfl (Nat.le_of_ble_eq_true rfl) wd_132 111 rfl ?_
        refine x_iload_n hh dX1_allBow_111 rfl 1 rfl 112 rfl ?_
        obtain ⟨hi11, hf⟩ := gi_some hf
        refine x_iaload hh dX1_allBow_112 sh_6 hi11 113 rfl ?_
        refine x_mmin hh dX1_allBow_113 wd_572 wd_426 wd_89 wd_427 ⟨Nat.le_of_ble_eq_true rfl, Nat.le_of_ble_eq_true rfl⟩ 116 rfl ?_
        obtain ⟨hi12, hf⟩ := gi_some hf
        obtain ⟨st13, est13, hf⟩ := bs_some hf
        refine x_iastore hh dX1_allBow_116 hev.2.2.2.2.1 hi12 117 rfl st13 est13 ?_
        refine x_iload hh dX1_allBow_117 0 rfl 119 rfl ?_
        refine x_aload_n hh dX1_allBow_119 rfl 3 rfl 120 rfl ?_
        refine x_getR hh cl_1 dX1_allBow_120 hev.1 0 1 rfl (Nat.le_of_ble_eq_true rfl) wd_193 123 rfl ?_
        refine x_getR hh cl_3 dX1_allBow_123 sh_1 7 6 rfl (Nat.le_of_ble_eq_true rfl) wd_132 126 rfl ?_
        refine x_iload_n hh dX1_allBow_126 rfl 1 rfl 127 rfl ?_
        obtain ⟨hi14, hf⟩ := gi_some hf
        refine x_iaload hh dX1_allBow_127 sh_6 hi14 128 rfl ?_
        refine x_icmp_le hh dX1_allBow_128 139 rfl 131 rfl (fun hc15 => ?_) (fun hc15 => ?_)
        · have hf := t_pos hc15 hf
          refine x_sub (lv' := [(0, .ref (X.2.1 (sc + 6))), (2, .int (v2 &&& ((1 <<< (v3 &&& 31)) ^^^ ((-1))))), (3, .int q8.1), (4, .int v4), (5, .int v5), (6, .int v6)]) [3, 2, 1, 4, 5, 6] rfl ?_
          exact Z_X1_allBow_139 hX hev hh hr ih  (v2 &&& ((1 <<< (v3 &&& 31)) ^^^ ((-1)))) q8.1 v4 v5 v6 st13 hf
        · have hf := t_neg hc15 hf
          refine x_iload hh dX1_allBow_131 5 rfl 133 rfl ?_
          refine x_iconst hh dX1_allBow_133 1 rfl 134 rfl ?_
          refine x_iload_n hh dX1_allBow_134 rfl 1 rfl 135 rfl ?_
          refine x_ishl hh dX1_allBow_135 136 rfl ?_
          refine x_ior hh dX1_allBow_136 137 rfl ?_
          refine x_istore hh dX1_allBow_137 (by decide) [(5, .int (v5 ||| (1 <<< (q8.1 &&& 31)))), (7, .int (imx 0 (q10.1 - v4))), (3, .int q8.1), (2, .int (v2 &&& ((1 <<< (v3 &&& 31)) ^^^ ((-1))))), (0, .ref (X.2.1 (sc + 6))), (4, .int v4), (6, .int v6)] rfl 139 rfl ?_
          refine x_sub (lv' := [(0, .ref (X.2.1 (sc + 6))), (2, .int (v2 &&& ((1 <<< (v3 &&& 31)) ^^^ ((-1))))), (3, .int q8.1), (4, .int v4), (5, .int (v5 ||| (1 <<< (q8.1 &&& 31)))), (6, .int v6)]) [4, 3, 2, 5, 0, 6] rfl ?_
          exact Z_X1_allBow_139 hX hev hh hr ih  (v2 &&& ((1 <<< (v3 &&& 31)) ^^^ ((-1)))) q8.1 v4 (v5 ||| (1 <<< (q8.1 &&& 31))) v6 st13 hf
      · have hf := t_pos hc9 hf
        refine x_goto hh dX1_allBow_77 158 rfl ?_
        refine x_sub (lv' := [(0, .ref (X.2.1 (sc + 6))), (5, .int v5)]) [2, 4] rfl ?_
        exact Z_X1_allBow_158 hX hev hh hr  v5 q8.2 hf
def F_X1_allBow_0 (sc : Nat) (v1 : Int32) (st : St) : Option (Int32 × St) := (F_X6_whoIsIn sc v1 st).bind (fun q1 => (F_X6_eldestOf sc q1.1 q1.2).bind (fun q2 => if q2.1 = ((-1)) then some (0, q2.2) else gi q2.1 6 (bs (sV q2.2 (sc + 3) q2.1.toNatClampNeg 0) (fun st5 => (F_X1_tallOf sc q2.1 st5).bind (fun q6 => F_X1_allBow_48 sc fN q1.1 q2.1 q6.1 0 1 q6.2)))))
set_option maxRecDepth 100000 in
set_option maxHeartbeats 4000000 in
theorem Z_X1_allBow_0 {l : Launch} {X : Cx} (hX : Ok X) {sc : Nat} (hev : Ev sc) {p : Program} {e : Env} {s : State} {m : MethodId} {args : Array Value} {below : List Frame} {meth : Method} {c : Code} {rr : Int32} {st' : St} (hh : Hy X p s m args meth c cX1_allBow 8 RX1) (hr : meth.sig.returnType = some .int) (v1 : Int32) (st : St) (hf : F_X1_allBow_0 sc v1 st = some (rr, st')) : Z X p l e (rmk 2) s m args below meth c 8 (MQ below (Qf X (some (.int rr)) st') args s 0 0 (cA X)) 0 [(0, .ref (X.2.1 (sc + 6))), (1, .int v1)] [] st := by
  unfold F_X1_allBow_0 at hf
  refine x_aload_n hh dX1_allBow_0 rfl 0 rfl 1 rfl ?_
  refine x_getR hh cl_1 dX1_allBow_1 hev.1 1 sc rfl (Nat.le_of_ble_eq_true rfl) wd_194 4 rfl ?_
  refine x_iload_n hh dX1_allBow_4 rfl 1 rfl 5 rfl ?_
  obtain ⟨q1, hq1, hf⟩ := b_some hf
  refine x_callV (rest := []) hh mi_X6_whoIsIn [.int v1] dX1_allBow_5 hev.2.1 wd_568 (C_X6_whoIsIn l hX hev.2 hq1) rfl rfl ⟨Nat.le_of_ble_eq_true rfl, Nat.le_of_ble_eq_true rfl⟩ (Nat.le_of_ble_eq_true rfl) 8 rfl [.int q1.1] rfl ?_
  refine x_istore_n hh dX1_allBow_8 rfl (by decide) [(2, .int q1.1), (0, .ref (X.2.1 (sc + 6))), (1, .int v1)] rfl 9 rfl ?_
  refine x_aload_n hh dX1_allBow_9 rfl 1 rfl 10 rfl ?_
  refine x_getR hh cl_1 dX1_allBow_10 hev.1 1 sc rfl (Nat.le_of_ble_eq_true rfl) wd_194 13 rfl ?_
  refine x_iload_n hh dX1_allBow_13 rfl 0 rfl 14 rfl ?_
  obtain ⟨q2, hq2, hf⟩ := b_some hf
  refine x_callV (rest := []) hh mi_X6_eldestOf [.int q1.1] dX1_allBow_14 hev.2.1 wd_551 (C_X6_eldestOf l hX hev.2 hq2) rfl rfl ⟨Nat.le_of_ble_eq_true rfl, Nat.le_of_ble_eq_true rfl⟩ (Nat.le_of_ble_eq_true rfl) 17 rfl [.int q2.1] rfl ?_
  refine x_istore_n hh dX1_allBow_17 rfl (by decide) [(3, .int q2.1), (2, .int q1.1), (0, .ref (X.2.1 (sc + 6))), (1, .int v1)] rfl 18 rfl ?_
  refine x_iload_n hh dX1_allBow_18 rfl 0 rfl 19 rfl ?_
  refine x_iconst hh dX1_allBow_19 (-1) rfl 20 rfl ?_
  refine x_icmp_ne hh dX1_allBow_20 25 rfl 23 rfl (fun hc3 => ?_) (fun hc3 => ?_)
  · have hf := t_neg hc3 hf
    refine x_aload_n hh dX1_allBow_25 rfl 2 rfl 26 rfl ?_
    refine x_getR hh cl_1 dX1_allBow_26 hev.1 1 sc rfl (Nat.le_of_ble_eq_true rfl) wd_194 29 rfl ?_
    refine x_getR hh cl_6 dX1_allBow_29 hev.2.1 2 (sc + 3) rfl (Nat.le_of_ble_eq_true rfl) wd_164 32 rfl ?_
    refine x_iload_n hh dX1_allBow_32 rfl 0 rfl 33 rfl ?_
    refine x_iconst hh dX1_allBow_33 0 rfl 34 rfl ?_
    obtain ⟨hi4, hf⟩ := gi_some hf
    obtain ⟨st5, est5, hf⟩ := bs_some hf
    refine x_iastore hh dX1_allBow_34 hev.2.2.2.2.1 hi4 35 rfl st5 est5 ?_
    refine x_aload_n hh dX1_allBow_35 rfl 2 rfl 36 rfl ?_
    refine x_iload_n hh dX1_allBow_36 rfl 0 rfl 37 rfl ?_
    obtain ⟨q6, hq6, hf⟩ := b_some hf
    refine x_callV (rest := []) hh mi_X1_tallOf [.int q2.1] dX1_allBow_37 hev.1 wd_569 (C_X1_tallOf l hX hev hq6) rfl rfl ⟨Nat.le_of_ble_eq_true rfl, Nat.le_of_ble_eq_true rfl⟩ (Nat.le_of_ble_eq_true rfl) 40 rfl [.int q6.1] rfl ?_
    refine x_istore hh dX1_allBow_40 (by decide) [(4, .int q6.1), (3, .int q2.1), (2, .int q1.1), (0, .ref (X.2.1 (sc + 6))), (1, .int v1)] rfl 42 rfl ?_
    refine x_iconst hh dX1_allBow_42 0 rfl 43 rfl ?_
    refine x_istore hh dX1_allBow_43 (by decide) [(5, .int 0), (4, .int q6.1), (3, .int q2.1), (2, .int q1.1), (0, .ref (X.2.1 (sc + 6))), (1, .int v1)] rfl 45 rfl ?_
    refine x_iconst hh dX1_allBow_45 1 rfl 46 rfl ?_
    refine x_istore hh dX1_allBow_46 (by decide) [(6, .int 1), (5, .int 0), (4, .int q6.1), (3, .int q2.1), (2, .int q1.1), (0, .ref (X.2.1 (sc + 6))), (1, .int v1)] rfl 48 rfl ?_
    refine x_sub (lv' := [(0, .ref (X.2.1 (sc + 6))), (2, .int q1.1), (3, .int q2.1), (4, .int q6.1), (5, .int 0), (6, .int 1)]) [5, 4, 3, 2, 1, 0] rfl ?_
    exact Z_X1_allBow_48 hX hev hh hr fN q1.1 q2.1 q6.1 0 1 q6.2 hf
  · have hf := t_pos hc3 hf
    refine x_iconst hh dX1_allBow_23 0 rfl 24 rfl ?_
    obtain ⟨rfl, rfl⟩ := ret2 hf
    exact x_iret hh hr dX1_allBow_24
def F_X1_allBow (sc : Nat) (v1 : Int32) (st : St) : Option (Int32 × St) := F_X1_allBow_0 sc v1 st
set_option maxRecDepth 100000 in
theorem C_X1_allBow (l : Launch) {X : Cx} (hX : Ok X) {sc : Nat} (hev : Ev sc) {v1 : Int32} {st : St} {q : Int32 × St} (hf : F_X1_allBow sc v1 st = some q) : Ct l X 2 yX1_allBow (.code yX1_allBow cX1_allBow 8 (some .int)) [.ref (X.2.1 (sc + 6)), .int v1] st (some (.int q.1)) q.2 := by
  refine Ct.of hX (by decide) (Nat.le_of_ble_eq_true rfl) ?_
  intro p e s m args below meth c hh hr
  exact Z_X1_allBow_0 hX hev hh hr v1 st hf

def F_X1_passYear_60 (sc : Nat) (k2 : Int32 → St → Option (St)) (v1 : Int32) (st : St) : Option (St) := gi v1 6 (gi v1 6 (bs (sV st (sc + 4) v1.toNatClampNeg ((st.1 (sc + 4) v1.toNatClampNeg) + 1)) (fun st10 => k2 (v1 + 1) st10)))
set_option maxRecDepth 100000 in
set_option maxHeartbeats 4000000 in
theorem Z_X1_passYear_60 {l : Launch} {X : Cx} (hX : Ok X) {sc : Nat} (hev : Ev sc) {p : Program} {e : Env} {s : State} {m : MethodId} {args : Array Value} {below : List Frame} {meth : Method} {c : Code} {st' : St} (hh : Hy X p s m args meth c cX1_passYear 2 RX1) (hr : meth.sig.returnType = none) {k2 : Int32 → St → Option (St)} (hk2 : ∀ (v1 : Int32) (st : St), k2 v1 st = some st' → Z X p l e (rmk 1) s m args below meth c 2 (MQ below (Qf X none st') args s 0 0 (cA X)) 2 [(0, .ref (X.2.1 (sc + 6))), (1, .int v1)] [] st) (v1 : Int32) (st : St) (hf : F_X1_passYear_60 sc k2 v1 st = some st') : Z X p l e (rmk 1) s m args below meth c 2 (MQ below (Qf X none st') args s 0 0 (cA X)) 60 [(0, .ref (X.2.1 (sc + 6))), (1, .int v1)] [] st := by
  unfold F_X1_passYear_60 at hf
  refine x_aload_n hh dX1_passYear_60 rfl 0 rfl 61 rfl ?_
  refine x_getR hh cl_1 dX1_passYear_61 hev.1 1 sc rfl (Nat.le_of_ble_eq_true rfl) wd_194 64 rfl ?_
  refine x_getR hh cl_6 dX1_passYear_64 hev.2.1 3 (sc + 4) rfl (Nat.le_of_ble_eq_true rfl) wd_167 67 rfl ?_
  refine x_iload_n hh dX1_passYear_67 rfl 1 rfl 68 rfl ?_
  refine x_dup2 hh dX1_passYear_68 rfl rfl 69 rfl ?_
  obtain ⟨hi8, hf⟩ := gi_some hf
  refine x_iaload hh dX1_passYear_69 hev.2.2.2.2.2.1 hi8 70 rfl ?_
  refine x_iconst hh dX1_passYear_70 1 rfl 71 rfl ?_
  refine x_iadd hh dX1_passYear_71 72 rfl ?_
  obtain ⟨hi9, hf⟩ := gi_some hf
  obtain ⟨st10, est10, hf⟩ := bs_some hf
  refine x_iastore hh dX1_passYear_72 hev.2.2.2.2.2.1 hi9 73 rfl st10 est10 ?_
  refine x_iinc hh dX1_passYear_73 1 rfl (v1 + 1) rfl (by decide) [(1, .int (v1 + 1)), (0, .ref (X.2.1 (sc + 6)))] rfl 76 rfl ?_
  refine x_goto hh dX1_passYear_76 2 rfl ?_
  refine x_sub (lv' := [(0, .ref (X.2.1 (sc + 6))), (1, .int (v1 + 1))]) [1, 0] rfl ?_
  exact hk2 (v1 + 1) st10 hf
def F_X1_passYear_2 (sc : Nat) : Nat → Int32 → St → Option (St)
  | 0, _, _ => none
  | n + 1, v1, st => if (st.1 1 1) ≤ v1 then some st else gi v1 6 (if (20 : Int32) ≤ (st.1 (sc + 4) v1.toNatClampNeg) then F_X1_passYear_60 sc (F_X1_passYear_2 sc n) v1 st else gi v1 6 (gi v1 6 (gi v1 6 (bs (sV st (sc + 5) v1.toNatClampNeg (imn 90 ((st.1 (sc + 5) v1.toNatClampNeg) + (st.1 7 v1.toNatClampNeg)))) (fun st7 => F_X1_passYear_60 sc (F_X1_passYear_2 sc n) v1 st7)))))
set_option maxRecDepth 100000 in
set_option maxHeartbeats 4000000 in
theorem Z_X1_passYear_2 {l : Launch} {X : Cx} (hX : Ok X) {sc : Nat} (hev : Ev sc) {p : Program} {e : Env} {s : State} {m : MethodId} {args : Array Value} {below : List Frame} {meth : Method} {c : Code} {st' : St} (hh : Hy X p s m args meth c cX1_passYear 2 RX1) (hr : meth.sig.returnType = none) : ∀ (n : Nat) (v1 : Int32) (st : St), F_X1_passYear_2 sc n v1 st = some st' → Z X p l e (rmk 1) s m args below meth c 2 (MQ below (Qf X none st') args s 0 0 (cA X)) 2 [(0, .ref (X.2.1 (sc + 6))), (1, .int v1)] [] st := by
  intro n
  induction n with
  | zero =>
    intro v1 st hf
    cases hf
  | succ n ih =>
    intro v1 st hf
    rw [F_X1_passYear_2] at hf
    refine x_iload_n hh dX1_passYear_2 rfl 1 rfl 3 rfl ?_
    refine x_aload_n hh dX1_passYear_3 rfl 0 rfl 4 rfl ?_
    refine x_getR hh cl_1 dX1_passYear_4 hev.1 0 1 rfl (Nat.le_of_ble_eq_true rfl) wd_193 7 rfl ?_
    refine x_getI hh cl_3 dX1_passYear_7 sh_1 1 rfl (Nat.le_of_ble_eq_true rfl) wd_115 10 rfl ?_
    refine x_icmp_ge hh dX1_passYear_10 79 rfl 13 rfl (fun hc1 => ?_) (fun hc1 => ?_)
    · have hf := t_pos hc1 hf
      obtain rfl := ret1 hf
      exact x_vret hh hr dX1_passYear_79
    · have hf := t_neg hc1 hf
      refine x_aload_n hh dX1_passYear_13 rfl 0 rfl 14 rfl ?_
      refine x_getR hh cl_1 dX1_passYear_14 hev.1 1 sc rfl (Nat.le_of_ble_eq_true rfl) wd_194 17 rfl ?_
      refine x_getR hh cl_6 dX1_passYear_17 hev.2.1 3 (sc + 4) rfl (Nat.le_of_ble_eq_true rfl) wd_167 20 rfl ?_
      refine x_iload_n hh dX1_passYear_20 rfl 1 rfl 21 rfl ?_
      obtain ⟨hi2, hf⟩ := gi_some hf
      refine x_iaload hh dX1_passYear_21 hev.2.2.2.2.2.1 hi2 22 rfl ?_
      refine x_bipush hh dX1_passYear_22 20 rfl 24 rfl ?_
      refine x_icmp_ge hh dX1_passYear_24 60 rfl 27 rfl (fun hc3 => ?_) (fun hc3 => ?_)
      · have hf := t_pos hc3 hf
        exact Z_X1_passYear_60 hX hev hh hr ih  v1 st hf
      · have hf := t_neg hc3 hf
        refine x_aload_n hh dX1_passYear_27 rfl 0 rfl 28 rfl ?_
        refine x_getR hh cl_1 dX1_passYear_28 hev.1 1 sc rfl (Nat.le_of_ble_eq_true rfl) wd_194 31 rfl ?_
        refine x_getR hh cl_6 dX1_passYear_31 hev.2.1 4 (sc + 5) rfl (Nat.le_of_ble_eq_true rfl) wd_171 34 rfl ?_
        refine x_iload_n hh dX1_passYear_34 rfl 1 rfl 35 rfl ?_
        refine x_bipush hh dX1_passYear_35 90 rfl 37 rfl ?_
        refine x_aload_n hh dX1_passYear_37 rfl 0 rfl 38 rfl ?_
        refine x_getR hh cl_1 dX1_passYear_38 hev.1 1 sc rfl (Nat.le_of_ble_eq_true rfl) wd_194 41 rfl ?_
        refine x_getR hh cl_6 dX1_passYear_41 hev.2.1 4 (sc + 5) rfl (Nat.le_of_ble_eq_true rfl) wd_171 44 rfl ?_
        refine x_iload_n hh dX1_passYear_44 rfl 1 rfl 45 rfl ?_
        obtain ⟨hi4, hf⟩ := gi_some hf
        refine x_iaload hh dX1_passYear_45 hev.2.2.2.2.2.2 hi4 46 rfl ?_
        refine x_aload_n hh dX1_passYear_46 rfl 0 rfl 47 rfl ?_
        refine x_getR hh cl_1 dX1_passYear_47 hev.1 0 1 rfl (Nat.le_of_ble_eq_true rfl) wd_193 50 rfl ?_
        refine x_getR hh cl_3 dX1_passYear_50 sh_1 8 7 rfl (Nat.le_of_ble_eq_true rfl) wd_137 53 rfl ?_
        refine x_iload_n hh dX1_passYear_53 rfl 1 rfl 54 rfl ?_
        obtain ⟨hi5, hf⟩ := gi_some hf
        refine x_iaload hh dX1_passYear_54 sh_7 hi5 55 rfl ?_
        refine x_iadd hh dX1_passYear_55 56 rfl ?_
        refine x_mmin hh dX1_passYear_56 wd_572 wd_426 wd_89 wd_427 ⟨Nat.le_of_ble_eq_true rfl, Nat.le_of_ble_eq_true rfl⟩ 59 rfl ?_
        obtain ⟨hi6, hf⟩ := gi_some hf
        obtain ⟨st7, est7, hf⟩ := bs_some hf
        refine x_iastore hh dX1_passYear_59 hev.2.2.2.2.2.2 hi6 60 rfl st7 est7 ?_
        exact Z_X1_passYear_60 hX hev hh hr ih  v1 st7 hf
def F_X1_passYear_0 (sc : Nat) (st : St) : Option (St) := F_X1_passYear_2 sc fN 0 st
set_option maxRecDepth 100000 in
set_option maxHeartbeats 4000000 in
theorem Z_X1_passYear_0 {l : Launch} {X : Cx} (hX : Ok X) {sc : Nat} (hev : Ev sc) {p : Program} {e : Env} {s : State} {m : MethodId} {args : Array Value} {below : List Frame} {meth : Method} {c : Code} {st' : St} (hh : Hy X p s m args meth c cX1_passYear 2 RX1) (hr : meth.sig.returnType = none) (st : St) (hf : F_X1_passYear_0 sc st = some st') : Z X p l e (rmk 1) s m args below meth c 2 (MQ below (Qf X none st') args s 0 0 (cA X)) 0 [(0, .ref (X.2.1 (sc + 6)))] [] st := by
  unfold F_X1_passYear_0 at hf
  refine x_iconst hh dX1_passYear_0 0 rfl 1 rfl ?_
  refine x_istore_n hh dX1_passYear_1 rfl (by decide) [(1, .int 0), (0, .ref (X.2.1 (sc + 6)))] rfl 2 rfl ?_
  refine x_sub (lv' := [(0, .ref (X.2.1 (sc + 6))), (1, .int 0)]) [1, 0] rfl ?_
  exact Z_X1_passYear_2 hX hev hh hr fN 0 st hf
def F_X1_passYear (sc : Nat) (st : St) : Option (St) := F_X1_passYear_0 sc st
set_option maxRecDepth 100000 in
theorem C_X1_passYear (l : Launch) {X : Cx} (hX : Ok X) {sc : Nat} (hev : Ev sc) {st : St} {q : St} (hf : F_X1_passYear sc st = some q) : Ct l X 1 yX1_passYear (.code yX1_passYear cX1_passYear 2 (none)) [.ref (X.2.1 (sc + 6))] st none q := by
  refine Ct.of hX (by decide) (Nat.le_of_ble_eq_true rfl) ?_
  intro p e s m args below meth c hh hr
  exact Z_X1_passYear_0 hX hev hh hr st hf

def F_X1_roomsWithFault_30 (sc : Nat) (k4 : Int32 → Int32 → St → Option (Int32 × St)) (v1 : Int32) (v2 : Int32) (st : St) : Option (Int32 × St) := k4 v1 (v2 + 1) st
set_option maxRecDepth 100000 in
set_option maxHeartbeats 4000000 in
theorem Z_X1_roomsWithFault_30 {l : Launch} {X : Cx} (hX : Ok X) {sc : Nat} (hev : Ev sc) {p : Program} {e : Env} {s : State} {m : MethodId} {args : Array Value} {below : List Frame} {meth : Method} {c : Code} {rr : Int32} {st' : St} (hh : Hy X p s m args meth c cX1_roomsWithFault 3 RX1) (hr : meth.sig.returnType = some .int) {k4 : Int32 → Int32 → St → Option (Int32 × St)} (hk4 : ∀ (v1 : Int32) (v2 : Int32) (st : St), k4 v1 v2 st = some (rr, st') → Z X p l e (rmk 4) s m args below meth c 3 (MQ below (Qf X (some (.int rr)) st') args s 0 0 (cA X)) 4 [(0, .ref (X.2.1 (sc + 6))), (1, .int v1), (2, .int v2)] [] st) (v1 : Int32) (v2 : Int32) (st : St) (hf : F_X1_roomsWithFault_30 sc k4 v1 v2 st = some (rr, st')) : Z X p l e (rmk 4) s m args below meth c 3 (MQ below (Qf X (some (.int rr)) st') args s 0 0 (cA X)) 30 [(0, .ref (X.2.1 (sc + 6))), (1, .int v1), (2, .int v2)] [] st := by
  unfold F_X1_roomsWithFault_30 at hf
  refine x_iinc hh dX1_roomsWithFault_30 2 rfl (v2 + 1) rfl (by decide) [(2, .int (v2 + 1)), (0, .ref (X.2.1 (sc + 6))), (1, .int v1)] rfl 33 rfl ?_
  refine x_goto hh dX1_roomsWithFault_33 4 rfl ?_
  refine x_sub (lv' := [(0, .ref (X.2.1 (sc + 6))), (1, .int v1), (2, .int (v2 + 1))]) [1, 2, 0] rfl ?_
  exact hk4 v1 (v2 + 1) st hf
def F_X1_roomsWithFault_4 (sc : Nat) : Nat → Int32 → Int32 → St → Option (Int32 × St)
  | 0, _, _, _ => none
  | n + 1, v1, v2, st => if (st.1 1 0) ≤ v2 then some (v1, st) else (F_X1_firstTooHigh sc v2 st).bind (fun q2 => if q2.1 = ((-1)) then F_X1_roomsWithFault_30 sc (F_X1_roomsWithFault_4 sc n) v1 v2 q2.2 else F_X1_roomsWithFault_30 sc (F_X1_roomsWithFault_4 sc n) (v1 ||| (1 <<< (v2 &&& 31))) v2 q2.2)
set_option maxRecDepth 100000 in
set_option maxHeartbeats 4000000 in
theorem Z_X1_roomsWithFault_4 {l : Launch} {X : Cx} (hX : Ok X) {sc : Nat} (hev : Ev sc) {p : Program} {e : Env} {s : State} {m : MethodId} {args : Array Value} {below : List Frame} {meth : Method} {c : Code} {rr : Int32} {st' : St} (hh : Hy X p s m args meth c cX1_roomsWithFault 3 RX1) (hr : meth.sig.returnType = some .int) : ∀ (n : Nat) (v1 : Int32) (v2 : Int32) (st : St), F_X1_roomsWithFault_4 sc n v1 v2 st = some (rr, st') → Z X p l e (rmk 4) s m args below meth c 3 (MQ below (Qf X (some (.int rr)) st') args s 0 0 (cA X)) 4 [(0, .ref (X.2.1 (sc + 6))), (1, .int v1), (2, .int v2)] [] st := by
  intro n
  induction n with
  | zero =>
    intro v1 v2 st hf
    cases hf
  | succ n ih =>
    intro v1 v2 st hf
    rw [F_X1_roomsWithFault_4] at hf
    refine x_iload_n hh dX1_roomsWithFault_4 rfl 2 rfl 5 rfl ?_
    refine x_aload_n hh dX1_roomsWithFault_5 rfl 0 rfl 6 rfl ?_
    refine x_getR hh cl_1 dX1_roomsWithFault_6 hev.1 0 1 rfl (Nat.le_of_ble_eq_true rfl) wd_193 9 rfl ?_
    refine x_getI hh cl_3 dX1_roomsWithFault_9 sh_1 0 rfl (Nat.le_of_ble_eq_true rfl) wd_110 12 rfl ?_
    refine x_icmp_ge hh dX1_roomsWithFault_12 36 rfl 15 rfl (fun hc1 => ?_) (fun hc1 => ?_)
    · have hf := t_pos hc1 hf
      refine x_iload_n hh dX1_roomsWithFault_36 rfl 1 rfl 37 rfl ?_
      obtain ⟨rfl, rfl⟩ := ret2 hf
      exact x_iret hh hr dX1_roomsWithFault_37
    · have hf := t_neg hc1 hf
      refine x_aload_n hh dX1_roomsWithFault_15 rfl 0 rfl 16 rfl ?_
      refine x_iload_n hh dX1_roomsWithFault_16 rfl 2 rfl 17 rfl ?_
      obtain ⟨q2, hq2, hf⟩ := b_some hf
      refine x_callV (rest := []) hh mi_X1_firstTooHigh [.int v2] dX1_roomsWithFault_17 hev.1 wd_588 (C_X1_firstTooHigh l hX hev hq2) rfl rfl ⟨Nat.le_of_ble_eq_true rfl, Nat.le_of_ble_eq_true rfl⟩ (Nat.le_of_ble_eq_true rfl) 20 rfl [.int q2.1] rfl ?_
      refine x_iconst hh dX1_roomsWithFault_20 (-1) rfl 21 rfl ?_
      refine x_icmp_eq hh dX1_roomsWithFault_21 30 rfl 24 rfl (fun hc3 => ?_) (fun hc3 => ?_)
      · have hf := t_pos hc3 hf
        exact Z_X1_roomsWithFault_30 hX hev hh hr ih  v1 v2 q2.2 hf
      · have hf := t_neg hc3 hf
        refine x_iload_n hh dX1_roomsWithFault_24 rfl 1 rfl 25 rfl ?_
        refine x_iconst hh dX1_roomsWithFault_25 1 rfl 26 rfl ?_
        refine x_iload_n hh dX1_roomsWithFault_26 rfl 2 rfl 27 rfl ?_
        refine x_ishl hh dX1_roomsWithFault_27 28 rfl ?_
        refine x_ior hh dX1_roomsWithFault_28 29 rfl ?_
        refine x_istore_n hh dX1_roomsWithFault_29 rfl (by decide) [(1, .int (v1 ||| (1 <<< (v2 &&& 31)))), (0, .ref (X.2.1 (sc + 6))), (2, .int v2)] rfl 30 rfl ?_
        refine x_sub (lv' := [(0, .ref (X.2.1 (sc + 6))), (1, .int (v1 ||| (1 <<< (v2 &&& 31)))), (2, .int v2)]) [1, 0, 2] rfl ?_
        exact Z_X1_roomsWithFault_30 hX hev hh hr ih  (v1 ||| (1 <<< (v2 &&& 31))) v2 q2.2 hf
def F_X1_roomsWithFault_0 (sc : Nat) (st : St) : Option (Int32 × St) := F_X1_roomsWithFault_4 sc fN 0 0 st
set_option maxRecDepth 100000 in
set_option maxHeartbeats 4000000 in
theorem Z_X1_roomsWithFault_0 {l : Launch} {X : Cx} (hX : Ok X) {sc : Nat} (hev : Ev sc) {p : Program} {e : Env} {s : State} {m : MethodId} {args : Array Value} {below : List Frame} {meth : Method} {c : Code} {rr : Int32} {st' : St} (hh : Hy X p s m args meth c cX1_roomsWithFault 3 RX1) (hr : meth.sig.returnType = some .int) (st : St) (hf : F_X1_roomsWithFault_0 sc st = some (rr, st')) : Z X p l e (rmk 4) s m args below meth c 3 (MQ below (Qf X (some (.int rr)) st') args s 0 0 (cA X)) 0 [(0, .ref (X.2.1 (sc + 6)))] [] st := by
  unfold F_X1_roomsWithFault_0 at hf
  refine x_iconst hh dX1_roomsWithFault_0 0 rfl 1 rfl ?_
  refine x_istore_n hh dX1_roomsWithFault_1 rfl (by decide) [(1, .int 0), (0, .ref (X.2.1 (sc + 6)))] rfl 2 rfl ?_
  refine x_iconst hh dX1_roomsWithFault_2 0 rfl 3 rfl ?_
  refine x_istore_n hh dX1_roomsWithFault_3 rfl (by decide) [(2, .int 0), (1, .int 0), (0, .ref (X.2.1 (sc + 6)))] rfl 4 rfl ?_
  refine x_sub (lv' := [(0, .ref (X.2.1 (sc + 6))), (1, .int 0), (2, .int 0)]) [2, 1, 0] rfl ?_
  exact Z_X1_roomsWithFault_4 hX hev hh hr fN 0 0 st hf
def F_X1_roomsWithFault (sc : Nat) (st : St) : Option (Int32 × St) := F_X1_roomsWithFault_0 sc st
set_option maxRecDepth 100000 in
theorem C_X1_roomsWithFault (l : Launch) {X : Cx} (hX : Ok X) {sc : Nat} (hev : Ev sc) {st : St} {q : Int32 × St} (hf : F_X1_roomsWithFault sc st = some q) : Ct l X 4 yX1_roomsWithFault (.code yX1_roomsWithFault cX1_roomsWithFault 3 (some .int)) [.ref (X.2.1 (sc + 6))] st (some (.int q.1)) q.2 := by
  refine Ct.of hX (by decide) (Nat.le_of_ble_eq_true rfl) ?_
  intro p e s m args below meth c hh hr
  exact Z_X1_roomsWithFault_0 hX hev hh hr st hf

def F_X1_lowestFree_69 (sc : Nat) (k4 : Int32 → Int32 → Int32 → St → Option (Int32 × St)) (v1 : Int32) (v2 : Int32) (v3 : Int32) (st : St) : Option (Int32 × St) := k4 v1 v2 (v3 + 1) st
set_option maxRecDepth 100000 in
set_option maxHeartbeats 4000000 in
theorem Z_X1_lowestFree_69 {l : Launch} {X : Cx} (hX : Ok X) {sc : Nat} (hev : Ev sc) {p : Program} {e : Env} {s : State} {m : MethodId} {args : Array Value} {below : List Frame} {meth : Method} {c : Code} {rr : Int32} {st' : St} (hh : Hy X p s m args meth c cX1_lowestFree 5 RX1) (hr : meth.sig.returnType = some .int) {k4 : Int32 → Int32 → Int32 → St → Option (Int32 × St)} (hk4 : ∀ (v1 : Int32) (v2 : Int32) (v3 : Int32) (st : St), k4 v1 v2 v3 st = some (rr, st') → Z X p l e (rmk 1) s m args below meth c 5 (MQ below (Qf X (some (.int rr)) st') args s 0 0 (cA X)) 4 [(0, .ref (X.2.1 (sc + 6))), (1, .int v1), (2, .int v2), (3, .int v3)] [] st) (v1 : Int32) (v2 : Int32) (v3 : Int32) (st : St) (hf : F_X1_lowestFree_69 sc k4 v1 v2 v3 st = some (rr, st')) : Z X p l e (rmk 1) s m args below meth c 5 (MQ below (Qf X (some (.int rr)) st') args s 0 0 (cA X)) 69 [(0, .ref (X.2.1 (sc + 6))), (1, .int v1), (2, .int v2), (3, .int v3)] [] st := by
  unfold F_X1_lowestFree_69 at hf
  refine x_iinc hh dX1_lowestFree_69 3 rfl (v3 + 1) rfl (by decide) [(3, .int (v3 + 1)), (0, .ref (X.2.1 (sc + 6))), (1, .int v1), (2, .int v2)] rfl 72 rfl ?_
  refine x_goto hh dX1_lowestFree_72 4 rfl ?_
  refine x_sub (lv' := [(0, .ref (X.2.1 (sc + 6))), (1, .int v1), (2, .int v2), (3, .int (v3 + 1))]) [1, 2, 3, 0] rfl ?_
  exact hk4 v1 v2 (v3 + 1) st hf
def F_X1_lowestFree_47 (sc : Nat) (k4 : Int32 → Int32 → Int32 → St → Option (Int32 × St)) (v1 : Int32) (v2 : Int32) (v3 : Int32) (t0 : Int32) (st : St) : Option (Int32 × St) := if t0 = 0 then F_X1_lowestFree_69 sc k4 v1 v2 v3 st else (F_X6_whoIsAt sc v1 v3 st).bind (fun q8 => if q8.1 = ((-1)) then F_X1_lowestFree_69 sc k4 v1 v3 v3 q8.2 else F_X1_lowestFree_69 sc k4 v1 v2 v3 q8.2)
set_option maxRecDepth 100000 in
set_option maxHeartbeats 4000000 in
theorem Z_X1_lowestFree_47 {l : Launch} {X : Cx} (hX : Ok X) {sc : Nat} (hev : Ev sc) {p : Program} {e : Env} {s : State} {m : MethodId} {args : Array Value} {below : List Frame} {meth : Method} {c : Code} {rr : Int32} {st' : St} (hh : Hy X p s m args meth c cX1_lowestFree 5 RX1) (hr : meth.sig.returnType = some .int) {k4 : Int32 → Int32 → Int32 → St → Option (Int32 × St)} (hk4 : ∀ (v1 : Int32) (v2 : Int32) (v3 : Int32) (st : St), k4 v1 v2 v3 st = some (rr, st') → Z X p l e (rmk 1) s m args below meth c 5 (MQ below (Qf X (some (.int rr)) st') args s 0 0 (cA X)) 4 [(0, .ref (X.2.1 (sc + 6))), (1, .int v1), (2, .int v2), (3, .int v3)] [] st) (v1 : Int32) (v2 : Int32) (v3 : Int32) (t0 : Int32) (st : St) (hf : F_X1_lowestFree_47 sc k4 v1 v2 v3 t0 st = some (rr, st')) : Z X p l e (rmk 1) s m args below meth c 5 (MQ below (Qf X (some (.int rr)) st') args s 0 0 (cA X)) 47 [(0, .ref (X.2.1 (sc + 6))), (1, .int v1), (2, .int v2), (3, .int v3)] [.int t0] st := by
  unfold F_X1_lowestFree_47 at hf
  refine x_istore hh dX1_lowestFree_47 (by decide) [(4, .int t0), (0, .ref (X.2.1 (sc + 6))), (1, .int v1), (2, .int v2), (3, .int v3)] rfl 49 rfl ?_
  refine x_iload hh dX1_lowestFree_49 0 rfl 51 rfl ?_
  refine x_if_eq hh dX1_lowestFree_51 69 rfl 54 rfl (fun hc7 => ?_) (fun hc7 => ?_)
  · have hf := t_pos hc7 hf
    refine x_sub (lv' := [(0, .ref (X.2.1 (sc + 6))), (1, .int v1), (2, .int v2), (3, .int v3)]) [1, 2, 3, 4] rfl ?_
    exact Z_X1_lowestFree_69 hX hev hh hr hk4  v1 v2 v3 st hf
  · have hf := t_neg hc7 hf
    refine x_aload_n hh dX1_lowestFree_54 rfl 1 rfl 55 rfl ?_
    refine x_getR hh cl_1 dX1_lowestFree_55 hev.1 1 sc rfl (Nat.le_of_ble_eq_true rfl) wd_194 58 rfl ?_
    refine x_iload_n hh dX1_lowestFree_58 rfl 2 rfl 59 rfl ?_
    refine x_iload_n hh dX1_lowestFree_59 rfl 4 rfl 60 rfl ?_
    obtain ⟨q8, hq8, hf⟩ := b_some hf
    refine x_callV (rest := []) hh mi_X6_whoIsAt [.int v1, .int v3] dX1_lowestFree_60 hev.2.1 wd_606 (C_X6_whoIsAt l hX hev.2 hq8) rfl rfl ⟨Nat.le_of_ble_eq_true rfl, Nat.le_of_ble_eq_true rfl⟩ (Nat.le_of_ble_eq_true rfl) 63 rfl [.int q8.1] rfl ?_
    refine x_iconst hh dX1_lowestFree_63 (-1) rfl 64 rfl ?_
    refine x_icmp_ne hh dX1_lowestFree_64 69 rfl 67 rfl (fun hc9 => ?_) (fun hc9 => ?_)
    · have hf := t_neg hc9 hf
      refine x_sub (lv' := [(0, .ref (X.2.1 (sc + 6))), (1, .int v1), (2, .int v2), (3, .int v3)]) [1, 2, 3, 4] rfl ?_
      exact Z_X1_lowestFree_69 hX hev hh hr hk4  v1 v2 v3 q8.2 hf
    · have hf := t_pos hc9 hf
      refine x_iload_n hh dX1_lowestFree_67 rfl 4 rfl 68 rfl ?_
      refine x_istore_n hh dX1_lowestFree_68 rfl (by decide) [(2, .int v3), (4, .int t0), (0, .ref (X.2.1 (sc + 6))), (1, .int v1), (3, .int v3)] rfl 69 rfl ?_
      refine x_sub (lv' := [(0, .ref (X.2.1 (sc + 6))), (1, .int v1), (2, .int v3), (3, .int v3)]) [2, 3, 0, 4] rfl ?_
      exact Z_X1_lowestFree_69 hX hev hh hr hk4  v1 v3 v3 q8.2 hf
def F_X1_lowestFree_42 (sc : Nat) (k4 : Int32 → Int32 → Int32 → St → Option (Int32 × St)) (v1 : Int32) (v2 : Int32) (v3 : Int32) (st : St) : Option (Int32 × St) := F_X1_lowestFree_47 sc k4 v1 v2 v3 1 st
set_option maxRecDepth 100000 in
set_option maxHeartbeats 4000000 in
theorem Z_X1_lowestFree_42 {l : Launch} {X : Cx} (hX : Ok X) {sc : Nat} (hev : Ev sc) {p : Program} {e : Env} {s : State} {m : MethodId} {args : Array Value} {below : List Frame} {meth : Method} {c : Code} {rr : Int32} {st' : St} (hh : Hy X p s m args meth c cX1_lowestFree 5 RX1) (hr : meth.sig.returnType = some .int) {k4 : Int32 → Int32 → Int32 → St → Option (Int32 × St)} (hk4 : ∀ (v1 : Int32) (v2 : Int32) (v3 : Int32) (st : St), k4 v1 v2 v3 st = some (rr, st') → Z X p l e (rmk 1) s m args below meth c 5 (MQ below (Qf X (some (.int rr)) st') args s 0 0 (cA X)) 4 [(0, .ref (X.2.1 (sc + 6))), (1, .int v1), (2, .int v2), (3, .int v3)] [] st) (v1 : Int32) (v2 : Int32) (v3 : Int32) (st : St) (hf : F_X1_lowestFree_42 sc k4 v1 v2 v3 st = some (rr, st')) : Z X p l e (rmk 1) s m args below meth c 5 (MQ below (Qf X (some (.int rr)) st') args s 0 0 (cA X)) 42 [(0, .ref (X.2.1 (sc + 6))), (1, .int v1), (2, .int v2), (3, .int v3)] [] st := by
  unfold F_X1_lowestFree_42 at hf
  refine x_iconst hh dX1_lowestFree_42 1 rfl 43 rfl ?_
  refine x_goto hh dX1_lowestFree_43 47 rfl ?_
  exact Z_X1_lowestFree_47 hX hev hh hr hk4  v1 v2 v3 1 st hf
def F_X1_lowestFree_4 (sc : Nat) : Nat → Int32 → Int32 → Int32 → St → Option (Int32 × St)
  | 0, _, _, _, _ => none
  | n + 1, v1, v2, v3, st => (F_X3_placesOf 1 v1 st).bind (fun q1 => if q1.1 ≤ v3 then some (v2, q1.2) else if v2 = ((-1)) then F_X1_lowestFree_42 sc (F_X1_lowestFree_4 sc n) v1 v2 v3 q1.2 else (F_X3_floorAt 1 v1 v3 q1.2).bind (fun q4 => (F_X3_floorAt 1 v1 v2 q4.2).bind (fun q5 => if q5.1 ≤ q4.1 then F_X1_lowestFree_47 sc (F_X1_lowestFree_4 sc n) v1 v2 v3 0 q5.2 else F_X1_lowestFree_42 sc (F_X1_lowestFree_4 sc n) v1 v2 v3 q5.2)))
set_option maxRecDepth 100000 in
set_option maxHeartbeats 4000000 in
theorem Z_X1_lowestFree_4 {l : Launch} {X : Cx} (hX : Ok X) {sc : Nat} (hev : Ev sc) {p : Program} {e : Env} {s : State} {m : MethodId} {args : Array Value} {below : List Frame} {meth : Method} {c : Code} {rr : Int32} {st' : St} (hh : Hy X p s m args meth c cX1_lowestFree 5 RX1) (hr : meth.sig.returnType = some .int) : ∀ (n : Nat) (v1 : Int32) (v2 : Int32) (v3 : Int32) (st : St), F_X1_lowestFree_4 sc n v1 v2 v3 st = some (rr, st') → Z X p l e (rmk 1) s m args below meth c 5 (MQ below (Qf X (some (.int rr)) st') args s 0 0 (cA X)) 4 [(0, .ref (X.2.1 (sc + 6))), (1, .int v1), (2, .int v2), (3, .int v3)] [] st := by
  intro n
  induction n with
  | zero =>
    intro v1 v2 v3 st hf
    cases hf
  | succ n ih =>
    intro v1 v2 v3 st hf
    rw [F_X1_lowestFree_4] at hf
    refine x_iload_n hh dX1_lowestFree_4 rfl 3 rfl 5 rfl ?_
    refine x_aload_n hh dX1_lowestFree_5 rfl 0 rfl 6 rfl ?_
    refine x_getR hh cl_1 dX1_lowestFree_6 hev.1 0 1 rfl (Nat.le_of_ble_eq_true rfl) wd_193 9 rfl ?_
    refine x_iload_n hh dX1_lowestFree_9 rfl 1 rfl 10 rfl ?_
    obtain ⟨q1, hq1, hf⟩ := b_some hf
    refine x_callV (rest := [.int v3]) hh mi_X3_placesOf [.int v1] dX1_lowestFree_10 sh_1 wd_605 (C_X3_placesOf l hX ho_1 hq1) rfl rfl ⟨Nat.le_of_ble_eq_true rfl, Nat.le_of_ble_eq_true rfl⟩ (Nat.le_of_ble_eq_true rfl) 13 rfl [.int q1.1, .int v3] rfl ?_
    refine x_icmp_ge hh dX1_lowestFree_13 75 rfl 16 rfl (fun hc2 => ?_) (fun hc2 => ?_)
    · have hf := t_pos hc2 hf
      refine x_iload_n hh dX1_lowestFree_75 rfl 2 rfl 76 rfl ?_
      obtain ⟨rfl, rfl⟩ := ret2 hf
      exact x_iret hh hr dX1_lowestFree_76
    · have hf := t_neg hc2 hf
      refine x_iload_n hh dX1_lowestFree_16 rfl 2 rfl 17 rfl ?_
      refine x_iconst hh dX1_lowestFree_17 (-1) rfl 18 rfl ?_
      refine x_icmp_eq hh dX1_lowestFree_18 42 rfl 21 rfl (fun hc3 => ?_) (fun hc3 => ?_)
      · have hf := t_pos hc3 hf
        exact Z_X1_lowestFree_42 hX hev hh hr ih  v1 v2 v3 q1.2 hf
      · have hf := t_neg hc3 hf
        refine x_aload_n hh dX1_lowestFree_21 rfl 0 rfl 22 rfl ?_
        refine x_getR hh cl_1 dX1_lowestFree_22 hev.1 0 1 rfl (Nat.le_of_ble_eq_true rfl) wd_193 25 rfl ?_
        refine x_iload_n hh dX1_lowestFree_25 rfl 1 rfl 26 rfl ?_
        refine x_iload_n hh dX1_lowestFree_26 rfl 3 rfl 27 rfl ?_
        obtain ⟨q4, hq4, hf⟩ := b_some hf
        refine x_callV (rest := []) hh mi_X3_floorAt [.int v1, .int v3] dX1_lowestFree_27 sh_1 wd_501 (C_X3_floorAt l hX ho_1 hq4) rfl rfl ⟨Nat.le_of_ble_eq_true rfl, Nat.le_of_ble_eq_true rfl⟩ (Nat.le_of_ble_eq_true rfl) 30 rfl [.int q4.1] rfl ?_
        refine x_aload_n hh dX1_lowestFree_30 rfl 0 rfl 31 rfl ?_
        refine x_getR hh cl_1 dX1_lowestFree_31 hev.1 0 1 rfl (Nat.le_of_ble_eq_true rfl) wd_193 34 rfl ?_
        refine x_iload_n hh dX1_lowestFree_34 rfl 1 rfl 35 rfl ?_
        refine x_iload_n hh dX1_lowestFree_35 rfl 2 rfl 36 rfl ?_
        obtain ⟨q5, hq5, hf⟩ := b_some hf
        refine x_callV (rest := [.int q4.1]) hh mi_X3_floorAt [.int v1, .int v2] dX1_lowestFree_36 sh_1 wd_501 (C_X3_floorAt l hX ho_1 hq5) rfl rfl ⟨Nat.le_of_ble_eq_true rfl, Nat.le_of_ble_eq_true rfl⟩ (Nat.le_of_ble_eq_true rfl) 39 rfl [.int q5.1, .int q4.1] rfl ?_
        refine x_icmp_ge hh dX1_lowestFree_39 46 rfl 42 rfl (fun hc6 => ?_) (fun hc6 => ?_)
        · have hf := t_pos hc6 hf
          refine x_iconst hh dX1_lowestFree_46 0 rfl 47 rfl ?_
          exact Z_X1_lowestFree_47 hX hev hh hr ih  v1 v2 v3 0 q5.2 hf
        · have hf := t_neg hc6 hf
          exact Z_X1_lowestFree_42 hX hev hh hr ih  v1 v2 v3 q5.2 hf
def F_X1_lowestFree_0 (sc : Nat) (v1 : Int32) (st : St) : Option (Int32 × St) := F_X1_lowestFree_4 sc fN v1 ((-1)) 0 st
set_option maxRecDepth 100000 in
set_option maxHeartbeats 4000000 in
theorem Z_X1_lowestFree_0 {l : Launch} {X : Cx} (hX : Ok X) {sc : Nat} (hev : Ev sc) {p : Program} {e : Env} {s : State} {m : MethodId} {args : Array Value} {below : List Frame} {meth : Method} {c : Code} {rr : Int32} {st' : St} (hh : Hy X p s m args meth c cX1_lowestFree 5 RX1) (hr : meth.sig.returnType = some .int) (v1 : Int32) (st : St) (hf : F_X1_lowestFree_0 sc v1 st = some (rr, st')) : Z X p l e (rmk 1) s m args below meth c 5 (MQ below (Qf X (some (.int rr)) st') args s 0 0 (cA X)) 0 [(0, .ref (X.2.1 (sc + 6))), (1, .int v1)] [] st := by
  unfold F_X1_lowestFree_0 at hf
  refine x_iconst hh dX1_lowestFree_0 (-1) rfl 1 rfl ?_
  refine x_istore_n hh dX1_lowestFree_1 rfl (by decide) [(2, .int ((-1))), (0, .ref (X.2.1 (sc + 6))), (1, .int v1)] rfl 2 rfl ?_
  refine x_iconst hh dX1_lowestFree_2 0 rfl 3 rfl ?_
  refine x_istore_n hh dX1_lowestFree_3 rfl (by decide) [(3, .int 0), (2, .int ((-1))), (0, .ref (X.2.1 (sc + 6))), (1, .int v1)] rfl 4 rfl ?_
  refine x_sub (lv' := [(0, .ref (X.2.1 (sc + 6))), (1, .int v1), (2, .int ((-1))), (3, .int 0)]) [2, 3, 1, 0] rfl ?_
  exact Z_X1_lowestFree_4 hX hev hh hr fN v1 ((-1)) 0 st hf
def F_X1_lowestFree (sc : Nat) (v1 : Int32) (st : St) : Option (Int32 × St) := F_X1_lowestFree_0 sc v1 st
set_option maxRecDepth 100000 in
theorem C_X1_lowestFree (l : Launch) {X : Cx} (hX : Ok X) {sc : Nat} (hev : Ev sc) {v1 : Int32} {st : St} {q : Int32 × St} (hf : F_X1_lowestFree sc v1 st = some q) : Ct l X 1 yX1_lowestFree (.code yX1_lowestFree cX1_lowestFree 5 (some .int)) [.ref (X.2.1 (sc + 6)), .int v1] st (some (.int q.1)) q.2 := by
  refine Ct.of hX (by decide) (Nat.le_of_ble_eq_true rfl) ?_
  intro p e s m args below meth c hh hr
  exact Z_X1_lowestFree_0 hX hev hh hr v1 st hf

def F_X1_moveDownOrOut_61 (sc : Nat) (st : St) : Option (St) := some st
set_option maxRecDepth 100000 in
set_option maxHeartbeats 4000000 in
theorem Z_X1_moveDownOrOut_61 {l : Launch} {X : Cx} (hX : Ok X) {sc : Nat} (hev : Ev sc) {p : Program} {e : Env} {s : State} {m : MethodId} {args : Array Value} {below : List Frame} {meth : Method} {c : Code} {st' : St} (hh : Hy X p s m args meth c cX1_moveDownOrOut 4 RX1) (hr : meth.sig.returnType = none) (st : St) (hf : F_X1_moveDownOrOut_61 sc st = some st') : Z X p l e (rmk 2) s m args below meth c 4 (MQ below (Qf X none st') args s 0 0 (cA X)) 61 [(0, .ref (X.2.1 (sc + 6)))] [] st := by
  unfold F_X1_moveDownOrOut_61 at hf
  obtain rfl := ret1 hf
  exact x_vret hh hr dX1_moveDownOrOut_61
def F_X1_moveDownOrOut_53 (sc : Nat) (v1 : Int32) (st : St) : Option (St) := (F_X6_goOut sc v1 st).bind (fun q8 => F_X1_moveDownOrOut_61 sc q8)
set_option maxRecDepth 100000 in
set_option maxHeartbeats 4000000 in
theorem Z_X1_moveDownOrOut_53 {l : Launch} {X : Cx} (hX : Ok X) {sc : Nat} (hev : Ev sc) {p : Program} {e : Env} {s : State} {m : MethodId} {args : Array Value} {below : List Frame} {meth : Method} {c : Code} {st' : St} (hh : Hy X p s m args meth c cX1_moveDownOrOut 4 RX1) (hr : meth.sig.returnType = none) (v1 : Int32) (st : St) (hf : F_X1_moveDownOrOut_53 sc v1 st = some st') : Z X p l e (rmk 2) s m args below meth c 4 (MQ below (Qf X none st') args s 0 0 (cA X)) 53 [(0, .ref (X.2.1 (sc + 6))), (1, .int v1)] [] st := by
  unfold F_X1_moveDownOrOut_53 at hf
  refine x_aload_n hh dX1_moveDownOrOut_53 rfl 0 rfl 54 rfl ?_
  refine x_getR hh cl_1 dX1_moveDownOrOut_54 hev.1 1 sc rfl (Nat.le_of_ble_eq_true rfl) wd_194 57 rfl ?_
  refine x_iload_n hh dX1_moveDownOrOut_57 rfl 1 rfl 58 rfl ?_
  obtain ⟨q8, hq8, hf⟩ := b_some hf
  refine x_callV (rest := []) hh mi_X6_goOut [.int v1] dX1_moveDownOrOut_58 hev.2.1 wd_607 (C_X6_goOut l hX hev.2 hq8) rfl rfl ⟨Nat.le_of_ble_eq_true rfl, Nat.le_of_ble_eq_true rfl⟩ (Nat.le_of_ble_eq_true rfl) 61 rfl [] rfl ?_
  refine x_sub (lv' := [(0, .ref (X.2.1 (sc + 6)))]) [0] rfl ?_
  exact Z_X1_moveDownOrOut_61 hX hev hh hr  q8 hf
def F_X1_moveDownOrOut_0 (sc : Nat) (v1 : Int32) (v2 : Int32) (st : St) : Option (St) := (F_X1_lowestFree sc v2 st).bind (fun q1 => if q1.1 = ((-1)) then F_X1_moveDownOrOut_53 sc v1 q1.2 else (F_X3_floorAt 1 v2 q1.1 q1.2).bind (fun q3 => gi v1 6 ((F_X3_floorAt 1 v2 (q3.2.1 (sc + 2) v1.toNatClampNeg) q3.2).bind (fun q5 => if q5.1 ≤ q3.1 then F_X1_moveDownOrOut_53 sc v1 q5.2 else (F_X6_standAt sc v1 v2 q1.1 q5.2).bind (fun q7 => F_X1_moveDownOrOut_61 sc q7)))))
set_option maxRecDepth 100000 in
set_option maxHeartbeats 4000000 in
theorem Z_X1_moveDownOrOut_0 {l : Launch} {X : Cx} (hX : Ok X) {sc : Nat} (hev : Ev sc) {p : Program} {e : Env} {s : State} {m : MethodId} {args : Array Value} {below : List Frame} {meth : Method} {c : Code} {st' : St} (hh : Hy X p s m args meth c cX1_moveDownOrOut 4 RX1) (hr : meth.sig.returnType = none) (v1 : Int32) (v2 : Int32) (st : St) (hf : F_X1_moveDownOrOut_0 sc v1 v2 st = some st') : Z X p l e (rmk 2) s m args below meth c 4 (MQ below (Qf X none st') args s 0 0 (cA X)) 0 [(0, .ref (X.2.1 (sc + 6))), (1, .int v1), (2, .int v2)] [] st := by
  unfold F_X1_moveDownOrOut_0 at hf
  refine x_aload_n hh dX1_moveDownOrOut_0 rfl 0 rfl 1 rfl ?_
  refine x_iload_n hh dX1_moveDownOrOut_1 rfl 2 rfl 2 rfl ?_
  obtain ⟨q1, hq1, hf⟩ := b_some hf
  refine x_callV (rest := []) hh mi_X1_lowestFree [.int v2] dX1_moveDownOrOut_2 hev.1 wd_602 (C_X1_lowestFree l hX hev hq1) rfl rfl ⟨Nat.le_of_ble_eq_true rfl, Nat.le_of_ble_eq_true rfl⟩ (Nat.le_of_ble_eq_true rfl) 5 rfl [.int q1.1] rfl ?_
  refine x_istore_n hh dX1_moveDownOrOut_5 rfl (by decide) [(3, .int q1.1), (0, .ref (X.2.1 (sc + 6))), (1, .int v1), (2, .int v2)] rfl 6 rfl ?_
  refine x_iload_n hh dX1_moveDownOrOut_6 rfl 0 rfl 7 rfl ?_
  refine x_iconst hh dX1_moveDownOrOut_7 (-1) rfl 8 rfl ?_
  refine x_icmp_eq hh dX1_moveDownOrOut_8 53 rfl 11 rfl (fun hc2 => ?_) (fun hc2 => ?_)
  · have hf := t_pos hc2 hf
    refine x_sub (lv' := [(0, .ref (X.2.1 (sc + 6))), (1, .int v1)]) [1, 2] rfl ?_
    exact Z_X1_moveDownOrOut_53 hX hev hh hr  v1 q1.2 hf
  · have hf := t_neg hc2 hf
    refine x_aload_n hh dX1_moveDownOrOut_11 rfl 1 rfl 12 rfl ?_
    refine x_getR hh cl_1 dX1_moveDownOrOut_12 hev.1 0 1 rfl (Nat.le_of_ble_eq_true rfl) wd_193 15 rfl ?_
    refine x_iload_n hh dX1_moveDownOrOut_15 rfl 3 rfl 16 rfl ?_
    refine x_iload_n hh dX1_moveDownOrOut_16 rfl 0 rfl 17 rfl ?_
    obtain ⟨q3, hq3, hf⟩ := b_some hf
    refine x_callV (rest := []) hh mi_X3_floorAt [.int v2, .int q1.1] dX1_moveDownOrOut_17 sh_1 wd_501 (C_X3_floorAt l hX ho_1 hq3) rfl rfl ⟨Nat.le_of_ble_eq_true rfl, Nat.le_of_ble_eq_true rfl⟩ (Nat.le_of_ble_eq_true rfl) 20 rfl [.int q3.1] rfl ?_
    refine x_aload_n hh dX1_moveDownOrOut_20 rfl 1 rfl 21 rfl ?_
    refine x_getR hh cl_1 dX1_moveDownOrOut_21 hev.1 0 1 rfl (Nat.le_of_ble_eq_true rfl) wd_193 24 rfl ?_
    refine x_iload_n hh dX1_moveDownOrOut_24 rfl 3 rfl 25 rfl ?_
    refine x_aload_n hh dX1_moveDownOrOut_25 rfl 1 rfl 26 rfl ?_
    refine x_getR hh cl_1 dX1_moveDownOrOut_26 hev.1 1 sc rfl (Nat.le_of_ble_eq_true rfl) wd_194 29 rfl ?_
    refine x_getR hh cl_6 dX1_moveDownOrOut_29 hev.2.1 1 (sc + 2) rfl (Nat.le_of_ble_eq_true rfl) wd_161 32 rfl ?_
    refine x_iload_n hh dX1_moveDownOrOut_32 rfl 2 rfl 33 rfl ?_
    obtain ⟨hi4, hf⟩ := gi_some hf
    refine x_iaload hh dX1_moveDownOrOut_33 hev.2.2.2.1 hi4 34 rfl ?_
    obtain ⟨q5, hq5, hf⟩ := b_some hf
    refine x_callV (rest := [.int q3.1]) hh mi_X3_floorAt [.int v2, .int (q3.2.1 (sc + 2) v1.toNatClampNeg)] dX1_moveDownOrOut_34 sh_1 wd_501 (C_X3_floorAt l hX ho_1 hq5) rfl rfl ⟨Nat.le_of_ble_eq_true rfl, Nat.le_of_ble_eq_true rfl⟩ (Nat.le_of_ble_eq_true rfl) 37 rfl [.int q5.1, .int q3.1] rfl ?_
    refine x_icmp_ge hh dX1_moveDownOrOut_37 53 rfl 40 rfl (fun hc6 => ?_) (fun hc6 => ?_)
    · have hf := t_pos hc6 hf
      refine x_sub (lv' := [(0, .ref (X.2.1 (sc + 6))), (1, .int v1)]) [1, 2] rfl ?_
      exact Z_X1_moveDownOrOut_53 hX hev hh hr  v1 q5.2 hf
    · have hf := t_neg hc6 hf
      refine x_aload_n hh dX1_moveDownOrOut_40 rfl 1 rfl 41 rfl ?_
      refine x_getR hh cl_1 dX1_moveDownOrOut_41 hev.1 1 sc rfl (Nat.le_of_ble_eq_true rfl) wd_194 44 rfl ?_
      refine x_iload_n hh dX1_moveDownOrOut_44 rfl 2 rfl 45 rfl ?_
      refine x_iload_n hh dX1_moveDownOrOut_45 rfl 3 rfl 46 rfl ?_
      refine x_iload_n hh dX1_moveDownOrOut_46 rfl 0 rfl 47 rfl ?_
      obtain ⟨q7, hq7, hf⟩ := b_some hf
      refine x_callV (rest := []) hh mi_X6_standAt [.int v1, .int v2, .int q1.1] dX1_moveDownOrOut_47 hev.2.1 wd_597 (C_X6_standAt l hX hev.2 hq7) rfl rfl ⟨Nat.le_of_ble_eq_true rfl, Nat.le_of_ble_eq_true rfl⟩ (Nat.le_of_ble_eq_true rfl) 50 rfl [] rfl ?_
      refine x_goto hh dX1_moveDownOrOut_50 61 rfl ?_
      refine x_sub (lv' := [(0, .ref (X.2.1 (sc + 6)))]) [1] rfl ?_
      exact Z_X1_moveDownOrOut_61 hX hev hh hr  q7 hf
def F_X1_moveDownOrOut (sc : Nat) (v1 : Int32) (v2 : Int32) (st : St) : Option (St) := F_X1_moveDownOrOut_0 sc v1 v2 st
set_option maxRecDepth 100000 in
theorem C_X1_moveDownOrOut (l : Launch) {X : Cx} (hX : Ok X) {sc : Nat} (hev : Ev sc) {v1 : Int32} {v2 : Int32} {st : St} {q : St} (hf : F_X1_moveDownOrOut sc v1 v2 st = some q) : Ct l X 2 yX1_moveDownOrOut (.code yX1_moveDownOrOut cX1_moveDownOrOut 4 (none)) [.ref (X.2.1 (sc + 6)), .int v1, .int v2] st none q := by
  refine Ct.of hX (by decide) (Nat.le_of_ble_eq_true rfl) ?_
  intro p e s m args below meth c hh hr
  exact Z_X1_moveDownOrOut_0 hX hev hh hr v1 v2 st hf

def F_X1_comesIn_63 (sc : Nat) (v4 : Int32) (st : St) : Option (Int32 × St) := some (v4, st)
set_option maxRecDepth 100000 in
set_option maxHeartbeats 4000000 in
theorem Z_X1_comesIn_63 {l : Launch} {X : Cx} (hX : Ok X) {sc : Nat} (hev : Ev sc) {p : Program} {e : Env} {s : State} {m : MethodId} {args : Array Value} {below : List Frame} {meth : Method} {c : Code} {rr : Int32} {st' : St} (hh : Hy X p s m args meth c cX1_comesIn 7 RX1) (hr : meth.sig.returnType = some .int) (v4 : Int32) (st : St) (hf : F_X1_comesIn_63 sc v4 st = some (rr, st')) : Z X p l e (rmk 3) s m args below meth c 7 (MQ below (Qf X (some (.int rr)) st') args s 0 0 (cA X)) 63 [(0, .ref (X.2.1 (sc + 6))), (4, .int v4)] [] st := by
  unfold F_X1_comesIn_63 at hf
  refine x_iload hh dX1_comesIn_63 1 rfl 65 rfl ?_
  obtain ⟨rfl, rfl⟩ := ret2 hf
  exact x_iret hh hr dX1_comesIn_65
def F_X1_comesIn_16 (sc : Nat) : Nat → Int32 → Int32 → Int32 → St → Option (Int32 × St)
  | 0, _, _, _, _ => none
  | n + 1, v2, v4, v5, st => if (1000 : Int32) ≤ v5 then F_X1_comesIn_63 sc v4 st else (F_X1_allBow sc v2 st).bind (fun q3 => (F_X6_eldestOf sc q3.1 q3.2).bind (fun q4 => if q4.1 = ((-1)) then F_X1_comesIn_63 sc v4 q4.2 else (F_X1_moveDownOrOut sc q4.1 v2 q4.2).bind (fun q6 => F_X1_comesIn_16 sc n v2 (v4 + 1) (v5 + 1) q6)))
set_option maxRecDepth 100000 in
set_option maxHeartbeats 4000000 in
theorem Z_X1_comesIn_16 {l : Launch} {X : Cx} (hX : Ok X) {sc : Nat} (hev : Ev sc) {p : Program} {e : Env} {s : State} {m : MethodId} {args : Array Value} {below : List Frame} {meth : Method} {c : Code} {rr : Int32} {st' : St} (hh : Hy X p s m args meth c cX1_comesIn 7 RX1) (hr : meth.sig.returnType = some .int) : ∀ (n : Nat) (v2 : Int32) (v4 : Int32) (v5 : Int32) (st : St), F_X1_comesIn_16 sc n v2 v4 v5 st = some (rr, st') → Z X p l e (rmk 3) s m args below meth c 7 (MQ below (Qf X (some (.int rr)) st') args s 0 0 (cA X)) 16 [(0, .ref (X.2.1 (sc + 6))), (2, .int v2), (4, .int v4), (5, .int v5)] [] st := by
  intro n
  induction n with
  | zero =>
    intro v2 v4 v5 st hf
    cases hf
  | succ n ih =>
    intro v2 v4 v5 st hf
    rw [F_X1_comesIn_16] at hf
    refine x_iload hh dX1_comesIn_16 3 rfl 18 rfl ?_
    refine x_sipush hh dX1_comesIn_18 1000 rfl 21 rfl ?_
    refine x_icmp_ge hh dX1_comesIn_21 63 rfl 24 rfl (fun hc2 => ?_) (fun hc2 => ?_)
    · have hf := t_pos hc2 hf
      refine x_sub (lv' := [(0, .ref (X.2.1 (sc + 6))), (4, .int v4)]) [0, 2] rfl ?_
      exact Z_X1_comesIn_63 hX hev hh hr  v4 st hf
    · have hf := t_neg hc2 hf
      refine x_aload_n hh dX1_comesIn_24 rfl 0 rfl 25 rfl ?_
      refine x_getR hh cl_1 dX1_comesIn_25 hev.1 1 sc rfl (Nat.le_of_ble_eq_true rfl) wd_194 28 rfl ?_
      refine x_aload_n hh dX1_comesIn_28 rfl 0 rfl 29 rfl ?_
      refine x_iload_n hh dX1_comesIn_29 rfl 1 rfl 30 rfl ?_
      obtain ⟨q3, hq3, hf⟩ := b_some hf
      refine x_callV (rest := [.ref (X.2.1 sc)]) hh mi_X1_allBow [.int v2] dX1_comesIn_30 hev.1 wd_598 (C_X1_allBow l hX hev hq3) rfl rfl ⟨Nat.le_of_ble_eq_true rfl, Nat.le_of_ble_eq_true rfl⟩ (Nat.le_of_ble_eq_true rfl) 33 rfl [.int q3.1, .ref (X.2.1 sc)] rfl ?_
      obtain ⟨q4, hq4, hf⟩ := b_some hf
      refine x_callV (rest := []) hh mi_X6_eldestOf [.int q3.1] dX1_comesIn_33 hev.2.1 wd_551 (C_X6_eldestOf l hX hev.2 hq4) rfl rfl ⟨Nat.le_of_ble_eq_true rfl, Nat.le_of_ble_eq_true rfl⟩ (Nat.le_of_ble_eq_true rfl) 36 rfl [.int q4.1] rfl ?_
      refine x_istore hh dX1_comesIn_36 (by decide) [(6, .int q4.1), (0, .ref (X.2.1 (sc + 6))), (2, .int v2), (4, .int v4), (5, .int v5)] rfl 38 rfl ?_
      refine x_iload hh dX1_comesIn_38 0 rfl 40 rfl ?_
      refine x_iconst hh dX1_comesIn_40 (-1) rfl 41 rfl ?_
      refine x_icmp_ne hh dX1_comesIn_41 47 rfl 44 rfl (fun hc5 => ?_) (fun hc5 => ?_)
      · have hf := t_neg hc5 hf
        refine x_aload_n hh dX1_comesIn_47 rfl 1 rfl 48 rfl ?_
        refine x_iload hh dX1_comesIn_48 0 rfl 50 rfl ?_
        refine x_iload_n hh dX1_comesIn_50 rfl 2 rfl 51 rfl ?_
        obtain ⟨q6, hq6, hf⟩ := b_some hf
        refine x_callV (rest := []) hh mi_X1_moveDownOrOut [.int q4.1, .int v2] dX1_comesIn_51 hev.1 wd_599 (C_X1_moveDownOrOut l hX hev hq6) rfl rfl ⟨Nat.le_of_ble_eq_true rfl, Nat.le_of_ble_eq_true rfl⟩ (Nat.le_of_ble_eq_true rfl) 54 rfl [] rfl ?_
        refine x_iinc hh dX1_comesIn_54 3 rfl (v4 + 1) rfl (by decide) [(4, .int (v4 + 1)), (6, .int q4.1), (0, .ref (X.2.1 (sc + 6))), (2, .int v2), (5, .int v5)] rfl 57 rfl ?_
        refine x_iinc hh dX1_comesIn_57 4 rfl (v5 + 1) rfl (by decide) [(5, .int (v5 + 1)), (4, .int (v4 + 1)), (6, .int q4.1), (0, .ref (X.2.1 (sc + 6))), (2, .int v2)] rfl 60 rfl ?_
        refine x_goto hh dX1_comesIn_60 16 rfl ?_
        refine x_sub (lv' := [(0, .ref (X.2.1 (sc + 6))), (2, .int v2), (4, .int (v4 + 1)), (5, .int (v5 + 1))]) [3, 4, 1, 0] rfl ?_
        exact ih v2 (v4 + 1) (v5 + 1) q6 hf
      · have hf := t_pos hc5 hf
        refine x_goto hh dX1_comesIn_44 63 rfl ?_
        refine x_sub (lv' := [(0, .ref (X.2.1 (sc + 6))), (4, .int v4)]) [1, 3] rfl ?_
        exact Z_X1_comesIn_63 hX hev hh hr  v4 q4.2 hf
def F_X1_comesIn_0 (sc : Nat) (v1 : Int32) (v2 : Int32) (v3 : Int32) (st : St) : Option (Int32 × St) := (F_X6_standAt sc v1 v2 v3 st).bind (fun q1 => F_X1_comesIn_16 sc fN v2 0 0 q1)
set_option maxRecDepth 100000 in
set_option maxHeartbeats 4000000 in
theorem Z_X1_comesIn_0 {l : Launch} {X : Cx} (hX : Ok X) {sc : Nat} (hev : Ev sc) {p : Program} {e : Env} {s : State} {m : MethodId} {args : Array Value} {below : List Frame} {meth : Method} {c : Code} {rr : Int32} {st' : St} (hh : Hy X p s m args meth c cX1_comesIn 7 RX1) (hr : meth.sig.returnType = some .int) (v1 : Int32) (v2 : Int32) (v3 : Int32) (st : St) (hf : F_X1_comesIn_0 sc v1 v2 v3 st = some (rr, st')) : Z X p l e (rmk 3) s m args below meth c 7 (MQ below (Qf X (some (.int rr)) st') args s 0 0 (cA X)) 0 [(0, .ref (X.2.1 (sc + 6))), (1, .int v1), (2, .int v2), (3, .int v3)] [] st := by
  unfold F_X1_comesIn_0 at hf
  refine x_aload_n hh dX1_comesIn_0 rfl 0 rfl 1 rfl ?_
  refine x_getR hh cl_1 dX1_comesIn_1 hev.1 1 sc rfl (Nat.le_of_ble_eq_true rfl) wd_194 4 rfl ?_
  refine x_iload_n hh dX1_comesIn_4 rfl 1 rfl 5 rfl ?_
  refine x_iload_n hh dX1_comesIn_5 rfl 2 rfl 6 rfl ?_
  refine x_iload_n hh dX1_comesIn_6 rfl 3 rfl 7 rfl ?_
  obtain ⟨q1, hq1, hf⟩ := b_some hf
  refine x_callV (rest := []) hh mi_X6_standAt [.int v1, .int v2, .int v3] dX1_comesIn_7 hev.2.1 wd_597 (C_X6_standAt l hX hev.2 hq1) rfl rfl ⟨Nat.le_of_ble_eq_true rfl, Nat.le_of_ble_eq_true rfl⟩ (Nat.le_of_ble_eq_true rfl) 10 rfl [] rfl ?_
  refine x_iconst hh dX1_comesIn_10 0 rfl 11 rfl ?_
  refine x_istore hh dX1_comesIn_11 (by decide) [(4, .int 0), (0, .ref (X.2.1 (sc + 6))), (1, .int v1), (2, .int v2), (3, .int v3)] rfl 13 rfl ?_
  refine x_iconst hh dX1_comesIn_13 0 rfl 14 rfl ?_
  refine x_istore hh dX1_comesIn_14 (by decide) [(5, .int 0), (4, .int 0), (0, .ref (X.2.1 (sc + 6))), (1, .int v1), (2, .int v2), (3, .int v3)] rfl 16 rfl ?_
  refine x_sub (lv' := [(0, .ref (X.2.1 (sc + 6))), (2, .int v2), (4, .int 0), (5, .int 0)]) [2, 4, 1, 0] rfl ?_
  exact Z_X1_comesIn_16 hX hev hh hr fN v2 0 0 q1 hf
def F_X1_comesIn (sc : Nat) (v1 : Int32) (v2 : Int32) (v3 : Int32) (st : St) : Option (Int32 × St) := F_X1_comesIn_0 sc v1 v2 v3 st
set_option maxRecDepth 100000 in
theorem C_X1_comesIn (l : Launch) {X : Cx} (hX : Ok X) {sc : Nat} (hev : Ev sc) {v1 : Int32} {v2 : Int32} {v3 : Int32} {st : St} {q : Int32 × St} (hf : F_X1_comesIn sc v1 v2 v3 st = some q) : Ct l X 3 yX1_comesIn (.code yX1_comesIn cX1_comesIn 7 (some .int)) [.ref (X.2.1 (sc + 6)), .int v1, .int v2, .int v3] st (some (.int q.1)) q.2 := by
  refine Ct.of hX (by decide) (Nat.le_of_ble_eq_true rfl) ?_
  intro p e s m args below meth c hh hr
  exact Z_X1_comesIn_0 hX hev hh hr v1 v2 v3 st hf

def F_X1_inchesToCut_116 (sc : Nat) (v5 : Int32) (st : St) : Option (Int32 × St) := some (v5, st)
set_option maxRecDepth 100000 in
set_option maxHeartbeats 4000000 in
theorem Z_X1_inchesToCut_116 {l : Launch} {X : Cx} (hX : Ok X) {sc : Nat} (hev : Ev sc) {p : Program} {e : Env} {s : State} {m : MethodId} {args : Array Value} {below : List Frame} {meth : Method} {c : Code} {rr : Int32} {st' : St} (hh : Hy X p s m args meth c cX1_inchesToCut 7 RX1) (hr : meth.sig.returnType = some .int) (v5 : Int32) (st : St) (hf : F_X1_inchesToCut_116 sc v5 st = some (rr, st')) : Z X p l e (rmk 2) s m args below meth c 7 (MQ below (Qf X (some (.int rr)) st') args s 0 0 (cA X)) 116 [(0, .ref (X.2.1 (sc + 6))), (5, .int v5)] [] st := by
  unfold F_X1_inchesToCut_116 at hf
  refine x_iload hh dX1_inchesToCut_116 1 rfl 118 rfl ?_
  obtain ⟨rfl, rfl⟩ := ret2 hf
  exact x_iret hh hr dX1_inchesToCut_118
def F_X1_inchesToCut_38 (sc : Nat) : Nat → Int32 → Int32 → Int32 → Int32 → Int32 → St → Option (Int32 × St)
  | 0, _, _, _, _, _, _ => none
  | n + 1, v2, v3, v4, v5, v6, st => if (6 : Int32) ≤ v6 then F_X1_inchesToCut_116 sc v5 st else (F_X6_eldestOf sc (v2 &&& ((1 <<< (v3 &&& 31)) ^^^ ((-1)))) st).bind (fun q6 => if q6.1 = ((-1)) then F_X1_inchesToCut_116 sc v5 q6.2 else (F_X1_tallOf sc q6.1 q6.2).bind (fun q8 => gi q6.1 6 ((F_X1_tallOf sc q6.1 q8.2).bind (fun q10 => (F_X1_nextLimit sc v4 q10.1 q10.2).bind (fun q11 => F_X1_inchesToCut_38 sc n (v2 &&& ((1 <<< (v3 &&& 31)) ^^^ ((-1)))) q6.1 q11.1 (v5 + (imx 0 ((q8.1 - (q8.2.1 6 q6.1.toNatClampNeg)) - v4))) (v6 + 1) q11.2)))))
set_option maxRecDepth 100000 in
set_option maxHeartbeats 4000000 in
theorem Z_X1_inchesToCut_38 {l : Launch} {X : Cx} (hX : Ok X) {sc : Nat} (hev : Ev sc) {p : Program} {e : Env} {s : State} {m : MethodId} {args : Array Value} {below : List Frame} {meth : Method} {c : Code} {rr : Int32} {st' : St} (hh : Hy X p s m args meth c cX1_inchesToCut 7 RX1) (hr : meth.sig.returnType = some .int) : ∀ (n : Nat) (v2 : Int32) (v3 : Int32) (v4 : Int32) (v5 : Int32) (v6 : Int32) (st : St), F_X1_inchesToCut_38 sc n v2 v3 v4 v5 v6 st = some (rr, st') → Z X p l e (rmk 2) s m args below meth c 7 (MQ below (Qf X (some (.int rr)) st') args s 0 0 (cA X)) 38 [(0, .ref (X.2.1 (sc + 6))), (2, .int v2), (3, .int v3), (4, .int v4), (5, .int v5), (6, .int v6)] [] st := by
  intro n
  induction n with
  | zero =>
    intro v2 v3 v4 v5 v6 st hf
    cases hf
  | succ n ih =>
    intro v2 v3 v4 v5 v6 st hf
    rw [F_X1_inchesToCut_38] at hf
    refine x_iload hh dX1_inchesToCut_38 5 rfl 40 rfl ?_
    refine x_bipush hh dX1_inchesToCut_40 6 rfl 42 rfl ?_
    refine x_icmp_ge hh dX1_inchesToCut_42 116 rfl 45 rfl (fun hc5 => ?_) (fun hc5 => ?_)
    · have hf := t_pos hc5 hf
      refine x_sub (lv' := [(0, .ref (X.2.1 (sc + 6))), (5, .int v5)]) [0, 4] rfl ?_
      exact Z_X1_inchesToCut_116 hX hev hh hr  v5 st hf
    · have hf := t_neg hc5 hf
      refine x_iload_n hh dX1_inchesToCut_45 rfl 1 rfl 46 rfl ?_
      refine x_iconst hh dX1_inchesToCut_46 1 rfl 47 rfl ?_
      refine x_iload_n hh dX1_inchesToCut_47 rfl 2 rfl 48 rfl ?_
      refine x_ishl hh dX1_inchesToCut_48 49 rfl ?_
      refine x_iconst hh dX1_inchesToCut_49 (-1) rfl 50 rfl ?_
      refine x_ixor hh dX1_inchesToCut_50 51 rfl ?_
      refine x_iand hh dX1_inchesToCut_51 52 rfl ?_
      refine x_istore_n hh dX1_inchesToCut_52 rfl (by decide) [(2, .int (v2 &&& ((1 <<< (v3 &&& 31)) ^^^ ((-1))))), (0, .ref (X.2.1 (sc + 6))), (3, .int v3), (4, .int v4), (5, .int v5), (6, .int v6)] rfl 53 rfl ?_
      refine x_aload_n hh dX1_inchesToCut_53 rfl 1 rfl 54 rfl ?_
      refine x_getR hh cl_1 dX1_inchesToCut_54 hev.1 1 sc rfl (Nat.le_of_ble_eq_true rfl) wd_194 57 rfl ?_
      refine x_iload_n hh dX1_inchesToCut_57 rfl 0 rfl 58 rfl ?_
      obtain ⟨q6, hq6, hf⟩ := b_some hf
      refine x_callV (rest := []) hh mi_X6_eldestOf [.int (v2 &&& ((1 <<< (v3 &&& 31)) ^^^ ((-1))))] dX1_inchesToCut_58 hev.2.1 wd_551 (C_X6_eldestOf l hX hev.2 hq6) rfl rfl ⟨Nat.le_of_ble_eq_true rfl, Nat.le_of_ble_eq_true rfl⟩ (Nat.le_of_ble_eq_true rfl) 61 rfl [.int q6.1] rfl ?_
      refine x_istore_n hh dX1_inchesToCut_61 rfl (by decide) [(3, .int q6.1), (2, .int (v2 &&& ((1 <<< (v3 &&& 31)) ^^^ ((-1))))), (0, .ref (X.2.1 (sc + 6))), (4, .int v4), (5, .int v5), (6, .int v6)] rfl 62 rfl ?_
      refine x_iload_n hh dX1_inchesToCut_62 rfl 0 rfl 63 rfl ?_
      refine x_iconst hh dX1_inchesToCut_63 (-1) rfl 64 rfl ?_
      refine x_icmp_ne hh dX1_inchesToCut_64 70 rfl 67 rfl (fun hc7 => ?_) (fun hc7 => ?_)
      · have hf := t_neg hc7 hf
        refine x_iload hh dX1_inchesToCut_70 4 rfl 72 rfl ?_
        refine x_iconst hh dX1_inchesToCut_72 0 rfl 73 rfl ?_
        refine x_aload_n hh dX1_inchesToCut_73 rfl 2 rfl 74 rfl ?_
        refine x_iload_n hh dX1_inchesToCut_74 rfl 0 rfl 75 rfl ?_
        obtain ⟨q8, hq8, hf⟩ := b_some hf
        refine x_callV (rest := [.int 0, .int v5]) hh mi_X1_tallOf [.int q6.1] dX1_inchesToCut_75 hev.1 wd_569 (C_X1_tallOf l hX hev hq8) rfl rfl ⟨Nat.le_of_ble_eq_true rfl, Nat.le_of_ble_eq_true rfl⟩ (Nat.le_of_ble_eq_true rfl) 78 rfl [.int q8.1, .int 0, .int v5] rfl ?_
        refine x_aload_n hh dX1_inchesToCut_78 rfl 2 rfl 79 rfl ?_
        refine x_getR hh cl_1 dX1_inchesToCut_79 hev.1 0 1 rfl (Nat.le_of_ble_eq_true rfl) wd_193 82 rfl ?_
        refine x_getR hh cl_3 dX1_inchesToCut_82 sh_1 7 6 rfl (Nat.le_of_ble_eq_true rfl) wd_132 85 rfl ?_
        refine x_iload_n hh dX1_inchesToCut_85 rfl 0 rfl 86 rfl ?_
        obtain ⟨hi9, hf⟩ := gi_some hf
        refine x_iaload hh dX1_inchesToCut_86 sh_6 hi9 87 rfl ?_
        refine x_isub hh dX1_inchesToCut_87 88 rfl ?_
        refine x_iload hh dX1_inchesToCut_88 3 rfl 90 rfl ?_
        refine x_isub hh dX1_inchesToCut_90 91 rfl ?_
        refine x_mmax hh dX1_inchesToCut_91 wd_556 wd_557 wd_89 wd_558 ⟨Nat.le_of_ble_eq_true rfl, Nat.le_of_ble_eq_true rfl⟩ 94 rfl ?_
        refine x_iadd hh dX1_inchesToCut_94 95 rfl ?_
        refine x_istore hh dX1_inchesToCut_95 (by decide) [(5, .int (v5 + (imx 0 ((q8.1 - (q8.2.1 6 q6.1.toNatClampNeg)) - v4)))), (3, .int q6.1), (2, .int (v2 &&& ((1 <<< (v3 &&& 31)) ^^^ ((-1))))), (0, .ref (X.2.1 (sc + 6))), (4, .int v4), (6, .int v6)] rfl 97 rfl ?_
        refine x_aload_n hh dX1_inchesToCut_97 rfl 3 rfl 98 rfl ?_
        refine x_iload hh dX1_inchesToCut_98 4 rfl 100 rfl ?_
        refine x_aload_n hh dX1_inchesToCut_100 rfl 3 rfl 101 rfl ?_
        refine x_iload_n hh dX1_inchesToCut_101 rfl 1 rfl 102 rfl ?_
        obtain ⟨q10, hq10, hf⟩ := b_some hf
        refine x_callV (rest := [.int v4, .ref (X.2.1 (sc + 6))]) hh mi_X1_tallOf [.int q6.1] dX1_inchesToCut_102 hev.1 wd_569 (C_X1_tallOf l hX hev hq10) rfl rfl ⟨Nat.le_of_ble_eq_true rfl, Nat.le_of_ble_eq_true rfl⟩ (Nat.le_of_ble_eq_true rfl) 105 rfl [.int q10.1, .int v4, .ref (X.2.1 (sc + 6))] rfl ?_
        obtain ⟨q11, hq11, hf⟩ := b_some hf
        refine x_callV (rest := []) hh mi_X1_nextLimit [.int v4, .int q10.1] dX1_inchesToCut_105 hev.1 wd_573 (C_X1_nextLimit l hX hev hq11) rfl rfl ⟨Nat.le_of_ble_eq_true rfl, Nat.le_of_ble_eq_true rfl⟩ (Nat.le_of_ble_eq_true rfl) 108 rfl [.int q11.1] rfl ?_
        refine x_istore hh dX1_inchesToCut_108 (by decide) [(4, .int q11.1), (5, .int (v5 + (imx 0 ((q8.1 - (q8.2.1 6 q6.1.toNatClampNeg)) - v4)))), (3, .int q6.1), (2, .int (v2 &&& ((1 <<< (v3 &&& 31)) ^^^ ((-1))))), (0, .ref (X.2.1 (sc + 6))), (6, .int v6)] rfl 110 rfl ?_
        refine x_iinc hh dX1_inchesToCut_110 5 rfl (v6 + 1) rfl (by decide) [(6, .int (v6 + 1)), (4, .int q11.1), (5, .int (v5 + (imx 0 ((q8.1 - (q8.2.1 6 q6.1.toNatClampNeg)) - v4)))), (3, .int q6.1), (2, .int (v2 &&& ((1 <<< (v3 &&& 31)) ^^^ ((-1))))), (0, .ref (X.2.1 (sc + 6)))] rfl 113 rfl ?_
        refine x_goto hh dX1_inchesToCut_113 38 rfl ?_
        refine x_sub (lv' := [(0, .ref (X.2.1 (sc + 6))), (2, .int (v2 &&& ((1 <<< (v3 &&& 31)) ^^^ ((-1))))), (3, .int q6.1), (4, .int q11.1), (5, .int (v5 + (imx 0 ((q8.1 - (q8.2.1 6 q6.1.toNatClampNeg)) - v4)))), (6, .int (v6 + 1))]) [5, 4, 3, 1, 2, 0] rfl ?_
        exact ih (v2 &&& ((1 <<< (v3 &&& 31)) ^^^ ((-1)))) q6.1 q11.1 (v5 + (imx 0 ((q8.1 - (q8.2.1 6 q6.1.toNatClampNeg)) - v4))) (v6 + 1) q11.2 hf
      · have hf := t_pos hc7 hf
        refine x_goto hh dX1_inchesToCut_67 116 rfl ?_
        refine x_sub (lv' := [(0, .ref (X.2.1 (sc + 6))), (5, .int v5)]) [2, 4] rfl ?_
        exact Z_X1_inchesToCut_116 hX hev hh hr  v5 q6.2 hf
def F_X1_inchesToCut_0 (sc : Nat) (v1 : Int32) (st : St) : Option (Int32 × St) := (F_X6_whoIsIn sc v1 st).bind (fun q1 => (F_X6_eldestOf sc q1.1 q1.2).bind (fun q2 => if q2.1 = ((-1)) then some (0, q2.2) else (F_X1_tallOf sc q2.1 q2.2).bind (fun q4 => F_X1_inchesToCut_38 sc fN q1.1 q2.1 q4.1 0 1 q4.2)))
set_option maxRecDepth 100000 in
set_option maxHeartbeats 4000000 in
theorem Z_X1_inchesToCut_0 {l : Launch} {X : Cx} (hX : Ok X) {sc : Nat} (hev : Ev sc) {p : Program} {e : Env} {s : State} {m : MethodId} {args : Array Value} {below : List Frame} {meth : Method} {c : Code} {rr : Int32} {st' : St} (hh : Hy X p s m args meth c cX1_inchesToCut 7 RX1) (hr : meth.sig.returnType = some .int) (v1 : Int32) (st : St) (hf : F_X1_inchesToCut_0 sc v1 st = some (rr, st')) : Z X p l e (rmk 2) s m args below meth c 7 (MQ below (Qf X (some (.int rr)) st') args s 0 0 (cA X)) 0 [(0, .ref (X.2.1 (sc + 6))), (1, .int v1)] [] st := by
  unfold F_X1_inchesToCut_0 at hf
  refine x_aload_n hh dX1_inchesToCut_0 rfl 0 rfl 1 rfl ?_
  refine x_getR hh cl_1 dX1_inchesToCut_1 hev.1 1 sc rfl (Nat.le_of_ble_eq_true rfl) wd_194 4 rfl ?_
  refine x_iload_n hh dX1_inchesToCut_4 rfl 1 rfl 5 rfl ?_
  obtain ⟨q1, hq1, hf⟩ := b_some hf
  refine x_callV (rest := []) hh mi_X6_whoIsIn [.int v1] dX1_inchesToCut_5 hev.2.1 wd_568 (C_X6_whoIsIn l hX hev.2 hq1) rfl rfl ⟨Nat.le_of_ble_eq_true rfl, Nat.le_of_ble_eq_true rfl⟩ (Nat.le_of_ble_eq_true rfl) 8 rfl [.int q1.1] rfl ?_
  refine x_istore_n hh dX1_inchesToCut_8 rfl (by decide) [(2, .int q1.1), (0, .ref (X.2.1 (sc + 6))), (1, .int v1)] rfl 9 rfl ?_
  refine x_aload_n hh dX1_inchesToCut_9 rfl 1 rfl 10 rfl ?_
  refine x_getR hh cl_1 dX1_inchesToCut_10 hev.1 1 sc rfl (Nat.le_of_ble_eq_true rfl) wd_194 13 rfl ?_
  refine x_iload_n hh dX1_inchesToCut_13 rfl 0 rfl 14 rfl ?_
  obtain ⟨q2, hq2, hf⟩ := b_some hf
  refine x_callV (rest := []) hh mi_X6_eldestOf [.int q1.1] dX1_inchesToCut_14 hev.2.1 wd_551 (C_X6_eldestOf l hX hev.2 hq2) rfl rfl ⟨Nat.le_of_ble_eq_true rfl, Nat.le_of_ble_eq_true rfl⟩ (Nat.le_of_ble_eq_true rfl) 17 rfl [.int q2.1] rfl ?_
  refine x_istore_n hh dX1_inchesToCut_17 rfl (by decide) [(3, .int q2.1), (2, .int q1.1), (0, .ref (X.2.1 (sc + 6))), (1, .int v1)] rfl 18 rfl ?_
  refine x_iload_n hh dX1_inchesToCut_18 rfl 0 rfl 19 rfl ?_
  refine x_iconst hh dX1_inchesToCut_19 (-1) rfl 20 rfl ?_
  refine x_icmp_ne hh dX1_inchesToCut_20 25 rfl 23 rfl (fun hc3 => ?_) (fun hc3 => ?_)
  · have hf := t_neg hc3 hf
    refine x_aload_n hh dX1_inchesToCut_25 rfl 2 rfl 26 rfl ?_
    refine x_iload_n hh dX1_inchesToCut_26 rfl 0 rfl 27 rfl ?_
    obtain ⟨q4, hq4, hf⟩ := b_some hf
    refine x_callV (rest := []) hh mi_X1_tallOf [.int q2.1] dX1_inchesToCut_27 hev.1 wd_569 (C_X1_tallOf l hX hev hq4) rfl rfl ⟨Nat.le_of_ble_eq_true rfl, Nat.le_of_ble_eq_true rfl⟩ (Nat.le_of_ble_eq_true rfl) 30 rfl [.int q4.1] rfl ?_
    refine x_istore hh dX1_inchesToCut_30 (by decide) [(4, .int q4.1), (3, .int q2.1), (2, .int q1.1), (0, .ref (X.2.1 (sc + 6))), (1, .int v1)] rfl 32 rfl ?_
    refine x_iconst hh dX1_inchesToCut_32 0 rfl 33 rfl ?_
    refine x_istore hh dX1_inchesToCut_33 (by decide) [(5, .int 0), (4, .int q4.1), (3, .int q2.1), (2, .int q1.1), (0, .ref (X.2.1 (sc + 6))), (1, .int v1)] rfl 35 rfl ?_
    refine x_iconst hh dX1_inchesToCut_35 1 rfl 36 rfl ?_
    refine x_istore hh dX1_inchesToCut_36 (by decide) [(6, .int 1), (5, .int 0), (4, .int q4.1), (3, .int q2.1), (2, .int q1.1), (0, .ref (X.2.1 (sc + 6))), (1, .int v1)] rfl 38 rfl ?_
    refine x_sub (lv' := [(0, .ref (X.2.1 (sc + 6))), (2, .int q1.1), (3, .int q2.1), (4, .int q4.1), (5, .int 0), (6, .int 1)]) [5, 4, 3, 2, 1, 0] rfl ?_
    exact Z_X1_inchesToCut_38 hX hev hh hr fN q1.1 q2.1 q4.1 0 1 q4.2 hf
  · have hf := t_pos hc3 hf
    refine x_iconst hh dX1_inchesToCut_23 0 rfl 24 rfl ?_
    obtain ⟨rfl, rfl⟩ := ret2 hf
    exact x_iret hh hr dX1_inchesToCut_24
def F_X1_inchesToCut (sc : Nat) (v1 : Int32) (st : St) : Option (Int32 × St) := F_X1_inchesToCut_0 sc v1 st
set_option maxRecDepth 100000 in
theorem C_X1_inchesToCut (l : Launch) {X : Cx} (hX : Ok X) {sc : Nat} (hev : Ev sc) {v1 : Int32} {st : St} {q : Int32 × St} (hf : F_X1_inchesToCut sc v1 st = some q) : Ct l X 2 yX1_inchesToCut (.code yX1_inchesToCut cX1_inchesToCut 7 (some .int)) [.ref (X.2.1 (sc + 6)), .int v1] st (some (.int q.1)) q.2 := by
  refine Ct.of hX (by decide) (Nat.le_of_ble_eq_true rfl) ?_
  intro p e s m args below meth c hh hr
  exact Z_X1_inchesToCut_0 hX hev hh hr v1 st hf

def F_X1_drawOf_48 (sc : Nat) (t0 : Int32) (st : St) : Option (Int32 × St) := some (t0, st)
set_option maxRecDepth 100000 in
set_option maxHeartbeats 4000000 in
theorem Z_X1_drawOf_48 {l : Launch} {X : Cx} (hX : Ok X) {sc : Nat} (hev : Ev sc) {p : Program} {e : Env} {s : State} {m : MethodId} {args : Array Value} {below : List Frame} {meth : Method} {c : Code} {rr : Int32} {st' : St} (hh : Hy X p s m args meth c cX1_drawOf 2 RX1) (hr : meth.sig.returnType = some .int) (t0 : Int32) (st : St) (hf : F_X1_drawOf_48 sc t0 st = some (rr, st')) : Z X p l e (rmk 0) s m args below meth c 2 (MQ below (Qf X (some (.int rr)) st') args s 0 0 (cA X)) 48 [(0, .ref (X.2.1 (sc + 6)))] [.int t0] st := by
  unfold F_X1_drawOf_48 at hf
  obtain ⟨rfl, rfl⟩ := ret2 hf
  exact x_iret hh hr dX1_drawOf_48
def F_X1_drawOf_0 (sc : Nat) (v1 : Int32) (st : St) : Option (Int32 × St) := bs (sV st sc 6 ((((((st.1 sc 6).toInt64) * 1103515245) + 12345) &&& 2147483647).toInt32)) (fun st1 => if v1 ≤ 0 then F_X1_drawOf_48 sc 0 st1 else gz v1 (F_X1_drawOf_48 sc (((st1.1 sc 6) / 65536) - ((st1.1 sc 6) / 65536) / v1 * v1) st1))
set_option maxRecDepth 100000 in
set_option maxHeartbeats 4000000 in
theorem Z_X1_drawOf_0 {l : Launch} {X : Cx} (hX : Ok X) {sc : Nat} (hev : Ev sc) {p : Program} {e : Env} {s : State} {m : MethodId} {args : Array Value} {below : List Frame} {meth : Method} {c : Code} {rr : Int32} {st' : St} (hh : Hy X p s m args meth c cX1_drawOf 2 RX1) (hr : meth.sig.returnType = some .int) (v1 : Int32) (st : St) (hf : F_X1_drawOf_0 sc v1 st = some (rr, st')) : Z X p l e (rmk 0) s m args below meth c 2 (MQ below (Qf X (some (.int rr)) st') args s 0 0 (cA X)) 0 [(0, .ref (X.2.1 (sc + 6))), (1, .int v1)] [] st := by
  unfold F_X1_drawOf_0 at hf
  refine x_aload_n hh dX1_drawOf_0 rfl 0 rfl 1 rfl ?_
  refine x_getR hh cl_1 dX1_drawOf_1 hev.1 1 sc rfl (Nat.le_of_ble_eq_true rfl) wd_194 4 rfl ?_
  refine x_aload_n hh dX1_drawOf_4 rfl 0 rfl 5 rfl ?_
  refine x_getR hh cl_1 dX1_drawOf_5 hev.1 1 sc rfl (Nat.le_of_ble_eq_true rfl) wd_194 8 rfl ?_
  refine x_getI hh cl_6 dX1_drawOf_8 hev.2.1 6 rfl (Nat.le_of_ble_eq_true rfl) wd_178 11 rfl ?_
  refine x_i2l hh dX1_drawOf_11 12 rfl ?_
  refine x_ldc2_w hh dX1_drawOf_12 wd_766 15 rfl ?_
  refine x_lmul hh dX1_drawOf_15 16 rfl ?_
  refine x_ldc2_w hh dX1_drawOf_16 wd_767 19 rfl ?_
  refine x_ladd hh dX1_drawOf_19 20 rfl ?_
  refine x_ldc2_w hh dX1_drawOf_20 wd_768 23 rfl ?_
  refine x_land hh dX1_drawOf_23 24 rfl ?_
  refine x_l2i hh dX1_drawOf_24 25 rfl ?_
  obtain ⟨st1, est1, hf⟩ := bs_some hf
  refine x_putI hh cl_6 dX1_drawOf_25 hev.2.1 6 rfl (Nat.le_of_ble_eq_true rfl) wd_178 rfl rfl rfl 28 rfl st1 est1 ?_
  refine x_iload_n hh dX1_drawOf_28 rfl 1 rfl 29 rfl ?_
  refine x_if_le hh dX1_drawOf_29 47 rfl 32 rfl (fun hc2 => ?_) (fun hc2 => ?_)
  · have hf := t_pos hc2 hf
    refine x_iconst hh dX1_drawOf_47 0 rfl 48 rfl ?_
    refine x_sub (lv' := [(0, .ref (X.2.1 (sc + 6)))]) [0] rfl ?_
    exact Z_X1_drawOf_48 hX hev hh hr  0 st1 hf
  · have hf := t_neg hc2 hf
    refine x_aload_n hh dX1_drawOf_32 rfl 0 rfl 33 rfl ?_
    refine x_getR hh cl_1 dX1_drawOf_33 hev.1 1 sc rfl (Nat.le_of_ble_eq_true rfl) wd_194 36 rfl ?_
    refine x_getI hh cl_6 dX1_drawOf_36 hev.2.1 6 rfl (Nat.le_of_ble_eq_true rfl) wd_178 39 rfl ?_
    refine x_ldc hh dX1_drawOf_39 wd_769 41 rfl ?_
    refine x_idiv hh dX1_drawOf_41 (by decide) 42 rfl ?_
    refine x_iload_n hh dX1_drawOf_42 rfl 1 rfl 43 rfl ?_
    obtain ⟨hz3, hf⟩ := gz_some hf
    refine x_irem hh dX1_drawOf_43 hz3 44 rfl ?_
    refine x_goto hh dX1_drawOf_44 48 rfl ?_
    refine x_sub (lv' := [(0, .ref (X.2.1 (sc + 6)))]) [0] rfl ?_
    exact Z_X1_drawOf_48 hX hev hh hr  (((st1.1 sc 6) / 65536) - ((st1.1 sc 6) / 65536) / v1 * v1) st1 hf
def F_X1_drawOf (sc : Nat) (v1 : Int32) (st : St) : Option (Int32 × St) := F_X1_drawOf_0 sc v1 st
set_option maxRecDepth 100000 in
theorem C_X1_drawOf (l : Launch) {X : Cx} (hX : Ok X) {sc : Nat} (hev : Ev sc) {v1 : Int32} {st : St} {q : Int32 × St} (hf : F_X1_drawOf sc v1 st = some q) : Ct l X 0 yX1_drawOf (.code yX1_drawOf cX1_drawOf 2 (some .int)) [.ref (X.2.1 (sc + 6)), .int v1] st (some (.int q.1)) q.2 := by
  refine Ct.of hX (by decide) (Nat.le_of_ble_eq_true rfl) ?_
  intro p e s m args below meth c hh hr
  exact Z_X1_drawOf_0 hX hev hh hr v1 st hf

def F_X1_passByDraw_92 (sc : Nat) (t0 : Int32) (st : St) : Option (Int32 × St) := some (t0, st)
set_option maxRecDepth 100000 in
set_option maxHeartbeats 4000000 in
theorem Z_X1_passByDraw_92 {l : Launch} {X : Cx} (hX : Ok X) {sc : Nat} (hev : Ev sc) {p : Program} {e : Env} {s : State} {m : MethodId} {args : Array Value} {below : List Frame} {meth : Method} {c : Code} {rr : Int32} {st' : St} (hh : Hy X p s m args meth c cX1_passByDraw 4 RX1) (hr : meth.sig.returnType = some .int) (t0 : Int32) (st : St) (hf : F_X1_passByDraw_92 sc t0 st = some (rr, st')) : Z X p l e (rmk 4) s m args below meth c 4 (MQ below (Qf X (some (.int rr)) st') args s 0 0 (cA X)) 92 [(0, .ref (X.2.1 (sc + 6)))] [.int t0] st := by
  unfold F_X1_passByDraw_92 at hf
  obtain ⟨rfl, rfl⟩ := ret2 hf
  exact x_iret hh hr dX1_passByDraw_92
def F_X1_passByDraw_0 (sc : Nat) (st : St) : Option (Int32 × St) := (F_X1_drawOf sc (st.1 1 1) st).bind (fun q1 => gi q1.1 6 (if (q1.2.1 (sc + 1) q1.1.toNatClampNeg) = ((-1)) then (F_X1_drawOf sc (q1.2.1 1 0) q1.2).bind (fun q4 => (F_X3_placesOf 1 q4.1 q4.2).bind (fun q5 => (F_X1_drawOf sc q5.1 q5.2).bind (fun q6 => (F_X6_canStandAt sc q1.1 q4.1 q6.1 q6.2).bind (fun q7 => if q7.1 = 0 then F_X1_passByDraw_92 sc 0 q7.2 else (F_X1_comesIn sc q1.1 q4.1 q6.1 q7.2).bind (fun q9 => F_X1_passByDraw_92 sc q9.1 q9.2))))) else (F_X6_goOut sc q1.1 q1.2).bind (fun q10 => (F_X1_allBow sc (q1.2.1 (sc + 1) q1.1.toNatClampNeg) q10).bind (fun q11 => some (0, q11.2)))))
set_option maxRecDepth 100000 in
set_option maxHeartbeats 4000000 in
theorem Z_X1_passByDraw_0 {l : Launch} {X : Cx} (hX : Ok X) {sc : Nat} (hev : Ev sc) {p : Program} {e : Env} {s : State} {m : MethodId} {args : Array Value} {below : List Frame} {meth : Method} {c : Code} {rr : Int32} {st' : St} (hh : Hy X p s m args meth c cX1_passByDraw 4 RX1) (hr : meth.sig.returnType = some .int) (st : St) (hf : F_X1_passByDraw_0 sc st = some (rr, st')) : Z X p l e (rmk 4) s m args below meth c 4 (MQ below (Qf X (some (.int rr)) st') args s 0 0 (cA X)) 0 [(0, .ref (X.2.1 (sc + 6)))] [] st := by
  unfold F_X1_passByDraw_0 at hf
  refine x_aload_n hh dX1_passByDraw_0 rfl 0 rfl 1 rfl ?_
  refine x_aload_n hh dX1_passByDraw_1 rfl 0 rfl 2 rfl ?_
  refine x_getR hh cl_1 dX1_passByDraw_2 hev.1 0 1 rfl (Nat.le_of_ble_eq_true rfl) wd_193 5 rfl ?_
  refine x_getI hh cl_3 dX1_passByDraw_5 sh_1 1 rfl (Nat.le_of_ble_eq_true rfl) wd_115 8 rfl ?_
  obtain ⟨q1, hq1, hf⟩ := b_some hf
  refine x_callV (rest := []) hh mi_X1_drawOf [.int (st.1 1 1)] dX1_passByDraw_8 hev.1 wd_763 (C_X1_drawOf l hX hev hq1) rfl rfl ⟨Nat.le_of_ble_eq_true rfl, Nat.le_of_ble_eq_true rfl⟩ (Nat.le_of_ble_eq_true rfl) 11 rfl [.int q1.1] rfl ?_
  refine x_istore_n hh dX1_passByDraw_11 rfl (by decide) [(1, .int q1.1), (0, .ref (X.2.1 (sc + 6)))] rfl 12 rfl ?_
  refine x_aload_n hh dX1_passByDraw_12 rfl 1 rfl 13 rfl ?_
  refine x_getR hh cl_1 dX1_passByDraw_13 hev.1 1 sc rfl (Nat.le_of_ble_eq_true rfl) wd_194 16 rfl ?_
  refine x_getR hh cl_6 dX1_passByDraw_16 hev.2.1 0 (sc + 1) rfl (Nat.le_of_ble_eq_true rfl) wd_158 19 rfl ?_
  refine x_iload_n hh dX1_passByDraw_19 rfl 0 rfl 20 rfl ?_
  obtain ⟨hi2, hf⟩ := gi_some hf
  refine x_iaload hh dX1_passByDraw_20 hev.2.2.1 hi2 21 rfl ?_
  refine x_istore_n hh dX1_passByDraw_21 rfl (by decide) [(2, .int (q1.2.1 (sc + 1) q1.1.toNatClampNeg)), (1, .int q1.1), (0, .ref (X.2.1 (sc + 6)))] rfl 22 rfl ?_
  refine x_iload_n hh dX1_passByDraw_22 rfl 0 rfl 23 rfl ?_
  refine x_iconst hh dX1_passByDraw_23 (-1) rfl 24 rfl ?_
  refine x_icmp_eq hh dX1_passByDraw_24 43 rfl 27 rfl (fun hc3 => ?_) (fun hc3 => ?_)
  · have hf := t_pos hc3 hf
    refine x_aload_n hh dX1_passByDraw_43 rfl 2 rfl 44 rfl ?_
    refine x_aload_n hh dX1_passByDraw_44 rfl 2 rfl 45 rfl ?_
    refine x_getR hh cl_1 dX1_passByDraw_45 hev.1 0 1 rfl (Nat.le_of_ble_eq_true rfl) wd_193 48 rfl ?_
    refine x_getI hh cl_3 dX1_passByDraw_48 sh_1 0 rfl (Nat.le_of_ble_eq_true rfl) wd_110 51 rfl ?_
    obtain ⟨q4, hq4, hf⟩ := b_some hf
    refine x_callV (rest := []) hh mi_X1_drawOf [.int (q1.2.1 1 0)] dX1_passByDraw_51 hev.1 wd_763 (C_X1_drawOf l hX hev hq4) rfl rfl ⟨Nat.le_of_ble_eq_true rfl, Nat.le_of_ble_eq_true rfl⟩ (Nat.le_of_ble_eq_true rfl) 54 rfl [.int q4.1] rfl ?_
    refine x_istore_n hh dX1_passByDraw_54 rfl (by decide) [(2, .int q4.1), (1, .int q1.1), (0, .ref (X.2.1 (sc + 6)))] rfl 55 rfl ?_
    refine x_aload_n hh dX1_passByDraw_55 rfl 2 rfl 56 rfl ?_
    refine x_aload_n hh dX1_passByDraw_56 rfl 2 rfl 57 rfl ?_
    refine x_getR hh cl_1 dX1_passByDraw_57 hev.1 0 1 rfl (Nat.le_of_ble_eq_true rfl) wd_193 60 rfl ?_
    refine x_iload_n hh dX1_passByDraw_60 rfl 0 rfl 61 rfl ?_
    obtain ⟨q5, hq5, hf⟩ := b_some hf
    refine x_callV (rest := [.ref (X.2.1 (sc + 6))]) hh mi_X3_placesOf [.int q4.1] dX1_passByDraw_61 sh_1 wd_605 (C_X3_placesOf l hX ho_1 hq5) rfl rfl ⟨Nat.le_of_ble_eq_true rfl, Nat.le_of_ble_eq_true rfl⟩ (Nat.le_of_ble_eq_true rfl) 64 rfl [.int q5.1, .ref (X.2.1 (sc + 6))] rfl ?_
    obtain ⟨q6, hq6, hf⟩ := b_some hf
    refine x_callV (rest := []) hh mi_X1_drawOf [.int q5.1] dX1_passByDraw_64 hev.1 wd_763 (C_X1_drawOf l hX hev hq6) rfl rfl ⟨Nat.le_of_ble_eq_true rfl, Nat.le_of_ble_eq_true rfl⟩ (Nat.le_of_ble_eq_true rfl) 67 rfl [.int q6.1] rfl ?_
    refine x_istore_n hh dX1_passByDraw_67 rfl (by decide) [(3, .int q6.1), (2, .int q4.1), (1, .int q1.1), (0, .ref (X.2.1 (sc + 6)))] rfl 68 rfl ?_
    refine x_aload_n hh dX1_passByDraw_68 rfl 3 rfl 69 rfl ?_
    refine x_getR hh cl_1 dX1_passByDraw_69 hev.1 1 sc rfl (Nat.le_of_ble_eq_true rfl) wd_194 72 rfl ?_
    refine x_iload_n hh dX1_passByDraw_72 rfl 2 rfl 73 rfl ?_
    refine x_iload_n hh dX1_passByDraw_73 rfl 1 rfl 74 rfl ?_
    refine x_iload_n hh dX1_passByDraw_74 rfl 0 rfl 75 rfl ?_
    obtain ⟨q7, hq7, hf⟩ := b_some hf
    refine x_callV (rest := []) hh mi_X6_canStandAt [.int q1.1, .int q4.1, .int q6.1] dX1_passByDraw_75 hev.2.1 wd_770 (C_X6_canStandAt l hX hev.2 hq7) rfl rfl ⟨Nat.le_of_ble_eq_true rfl, Nat.le_of_ble_eq_true rfl⟩ (Nat.le_of_ble_eq_true rfl) 78 rfl [.int q7.1] rfl ?_
    refine x_if_eq hh dX1_passByDraw_78 91 rfl 81 rfl (fun hc8 => ?_) (fun hc8 => ?_)
    · have hf := t_pos hc8 hf
      refine x_iconst hh dX1_passByDraw_91 0 rfl 92 rfl ?_
      refine x_sub (lv' := [(0, .ref (X.2.1 (sc + 6)))]) [3] rfl ?_
      exact Z_X1_passByDraw_92 hX hev hh hr  0 q7.2 hf
    · have hf := t_neg hc8 hf
      refine x_aload_n hh dX1_passByDraw_81 rfl 3 rfl 82 rfl ?_
      refine x_iload_n hh dX1_passByDraw_82 rfl 2 rfl 83 rfl ?_
      refine x_iload_n hh dX1_passByDraw_83 rfl 1 rfl 84 rfl ?_
      refine x_iload_n hh dX1_passByDraw_84 rfl 0 rfl 85 rfl ?_
      obtain ⟨q9, hq9, hf⟩ := b_some hf
      refine x_callV (rest := []) hh mi_X1_comesIn [.int q1.1, .int q4.1, .int q6.1] dX1_passByDraw_85 hev.1 wd_771 (C_X1_comesIn l hX hev hq9) rfl rfl ⟨Nat.le_of_ble_eq_true rfl, Nat.le_of_ble_eq_true rfl⟩ (Nat.le_of_ble_eq_true rfl) 88 rfl [.int q9.1] rfl ?_
      refine x_goto hh dX1_passByDraw_88 92 rfl ?_
      refine x_sub (lv' := [(0, .ref (X.2.1 (sc + 6)))]) [3] rfl ?_
      exact Z_X1_passByDraw_92 hX hev hh hr  q9.1 q9.2 hf
  · have hf := t_neg hc3 hf
    refine x_aload_n hh dX1_passByDraw_27 rfl 2 rfl 28 rfl ?_
    refine x_getR hh cl_1 dX1_passByDraw_28 hev.1 1 sc rfl (Nat.le_of_ble_eq_true rfl) wd_194 31 rfl ?_
    refine x_iload_n hh dX1_passByDraw_31 rfl 1 rfl 32 rfl ?_
    obtain ⟨q10, hq10, hf⟩ := b_some hf
    refine x_callV (rest := []) hh mi_X6_goOut [.int q1.1] dX1_passByDraw_32 hev.2.1 wd_607 (C_X6_goOut l hX hev.2 hq10) rfl rfl ⟨Nat.le_of_ble_eq_true rfl, Nat.le_of_ble_eq_true rfl⟩ (Nat.le_of_ble_eq_true rfl) 35 rfl [] rfl ?_
    refine x_aload_n hh dX1_passByDraw_35 rfl 2 rfl 36 rfl ?_
    refine x_iload_n hh dX1_passByDraw_36 rfl 0 rfl 37 rfl ?_
    obtain ⟨q11, hq11, hf⟩ := b_some hf
    refine x_callV (rest := []) hh mi_X1_allBow [.int (q1.2.1 (sc + 1) q1.1.toNatClampNeg)] dX1_passByDraw_37 hev.1 wd_598 (C_X1_allBow l hX hev hq11) rfl rfl ⟨Nat.le_of_ble_eq_true rfl, Nat.le_of_ble_eq_true rfl⟩ (Nat.le_of_ble_eq_true rfl) 40 rfl [.int q11.1] rfl ?_
    refine x_pop hh dX1_passByDraw_40 rfl 41 rfl ?_
    refine x_iconst hh dX1_passByDraw_41 0 rfl 42 rfl ?_
    obtain ⟨rfl, rfl⟩ := ret2 hf
    exact x_iret hh hr dX1_passByDraw_42
def F_X1_passByDraw (sc : Nat) (st : St) : Option (Int32 × St) := F_X1_passByDraw_0 sc st
set_option maxRecDepth 100000 in
theorem C_X1_passByDraw (l : Launch) {X : Cx} (hX : Ok X) {sc : Nat} (hev : Ev sc) {st : St} {q : Int32 × St} (hf : F_X1_passByDraw sc st = some q) : Ct l X 4 yX1_passByDraw (.code yX1_passByDraw cX1_passByDraw 4 (some .int)) [.ref (X.2.1 (sc + 6))] st (some (.int q.1)) q.2 := by
  refine Ct.of hX (by decide) (Nat.le_of_ble_eq_true rfl) ?_
  intro p e s m args below meth c hh hr
  exact Z_X1_passByDraw_0 hX hev hh hr st hf

def F_X7_feed_11 (st : St) : Option (Int32 × St) := some ((-1000000002), st)
set_option maxRecDepth 100000 in
set_option maxHeartbeats 4000000 in
theorem Z_X7_feed_11 {l : Launch} {X : Cx} (hX : Ok X) {p : Program} {e : Env} {s : State} {m : MethodId} {args : Array Value} {below : List Frame} {meth : Method} {c : Code} {rr : Int32} {st' : St} (hh : Hy X p s m args meth c cX7_feed 4 RX7) (hr : meth.sig.returnType = some .int) (st : St) (hf : F_X7_feed_11 st = some (rr, st')) : Z X p l e (rmk 1) s m args below meth c 4 (MQ below (Qf X (some (.int rr)) st') args s 0 0 (cA X)) 11 [(0, .ref (X.2.1 0))] [] st := by
  unfold F_X7_feed_11 at hf
  refine x_ldc hh dX7_feed_11 wd_320 13 rfl ?_
  obtain ⟨rfl, rfl⟩ := ret2 hf
  exact x_iret hh hr dX7_feed_13
def F_X7_feed_0 (v1 : Int32) (v2 : Int64) (st : St) : Option (Int32 × St) := if v1 < 1 then F_X7_feed_11 st else if v1 ≤ 8 then if ((st.1 23 1) + v1) ≤ 500 then (F_X5_takeBytes v1 v2 st).bind (fun q4 => some (q4.1 23 1, q4)) else some ((-1000000004), st) else F_X7_feed_11 st
set_option maxRecDepth 100000 in
set_option maxHeartbeats 4000000 in
theorem Z_X7_feed_0 {l : Launch} {X : Cx} (hX : Ok X) {p : Program} {e : Env} {s : State} {m : MethodId} {args : Array Value} {below : List Frame} {meth : Method} {c : Code} {rr : Int32} {st' : St} (hh : Hy X p s m args meth c cX7_feed 4 RX7) (hr : meth.sig.returnType = some .int) (v1 : Int32) (v2 : Int64) (st : St) (hf : F_X7_feed_0 v1 v2 st = some (rr, st')) : Z X p l e (rmk 1) s m args below meth c 4 (MQ below (Qf X (some (.int rr)) st') args s 0 0 (cA X)) 0 [(0, .ref (X.2.1 0)), (1, .int v1), (2, .long v2)] [] st := by
  unfold F_X7_feed_0 at hf
  refine x_iload_n hh dX7_feed_0 rfl 1 rfl 1 rfl ?_
  refine x_iconst hh dX7_feed_1 1 rfl 2 rfl ?_
  refine x_icmp_lt hh dX7_feed_2 11 rfl 5 rfl (fun hc1 => ?_) (fun hc1 => ?_)
  · have hf := t_pos hc1 hf
    refine x_sub (lv' := [(0, .ref (X.2.1 0))]) [0] rfl ?_
    exact Z_X7_feed_11 hX hh hr  st hf
  · have hf := t_neg hc1 hf
    refine x_iload_n hh dX7_feed_5 rfl 1 rfl 6 rfl ?_
    refine x_bipush hh dX7_feed_6 8 rfl 8 rfl ?_
    refine x_icmp_le hh dX7_feed_8 14 rfl 11 rfl (fun hc2 => ?_) (fun hc2 => ?_)
    · have hf := t_pos hc2 hf
      refine x_aload_n hh dX7_feed_14 rfl 0 rfl 15 rfl ?_
      refine x_getR hh cl_7 dX7_feed_15 sh_0 5 23 rfl (Nat.le_of_ble_eq_true rfl) wd_296 18 rfl ?_
      refine x_getI hh cl_5 dX7_feed_18 sh_23 1 rfl (Nat.le_of_ble_eq_true rfl) wd_206 21 rfl ?_
      refine x_iload_n hh dX7_feed_21 rfl 1 rfl 22 rfl ?_
      refine x_iadd hh dX7_feed_22 23 rfl ?_
      refine x_sipush hh dX7_feed_23 500 rfl 26 rfl ?_
      refine x_icmp_le hh dX7_feed_26 32 rfl 29 rfl (fun hc3 => ?_) (fun hc3 => ?_)
      · have hf := t_pos hc3 hf
        refine x_aload_n hh dX7_feed_32 rfl 0 rfl 33 rfl ?_
        refine x_getR hh cl_7 dX7_feed_33 sh_0 5 23 rfl (Nat.le_of_ble_eq_true rfl) wd_296 36 rfl ?_
        refine x_iload_n hh dX7_feed_36 rfl 1 rfl 37 rfl ?_
        refine x_lload_n hh dX7_feed_37 rfl 2 rfl 38 rfl ?_
        obtain ⟨q4, hq4, hf⟩ := b_some hf
        refine x_callV (rest := []) hh mi_X5_takeBytes [.int v1, .long v2] dX7_feed_38 sh_23 wd_322 (C_X5_takeBytes l hX  hq4) rfl rfl ⟨Nat.le_of_ble_eq_true rfl, Nat.le_of_ble_eq_true rfl⟩ (Nat.le_of_ble_eq_true rfl) 41 rfl [] rfl ?_
        refine x_aload_n hh dX7_feed_41 rfl 0 rfl 42 rfl ?_
        refine x_getR hh cl_7 dX7_feed_42 sh_0 5 23 rfl (Nat.le_of_ble_eq_true rfl) wd_296 45 rfl ?_
        refine x_getI hh cl_5 dX7_feed_45 sh_23 1 rfl (Nat.le_of_ble_eq_true rfl) wd_206 48 rfl ?_
        obtain ⟨rfl, rfl⟩ := ret2 hf
        exact x_iret hh hr dX7_feed_48
      · have hf := t_neg hc3 hf
        refine x_ldc hh dX7_feed_29 wd_321 31 rfl ?_
        obtain ⟨rfl, rfl⟩ := ret2 hf
        exact x_iret hh hr dX7_feed_31
    · have hf := t_neg hc2 hf
      refine x_sub (lv' := [(0, .ref (X.2.1 0))]) [0] rfl ?_
      exact Z_X7_feed_11 hX hh hr  st hf
def F_X7_feed (v1 : Int32) (v2 : Int64) (st : St) : Option (Int32 × St) := F_X7_feed_0  v1 v2 st
set_option maxRecDepth 100000 in
theorem C_X7_feed (l : Launch) {X : Cx} (hX : Ok X) {v1 : Int32} {v2 : Int64} {st : St} {q : Int32 × St} (hf : F_X7_feed v1 v2 st = some q) : Ct l X 1 yX7_feed (.code yX7_feed cX7_feed 4 (some .int)) [.ref (X.2.1 0), .int v1, .long v2] st (some (.int q.1)) q.2 := by
  refine Ct.of hX (by decide) (Nat.le_of_ble_eq_true rfl) ?_
  intro p e s m args below meth c hh hr
  exact Z_X7_feed_0 hX hh hr v1 v2 st hf

def F_X7_house_89 : Nat → Int32 → St → Option (Int32 × St)
  | 0, _, _ => none
  | n + 1, v1, st => if (2 : Int32) ≤ v1 then some (st.1 1 1, st) else gi v1 2 (bs (sV st 58 v1.toNatClampNeg (vp_nar .boolean 0)) (fun st11 => F_X7_house_89 n (v1 + 1) st11))
set_option maxRecDepth 100000 in
set_option maxHeartbeats 4000000 in
theorem Z_X7_house_89 {l : Launch} {X : Cx} (hX : Ok X) {p : Program} {e : Env} {s : State} {m : MethodId} {args : Array Value} {below : List Frame} {meth : Method} {c : Code} {rr : Int32} {st' : St} (hh : Hy X p s m args meth c cX7_house 2 RX7) (hr : meth.sig.returnType = some .int) : ∀ (n : Nat) (v1 : Int32) (st : St), F_X7_house_89 n v1 st = some (rr, st') → Z X p l e (rmk 12) s m args below meth c 2 (MQ below (Qf X (some (.int rr)) st') args s 0 0 (cA X)) 89 [(0, .ref (X.2.1 0)), (1, .int v1)] [] st := by
  intro n
  induction n with
  | zero =>
    intro v1 st hf
    cases hf
  | succ n ih =>
    intro v1 st hf
    rw [F_X7_house_89] at hf
    refine x_iload_n hh dX7_house_89 rfl 1 rfl 90 rfl ?_
    refine x_iconst hh dX7_house_90 2 rfl 91 rfl ?_
    refine x_icmp_ge hh dX7_house_91 107 rfl 94 rfl (fun hc9 => ?_) (fun hc9 => ?_)
    · have hf := t_pos hc9 hf
      refine x_aload_n hh dX7_house_107 rfl 0 rfl 108 rfl ?_
      refine x_getR hh cl_7 dX7_house_108 sh_0 0 1 rfl (Nat.le_of_ble_eq_true rfl) wd_291 111 rfl ?_
      refine x_getI hh cl_3 dX7_house_111 sh_1 1 rfl (Nat.le_of_ble_eq_true rfl) wd_112 114 rfl ?_
      obtain ⟨rfl, rfl⟩ := ret2 hf
      exact x_iret hh hr dX7_house_114
    · have hf := t_neg hc9 hf
      refine x_aload_n hh dX7_house_94 rfl 0 rfl 95 rfl ?_
      refine x_getR hh cl_7 dX7_house_95 sh_0 10 58 rfl (Nat.le_of_ble_eq_true rfl) wd_301 98 rfl ?_
      refine x_iload_n hh dX7_house_98 rfl 1 rfl 99 rfl ?_
      refine x_iconst hh dX7_house_99 0 rfl 100 rfl ?_
      obtain ⟨hi10, hf⟩ := gi_some hf
      obtain ⟨st11, est11, hf⟩ := bs_some hf
      refine x_zastore hh dX7_house_100 sh_58 hi10 101 rfl st11 est11 ?_
      refine x_iinc hh dX7_house_101 1 rfl (v1 + 1) rfl (by decide) [(1, .int (v1 + 1)), (0, .ref (X.2.1 0))] rfl 104 rfl ?_
      refine x_goto hh dX7_house_104 89 rfl ?_
      refine x_sub (lv' := [(0, .ref (X.2.1 0)), (1, .int (v1 + 1))]) [1, 0] rfl ?_
      exact ih (v1 + 1) st11 hf
def F_X7_house_0 (st : St) : Option (Int32 × St) := (F_X5_readAll st).bind (fun q1 => bs (sV q1 23 1 0) (fun st2 => bs (sV st2 0 11 (st2.1 23 3)) (fun st3 => if (st3.1 23 2) = 0 then (F_X3_copyFrom 1 24 st3).bind (fun q5 => (F_X6_begin 9 1 q5).bind (fun q6 => (F_X4_forget q6).bind (fun q7 => bs (sV q7 41 3 0) (fun st8 => F_X7_house_89 fN 0 st8)))) else some (((-10)) - (st3.1 23 2), st3))))
set_option maxRecDepth 100000 in
set_option maxHeartbeats 4000000 in
theorem Z_X7_house_0 {l : Launch} {X : Cx} (hX : Ok X) {p : Program} {e : Env} {s : State} {m : MethodId} {args : Array Value} {below : List Frame} {meth : Method} {c : Code} {rr : Int32} {st' : St} (hh : Hy X p s m args meth c cX7_house 2 RX7) (hr : meth.sig.returnType = some .int) (st : St) (hf : F_X7_house_0 st = some (rr, st')) : Z X p l e (rmk 12) s m args below meth c 2 (MQ below (Qf X (some (.int rr)) st') args s 0 0 (cA X)) 0 [(0, .ref (X.2.1 0))] [] st := by
  unfold F_X7_house_0 at hf
  refine x_aload_n hh dX7_house_0 rfl 0 rfl 1 rfl ?_
  refine x_getR hh cl_7 dX7_house_1 sh_0 5 23 rfl (Nat.le_of_ble_eq_true rfl) wd_296 4 rfl ?_
  obtain ⟨q1, hq1, hf⟩ := b_some hf
  refine x_callV (rest := []) hh mi_X5_readAll [] dX7_house_4 sh_23 wd_330 (C_X5_readAll l hX  hq1) rfl rfl ⟨Nat.le_of_ble_eq_true rfl, Nat.le_of_ble_eq_true rfl⟩ (Nat.le_of_ble_eq_true rfl) 7 rfl [] rfl ?_
  refine x_aload_n hh dX7_house_7 rfl 0 rfl 8 rfl ?_
  refine x_getR hh cl_7 dX7_house_8 sh_0 5 23 rfl (Nat.le_of_ble_eq_true rfl) wd_296 11 rfl ?_
  refine x_iconst hh dX7_house_11 0 rfl 12 rfl ?_
  obtain ⟨st2, est2, hf⟩ := bs_some hf
  refine x_putI hh cl_5 dX7_house_12 sh_23 1 rfl (Nat.le_of_ble_eq_true rfl) wd_206 rfl rfl rfl 15 rfl st2 est2 ?_
  refine x_aload_n hh dX7_house_15 rfl 0 rfl 16 rfl ?_
  refine x_aload_n hh dX7_house_16 rfl 0 rfl 17 rfl ?_
  refine x_getR hh cl_7 dX7_house_17 sh_0 5 23 rfl (Nat.le_of_ble_eq_true rfl) wd_296 20 rfl ?_
  refine x_getI hh cl_5 dX7_house_20 sh_23 3 rfl (Nat.le_of_ble_eq_true rfl) wd_210 23 rfl ?_
  obtain ⟨st3, est3, hf⟩ := bs_some hf
  refine x_putI hh cl_7 dX7_house_23 sh_0 11 rfl (Nat.le_of_ble_eq_true rfl) wd_302 rfl rfl rfl 26 rfl st3 est3 ?_
  refine x_aload_n hh dX7_house_26 rfl 0 rfl 27 rfl ?_
  refine x_getR hh cl_7 dX7_house_27 sh_0 5 23 rfl (Nat.le_of_ble_eq_true rfl) wd_296 30 rfl ?_
  refine x_getI hh cl_5 dX7_house_30 sh_23 2 rfl (Nat.le_of_ble_eq_true rfl) wd_208 33 rfl ?_
  refine x_if_eq hh dX7_house_33 47 rfl 36 rfl (fun hc4 => ?_) (fun hc4 => ?_)
  · have hf := t_pos hc4 hf
    refine x_aload_n hh dX7_house_47 rfl 0 rfl 48 rfl ?_
    refine x_getR hh cl_7 dX7_house_48 sh_0 0 1 rfl (Nat.le_of_ble_eq_true rfl) wd_291 51 rfl ?_
    refine x_aload_n hh dX7_house_51 rfl 0 rfl 52 rfl ?_
    refine x_getR hh cl_7 dX7_house_52 sh_0 5 23 rfl (Nat.le_of_ble_eq_true rfl) wd_296 55 rfl ?_
    refine x_getR hh cl_5 dX7_house_55 sh_23 0 24 rfl (Nat.le_of_ble_eq_true rfl) wd_204 58 rfl ?_
    obtain ⟨q5, hq5, hf⟩ := b_some hf
    refine x_callV (rest := []) hh mi_X3_copyFrom [.ref (X.2.1 24)] dX7_house_58 sh_1 wd_419 (C_X3_copyFrom l hX ho_1 ho_24 hq5) rfl rfl ⟨Nat.le_of_ble_eq_true rfl, Nat.le_of_ble_eq_true rfl⟩ (Nat.le_of_ble_eq_true rfl) 61 rfl [] rfl ?_
    refine x_aload_n hh dX7_house_61 rfl 0 rfl 62 rfl ?_
    refine x_getR hh cl_7 dX7_house_62 sh_0 1 9 rfl (Nat.le_of_ble_eq_true rfl) wd_292 65 rfl ?_
    refine x_aload_n hh dX7_house_65 rfl 0 rfl 66 rfl ?_
    refine x_getR hh cl_7 dX7_house_66 sh_0 0 1 rfl (Nat.le_of_ble_eq_true rfl) wd_291 69 rfl ?_
    obtain ⟨q6, hq6, hf⟩ := b_some hf
    refine x_callV (rest := []) hh mi_X6_begin [.ref (X.2.1 1)] dX7_house_69 sh_9 wd_431 (C_X6_begin l hX sc_9 ho_1 hq6) rfl rfl ⟨Nat.le_of_ble_eq_true rfl, Nat.le_of_ble_eq_true rfl⟩ (Nat.le_of_ble_eq_true rfl) 72 rfl [] rfl ?_
    refine x_aload_n hh dX7_house_72 rfl 0 rfl 73 rfl ?_
    refine x_getR hh cl_7 dX7_house_73 sh_0 6 33 rfl (Nat.le_of_ble_eq_true rfl) wd_297 76 rfl ?_
    obtain ⟨q7, hq7, hf⟩ := b_some hf
    refine x_callV (rest := []) hh mi_X4_forget [] dX7_house_76 sh_33 wd_447 (C_X4_forget l hX  hq7) rfl rfl ⟨Nat.le_of_ble_eq_true rfl, Nat.le_of_ble_eq_true rfl⟩ (Nat.le_of_ble_eq_true rfl) 79 rfl [] rfl ?_
    refine x_aload_n hh dX7_house_79 rfl 0 rfl 80 rfl ?_
    refine x_getR hh cl_7 dX7_house_80 sh_0 8 41 rfl (Nat.le_of_ble_eq_true rfl) wd_299 83 rfl ?_
    refine x_iconst hh dX7_house_83 0 rfl 84 rfl ?_
    obtain ⟨st8, est8, hf⟩ := bs_some hf
    refine x_putI hh cl_0 dX7_house_84 sh_41 3 rfl (Nat.le_of_ble_eq_true rfl) wd_286 rfl rfl rfl 87 rfl st8 est8 ?_
    refine x_iconst hh dX7_house_87 0 rfl 88 rfl ?_
    refine x_istore_n hh dX7_house_88 rfl (by decide) [(1, .int 0), (0, .ref (X.2.1 0))] rfl 89 rfl ?_
    refine x_sub (lv' := [(0, .ref (X.2.1 0)), (1, .int 0)]) [1, 0] rfl ?_
    exact Z_X7_house_89 hX hh hr fN 0 st8 hf
  · have hf := t_neg hc4 hf
    refine x_bipush hh dX7_house_36 (-10) rfl 38 rfl ?_
    refine x_aload_n hh dX7_house_38 rfl 0 rfl 39 rfl ?_
    refine x_getR hh cl_7 dX7_house_39 sh_0 5 23 rfl (Nat.le_of_ble_eq_true rfl) wd_296 42 rfl ?_
    refine x_getI hh cl_5 dX7_house_42 sh_23 2 rfl (Nat.le_of_ble_eq_true rfl) wd_208 45 rfl ?_
    refine x_isub hh dX7_house_45 46 rfl ?_
    obtain ⟨rfl, rfl⟩ := ret2 hf
    exact x_iret hh hr dX7_house_46
def F_X7_house (st : St) : Option (Int32 × St) := F_X7_house_0  st
set_option maxRecDepth 100000 in
theorem C_X7_house (l : Launch) {X : Cx} (hX : Ok X) {st : St} {q : Int32 × St} (hf : F_X7_house st = some q) : Ct l X 12 yX7_house (.code yX7_house cX7_house 2 (some .int)) [.ref (X.2.1 0)] st (some (.int q.1)) q.2 := by
  refine Ct.of hX (by decide) (Nat.le_of_ble_eq_true rfl) ?_
  intro p e s m args below meth c hh hr
  exact Z_X7_house_0 hX hh hr st hf

def F_X7_fault_0 (st : St) : Option (Int32 × St) := some (st.1 0 11, st)
set_option maxRecDepth 100000 in
set_option maxHeartbeats 4000000 in
theorem Z_X7_fault_0 {l : Launch} {X : Cx} (hX : Ok X) {p : Program} {e : Env} {s : State} {m : MethodId} {args : Array Value} {below : List Frame} {meth : Method} {c : Code} {rr : Int32} {st' : St} (hh : Hy X p s m args meth c cX7_fault 1 RX7) (hr : meth.sig.returnType = some .int) (st : St) (hf : F_X7_fault_0 st = some (rr, st')) : Z X p l e (rmk 0) s m args below meth c 1 (MQ below (Qf X (some (.int rr)) st') args s 0 0 (cA X)) 0 [(0, .ref (X.2.1 0))] [] st := by
  unfold F_X7_fault_0 at hf
  refine x_aload_n hh dX7_fault_0 rfl 0 rfl 1 rfl ?_
  refine x_getI hh cl_7 dX7_fault_1 sh_0 11 rfl (Nat.le_of_ble_eq_true rfl) wd_302 4 rfl ?_
  obtain ⟨rfl, rfl⟩ := ret2 hf
  exact x_iret hh hr dX7_fault_4
def F_X7_fault (st : St) : Option (Int32 × St) := F_X7_fault_0  st
set_option maxRecDepth 100000 in
theorem C_X7_fault (l : Launch) {X : Cx} (hX : Ok X) {st : St} {q : Int32 × St} (hf : F_X7_fault st = some q) : Ct l X 0 yX7_fault (.code yX7_fault cX7_fault 1 (some .int)) [.ref (X.2.1 0)] st (some (.int q.1)) q.2 := by
  refine Ct.of hX (by decide) (Nat.le_of_ble_eq_true rfl) ?_
  intro p e s m args below meth c hh hr
  exact Z_X7_fault_0 hX hh hr st hf

def F_X7_told_0 (v1 : Int32) (st : St) : Option (Int32 × St) := if v1 = 0 then some (st.1 1 0, st) else if v1 = 1 then some (st.1 1 1, st) else if v1 = 2 then some (st.1 1 2, st) else if v1 = 3 then some (st.1 23 1, st) else if v1 = 4 then some (st.1 9 5, st) else if v1 = 5 then some (st.1 41 3, st) else if v1 = 6 then (F_X6_somewhere 9 st).bind (fun q8 => some (q8.1, q8.2)) else some ((-1000000002), st)
set_option maxRecDepth 100000 in
set_option maxHeartbeats 4000000 in
theorem Z_X7_told_0 {l : Launch} {X : Cx} (hX : Ok X) {p : Program} {e : Env} {s : State} {m : MethodId} {args : Array Value} {below : List Frame} {meth : Method} {c : Code} {rr : Int32} {st' : St} (hh : Hy X p s m args meth c cX7_told 2 RX7) (hr : meth.sig.returnType = some .int) (v1 : Int32) (st : St) (hf : F_X7_told_0 v1 st = some (rr, st')) : Z X p l e (rmk 2) s m args below meth c 2 (MQ below (Qf X (some (.int rr)) st') args s 0 0 (cA X)) 0 [(0, .ref (X.2.1 0)), (1, .int v1)] [] st := by
  unfold F_X7_told_0 at hf
  refine x_iload_n hh dX7_told_0 rfl 1 rfl 1 rfl ?_
  by_cases hc1 : v1 = 0
  · have hf := t_pos hc1 hf
    refine x_tableIn hh dX7_told_1 (by rw [hc1]; decide) (by rw [hc1]; decide) 43 (by rw [hc1]; rfl) 44 rfl ?_
    refine x_aload_n hh dX7_told_44 rfl 0 rfl 45 rfl ?_
    refine x_getR hh cl_7 dX7_told_45 sh_0 0 1 rfl (Nat.le_of_ble_eq_true rfl) wd_291 48 rfl ?_
    refine x_getI hh cl_3 dX7_told_48 sh_1 0 rfl (Nat.le_of_ble_eq_true rfl) wd_109 51 rfl ?_
    obtain ⟨rfl, rfl⟩ := ret2 hf
    exact x_iret hh hr dX7_told_51
  · have hf := t_neg hc1 hf
    by_cases hc2 : v1 = 1
    · have hf := t_pos hc2 hf
      refine x_tableIn hh dX7_told_1 (by rw [hc2]; decide) (by rw [hc2]; decide) 51 (by rw [hc2]; rfl) 52 rfl ?_
      refine x_aload_n hh dX7_told_52 rfl 0 rfl 53 rfl ?_
      refine x_getR hh cl_7 dX7_told_53 sh_0 0 1 rfl (Nat.le_of_ble_eq_true rfl) wd_291 56 rfl ?_
      refine x_getI hh cl_3 dX7_told_56 sh_1 1 rfl (Nat.le_of_ble_eq_true rfl) wd_112 59 rfl ?_
      obtain ⟨rfl, rfl⟩ := ret2 hf
      exact x_iret hh hr dX7_told_59
    · have hf := t_neg hc2 hf
      by_cases hc3 : v1 = 2
      · have hf := t_pos hc3 hf
        refine x_tableIn hh dX7_told_1 (by rw [hc3]; decide) (by rw [hc3]; decide) 59 (by rw [hc3]; rfl) 60 rfl ?_
        refine x_aload_n hh dX7_told_60 rfl 0 rfl 61 rfl ?_
        refine x_getR hh cl_7 dX7_told_61 sh_0 0 1 rfl (Nat.le_of_ble_eq_true rfl) wd_291 64 rfl ?_
        refine x_getI hh cl_3 dX7_told_64 sh_1 2 rfl (Nat.le_of_ble_eq_true rfl) wd_118 67 rfl ?_
        obtain ⟨rfl, rfl⟩ := ret2 hf
        exact x_iret hh hr dX7_told_67
      · have hf := t_neg hc3 hf
        by_cases hc4 : v1 = 3
        · have hf := t_pos hc4 hf
          refine x_tableIn hh dX7_told_1 (by rw [hc4]; decide) (by rw [hc4]; decide) 67 (by rw [hc4]; rfl) 68 rfl ?_
          refine x_aload_n hh dX7_told_68 rfl 0 rfl 69 rfl ?_
          refine x_getR hh cl_7 dX7_told_69 sh_0 5 23 rfl (Nat.le_of_ble_eq_true rfl) wd_296 72 rfl ?_
          refine x_getI hh cl_5 dX7_told_72 sh_23 1 rfl (Nat.le_of_ble_eq_true rfl) wd_206 75 rfl ?_
          obtain ⟨rfl, rfl⟩ := ret2 hf
          exact x_iret hh hr dX7_told_75
        · have hf := t_neg hc4 hf
          by_cases hc5 : v1 = 4
          · have hf := t_pos hc5 hf
            refine x_tableIn hh dX7_told_1 (by rw [hc5]; decide) (by rw [hc5]; decide) 75 (by rw [hc5]; rfl) 76 rfl ?_
            refine x_aload_n hh dX7_told_76 rfl 0 rfl 77 rfl ?_
            refine x_getR hh cl_7 dX7_told_77 sh_0 1 9 rfl (Nat.le_of_ble_eq_true rfl) wd_292 80 rfl ?_
            refine x_getI hh cl_6 dX7_told_80 sh_9 5 rfl (Nat.le_of_ble_eq_true rfl) wd_175 83 rfl ?_
            obtain ⟨rfl, rfl⟩ := ret2 hf
            exact x_iret hh hr dX7_told_83
          · have hf := t_neg hc5 hf
            by_cases hc6 : v1 = 5
            · have hf := t_pos hc6 hf
              refine x_tableIn hh dX7_told_1 (by rw [hc6]; decide) (by rw [hc6]; decide) 83 (by rw [hc6]; rfl) 84 rfl ?_
              refine x_aload_n hh dX7_told_84 rfl 0 rfl 85 rfl ?_
              refine x_getR hh cl_7 dX7_told_85 sh_0 8 41 rfl (Nat.le_of_ble_eq_true rfl) wd_299 88 rfl ?_
              refine x_getI hh cl_0 dX7_told_88 sh_41 3 rfl (Nat.le_of_ble_eq_true rfl) wd_286 91 rfl ?_
              obtain ⟨rfl, rfl⟩ := ret2 hf
              exact x_iret hh hr dX7_told_91
            · have hf := t_neg hc6 hf
              by_cases hc7 : v1 = 6
              · have hf := t_pos hc7 hf
                refine x_tableIn hh dX7_told_1 (by rw [hc7]; decide) (by rw [hc7]; decide) 91 (by rw [hc7]; rfl) 92 rfl ?_
                refine x_aload_n hh dX7_told_92 rfl 0 rfl 93 rfl ?_
                refine x_getR hh cl_7 dX7_told_93 sh_0 1 9 rfl (Nat.le_of_ble_eq_true rfl) wd_292 96 rfl ?_
                obtain ⟨q8, hq8, hf⟩ := b_some hf
                refine x_callV (rest := []) hh mi_X6_somewhere [] dX7_told_96 sh_9 wd_459 (C_X6_somewhere l hX sc_9 hq8) rfl rfl ⟨Nat.le_of_ble_eq_true rfl, Nat.le_of_ble_eq_true rfl⟩ (Nat.le_of_ble_eq_true rfl) 99 rfl [.int q8.1] rfl ?_
                obtain ⟨rfl, rfl⟩ := ret2 hf
                exact x_iret hh hr dX7_told_99
              · have hf := t_neg hc7 hf
                refine x_tableOut hh dX7_told_1 (by have a0 := lv_neT (a := 0) hc1 rfl; have a1 := lv_neT (a := 1) hc2 rfl; have a2 := lv_neT (a := 2) hc3 rfl; have a3 := lv_neT (a := 3) hc4 rfl; have a4 := lv_neT (a := 4) hc5 rfl; have a5 := lv_neT (a := 5) hc6 rfl; have a6 := lv_neT (a := 6) hc7 rfl; omega) 100 rfl ?_
                refine x_ldc hh dX7_told_100 wd_320 102 rfl ?_
                obtain ⟨rfl, rfl⟩ := ret2 hf
                exact x_iret hh hr dX7_told_102
def F_X7_told (v1 : Int32) (st : St) : Option (Int32 × St) := F_X7_told_0  v1 st
set_option maxRecDepth 100000 in
theorem C_X7_told (l : Launch) {X : Cx} (hX : Ok X) {v1 : Int32} {st : St} {q : Int32 × St} (hf : F_X7_told v1 st = some q) : Ct l X 2 yX7_told (.code yX7_told cX7_told 2 (some .int)) [.ref (X.2.1 0), .int v1] st (some (.int q.1)) q.2 := by
  refine Ct.of hX (by decide) (Nat.le_of_ble_eq_true rfl) ?_
  intro p e s m args below meth c hh hr
  exact Z_X7_told_0 hX hh hr v1 st hf

def F_X7_room_52 (st : St) : Option (Int32 × St) := some ((-1000000002), st)
set_option maxRecDepth 100000 in
set_option maxHeartbeats 4000000 in
theorem Z_X7_room_52 {l : Launch} {X : Cx} (hX : Ok X) {p : Program} {e : Env} {s : State} {m : MethodId} {args : Array Value} {below : List Frame} {meth : Method} {c : Code} {rr : Int32} {st' : St} (hh : Hy X p s m args meth c cX7_room 4 RX7) (hr : meth.sig.returnType = some .int) (st : St) (hf : F_X7_room_52 st = some (rr, st')) : Z X p l e (rmk 1) s m args below meth c 4 (MQ below (Qf X (some (.int rr)) st') args s 0 0 (cA X)) 52 [(0, .ref (X.2.1 0))] [] st := by
  unfold F_X7_room_52 at hf
  refine x_ldc hh dX7_room_52 wd_320 54 rfl ?_
  obtain ⟨rfl, rfl⟩ := ret2 hf
  exact x_iret hh hr dX7_room_54
def F_X7_room_80 (t0 : Int32) (st : St) : Option (Int32 × St) := some (t0, st)
set_option maxRecDepth 100000 in
set_option maxHeartbeats 4000000 in
theorem Z_X7_room_80 {l : Launch} {X : Cx} (hX : Ok X) {p : Program} {e : Env} {s : State} {m : MethodId} {args : Array Value} {below : List Frame} {meth : Method} {c : Code} {rr : Int32} {st' : St} (hh : Hy X p s m args meth c cX7_room 4 RX7) (hr : meth.sig.returnType = some .int) (t0 : Int32) (st : St) (hf : F_X7_room_80 t0 st = some (rr, st')) : Z X p l e (rmk 1) s m args below meth c 4 (MQ below (Qf X (some (.int rr)) st') args s 0 0 (cA X)) 80 [(0, .ref (X.2.1 0))] [.int t0] st := by
  unfold F_X7_room_80 at hf
  obtain ⟨rfl, rfl⟩ := ret2 hf
  exact x_iret hh hr dX7_room_80
def F_X7_room_0 (v1 : Int32) (v2 : Int32) (v3 : Int32) (st : St) : Option (Int32 × St) := (F_X3_hasRoom 1 v1 st).bind (fun q1 => if q1.1 = 0 then some ((-1000000001), q1.2) else if v2 = ((-1)) then (F_X3_placesOf 1 v1 q1.2).bind (fun q11 => some (q11.1, q11.2)) else (F_X3_hasPlace 1 v1 v2 q1.2).bind (fun q4 => if q4.1 = 0 then some ((-1000000001), q4.2) else if v3 < 0 then F_X7_room_52 q4.2 else if v3 ≤ 1 then if v3 = 0 then (F_X3_floorAt 1 v1 v2 q4.2).bind (fun q10 => F_X7_room_80 q10.1 q10.2) else (F_X6_whoIsAt 9 v1 v2 q4.2).bind (fun q9 => F_X7_room_80 q9.1 q9.2) else F_X7_room_52 q4.2))
set_option maxRecDepth 100000 in
set_option maxHeartbeats 4000000 in
theorem Z_X7_room_0 {l : Launch} {X : Cx} (hX : Ok X) {p : Program} {e : Env} {s : State} {m : MethodId} {args : Array Value} {below : List Frame} {meth : Method} {c : Code} {rr : Int32} {st' : St} (hh : Hy X p s m args meth c cX7_room 4 RX7) (hr : meth.sig.returnType = some .int) (v1 : Int32) (v2 : Int32) (v3 : Int32) (st : St) (hf : F_X7_room_0 v1 v2 v3 st = some (rr, st')) : Z X p l e (rmk 1) s m args below meth c 4 (MQ below (Qf X (some (.int rr)) st') args s 0 0 (cA X)) 0 [(0, .ref (X.2.1 0)), (1, .int v1), (2, .int v2), (3, .int v3)] [] st := by
  unfold F_X7_room_0 at hf
  refine x_aload_n hh dX7_room_0 rfl 0 rfl 1 rfl ?_
  refine x_getR hh cl_7 dX7_room_1 sh_0 0 1 rfl (Nat.le_of_ble_eq_true rfl) wd_291 4 rfl ?_
  refine x_iload_n hh dX7_room_4 rfl 1 rfl 5 rfl ?_
  obtain ⟨q1, hq1, hf⟩ := b_some hf
  refine x_callV (rest := []) hh mi_X3_hasRoom [.int v1] dX7_room_5 sh_1 wd_471 (C_X3_hasRoom l hX ho_1 hq1) rfl rfl ⟨Nat.le_of_ble_eq_true rfl, Nat.le_of_ble_eq_true rfl⟩ (Nat.le_of_ble_eq_true rfl) 8 rfl [.int q1.1] rfl ?_
  refine x_if_ne hh dX7_room_8 14 rfl 11 rfl (fun hc2 => ?_) (fun hc2 => ?_)
  · have hf := t_neg hc2 hf
    refine x_iload_n hh dX7_room_14 rfl 2 rfl 15 rfl ?_
    refine x_iconst hh dX7_room_15 (-1) rfl 16 rfl ?_
    refine x_icmp_ne hh dX7_room_16 28 rfl 19 rfl (fun hc3 => ?_) (fun hc3 => ?_)
    · have hf := t_neg hc3 hf
      refine x_aload_n hh dX7_room_28 rfl 0 rfl 29 rfl ?_
      refine x_getR hh cl_7 dX7_room_29 sh_0 0 1 rfl (Nat.le_of_ble_eq_true rfl) wd_291 32 rfl ?_
      refine x_iload_n hh dX7_room_32 rfl 1 rfl 33 rfl ?_
      refine x_iload_n hh dX7_room_33 rfl 2 rfl 34 rfl ?_
      obtain ⟨q4, hq4, hf⟩ := b_some hf
      refine x_callV (rest := []) hh mi_X3_hasPlace [.int v1, .int v2] dX7_room_34 sh_1 wd_480 (C_X3_hasPlace l hX ho_1 hq4) rfl rfl ⟨Nat.le_of_ble_eq_true rfl, Nat.le_of_ble_eq_true rfl⟩ (Nat.le_of_ble_eq_true rfl) 37 rfl [.int q4.1] rfl ?_
      refine x_if_ne hh dX7_room_37 43 rfl 40 rfl (fun hc5 => ?_) (fun hc5 => ?_)
      · have hf := t_neg hc5 hf
        refine x_iload_n hh dX7_room_43 rfl 3 rfl 44 rfl ?_
        refine x_if_lt hh dX7_room_44 52 rfl 47 rfl (fun hc6 => ?_) (fun hc6 => ?_)
        · have hf := t_pos hc6 hf
          refine x_sub (lv' := [(0, .ref (X.2.1 0))]) [0] rfl ?_
          exact Z_X7_room_52 hX hh hr  q4.2 hf
        · have hf := t_neg hc6 hf
          refine x_iload_n hh dX7_room_47 rfl 3 rfl 48 rfl ?_
          refine x_iconst hh dX7_room_48 1 rfl 49 rfl ?_
          refine x_icmp_le hh dX7_room_49 55 rfl 52 rfl (fun hc7 => ?_) (fun hc7 => ?_)
          · have hf := t_pos hc7 hf
            refine x_iload_n hh dX7_room_55 rfl 3 rfl 56 rfl ?_
            refine x_if_ne hh dX7_room_56 71 rfl 59 rfl (fun hc8 => ?_) (fun hc8 => ?_)
            · have hf := t_neg hc8 hf
              refine x_aload_n hh dX7_room_71 rfl 0 rfl 72 rfl ?_
              refine x_getR hh cl_7 dX7_room_72 sh_0 1 9 rfl (Nat.le_of_ble_eq_true rfl) wd_292 75 rfl ?_
              refine x_iload_n hh dX7_room_75 rfl 1 rfl 76 rfl ?_
              refine x_iload_n hh dX7_room_76 rfl 2 rfl 77 rfl ?_
              obtain ⟨q9, hq9, hf⟩ := b_some hf
              refine x_callV (rest := []) hh mi_X6_whoIsAt [.int v1, .int v2] dX7_room_77 sh_9 wd_488 (C_X6_whoIsAt l hX sc_9 hq9) rfl rfl ⟨Nat.le_of_ble_eq_true rfl, Nat.le_of_ble_eq_true rfl⟩ (Nat.le_of_ble_eq_true rfl) 80 rfl [.int q9.1] rfl ?_
              refine x_sub (lv' := [(0, .ref (X.2.1 0))]) [0] rfl ?_
              exact Z_X7_room_80 hX hh hr  q9.1 q9.2 hf
            · have hf := t_pos hc8 hf
              refine x_aload_n hh dX7_room_59 rfl 0 rfl 60 rfl ?_
              refine x_getR hh cl_7 dX7_room_60 sh_0 0 1 rfl (Nat.le_of_ble_eq_true rfl) wd_291 63 rfl ?_
              refine x_iload_n hh dX7_room_63 rfl 1 rfl 64 rfl ?_
              refine x_iload_n hh dX7_room_64 rfl 2 rfl 65 rfl ?_
              obtain ⟨q10, hq10, hf⟩ := b_some hf
              refine x_callV (rest := []) hh mi_X3_floorAt [.int v1, .int v2] dX7_room_65 sh_1 wd_484 (C_X3_floorAt l hX ho_1 hq10) rfl rfl ⟨Nat.le_of_ble_eq_true rfl, Nat.le_of_ble_eq_true rfl⟩ (Nat.le_of_ble_eq_true rfl) 68 rfl [.int q10.1] rfl ?_
              refine x_goto hh dX7_room_68 80 rfl ?_
              refine x_sub (lv' := [(0, .ref (X.2.1 0))]) [0] rfl ?_
              exact Z_X7_room_80 hX hh hr  q10.1 q10.2 hf
          · have hf := t_neg hc7 hf
            refine x_sub (lv' := [(0, .ref (X.2.1 0))]) [0] rfl ?_
            exact Z_X7_room_52 hX hh hr  q4.2 hf
      · have hf := t_pos hc5 hf
        refine x_ldc hh dX7_room_40 wd_475 42 rfl ?_
        obtain ⟨rfl, rfl⟩ := ret2 hf
        exact x_iret hh hr dX7_room_42
    · have hf := t_pos hc3 hf
      refine x_aload_n hh dX7_room_19 rfl 0 rfl 20 rfl ?_
      refine x_getR hh cl_7 dX7_room_20 sh_0 0 1 rfl (Nat.le_of_ble_eq_true rfl) wd_291 23 rfl ?_
      refine x_iload_n hh dX7_room_23 rfl 1 rfl 24 rfl ?_
      obtain ⟨q11, hq11, hf⟩ := b_some hf
      refine x_callV (rest := []) hh mi_X3_placesOf [.int v1] dX7_room_24 sh_1 wd_476 (C_X3_placesOf l hX ho_1 hq11) rfl rfl ⟨Nat.le_of_ble_eq_true rfl, Nat.le_of_ble_eq_true rfl⟩ (Nat.le_of_ble_eq_true rfl) 27 rfl [.int q11.1] rfl ?_
      obtain ⟨rfl, rfl⟩ := ret2 hf
      exact x_iret hh hr dX7_room_27
  · have hf := t_pos hc2 hf
    refine x_ldc hh dX7_room_11 wd_475 13 rfl ?_
    obtain ⟨rfl, rfl⟩ := ret2 hf
    exact x_iret hh hr dX7_room_13
def F_X7_room (v1 : Int32) (v2 : Int32) (v3 : Int32) (st : St) : Option (Int32 × St) := F_X7_room_0  v1 v2 v3 st
set_option maxRecDepth 100000 in
theorem C_X7_room (l : Launch) {X : Cx} (hX : Ok X) {v1 : Int32} {v2 : Int32} {v3 : Int32} {st : St} {q : Int32 × St} (hf : F_X7_room v1 v2 v3 st = some q) : Ct l X 1 yX7_room (.code yX7_room cX7_room 4 (some .int)) [.ref (X.2.1 0), .int v1, .int v2, .int v3] st (some (.int q.1)) q.2 := by
  refine Ct.of hX (by decide) (Nat.le_of_ble_eq_true rfl) ?_
  intro p e s m args below meth c hh hr
  exact Z_X7_room_0 hX hh hr v1 v2 v3 st hf

def F_X7_person_155 (t0 : Int32) (st : St) : Option (Int32 × St) := some (t0, st)
set_option maxRecDepth 100000 in
set_option maxHeartbeats 4000000 in
theorem Z_X7_person_155 {l : Launch} {X : Cx} (hX : Ok X) {p : Program} {e : Env} {s : State} {m : MethodId} {args : Array Value} {below : List Frame} {meth : Method} {c : Code} {rr : Int32} {st' : St} (hh : Hy X p s m args meth c cX7_person 3 RX7) (hr : meth.sig.returnType = some .int) (t0 : Int32) (st : St) (hf : F_X7_person_155 t0 st = some (rr, st')) : Z X p l e (rmk 2) s m args below meth c 3 (MQ below (Qf X (some (.int rr)) st') args s 0 0 (cA X)) 155 [(0, .ref (X.2.1 0))] [.int t0] st := by
  unfold F_X7_person_155 at hf
  obtain ⟨rfl, rfl⟩ := ret2 hf
  exact x_iret hh hr dX7_person_155
def F_X7_person_0 (v1 : Int32) (v2 : Int32) (st : St) : Option (Int32 × St) := (F_X3_hasPerson 1 v1 st).bind (fun q1 => if q1.1 = 0 then some ((-1000000001), q1.2) else if v2 = 0 then gi v1 6 (some (q1.2.1 13 v1.toNatClampNeg, q1.2)) else if v2 = 1 then gi v1 6 (some (q1.2.1 14 v1.toNatClampNeg, q1.2)) else if v2 = 2 then gi v1 6 (some (q1.2.1 6 v1.toNatClampNeg, q1.2)) else if v2 = 3 then gi v1 6 (some (q1.2.1 7 v1.toNatClampNeg, q1.2)) else if v2 = 4 then gi v1 6 (some (q1.2.1 10 v1.toNatClampNeg, q1.2)) else if v2 = 5 then gi v1 6 (some (q1.2.1 11 v1.toNatClampNeg, q1.2)) else if v2 = 6 then gi v1 6 (some (q1.2.1 12 v1.toNatClampNeg, q1.2)) else if v2 = 7 then gi v1 6 (if (q1.2.1 10 v1.toNatClampNeg) = ((-1)) then F_X7_person_155 ((-1)) q1.2 else (F_X1_headOf 9 v1 q1.2).bind (fun q20 => F_X7_person_155 q20.1 q20.2)) else some ((-1000000002), q1.2))
set_option maxRecDepth 100000 in
set_option maxHeartbeats 4000000 in
theorem Z_X7_person_0 {l : Launch} {X : Cx} (hX : Ok X) {p : Program} {e : Env} {s : State} {m : MethodId} {args : Array Value} {below : List Frame} {meth : Method} {c : Code} {rr : Int32} {st' : St} (hh : Hy X p s m args meth c cX7_person 3 RX7) (hr : meth.sig.returnType = some .int) (v1 : Int32) (v2 : Int32) (st : St) (hf : F_X7_person_0 v1 v2 st = some (rr, st')) : Z X p l e (rmk 2) s m args below meth c 3 (MQ below (Qf X (some (.int rr)) st') args s 0 0 (cA X)) 0 [(0, .ref (X.2.1 0)), (1, .int v1), (2, .int v2)] [] st := by
  unfold F_X7_person_0 at hf
  refine x_aload_n hh dX7_person_0 rfl 0 rfl 1 rfl ?_
  refine x_getR hh cl_7 dX7_person_1 sh_0 0 1 rfl (Nat.le_of_ble_eq_true rfl) wd_291 4 rfl ?_
  refine x_iload_n hh dX7_person_4 rfl 1 rfl 5 rfl ?_
  obtain ⟨q1, hq1, hf⟩ := b_some hf
  refine x_callV (rest := []) hh mi_X3_hasPerson [.int v1] dX7_person_5 sh_1 wd_496 (C_X3_hasPerson l hX ho_1 hq1) rfl rfl ⟨Nat.le_of_ble_eq_true rfl, Nat.le_of_ble_eq_true rfl⟩ (Nat.le_of_ble_eq_true rfl) 8 rfl [.int q1.1] rfl ?_
  refine x_if_ne hh dX7_person_8 14 rfl 11 rfl (fun hc2 => ?_) (fun hc2 => ?_)
  · have hf := t_neg hc2 hf
    refine x_iload_n hh dX7_person_14 rfl 2 rfl 15 rfl ?_
    by_cases hc3 : v2 = 0
    · have hf := t_pos hc3 hf
      refine x_tableIn hh dX7_person_15 (by rw [hc3]; decide) (by rw [hc3]; decide) 45 (by rw [hc3]; rfl) 60 rfl ?_
      refine x_aload_n hh dX7_person_60 rfl 0 rfl 61 rfl ?_
      refine x_getR hh cl_7 dX7_person_61 sh_0 1 9 rfl (Nat.le_of_ble_eq_true rfl) wd_292 64 rfl ?_
      refine x_getR hh cl_6 dX7_person_64 sh_9 3 13 rfl (Nat.le_of_ble_eq_true rfl) wd_168 67 rfl ?_
      refine x_iload_n hh dX7_person_67 rfl 1 rfl 68 rfl ?_
      obtain ⟨hi4, hf⟩ := gi_some hf
      refine x_iaload hh dX7_person_68 sh_13 hi4 69 rfl ?_
      obtain ⟨rfl, rfl⟩ := ret2 hf
      exact x_iret hh hr dX7_person_69
    · have hf := t_neg hc3 hf
      by_cases hc5 : v2 = 1
      · have hf := t_pos hc5 hf
        refine x_tableIn hh dX7_person_15 (by rw [hc5]; decide) (by rw [hc5]; decide) 55 (by rw [hc5]; rfl) 70 rfl ?_
        refine x_aload_n hh dX7_person_70 rfl 0 rfl 71 rfl ?_
        refine x_getR hh cl_7 dX7_person_71 sh_0 1 9 rfl (Nat.le_of_ble_eq_true rfl) wd_292 74 rfl ?_
        refine x_getR hh cl_6 dX7_person_74 sh_9 4 14 rfl (Nat.le_of_ble_eq_true rfl) wd_172 77 rfl ?_
        refine x_iload_n hh dX7_person_77 rfl 1 rfl 78 rfl ?_
        obtain ⟨hi6, hf⟩ := gi_some hf
        refine x_iaload hh dX7_person_78 sh_14 hi6 79 rfl ?_
        obtain ⟨rfl, rfl⟩ := ret2 hf
        exact x_iret hh hr dX7_person_79
      · have hf := t_neg hc5 hf
        by_cases hc7 : v2 = 2
        · have hf := t_pos hc7 hf
          refine x_tableIn hh dX7_person_15 (by rw [hc7]; decide) (by rw [hc7]; decide) 65 (by rw [hc7]; rfl) 80 rfl ?_
          refine x_aload_n hh dX7_person_80 rfl 0 rfl 81 rfl ?_
          refine x_getR hh cl_7 dX7_person_81 sh_0 0 1 rfl (Nat.le_of_ble_eq_true rfl) wd_291 84 rfl ?_
          refine x_getR hh cl_3 dX7_person_84 sh_1 7 6 rfl (Nat.le_of_ble_eq_true rfl) wd_131 87 rfl ?_
          refine x_iload_n hh dX7_person_87 rfl 1 rfl 88 rfl ?_
          obtain ⟨hi8, hf⟩ := gi_some hf
          refine x_iaload hh dX7_person_88 sh_6 hi8 89 rfl ?_
          obtain ⟨rfl, rfl⟩ := ret2 hf
          exact x_iret hh hr dX7_person_89
        · have hf := t_neg hc7 hf
          by_cases hc9 : v2 = 3
          · have hf := t_pos hc9 hf
            refine x_tableIn hh dX7_person_15 (by rw [hc9]; decide) (by rw [hc9]; decide) 75 (by rw [hc9]; rfl) 90 rfl ?_
            refine x_aload_n hh dX7_person_90 rfl 0 rfl 91 rfl ?_
            refine x_getR hh cl_7 dX7_person_91 sh_0 0 1 rfl (Nat.le_of_ble_eq_true rfl) wd_291 94 rfl ?_
            refine x_getR hh cl_3 dX7_person_94 sh_1 8 7 rfl (Nat.le_of_ble_eq_true rfl) wd_136 97 rfl ?_
            refine x_iload_n hh dX7_person_97 rfl 1 rfl 98 rfl ?_
            obtain ⟨hi10, hf⟩ := gi_some hf
            refine x_iaload hh dX7_person_98 sh_7 hi10 99 rfl ?_
            obtain ⟨rfl, rfl⟩ := ret2 hf
            exact x_iret hh hr dX7_person_99
          · have hf := t_neg hc9 hf
            by_cases hc11 : v2 = 4
            · have hf := t_pos hc11 hf
              refine x_tableIn hh dX7_person_15 (by rw [hc11]; decide) (by rw [hc11]; decide) 85 (by rw [hc11]; rfl) 100 rfl ?_
              refine x_aload_n hh dX7_person_100 rfl 0 rfl 101 rfl ?_
              refine x_getR hh cl_7 dX7_person_101 sh_0 1 9 rfl (Nat.le_of_ble_eq_true rfl) wd_292 104 rfl ?_
              refine x_getR hh cl_6 dX7_person_104 sh_9 0 10 rfl (Nat.le_of_ble_eq_true rfl) wd_159 107 rfl ?_
              refine x_iload_n hh dX7_person_107 rfl 1 rfl 108 rfl ?_
              obtain ⟨hi12, hf⟩ := gi_some hf
              refine x_iaload hh dX7_person_108 sh_10 hi12 109 rfl ?_
              obtain ⟨rfl, rfl⟩ := ret2 hf
              exact x_iret hh hr dX7_person_109
            · have hf := t_neg hc11 hf
              by_cases hc13 : v2 = 5
              · have hf := t_pos hc13 hf
                refine x_tableIn hh dX7_person_15 (by rw [hc13]; decide) (by rw [hc13]; decide) 95 (by rw [hc13]; rfl) 110 rfl ?_
                refine x_aload_n hh dX7_person_110 rfl 0 rfl 111 rfl ?_
                refine x_getR hh cl_7 dX7_person_111 sh_0 1 9 rfl (Nat.le_of_ble_eq_true rfl) wd_292 114 rfl ?_
                refine x_getR hh cl_6 dX7_person_114 sh_9 1 11 rfl (Nat.le_of_ble_eq_true rfl) wd_162 117 rfl ?_
                refine x_iload_n hh dX7_person_117 rfl 1 rfl 118 rfl ?_
                obtain ⟨hi14, hf⟩ := gi_some hf
                refine x_iaload hh dX7_person_118 sh_11 hi14 119 rfl ?_
                obtain ⟨rfl, rfl⟩ := ret2 hf
                exact x_iret hh hr dX7_person_119
              · have hf := t_neg hc13 hf
                by_cases hc15 : v2 = 6
                · have hf := t_pos hc15 hf
                  refine x_tableIn hh dX7_person_15 (by rw [hc15]; decide) (by rw [hc15]; decide) 105 (by rw [hc15]; rfl) 120 rfl ?_
                  refine x_aload_n hh dX7_person_120 rfl 0 rfl 121 rfl ?_
                  refine x_getR hh cl_7 dX7_person_121 sh_0 1 9 rfl (Nat.le_of_ble_eq_true rfl) wd_292 124 rfl ?_
                  refine x_getR hh cl_6 dX7_person_124 sh_9 2 12 rfl (Nat.le_of_ble_eq_true rfl) wd_165 127 rfl ?_
                  refine x_iload_n hh dX7_person_127 rfl 1 rfl 128 rfl ?_
                  obtain ⟨hi16, hf⟩ := gi_some hf
                  refine x_iaload hh dX7_person_128 sh_12 hi16 129 rfl ?_
                  obtain ⟨rfl, rfl⟩ := ret2 hf
                  exact x_iret hh hr dX7_person_129
                · have hf := t_neg hc15 hf
                  by_cases hc17 : v2 = 7
                  · have hf := t_pos hc17 hf
                    refine x_tableIn hh dX7_person_15 (by rw [hc17]; decide) (by rw [hc17]; decide) 115 (by rw [hc17]; rfl) 130 rfl ?_
                    refine x_aload_n hh dX7_person_130 rfl 0 rfl 131 rfl ?_
                    refine x_getR hh cl_7 dX7_person_131 sh_0 1 9 rfl (Nat.le_of_ble_eq_true rfl) wd_292 134 rfl ?_
                    refine x_getR hh cl_6 dX7_person_134 sh_9 0 10 rfl (Nat.le_of_ble_eq_true rfl) wd_159 137 rfl ?_
                    refine x_iload_n hh dX7_person_137 rfl 1 rfl 138 rfl ?_
                    obtain ⟨hi18, hf⟩ := gi_some hf
                    refine x_iaload hh dX7_person_138 sh_10 hi18 139 rfl ?_
                    refine x_iconst hh dX7_person_139 (-1) rfl 140 rfl ?_
                    refine x_icmp_ne hh dX7_person_140 147 rfl 143 rfl (fun hc19 => ?_) (fun hc19 => ?_)
                    · have hf := t_neg hc19 hf
                      refine x_aload_n hh dX7_person_147 rfl 0 rfl 148 rfl ?_
                      refine x_getR hh cl_7 dX7_person_148 sh_0 2 15 rfl (Nat.le_of_ble_eq_true rfl) wd_293 151 rfl ?_
                      refine x_iload_n hh dX7_person_151 rfl 1 rfl 152 rfl ?_
                      obtain ⟨q20, hq20, hf⟩ := b_some hf
                      refine x_callV (rest := []) hh mi_X1_headOf [.int v1] dX7_person_152 sh_15 wd_497 (C_X1_headOf l hX ev_9 hq20) rfl rfl ⟨Nat.le_of_ble_eq_true rfl, Nat.le_of_ble_eq_true rfl⟩ (Nat.le_of_ble_eq_true rfl) 155 rfl [.int q20.1] rfl ?_
                      refine x_sub (lv' := [(0, .ref (X.2.1 0))]) [0] rfl ?_
                      exact Z_X7_person_155 hX hh hr  q20.1 q20.2 hf
                    · have hf := t_pos hc19 hf
                      refine x_iconst hh dX7_person_143 (-1) rfl 144 rfl ?_
                      refine x_goto hh dX7_person_144 155 rfl ?_
                      refine x_sub (lv' := [(0, .ref (X.2.1 0))]) [0] rfl ?_
                      exact Z_X7_person_155 hX hh hr  ((-1)) q1.2 hf
                  · have hf := t_neg hc17 hf
                    refine x_tableOut hh dX7_person_15 (by have a0 := lv_neT (a := 0) hc3 rfl; have a1 := lv_neT (a := 1) hc5 rfl; have a2 := lv_neT (a := 2) hc7 rfl; have a3 := lv_neT (a := 3) hc9 rfl; have a4 := lv_neT (a := 4) hc11 rfl; have a5 := lv_neT (a := 5) hc13 rfl; have a6 := lv_neT (a := 6) hc15 rfl; have a7 := lv_neT (a := 7) hc17 rfl; omega) 156 rfl ?_
                    refine x_ldc hh dX7_person_156 wd_320 158 rfl ?_
                    obtain ⟨rfl, rfl⟩ := ret2 hf
                    exact x_iret hh hr dX7_person_158
  · have hf := t_pos hc2 hf
    refine x_ldc hh dX7_person_11 wd_475 13 rfl ?_
    obtain ⟨rfl, rfl⟩ := ret2 hf
    exact x_iret hh hr dX7_person_13
def F_X7_person (v1 : Int32) (v2 : Int32) (st : St) : Option (Int32 × St) := F_X7_person_0  v1 v2 st
set_option maxRecDepth 100000 in
theorem C_X7_person (l : Launch) {X : Cx} (hX : Ok X) {v1 : Int32} {v2 : Int32} {st : St} {q : Int32 × St} (hf : F_X7_person v1 v2 st = some q) : Ct l X 2 yX7_person (.code yX7_person cX7_person 3 (some .int)) [.ref (X.2.1 0), .int v1, .int v2] st (some (.int q.1)) q.2 := by
  refine Ct.of hX (by decide) (Nat.le_of_ble_eq_true rfl) ?_
  intro p e s m args below meth c hh hr
  exact Z_X7_person_0 hX hh hr v1 v2 st hf

def F_X7_friends_27 (st : St) : Option (Int32 × St) := some ((-1000000001), st)
set_option maxRecDepth 100000 in
set_option maxHeartbeats 4000000 in
theorem Z_X7_friends_27 {l : Launch} {X : Cx} (hX : Ok X) {p : Program} {e : Env} {s : State} {m : MethodId} {args : Array Value} {below : List Frame} {meth : Method} {c : Code} {rr : Int32} {st' : St} (hh : Hy X p s m args meth c cX7_friends 3 RX7) (hr : meth.sig.returnType = some .int) (st : St) (hf : F_X7_friends_27 st = some (rr, st')) : Z X p l e (rmk 2) s m args below meth c 3 (MQ below (Qf X (some (.int rr)) st') args s 0 0 (cA X)) 27 [(0, .ref (X.2.1 0))] [] st := by
  unfold F_X7_friends_27 at hf
  refine x_ldc hh dX7_friends_27 wd_475 29 rfl ?_
  obtain ⟨rfl, rfl⟩ := ret2 hf
  exact x_iret hh hr dX7_friends_29
def F_X7_friends_0 (v1 : Int32) (v2 : Int32) (st : St) : Option (Int32 × St) := (F_X3_hasPerson 1 v1 st).bind (fun q1 => if q1.1 = 0 then F_X7_friends_27 q1.2 else (F_X3_hasPerson 1 v2 q1.2).bind (fun q3 => if q3.1 = 0 then F_X7_friends_27 q3.2 else if v1 = v2 then F_X7_friends_27 q3.2 else (F_X3_friendship 1 v1 v2 q3.2).bind (fun q6 => some (q6.1, q6.2))))
set_option maxRecDepth 100000 in
set_option maxHeartbeats 4000000 in
theorem Z_X7_friends_0 {l : Launch} {X : Cx} (hX : Ok X) {p : Program} {e : Env} {s : State} {m : MethodId} {args : Array Value} {below : List Frame} {meth : Method} {c : Code} {rr : Int32} {st' : St} (hh : Hy X p s m args meth c cX7_friends 3 RX7) (hr : meth.sig.returnType = some .int) (v1 : Int32) (v2 : Int32) (st : St) (hf : F_X7_friends_0 v1 v2 st = some (rr, st')) : Z X p l e (rmk 2) s m args below meth c 3 (MQ below (Qf X (some (.int rr)) st') args s 0 0 (cA X)) 0 [(0, .ref (X.2.1 0)), (1, .int v1), (2, .int v2)] [] st := by
  unfold F_X7_friends_0 at hf
  refine x_aload_n hh dX7_friends_0 rfl 0 rfl 1 rfl ?_
  refine x_getR hh cl_7 dX7_friends_1 sh_0 0 1 rfl (Nat.le_of_ble_eq_true rfl) wd_291 4 rfl ?_
  refine x_iload_n hh dX7_friends_4 rfl 1 rfl 5 rfl ?_
  obtain ⟨q1, hq1, hf⟩ := b_some hf
  refine x_callV (rest := []) hh mi_X3_hasPerson [.int v1] dX7_friends_5 sh_1 wd_496 (C_X3_hasPerson l hX ho_1 hq1) rfl rfl ⟨Nat.le_of_ble_eq_true rfl, Nat.le_of_ble_eq_true rfl⟩ (Nat.le_of_ble_eq_true rfl) 8 rfl [.int q1.1] rfl ?_
  refine x_if_eq hh dX7_friends_8 27 rfl 11 rfl (fun hc2 => ?_) (fun hc2 => ?_)
  · have hf := t_pos hc2 hf
    refine x_sub (lv' := [(0, .ref (X.2.1 0))]) [0] rfl ?_
    exact Z_X7_friends_27 hX hh hr  q1.2 hf
  · have hf := t_neg hc2 hf
    refine x_aload_n hh dX7_friends_11 rfl 0 rfl 12 rfl ?_
    refine x_getR hh cl_7 dX7_friends_12 sh_0 0 1 rfl (Nat.le_of_ble_eq_true rfl) wd_291 15 rfl ?_
    refine x_iload_n hh dX7_friends_15 rfl 2 rfl 16 rfl ?_
    obtain ⟨q3, hq3, hf⟩ := b_some hf
    refine x_callV (rest := []) hh mi_X3_hasPerson [.int v2] dX7_friends_16 sh_1 wd_496 (C_X3_hasPerson l hX ho_1 hq3) rfl rfl ⟨Nat.le_of_ble_eq_true rfl, Nat.le_of_ble_eq_true rfl⟩ (Nat.le_of_ble_eq_true rfl) 19 rfl [.int q3.1] rfl ?_
    refine x_if_eq hh dX7_friends_19 27 rfl 22 rfl (fun hc4 => ?_) (fun hc4 => ?_)
    · have hf := t_pos hc4 hf
      refine x_sub (lv' := [(0, .ref (X.2.1 0))]) [0] rfl ?_
      exact Z_X7_friends_27 hX hh hr  q3.2 hf
    · have hf := t_neg hc4 hf
      refine x_iload_n hh dX7_friends_22 rfl 1 rfl 23 rfl ?_
      refine x_iload_n hh dX7_friends_23 rfl 2 rfl 24 rfl ?_
      refine x_icmp_ne hh dX7_friends_24 30 rfl 27 rfl (fun hc5 => ?_) (fun hc5 => ?_)
      · have hf := t_neg hc5 hf
        refine x_aload_n hh dX7_friends_30 rfl 0 rfl 31 rfl ?_
        refine x_getR hh cl_7 dX7_friends_31 sh_0 0 1 rfl (Nat.le_of_ble_eq_true rfl) wd_291 34 rfl ?_
        refine x_iload_n hh dX7_friends_34 rfl 1 rfl 35 rfl ?_
        refine x_iload_n hh dX7_friends_35 rfl 2 rfl 36 rfl ?_
        obtain ⟨q6, hq6, hf⟩ := b_some hf
        refine x_callV (rest := []) hh mi_X3_friendship [.int v1, .int v2] dX7_friends_36 sh_1 wd_506 (C_X3_friendship l hX ho_1 hq6) rfl rfl ⟨Nat.le_of_ble_eq_true rfl, Nat.le_of_ble_eq_true rfl⟩ (Nat.le_of_ble_eq_true rfl) 39 rfl [.int q6.1] rfl ?_
        obtain ⟨rfl, rfl⟩ := ret2 hf
        exact x_iret hh hr dX7_friends_39
      · have hf := t_pos hc5 hf
        refine x_sub (lv' := [(0, .ref (X.2.1 0))]) [0] rfl ?_
        exact Z_X7_friends_27 hX hh hr  q3.2 hf
def F_X7_friends (v1 : Int32) (v2 : Int32) (st : St) : Option (Int32 × St) := F_X7_friends_0  v1 v2 st
set_option maxRecDepth 100000 in
theorem C_X7_friends (l : Launch) {X : Cx} (hX : Ok X) {v1 : Int32} {v2 : Int32} {st : St} {q : Int32 × St} (hf : F_X7_friends v1 v2 st = some q) : Ct l X 2 yX7_friends (.code yX7_friends cX7_friends 3 (some .int)) [.ref (X.2.1 0), .int v1, .int v2] st (some (.int q.1)) q.2 := by
  refine Ct.of hX (by decide) (Nat.le_of_ble_eq_true rfl) ?_
  intro p e s m args below meth c hh hr
  exact Z_X7_friends_0 hX hh hr v1 v2 st hf

def F_X7_law_9 (st : St) : Option (Int32 × St) := some ((-1000000002), st)
set_option maxRecDepth 100000 in
set_option maxHeartbeats 4000000 in
theorem Z_X7_law_9 {l : Launch} {X : Cx} (hX : Ok X) {p : Program} {e : Env} {s : State} {m : MethodId} {args : Array Value} {below : List Frame} {meth : Method} {c : Code} {rr : Int32} {st' : St} (hh : Hy X p s m args meth c cX7_law 3 RX7) (hr : meth.sig.returnType = some .int) (st : St) (hf : F_X7_law_9 st = some (rr, st')) : Z X p l e (rmk 0) s m args below meth c 3 (MQ below (Qf X (some (.int rr)) st') args s 0 0 (cA X)) 9 [(0, .ref (X.2.1 0))] [] st := by
  unfold F_X7_law_9 at hf
  refine x_ldc hh dX7_law_9 wd_320 11 rfl ?_
  obtain ⟨rfl, rfl⟩ := ret2 hf
  exact x_iret hh hr dX7_law_11
def F_X7_law_0 (v1 : Int32) (st : St) : Option (Int32 × St) := if v1 < 0 then F_X7_law_9 st else if v1 ≤ 1 then bs (sV st 9 5 v1) (fun st3 => some (st.1 9 5, st3)) else F_X7_law_9 st
set_option maxRecDepth 100000 in
set_option maxHeartbeats 4000000 in
theorem Z_X7_law_0 {l : Launch} {X : Cx} (hX : Ok X) {p : Program} {e : Env} {s : State} {m : MethodId} {args : Array Value} {below : List Frame} {meth : Method} {c : Code} {rr : Int32} {st' : St} (hh : Hy X p s m args meth c cX7_law 3 RX7) (hr : meth.sig.returnType = some .int) (v1 : Int32) (st : St) (hf : F_X7_law_0 v1 st = some (rr, st')) : Z X p l e (rmk 0) s m args below meth c 3 (MQ below (Qf X (some (.int rr)) st') args s 0 0 (cA X)) 0 [(0, .ref (X.2.1 0)), (1, .int v1)] [] st := by
  unfold F_X7_law_0 at hf
  refine x_iload_n hh dX7_law_0 rfl 1 rfl 1 rfl ?_
  refine x_if_lt hh dX7_law_1 9 rfl 4 rfl (fun hc1 => ?_) (fun hc1 => ?_)
  · have hf := t_pos hc1 hf
    refine x_sub (lv' := [(0, .ref (X.2.1 0))]) [0] rfl ?_
    exact Z_X7_law_9 hX hh hr  st hf
  · have hf := t_neg hc1 hf
    refine x_iload_n hh dX7_law_4 rfl 1 rfl 5 rfl ?_
    refine x_iconst hh dX7_law_5 1 rfl 6 rfl ?_
    refine x_icmp_le hh dX7_law_6 12 rfl 9 rfl (fun hc2 => ?_) (fun hc2 => ?_)
    · have hf := t_pos hc2 hf
      refine x_aload_n hh dX7_law_12 rfl 0 rfl 13 rfl ?_
      refine x_getR hh cl_7 dX7_law_13 sh_0 1 9 rfl (Nat.le_of_ble_eq_true rfl) wd_292 16 rfl ?_
      refine x_getI hh cl_6 dX7_law_16 sh_9 5 rfl (Nat.le_of_ble_eq_true rfl) wd_175 19 rfl ?_
      refine x_istore_n hh dX7_law_19 rfl (by decide) [(2, .int (st.1 9 5)), (0, .ref (X.2.1 0)), (1, .int v1)] rfl 20 rfl ?_
      refine x_aload_n hh dX7_law_20 rfl 1 rfl 21 rfl ?_
      refine x_getR hh cl_7 dX7_law_21 sh_0 1 9 rfl (Nat.le_of_ble_eq_true rfl) wd_292 24 rfl ?_
      refine x_iload_n hh dX7_law_24 rfl 2 rfl 25 rfl ?_
      obtain ⟨st3, est3, hf⟩ := bs_some hf
      refine x_putI hh cl_6 dX7_law_25 sh_9 5 rfl (Nat.le_of_ble_eq_true rfl) wd_175 rfl rfl rfl 28 rfl st3 est3 ?_
      refine x_iload_n hh dX7_law_28 rfl 0 rfl 29 rfl ?_
      obtain ⟨rfl, rfl⟩ := ret2 hf
      exact x_iret hh hr dX7_law_29
    · have hf := t_neg hc2 hf
      refine x_sub (lv' := [(0, .ref (X.2.1 0))]) [0] rfl ?_
      exact Z_X7_law_9 hX hh hr  st hf
def F_X7_law (v1 : Int32) (st : St) : Option (Int32 × St) := F_X7_law_0  v1 st
set_option maxRecDepth 100000 in
theorem C_X7_law (l : Launch) {X : Cx} (hX : Ok X) {v1 : Int32} {st : St} {q : Int32 × St} (hf : F_X7_law v1 st = some q) : Ct l X 0 yX7_law (.code yX7_law cX7_law 3 (some .int)) [.ref (X.2.1 0), .int v1] st (some (.int q.1)) q.2 := by
  refine Ct.of hX (by decide) (Nat.le_of_ble_eq_true rfl) ?_
  intro p e s m args below meth c hh hr
  exact Z_X7_law_0 hX hh hr v1 st hf

def F_X7_isComing_28 (t0 : Int32) (st : St) : Option (Int32 × St) := gb t0 (some (t0, st))
set_option maxRecDepth 100000 in
set_option maxHeartbeats 4000000 in
theorem Z_X7_isComing_28 {l : Launch} {X : Cx} (hX : Ok X) {p : Program} {e : Env} {s : State} {m : MethodId} {args : Array Value} {below : List Frame} {meth : Method} {c : Code} {rr : Int32} {st' : St} (hh : Hy X p s m args meth c cX7_isComing 4 RX7) (hr : meth.sig.returnType = some .boolean) (t0 : Int32) (st : St) (hf : F_X7_isComing_28 t0 st = some (rr, st')) : Z X p l e (rmk 1) s m args below meth c 4 (MQ below (Qf X (some (.int rr)) st') args s 0 0 (cA X)) 28 [(0, .ref (X.2.1 0))] [.int t0] st := by
  unfold F_X7_isComing_28 at hf
  obtain ⟨hb5, hf⟩ := gb_some hf
  obtain ⟨rfl, rfl⟩ := ret2 hf
  exact x_zret hh hr (nb_n hb5) dX7_isComing_28
def F_X7_isComing_27 (st : St) : Option (Int32 × St) := F_X7_isComing_28 0 st
set_option maxRecDepth 100000 in
set_option maxHeartbeats 4000000 in
theorem Z_X7_isComing_27 {l : Launch} {X : Cx} (hX : Ok X) {p : Program} {e : Env} {s : State} {m : MethodId} {args : Array Value} {below : List Frame} {meth : Method} {c : Code} {rr : Int32} {st' : St} (hh : Hy X p s m args meth c cX7_isComing 4 RX7) (hr : meth.sig.returnType = some .boolean) (st : St) (hf : F_X7_isComing_27 st = some (rr, st')) : Z X p l e (rmk 1) s m args below meth c 4 (MQ below (Qf X (some (.int rr)) st') args s 0 0 (cA X)) 27 [(0, .ref (X.2.1 0))] [] st := by
  unfold F_X7_isComing_27 at hf
  refine x_iconst hh dX7_isComing_27 0 rfl 28 rfl ?_
  exact Z_X7_isComing_28 hX hh hr  0 st hf
def F_X7_isComing_0 (v1 : Int32) (v2 : Int32) (v3 : Int32) (st : St) : Option (Int32 × St) := (F_X3_hasPerson 1 v1 st).bind (fun q1 => if q1.1 = 0 then F_X7_isComing_27 q1.2 else (F_X3_hasPlace 1 v2 v3 q1.2).bind (fun q3 => if q3.1 = 0 then F_X7_isComing_27 q3.2 else F_X7_isComing_28 1 q3.2))
set_option maxRecDepth 100000 in
set_option maxHeartbeats 4000000 in
theorem Z_X7_isComing_0 {l : Launch} {X : Cx} (hX : Ok X) {p : Program} {e : Env} {s : State} {m : MethodId} {args : Array Value} {below : List Frame} {meth : Method} {c : Code} {rr : Int32} {st' : St} (hh : Hy X p s m args meth c cX7_isComing 4 RX7) (hr : meth.sig.returnType = some .boolean) (v1 : Int32) (v2 : Int32) (v3 : Int32) (st : St) (hf : F_X7_isComing_0 v1 v2 v3 st = some (rr, st')) : Z X p l e (rmk 1) s m args below meth c 4 (MQ below (Qf X (some (.int rr)) st') args s 0 0 (cA X)) 0 [(0, .ref (X.2.1 0)), (1, .int v1), (2, .int v2), (3, .int v3)] [] st := by
  unfold F_X7_isComing_0 at hf
  refine x_aload_n hh dX7_isComing_0 rfl 0 rfl 1 rfl ?_
  refine x_getR hh cl_7 dX7_isComing_1 sh_0 0 1 rfl (Nat.le_of_ble_eq_true rfl) wd_291 4 rfl ?_
  refine x_iload_n hh dX7_isComing_4 rfl 1 rfl 5 rfl ?_
  obtain ⟨q1, hq1, hf⟩ := b_some hf
  refine x_callV (rest := []) hh mi_X3_hasPerson [.int v1] dX7_isComing_5 sh_1 wd_496 (C_X3_hasPerson l hX ho_1 hq1) rfl rfl ⟨Nat.le_of_ble_eq_true rfl, Nat.le_of_ble_eq_true rfl⟩ (Nat.le_of_ble_eq_true rfl) 8 rfl [.int q1.1] rfl ?_
  refine x_if_eq hh dX7_isComing_8 27 rfl 11 rfl (fun hc2 => ?_) (fun hc2 => ?_)
  · have hf := t_pos hc2 hf
    refine x_sub (lv' := [(0, .ref (X.2.1 0))]) [0] rfl ?_
    exact Z_X7_isComing_27 hX hh hr  q1.2 hf
  · have hf := t_neg hc2 hf
    refine x_aload_n hh dX7_isComing_11 rfl 0 rfl 12 rfl ?_
    refine x_getR hh cl_7 dX7_isComing_12 sh_0 0 1 rfl (Nat.le_of_ble_eq_true rfl) wd_291 15 rfl ?_
    refine x_iload_n hh dX7_isComing_15 rfl 2 rfl 16 rfl ?_
    refine x_iload_n hh dX7_isComing_16 rfl 3 rfl 17 rfl ?_
    obtain ⟨q3, hq3, hf⟩ := b_some hf
    refine x_callV (rest := []) hh mi_X3_hasPlace [.int v2, .int v3] dX7_isComing_17 sh_1 wd_480 (C_X3_hasPlace l hX ho_1 hq3) rfl rfl ⟨Nat.le_of_ble_eq_true rfl, Nat.le_of_ble_eq_true rfl⟩ (Nat.le_of_ble_eq_true rfl) 20 rfl [.int q3.1] rfl ?_
    refine x_if_eq hh dX7_isComing_20 27 rfl 23 rfl (fun hc4 => ?_) (fun hc4 => ?_)
    · have hf := t_pos hc4 hf
      refine x_sub (lv' := [(0, .ref (X.2.1 0))]) [0] rfl ?_
      exact Z_X7_isComing_27 hX hh hr  q3.2 hf
    · have hf := t_neg hc4 hf
      refine x_iconst hh dX7_isComing_23 1 rfl 24 rfl ?_
      refine x_goto hh dX7_isComing_24 28 rfl ?_
      refine x_sub (lv' := [(0, .ref (X.2.1 0))]) [0] rfl ?_
      exact Z_X7_isComing_28 hX hh hr  1 q3.2 hf
def F_X7_isComing (v1 : Int32) (v2 : Int32) (v3 : Int32) (st : St) : Option (Int32 × St) := F_X7_isComing_0  v1 v2 v3 st
set_option maxRecDepth 100000 in
theorem C_X7_isComing (l : Launch) {X : Cx} (hX : Ok X) {v1 : Int32} {v2 : Int32} {v3 : Int32} {st : St} {q : Int32 × St} (hf : F_X7_isComing v1 v2 v3 st = some q) : Ct l X 1 yX7_isComing (.code yX7_isComing cX7_isComing 4 (some .boolean)) [.ref (X.2.1 0), .int v1, .int v2, .int v3] st (some (.int q.1)) q.2 := by
  refine Ct.of hX (by decide) (Nat.le_of_ble_eq_true rfl) ?_
  intro p e s m args below meth c hh hr
  exact Z_X7_isComing_0 hX hh hr v1 v2 v3 st hf

def F_X7_put_0 (v1 : Int32) (v2 : Int32) (v3 : Int32) (st : St) : Option (Int32 × St) := (F_X7_isComing v1 v2 v3 st).bind (fun q1 => if q1.1 = 0 then some ((-1000000001), q1.2) else (F_X6_canStandAt 9 v1 v2 v3 q1.2).bind (fun q3 => if q3.1 = 0 then some ((-1000000003), q3.2) else (F_X6_standAt 9 v1 v2 v3 q3.2).bind (fun q5 => (F_X6_whoIsIn 9 v2 q5).bind (fun q6 => some (q6.1, q6.2)))))
set_option maxRecDepth 100000 in
set_option maxHeartbeats 4000000 in
theorem Z_X7_put_0 {l : Launch} {X : Cx} (hX : Ok X) {p : Program} {e : Env} {s : State} {m : MethodId} {args : Array Value} {below : List Frame} {meth : Method} {c : Code} {rr : Int32} {st' : St} (hh : Hy X p s m args meth c cX7_put 4 RX7) (hr : meth.sig.returnType = some .int) (v1 : Int32) (v2 : Int32) (v3 : Int32) (st : St) (hf : F_X7_put_0 v1 v2 v3 st = some (rr, st')) : Z X p l e (rmk 2) s m args below meth c 4 (MQ below (Qf X (some (.int rr)) st') args s 0 0 (cA X)) 0 [(0, .ref (X.2.1 0)), (1, .int v1), (2, .int v2), (3, .int v3)] [] st := by
  unfold F_X7_put_0 at hf
  refine x_aload_n hh dX7_put_0 rfl 0 rfl 1 rfl ?_
  refine x_iload_n hh dX7_put_1 rfl 1 rfl 2 rfl ?_
  refine x_iload_n hh dX7_put_2 rfl 2 rfl 3 rfl ?_
  refine x_iload_n hh dX7_put_3 rfl 3 rfl 4 rfl ?_
  obtain ⟨q1, hq1, hf⟩ := b_some hf
  refine x_callV (rest := []) hh mi_X7_isComing [.int v1, .int v2, .int v3] dX7_put_4 sh_0 wd_515 (C_X7_isComing l hX  hq1) rfl rfl ⟨Nat.le_of_ble_eq_true rfl, Nat.le_of_ble_eq_true rfl⟩ (Nat.le_of_ble_eq_true rfl) 7 rfl [.int q1.1] rfl ?_
  refine x_if_ne hh dX7_put_7 13 rfl 10 rfl (fun hc2 => ?_) (fun hc2 => ?_)
  · have hf := t_neg hc2 hf
    refine x_aload_n hh dX7_put_13 rfl 0 rfl 14 rfl ?_
    refine x_getR hh cl_7 dX7_put_14 sh_0 1 9 rfl (Nat.le_of_ble_eq_true rfl) wd_292 17 rfl ?_
    refine x_iload_n hh dX7_put_17 rfl 1 rfl 18 rfl ?_
    refine x_iload_n hh dX7_put_18 rfl 2 rfl 19 rfl ?_
    refine x_iload_n hh dX7_put_19 rfl 3 rfl 20 rfl ?_
    obtain ⟨q3, hq3, hf⟩ := b_some hf
    refine x_callV (rest := []) hh mi_X6_canStandAt [.int v1, .int v2, .int v3] dX7_put_20 sh_9 wd_518 (C_X6_canStandAt l hX sc_9 hq3) rfl rfl ⟨Nat.le_of_ble_eq_true rfl, Nat.le_of_ble_eq_true rfl⟩ (Nat.le_of_ble_eq_true rfl) 23 rfl [.int q3.1] rfl ?_
    refine x_if_ne hh dX7_put_23 29 rfl 26 rfl (fun hc4 => ?_) (fun hc4 => ?_)
    · have hf := t_neg hc4 hf
      refine x_aload_n hh dX7_put_29 rfl 0 rfl 30 rfl ?_
      refine x_getR hh cl_7 dX7_put_30 sh_0 1 9 rfl (Nat.le_of_ble_eq_true rfl) wd_292 33 rfl ?_
      refine x_iload_n hh dX7_put_33 rfl 1 rfl 34 rfl ?_
      refine x_iload_n hh dX7_put_34 rfl 2 rfl 35 rfl ?_
      refine x_iload_n hh dX7_put_35 rfl 3 rfl 36 rfl ?_
      obtain ⟨q5, hq5, hf⟩ := b_some hf
      refine x_callV (rest := []) hh mi_X6_standAt [.int v1, .int v2, .int v3] dX7_put_36 sh_9 wd_524 (C_X6_standAt l hX sc_9 hq5) rfl rfl ⟨Nat.le_of_ble_eq_true rfl, Nat.le_of_ble_eq_true rfl⟩ (Nat.le_of_ble_eq_true rfl) 39 rfl [] rfl ?_
      refine x_aload_n hh dX7_put_39 rfl 0 rfl 40 rfl ?_
      refine x_getR hh cl_7 dX7_put_40 sh_0 1 9 rfl (Nat.le_of_ble_eq_true rfl) wd_292 43 rfl ?_
      refine x_iload_n hh dX7_put_43 rfl 2 rfl 44 rfl ?_
      obtain ⟨q6, hq6, hf⟩ := b_some hf
      refine x_callV (rest := []) hh mi_X6_whoIsIn [.int v2] dX7_put_44 sh_9 wd_525 (C_X6_whoIsIn l hX sc_9 hq6) rfl rfl ⟨Nat.le_of_ble_eq_true rfl, Nat.le_of_ble_eq_true rfl⟩ (Nat.le_of_ble_eq_true rfl) 47 rfl [.int q6.1] rfl ?_
      obtain ⟨rfl, rfl⟩ := ret2 hf
      exact x_iret hh hr dX7_put_47
    · have hf := t_pos hc4 hf
      refine x_ldc hh dX7_put_26 wd_523 28 rfl ?_
      obtain ⟨rfl, rfl⟩ := ret2 hf
      exact x_iret hh hr dX7_put_28
  · have hf := t_pos hc2 hf
    refine x_ldc hh dX7_put_10 wd_475 12 rfl ?_
    obtain ⟨rfl, rfl⟩ := ret2 hf
    exact x_iret hh hr dX7_put_12
def F_X7_put (v1 : Int32) (v2 : Int32) (v3 : Int32) (st : St) : Option (Int32 × St) := F_X7_put_0  v1 v2 v3 st
set_option maxRecDepth 100000 in
theorem C_X7_put (l : Launch) {X : Cx} (hX : Ok X) {v1 : Int32} {v2 : Int32} {v3 : Int32} {st : St} {q : Int32 × St} (hf : F_X7_put v1 v2 v3 st = some q) : Ct l X 2 yX7_put (.code yX7_put cX7_put 4 (some .int)) [.ref (X.2.1 0), .int v1, .int v2, .int v3] st (some (.int q.1)) q.2 := by
  refine Ct.of hX (by decide) (Nat.le_of_ble_eq_true rfl) ?_
  intro p e s m args below meth c hh hr
  exact Z_X7_put_0 hX hh hr v1 v2 v3 st hf

def F_X7_leave_0 (v1 : Int32) (st : St) : Option (Int32 × St) := (F_X3_hasPerson 1 v1 st).bind (fun q1 => if q1.1 = 0 then some ((-1000000001), q1.2) else gi v1 6 (if (q1.2.1 10 v1.toNatClampNeg) = ((-1)) then some ((-1000000003), q1.2) else (F_X6_goOut 9 v1 q1.2).bind (fun q5 => some (q1.2.1 10 v1.toNatClampNeg, q5))))
set_option maxRecDepth 100000 in
set_option maxHeartbeats 4000000 in
theorem Z_X7_leave_0 {l : Launch} {X : Cx} (hX : Ok X) {p : Program} {e : Env} {s : State} {m : MethodId} {args : Array Value} {below : List Frame} {meth : Method} {c : Code} {rr : Int32} {st' : St} (hh : Hy X p s m args meth c cX7_leave 3 RX7) (hr : meth.sig.returnType = some .int) (v1 : Int32) (st : St) (hf : F_X7_leave_0 v1 st = some (rr, st')) : Z X p l e (rmk 2) s m args below meth c 3 (MQ below (Qf X (some (.int rr)) st') args s 0 0 (cA X)) 0 [(0, .ref (X.2.1 0)), (1, .int v1)] [] st := by
  unfold F_X7_leave_0 at hf
  refine x_aload_n hh dX7_leave_0 rfl 0 rfl 1 rfl ?_
  refine x_getR hh cl_7 dX7_leave_1 sh_0 0 1 rfl (Nat.le_of_ble_eq_true rfl) wd_291 4 rfl ?_
  refine x_iload_n hh dX7_leave_4 rfl 1 rfl 5 rfl ?_
  obtain ⟨q1, hq1, hf⟩ := b_some hf
  refine x_callV (rest := []) hh mi_X3_hasPerson [.int v1] dX7_leave_5 sh_1 wd_496 (C_X3_hasPerson l hX ho_1 hq1) rfl rfl ⟨Nat.le_of_ble_eq_true rfl, Nat.le_of_ble_eq_true rfl⟩ (Nat.le_of_ble_eq_true rfl) 8 rfl [.int q1.1] rfl ?_
  refine x_if_ne hh dX7_leave_8 14 rfl 11 rfl (fun hc2 => ?_) (fun hc2 => ?_)
  · have hf := t_neg hc2 hf
    refine x_aload_n hh dX7_leave_14 rfl 0 rfl 15 rfl ?_
    refine x_getR hh cl_7 dX7_leave_15 sh_0 1 9 rfl (Nat.le_of_ble_eq_true rfl) wd_292 18 rfl ?_
    refine x_getR hh cl_6 dX7_leave_18 sh_9 0 10 rfl (Nat.le_of_ble_eq_true rfl) wd_159 21 rfl ?_
    refine x_iload_n hh dX7_leave_21 rfl 1 rfl 22 rfl ?_
    obtain ⟨hi3, hf⟩ := gi_some hf
    refine x_iaload hh dX7_leave_22 sh_10 hi3 23 rfl ?_
    refine x_istore_n hh dX7_leave_23 rfl (by decide) [(2, .int (q1.2.1 10 v1.toNatClampNeg)), (0, .ref (X.2.1 0)), (1, .int v1)] rfl 24 rfl ?_
    refine x_iload_n hh dX7_leave_24 rfl 0 rfl 25 rfl ?_
    refine x_iconst hh dX7_leave_25 (-1) rfl 26 rfl ?_
    refine x_icmp_ne hh dX7_leave_26 32 rfl 29 rfl (fun hc4 => ?_) (fun hc4 => ?_)
    · have hf := t_neg hc4 hf
      refine x_aload_n hh dX7_leave_32 rfl 1 rfl 33 rfl ?_
      refine x_getR hh cl_7 dX7_leave_33 sh_0 1 9 rfl (Nat.le_of_ble_eq_true rfl) wd_292 36 rfl ?_
      refine x_iload_n hh dX7_leave_36 rfl 2 rfl 37 rfl ?_
      obtain ⟨q5, hq5, hf⟩ := b_some hf
      refine x_callV (rest := []) hh mi_X6_goOut [.int v1] dX7_leave_37 sh_9 wd_530 (C_X6_goOut l hX sc_9 hq5) rfl rfl ⟨Nat.le_of_ble_eq_true rfl, Nat.le_of_ble_eq_true rfl⟩ (Nat.le_of_ble_eq_true rfl) 40 rfl [] rfl ?_
      refine x_iload_n hh dX7_leave_40 rfl 0 rfl 41 rfl ?_
      obtain ⟨rfl, rfl⟩ := ret2 hf
      exact x_iret hh hr dX7_leave_41
    · have hf := t_pos hc4 hf
      refine x_ldc hh dX7_leave_29 wd_523 31 rfl ?_
      obtain ⟨rfl, rfl⟩ := ret2 hf
      exact x_iret hh hr dX7_leave_31
  · have hf := t_pos hc2 hf
    refine x_ldc hh dX7_leave_11 wd_475 13 rfl ?_
    obtain ⟨rfl, rfl⟩ := ret2 hf
    exact x_iret hh hr dX7_leave_13
def F_X7_leave (v1 : Int32) (st : St) : Option (Int32 × St) := F_X7_leave_0  v1 st
set_option maxRecDepth 100000 in
theorem C_X7_leave (l : Launch) {X : Cx} (hX : Ok X) {v1 : Int32} {st : St} {q : Int32 × St} (hf : F_X7_leave v1 st = some q) : Ct l X 2 yX7_leave (.code yX7_leave cX7_leave 3 (some .int)) [.ref (X.2.1 0), .int v1] st (some (.int q.1)) q.2 := by
  refine Ct.of hX (by decide) (Nat.le_of_ble_eq_true rfl) ?_
  intro p e s m args below meth c hh hr
  exact Z_X7_leave_0 hX hh hr v1 st hf

def F_X7_bend_31 (st : St) : Option (Int32 × St) := some ((-1000000002), st)
set_option maxRecDepth 100000 in
set_option maxHeartbeats 4000000 in
theorem Z_X7_bend_31 {l : Launch} {X : Cx} (hX : Ok X) {p : Program} {e : Env} {s : State} {m : MethodId} {args : Array Value} {below : List Frame} {meth : Method} {c : Code} {rr : Int32} {st' : St} (hh : Hy X p s m args meth c cX7_bend 4 RX7) (hr : meth.sig.returnType = some .int) (st : St) (hf : F_X7_bend_31 st = some (rr, st')) : Z X p l e (rmk 1) s m args below meth c 4 (MQ below (Qf X (some (.int rr)) st') args s 0 0 (cA X)) 31 [(0, .ref (X.2.1 0))] [] st := by
  unfold F_X7_bend_31 at hf
  refine x_ldc hh dX7_bend_31 wd_320 33 rfl ?_
  obtain ⟨rfl, rfl⟩ := ret2 hf
  exact x_iret hh hr dX7_bend_33
def F_X7_bend_0 (v1 : Int32) (v2 : Int32) (st : St) : Option (Int32 × St) := (F_X3_hasPerson 1 v1 st).bind (fun q1 => if q1.1 = 0 then some ((-1000000001), q1.2) else if v2 < 0 then F_X7_bend_31 q1.2 else gi v1 6 (if v2 ≤ (q1.2.1 6 v1.toNatClampNeg) then gi v1 6 (if (q1.2.1 10 v1.toNatClampNeg) = ((-1)) then some ((-1000000003), q1.2) else gi v1 6 (gi v1 6 (bs (sV q1.2 12 v1.toNatClampNeg v2) (fun st10 => some (q1.2.1 12 v1.toNatClampNeg, st10))))) else F_X7_bend_31 q1.2))
set_option maxRecDepth 100000 in
set_option maxHeartbeats 4000000 in
theorem Z_X7_bend_0 {l : Launch} {X : Cx} (hX : Ok X) {p : Program} {e : Env} {s : State} {m : MethodId} {args : Array Value} {below : List Frame} {meth : Method} {c : Code} {rr : Int32} {st' : St} (hh : Hy X p s m args meth c cX7_bend 4 RX7) (hr : meth.sig.returnType = some .int) (v1 : Int32) (v2 : Int32) (st : St) (hf : F_X7_bend_0 v1 v2 st = some (rr, st')) : Z X p l e (rmk 1) s m args below meth c 4 (MQ below (Qf X (some (.int rr)) st') args s 0 0 (cA X)) 0 [(0, .ref (X.2.1 0)), (1, .int v1), (2, .int v2)] [] st := by
  unfold F_X7_bend_0 at hf
  refine x_aload_n hh dX7_bend_0 rfl 0 rfl 1 rfl ?_
  refine x_getR hh cl_7 dX7_bend_1 sh_0 0 1 rfl (Nat.le_of_ble_eq_true rfl) wd_291 4 rfl ?_
  refine x_iload_n hh dX7_bend_4 rfl 1 rfl 5 rfl ?_
  obtain ⟨q1, hq1, hf⟩ := b_some hf
  refine x_callV (rest := []) hh mi_X3_hasPerson [.int v1] dX7_bend_5 sh_1 wd_496 (C_X3_hasPerson l hX ho_1 hq1) rfl rfl ⟨Nat.le_of_ble_eq_true rfl, Nat.le_of_ble_eq_true rfl⟩ (Nat.le_of_ble_eq_true rfl) 8 rfl [.int q1.1] rfl ?_
  refine x_if_ne hh dX7_bend_8 14 rfl 11 rfl (fun hc2 => ?_) (fun hc2 => ?_)
  · have hf := t_neg hc2 hf
    refine x_iload_n hh dX7_bend_14 rfl 2 rfl 15 rfl ?_
    refine x_if_lt hh dX7_bend_15 31 rfl 18 rfl (fun hc3 => ?_) (fun hc3 => ?_)
    · have hf := t_pos hc3 hf
      refine x_sub (lv' := [(0, .ref (X.2.1 0))]) [0] rfl ?_
      exact Z_X7_bend_31 hX hh hr  q1.2 hf
    · have hf := t_neg hc3 hf
      refine x_iload_n hh dX7_bend_18 rfl 2 rfl 19 rfl ?_
      refine x_aload_n hh dX7_bend_19 rfl 0 rfl 20 rfl ?_
      refine x_getR hh cl_7 dX7_bend_20 sh_0 0 1 rfl (Nat.le_of_ble_eq_true rfl) wd_291 23 rfl ?_
      refine x_getR hh cl_3 dX7_bend_23 sh_1 7 6 rfl (Nat.le_of_ble_eq_true rfl) wd_131 26 rfl ?_
      refine x_iload_n hh dX7_bend_26 rfl 1 rfl 27 rfl ?_
      obtain ⟨hi4, hf⟩ := gi_some hf
      refine x_iaload hh dX7_bend_27 sh_6 hi4 28 rfl ?_
      refine x_icmp_le hh dX7_bend_28 34 rfl 31 rfl (fun hc5 => ?_) (fun hc5 => ?_)
      · have hf := t_pos hc5 hf
        refine x_aload_n hh dX7_bend_34 rfl 0 rfl 35 rfl ?_
        refine x_getR hh cl_7 dX7_bend_35 sh_0 1 9 rfl (Nat.le_of_ble_eq_true rfl) wd_292 38 rfl ?_
        refine x_getR hh cl_6 dX7_bend_38 sh_9 0 10 rfl (Nat.le_of_ble_eq_true rfl) wd_159 41 rfl ?_
        refine x_iload_n hh dX7_bend_41 rfl 1 rfl 42 rfl ?_
        obtain ⟨hi6, hf⟩ := gi_some hf
        refine x_iaload hh dX7_bend_42 sh_10 hi6 43 rfl ?_
        refine x_iconst hh dX7_bend_43 (-1) rfl 44 rfl ?_
        refine x_icmp_ne hh dX7_bend_44 50 rfl 47 rfl (fun hc7 => ?_) (fun hc7 => ?_)
        · have hf := t_neg hc7 hf
          refine x_aload_n hh dX7_bend_50 rfl 0 rfl 51 rfl ?_
          refine x_getR hh cl_7 dX7_bend_51 sh_0 1 9 rfl (Nat.le_of_ble_eq_true rfl) wd_292 54 rfl ?_
          refine x_getR hh cl_6 dX7_bend_54 sh_9 2 12 rfl (Nat.le_of_ble_eq_true rfl) wd_165 57 rfl ?_
          refine x_iload_n hh dX7_bend_57 rfl 1 rfl 58 rfl ?_
          obtain ⟨hi8, hf⟩ := gi_some hf
          refine x_iaload hh dX7_bend_58 sh_12 hi8 59 rfl ?_
          refine x_istore_n hh dX7_bend_59 rfl (by decide) [(3, .int (q1.2.1 12 v1.toNatClampNeg)), (0, .ref (X.2.1 0)), (1, .int v1), (2, .int v2)] rfl 60 rfl ?_
          refine x_aload_n hh dX7_bend_60 rfl 1 rfl 61 rfl ?_
          refine x_getR hh cl_7 dX7_bend_61 sh_0 1 9 rfl (Nat.le_of_ble_eq_true rfl) wd_292 64 rfl ?_
          refine x_getR hh cl_6 dX7_bend_64 sh_9 2 12 rfl (Nat.le_of_ble_eq_true rfl) wd_165 67 rfl ?_
          refine x_iload_n hh dX7_bend_67 rfl 2 rfl 68 rfl ?_
          refine x_iload_n hh dX7_bend_68 rfl 3 rfl 69 rfl ?_
          obtain ⟨hi9, hf⟩ := gi_some hf
          obtain ⟨st10, est10, hf⟩ := bs_some hf
          refine x_iastore hh dX7_bend_69 sh_12 hi9 70 rfl st10 est10 ?_
          refine x_iload_n hh dX7_bend_70 rfl 0 rfl 71 rfl ?_
          obtain ⟨rfl, rfl⟩ := ret2 hf
          exact x_iret hh hr dX7_bend_71
        · have hf := t_pos hc7 hf
          refine x_ldc hh dX7_bend_47 wd_523 49 rfl ?_
          obtain ⟨rfl, rfl⟩ := ret2 hf
          exact x_iret hh hr dX7_bend_49
      · have hf := t_neg hc5 hf
        refine x_sub (lv' := [(0, .ref (X.2.1 0))]) [0] rfl ?_
        exact Z_X7_bend_31 hX hh hr  q1.2 hf
  · have hf := t_pos hc2 hf
    refine x_ldc hh dX7_bend_11 wd_475 13 rfl ?_
    obtain ⟨rfl, rfl⟩ := ret2 hf
    exact x_iret hh hr dX7_bend_13
def F_X7_bend (v1 : Int32) (v2 : Int32) (st : St) : Option (Int32 × St) := F_X7_bend_0  v1 v2 st
set_option maxRecDepth 100000 in
theorem C_X7_bend (l : Launch) {X : Cx} (hX : Ok X) {v1 : Int32} {v2 : Int32} {st : St} {q : Int32 × St} (hf : F_X7_bend v1 v2 st = some q) : Ct l X 1 yX7_bend (.code yX7_bend cX7_bend 4 (some .int)) [.ref (X.2.1 0), .int v1, .int v2] st (some (.int q.1)) q.2 := by
  refine Ct.of hX (by decide) (Nat.le_of_ble_eq_true rfl) ?_
  intro p e s m args below meth c hh hr
  exact Z_X7_bend_0 hX hh hr v1 v2 st hf

def F_X7_first_23 (st : St) : Option (Int32 × St) := some ((-1000000002), st)
set_option maxRecDepth 100000 in
set_option maxHeartbeats 4000000 in
theorem Z_X7_first_23 {l : Launch} {X : Cx} (hX : Ok X) {p : Program} {e : Env} {s : State} {m : MethodId} {args : Array Value} {below : List Frame} {meth : Method} {c : Code} {rr : Int32} {st' : St} (hh : Hy X p s m args meth c cX7_first 4 RX7) (hr : meth.sig.returnType = some .int) (st : St) (hf : F_X7_first_23 st = some (rr, st')) : Z X p l e (rmk 4) s m args below meth c 4 (MQ below (Qf X (some (.int rr)) st') args s 0 0 (cA X)) 23 [(0, .ref (X.2.1 0))] [] st := by
  unfold F_X7_first_23 at hf
  refine x_ldc hh dX7_first_23 wd_320 25 rfl ?_
  obtain ⟨rfl, rfl⟩ := ret2 hf
  exact x_iret hh hr dX7_first_25
def F_X7_first_57 (t0 : Int32) (st : St) : Option (Int32 × St) := some (t0, st)
set_option maxRecDepth 100000 in
set_option maxHeartbeats 4000000 in
theorem Z_X7_first_57 {l : Launch} {X : Cx} (hX : Ok X) {p : Program} {e : Env} {s : State} {m : MethodId} {args : Array Value} {below : List Frame} {meth : Method} {c : Code} {rr : Int32} {st' : St} (hh : Hy X p s m args meth c cX7_first 4 RX7) (hr : meth.sig.returnType = some .int) (t0 : Int32) (st : St) (hf : F_X7_first_57 t0 st = some (rr, st')) : Z X p l e (rmk 4) s m args below meth c 4 (MQ below (Qf X (some (.int rr)) st') args s 0 0 (cA X)) 57 [(0, .ref (X.2.1 0))] [.int t0] st := by
  unfold F_X7_first_57 at hf
  obtain ⟨rfl, rfl⟩ := ret2 hf
  exact x_iret hh hr dX7_first_57
def F_X7_first_44 (v3 : Int32) (st : St) : Option (Int32 × St) := F_X7_first_57 v3 st
set_option maxRecDepth 100000 in
set_option maxHeartbeats 4000000 in
theorem Z_X7_first_44 {l : Launch} {X : Cx} (hX : Ok X) {p : Program} {e : Env} {s : State} {m : MethodId} {args : Array Value} {below : List Frame} {meth : Method} {c : Code} {rr : Int32} {st' : St} (hh : Hy X p s m args meth c cX7_first 4 RX7) (hr : meth.sig.returnType = some .int) (v3 : Int32) (st : St) (hf : F_X7_first_44 v3 st = some (rr, st')) : Z X p l e (rmk 4) s m args below meth c 4 (MQ below (Qf X (some (.int rr)) st') args s 0 0 (cA X)) 44 [(0, .ref (X.2.1 0)), (3, .int v3)] [] st := by
  unfold F_X7_first_44 at hf
  refine x_iload_n hh dX7_first_44 rfl 1 rfl 45 rfl ?_
  refine x_goto hh dX7_first_45 57 rfl ?_
  refine x_sub (lv' := [(0, .ref (X.2.1 0))]) [0] rfl ?_
  exact Z_X7_first_57 hX hh hr  v3 st hf
def F_X7_first_0 (v1 : Int32) (v2 : Int32) (st : St) : Option (Int32 × St) := (F_X3_hasRoom 1 v1 st).bind (fun q1 => if q1.1 = 0 then some ((-1000000001), q1.2) else if v2 < 0 then F_X7_first_23 q1.2 else if v2 ≤ 1 then (F_X1_firstTooHigh 9 v1 q1.2).bind (fun q5 => if q5.1 = ((-1)) then F_X7_first_44 q5.1 q5.2 else if v2 = 0 then F_X7_first_44 q5.1 q5.2 else (F_X1_excessOf 9 q5.1 v1 q5.2).bind (fun q8 => F_X7_first_57 q8.1 q8.2)) else F_X7_first_23 q1.2)
set_option maxRecDepth 100000 in
set_option maxHeartbeats 4000000 in
theorem Z_X7_first_0 {l : Launch} {X : Cx} (hX : Ok X) {p : Program} {e : Env} {s : State} {m : MethodId} {args : Array Value} {below : List Frame} {meth : Method} {c : Code} {rr : Int32} {st' : St} (hh : Hy X p s m args meth c cX7_first 4 RX7) (hr : meth.sig.returnType = some .int) (v1 : Int32) (v2 : Int32) (st : St) (hf : F_X7_first_0 v1 v2 st = some (rr, st')) : Z X p l e (rmk 4) s m args below meth c 4 (MQ below (Qf X (some (.int rr)) st') args s 0 0 (cA X)) 0 [(0, .ref (X.2.1 0)), (1, .int v1), (2, .int v2)] [] st := by
  unfold F_X7_first_0 at hf
  refine x_aload_n hh dX7_first_0 rfl 0 rfl 1 rfl ?_
  refine x_getR hh cl_7 dX7_first_1 sh_0 0 1 rfl (Nat.le_of_ble_eq_true rfl) wd_291 4 rfl ?_
  refine x_iload_n hh dX7_first_4 rfl 1 rfl 5 rfl ?_
  obtain ⟨q1, hq1, hf⟩ := b_some hf
  refine x_callV (rest := []) hh mi_X3_hasRoom [.int v1] dX7_first_5 sh_1 wd_471 (C_X3_hasRoom l hX ho_1 hq1) rfl rfl ⟨Nat.le_of_ble_eq_true rfl, Nat.le_of_ble_eq_true rfl⟩ (Nat.le_of_ble_eq_true rfl) 8 rfl [.int q1.1] rfl ?_
  refine x_if_ne hh dX7_first_8 14 rfl 11 rfl (fun hc2 => ?_) (fun hc2 => ?_)
  · have hf := t_neg hc2 hf
    refine x_iload_n hh dX7_first_14 rfl 2 rfl 15 rfl ?_
    refine x_if_lt hh dX7_first_15 23 rfl 18 rfl (fun hc3 => ?_) (fun hc3 => ?_)
    · have hf := t_pos hc3 hf
      refine x_sub (lv' := [(0, .ref (X.2.1 0))]) [0] rfl ?_
      exact Z_X7_first_23 hX hh hr  q1.2 hf
    · have hf := t_neg hc3 hf
      refine x_iload_n hh dX7_first_18 rfl 2 rfl 19 rfl ?_
      refine x_iconst hh dX7_first_19 1 rfl 20 rfl ?_
      refine x_icmp_le hh dX7_first_20 26 rfl 23 rfl (fun hc4 => ?_) (fun hc4 => ?_)
      · have hf := t_pos hc4 hf
        refine x_aload_n hh dX7_first_26 rfl 0 rfl 27 rfl ?_
        refine x_getR hh cl_7 dX7_first_27 sh_0 2 15 rfl (Nat.le_of_ble_eq_true rfl) wd_293 30 rfl ?_
        refine x_iload_n hh dX7_first_30 rfl 1 rfl 31 rfl ?_
        obtain ⟨q5, hq5, hf⟩ := b_some hf
        refine x_callV (rest := []) hh mi_X1_firstTooHigh [.int v1] dX7_first_31 sh_15 wd_539 (C_X1_firstTooHigh l hX ev_9 hq5) rfl rfl ⟨Nat.le_of_ble_eq_true rfl, Nat.le_of_ble_eq_true rfl⟩ (Nat.le_of_ble_eq_true rfl) 34 rfl [.int q5.1] rfl ?_
        refine x_istore_n hh dX7_first_34 rfl (by decide) [(3, .int q5.1), (0, .ref (X.2.1 0)), (1, .int v1), (2, .int v2)] rfl 35 rfl ?_
        refine x_iload_n hh dX7_first_35 rfl 0 rfl 36 rfl ?_
        refine x_iconst hh dX7_first_36 (-1) rfl 37 rfl ?_
        refine x_icmp_eq hh dX7_first_37 44 rfl 40 rfl (fun hc6 => ?_) (fun hc6 => ?_)
        · have hf := t_pos hc6 hf
          refine x_sub (lv' := [(0, .ref (X.2.1 0)), (3, .int q5.1)]) [1, 0] rfl ?_
          exact Z_X7_first_44 hX hh hr  q5.1 q5.2 hf
        · have hf := t_neg hc6 hf
          refine x_iload_n hh dX7_first_40 rfl 3 rfl 41 rfl ?_
          refine x_if_ne hh dX7_first_41 48 rfl 44 rfl (fun hc7 => ?_) (fun hc7 => ?_)
          · have hf := t_neg hc7 hf
            refine x_aload_n hh dX7_first_48 rfl 1 rfl 49 rfl ?_
            refine x_getR hh cl_7 dX7_first_49 sh_0 2 15 rfl (Nat.le_of_ble_eq_true rfl) wd_293 52 rfl ?_
            refine x_iload_n hh dX7_first_52 rfl 0 rfl 53 rfl ?_
            refine x_iload_n hh dX7_first_53 rfl 2 rfl 54 rfl ?_
            obtain ⟨q8, hq8, hf⟩ := b_some hf
            refine x_callV (rest := []) hh mi_X1_excessOf [.int q5.1, .int v1] dX7_first_54 sh_15 wd_559 (C_X1_excessOf l hX ev_9 hq8) rfl rfl ⟨Nat.le_of_ble_eq_true rfl, Nat.le_of_ble_eq_true rfl⟩ (Nat.le_of_ble_eq_true rfl) 57 rfl [.int q8.1] rfl ?_
            refine x_sub (lv' := [(0, .ref (X.2.1 0))]) [1] rfl ?_
            exact Z_X7_first_57 hX hh hr  q8.1 q8.2 hf
          · have hf := t_pos hc7 hf
            refine x_sub (lv' := [(0, .ref (X.2.1 0)), (3, .int q5.1)]) [1, 0] rfl ?_
            exact Z_X7_first_44 hX hh hr  q5.1 q5.2 hf
      · have hf := t_neg hc4 hf
        refine x_sub (lv' := [(0, .ref (X.2.1 0))]) [0] rfl ?_
        exact Z_X7_first_23 hX hh hr  q1.2 hf
  · have hf := t_pos hc2 hf
    refine x_ldc hh dX7_first_11 wd_475 13 rfl ?_
    obtain ⟨rfl, rfl⟩ := ret2 hf
    exact x_iret hh hr dX7_first_13
def F_X7_first (v1 : Int32) (v2 : Int32) (st : St) : Option (Int32 × St) := F_X7_first_0  v1 v2 st
set_option maxRecDepth 100000 in
theorem C_X7_first (l : Launch) {X : Cx} (hX : Ok X) {v1 : Int32} {v2 : Int32} {st : St} {q : Int32 × St} (hf : F_X7_first v1 v2 st = some q) : Ct l X 4 yX7_first (.code yX7_first cX7_first 4 (some .int)) [.ref (X.2.1 0), .int v1, .int v2] st (some (.int q.1)) q.2 := by
  refine Ct.of hX (by decide) (Nat.le_of_ble_eq_true rfl) ?_
  intro p e s m args below meth c hh hr
  exact Z_X7_first_0 hX hh hr v1 v2 st hf

def F_X7_bow_24 (t0 : Int32) (st : St) : Option (Int32 × St) := some (t0, st)
set_option maxRecDepth 100000 in
set_option maxHeartbeats 4000000 in
theorem Z_X7_bow_24 {l : Launch} {X : Cx} (hX : Ok X) {p : Program} {e : Env} {s : State} {m : MethodId} {args : Array Value} {below : List Frame} {meth : Method} {c : Code} {rr : Int32} {st' : St} (hh : Hy X p s m args meth c cX7_bow 2 RX7) (hr : meth.sig.returnType = some .int) (t0 : Int32) (st : St) (hf : F_X7_bow_24 t0 st = some (rr, st')) : Z X p l e (rmk 3) s m args below meth c 2 (MQ below (Qf X (some (.int rr)) st') args s 0 0 (cA X)) 24 [(0, .ref (X.2.1 0))] [.int t0] st := by
  unfold F_X7_bow_24 at hf
  obtain ⟨rfl, rfl⟩ := ret2 hf
  exact x_iret hh hr dX7_bow_24
def F_X7_bow_0 (v1 : Int32) (st : St) : Option (Int32 × St) := (F_X3_hasRoom 1 v1 st).bind (fun q1 => if q1.1 = 0 then F_X7_bow_24 ((-1000000001)) q1.2 else (F_X1_allBow 9 v1 q1.2).bind (fun q3 => F_X7_bow_24 q3.1 q3.2))
set_option maxRecDepth 100000 in
set_option maxHeartbeats 4000000 in
theorem Z_X7_bow_0 {l : Launch} {X : Cx} (hX : Ok X) {p : Program} {e : Env} {s : State} {m : MethodId} {args : Array Value} {below : List Frame} {meth : Method} {c : Code} {rr : Int32} {st' : St} (hh : Hy X p s m args meth c cX7_bow 2 RX7) (hr : meth.sig.returnType = some .int) (v1 : Int32) (st : St) (hf : F_X7_bow_0 v1 st = some (rr, st')) : Z X p l e (rmk 3) s m args below meth c 2 (MQ below (Qf X (some (.int rr)) st') args s 0 0 (cA X)) 0 [(0, .ref (X.2.1 0)), (1, .int v1)] [] st := by
  unfold F_X7_bow_0 at hf
  refine x_aload_n hh dX7_bow_0 rfl 0 rfl 1 rfl ?_
  refine x_getR hh cl_7 dX7_bow_1 sh_0 0 1 rfl (Nat.le_of_ble_eq_true rfl) wd_291 4 rfl ?_
  refine x_iload_n hh dX7_bow_4 rfl 1 rfl 5 rfl ?_
  obtain ⟨q1, hq1, hf⟩ := b_some hf
  refine x_callV (rest := []) hh mi_X3_hasRoom [.int v1] dX7_bow_5 sh_1 wd_471 (C_X3_hasRoom l hX ho_1 hq1) rfl rfl ⟨Nat.le_of_ble_eq_true rfl, Nat.le_of_ble_eq_true rfl⟩ (Nat.le_of_ble_eq_true rfl) 8 rfl [.int q1.1] rfl ?_
  refine x_if_eq hh dX7_bow_8 22 rfl 11 rfl (fun hc2 => ?_) (fun hc2 => ?_)
  · have hf := t_pos hc2 hf
    refine x_ldc hh dX7_bow_22 wd_475 24 rfl ?_
    refine x_sub (lv' := [(0, .ref (X.2.1 0))]) [0] rfl ?_
    exact Z_X7_bow_24 hX hh hr  ((-1000000001)) q1.2 hf
  · have hf := t_neg hc2 hf
    refine x_aload_n hh dX7_bow_11 rfl 0 rfl 12 rfl ?_
    refine x_getR hh cl_7 dX7_bow_12 sh_0 2 15 rfl (Nat.le_of_ble_eq_true rfl) wd_293 15 rfl ?_
    refine x_iload_n hh dX7_bow_15 rfl 1 rfl 16 rfl ?_
    obtain ⟨q3, hq3, hf⟩ := b_some hf
    refine x_callV (rest := []) hh mi_X1_allBow [.int v1] dX7_bow_16 sh_15 wd_564 (C_X1_allBow l hX ev_9 hq3) rfl rfl ⟨Nat.le_of_ble_eq_true rfl, Nat.le_of_ble_eq_true rfl⟩ (Nat.le_of_ble_eq_true rfl) 19 rfl [.int q3.1] rfl ?_
    refine x_goto hh dX7_bow_19 24 rfl ?_
    refine x_sub (lv' := [(0, .ref (X.2.1 0))]) [0] rfl ?_
    exact Z_X7_bow_24 hX hh hr  q3.1 q3.2 hf
def F_X7_bow (v1 : Int32) (st : St) : Option (Int32 × St) := F_X7_bow_0  v1 st
set_option maxRecDepth 100000 in
theorem C_X7_bow (l : Launch) {X : Cx} (hX : Ok X) {v1 : Int32} {st : St} {q : Int32 × St} (hf : F_X7_bow v1 st = some q) : Ct l X 3 yX7_bow (.code yX7_bow cX7_bow 2 (some .int)) [.ref (X.2.1 0), .int v1] st (some (.int q.1)) q.2 := by
  refine Ct.of hX (by decide) (Nat.le_of_ble_eq_true rfl) ?_
  intro p e s m args below meth c hh hr
  exact Z_X7_bow_0 hX hh hr v1 st hf

def F_X7_year_11 (st : St) : Option (Int32 × St) := some ((-1000000002), st)
set_option maxRecDepth 100000 in
set_option maxHeartbeats 4000000 in
theorem Z_X7_year_11 {l : Launch} {X : Cx} (hX : Ok X) {p : Program} {e : Env} {s : State} {m : MethodId} {args : Array Value} {below : List Frame} {meth : Method} {c : Code} {rr : Int32} {st' : St} (hh : Hy X p s m args meth c cX7_year 3 RX7) (hr : meth.sig.returnType = some .int) (st : St) (hf : F_X7_year_11 st = some (rr, st')) : Z X p l e (rmk 5) s m args below meth c 3 (MQ below (Qf X (some (.int rr)) st') args s 0 0 (cA X)) 11 [(0, .ref (X.2.1 0))] [] st := by
  unfold F_X7_year_11 at hf
  refine x_ldc hh dX7_year_11 wd_320 13 rfl ?_
  obtain ⟨rfl, rfl⟩ := ret2 hf
  exact x_iret hh hr dX7_year_13
def F_X7_year_16 : Nat → Int32 → Int32 → St → Option (Int32 × St)
  | 0, _, _, _ => none
  | n + 1, v1, v2, st => if v1 ≤ v2 then (F_X1_roomsWithFault 9 st).bind (fun q4 => some (q4.1, q4.2)) else (F_X1_passYear 9 st).bind (fun q5 => F_X7_year_16 n v1 (v2 + 1) q5)
set_option maxRecDepth 100000 in
set_option maxHeartbeats 4000000 in
theorem Z_X7_year_16 {l : Launch} {X : Cx} (hX : Ok X) {p : Program} {e : Env} {s : State} {m : MethodId} {args : Array Value} {below : List Frame} {meth : Method} {c : Code} {rr : Int32} {st' : St} (hh : Hy X p s m args meth c cX7_year 3 RX7) (hr : meth.sig.returnType = some .int) : ∀ (n : Nat) (v1 : Int32) (v2 : Int32) (st : St), F_X7_year_16 n v1 v2 st = some (rr, st') → Z X p l e (rmk 5) s m args below meth c 3 (MQ below (Qf X (some (.int rr)) st') args s 0 0 (cA X)) 16 [(0, .ref (X.2.1 0)), (1, .int v1), (2, .int v2)] [] st := by
  intro n
  induction n with
  | zero =>
    intro v1 v2 st hf
    cases hf
  | succ n ih =>
    intro v1 v2 st hf
    rw [F_X7_year_16] at hf
    refine x_iload_n hh dX7_year_16 rfl 2 rfl 17 rfl ?_
    refine x_iload_n hh dX7_year_17 rfl 1 rfl 18 rfl ?_
    refine x_icmp_ge hh dX7_year_18 34 rfl 21 rfl (fun hc3 => ?_) (fun hc3 => ?_)
    · have hf := t_pos hc3 hf
      refine x_aload_n hh dX7_year_34 rfl 0 rfl 35 rfl ?_
      refine x_getR hh cl_7 dX7_year_35 sh_0 2 15 rfl (Nat.le_of_ble_eq_true rfl) wd_293 38 rfl ?_
      obtain ⟨q4, hq4, hf⟩ := b_some hf
      refine x_callV (rest := []) hh mi_X1_roomsWithFault [] dX7_year_38 sh_15 wd_584 (C_X1_roomsWithFault l hX ev_9 hq4) rfl rfl ⟨Nat.le_of_ble_eq_true rfl, Nat.le_of_ble_eq_true rfl⟩ (Nat.le_of_ble_eq_true rfl) 41 rfl [.int q4.1] rfl ?_
      obtain ⟨rfl, rfl⟩ := ret2 hf
      exact x_iret hh hr dX7_year_41
    · have hf := t_neg hc3 hf
      refine x_aload_n hh dX7_year_21 rfl 0 rfl 22 rfl ?_
      refine x_getR hh cl_7 dX7_year_22 sh_0 2 15 rfl (Nat.le_of_ble_eq_true rfl) wd_293 25 rfl ?_
      obtain ⟨q5, hq5, hf⟩ := b_some hf
      refine x_callV (rest := []) hh mi_X1_passYear [] dX7_year_25 sh_15 wd_580 (C_X1_passYear l hX ev_9 hq5) rfl rfl ⟨Nat.le_of_ble_eq_true rfl, Nat.le_of_ble_eq_true rfl⟩ (Nat.le_of_ble_eq_true rfl) 28 rfl [] rfl ?_
      refine x_iinc hh dX7_year_28 2 rfl (v2 + 1) rfl (by decide) [(2, .int (v2 + 1)), (0, .ref (X.2.1 0)), (1, .int v1)] rfl 31 rfl ?_
      refine x_goto hh dX7_year_31 16 rfl ?_
      refine x_sub (lv' := [(0, .ref (X.2.1 0)), (1, .int v1), (2, .int (v2 + 1))]) [1, 2, 0] rfl ?_
      exact ih v1 (v2 + 1) q5 hf
def F_X7_year_0 (v1 : Int32) (st : St) : Option (Int32 × St) := if v1 < 1 then F_X7_year_11 st else if v1 ≤ 60 then F_X7_year_16 fN v1 0 st else F_X7_year_11 st
set_option maxRecDepth 100000 in
set_option maxHeartbeats 4000000 in
theorem Z_X7_year_0 {l : Launch} {X : Cx} (hX : Ok X) {p : Program} {e : Env} {s : State} {m : MethodId} {args : Array Value} {below : List Frame} {meth : Method} {c : Code} {rr : Int32} {st' : St} (hh : Hy X p s m args meth c cX7_year 3 RX7) (hr : meth.sig.returnType = some .int) (v1 : Int32) (st : St) (hf : F_X7_year_0 v1 st = some (rr, st')) : Z X p l e (rmk 5) s m args below meth c 3 (MQ below (Qf X (some (.int rr)) st') args s 0 0 (cA X)) 0 [(0, .ref (X.2.1 0)), (1, .int v1)] [] st := by
  unfold F_X7_year_0 at hf
  refine x_iload_n hh dX7_year_0 rfl 1 rfl 1 rfl ?_
  refine x_iconst hh dX7_year_1 1 rfl 2 rfl ?_
  refine x_icmp_lt hh dX7_year_2 11 rfl 5 rfl (fun hc1 => ?_) (fun hc1 => ?_)
  · have hf := t_pos hc1 hf
    refine x_sub (lv' := [(0, .ref (X.2.1 0))]) [0] rfl ?_
    exact Z_X7_year_11 hX hh hr  st hf
  · have hf := t_neg hc1 hf
    refine x_iload_n hh dX7_year_5 rfl 1 rfl 6 rfl ?_
    refine x_bipush hh dX7_year_6 60 rfl 8 rfl ?_
    refine x_icmp_le hh dX7_year_8 14 rfl 11 rfl (fun hc2 => ?_) (fun hc2 => ?_)
    · have hf := t_pos hc2 hf
      refine x_iconst hh dX7_year_14 0 rfl 15 rfl ?_
      refine x_istore_n hh dX7_year_15 rfl (by decide) [(2, .int 0), (0, .ref (X.2.1 0)), (1, .int v1)] rfl 16 rfl ?_
      refine x_sub (lv' := [(0, .ref (X.2.1 0)), (1, .int v1), (2, .int 0)]) [1, 2, 0] rfl ?_
      exact Z_X7_year_16 hX hh hr fN v1 0 st hf
    · have hf := t_neg hc2 hf
      refine x_sub (lv' := [(0, .ref (X.2.1 0))]) [0] rfl ?_
      exact Z_X7_year_11 hX hh hr  st hf
def F_X7_year (v1 : Int32) (st : St) : Option (Int32 × St) := F_X7_year_0  v1 st
set_option maxRecDepth 100000 in
theorem C_X7_year (l : Launch) {X : Cx} (hX : Ok X) {v1 : Int32} {st : St} {q : Int32 × St} (hf : F_X7_year v1 st = some q) : Ct l X 5 yX7_year (.code yX7_year cX7_year 3 (some .int)) [.ref (X.2.1 0), .int v1] st (some (.int q.1)) q.2 := by
  refine Ct.of hX (by decide) (Nat.le_of_ble_eq_true rfl) ?_
  intro p e s m args below meth c hh hr
  exact Z_X7_year_0 hX hh hr v1 st hf

def F_X7_come_0 (v1 : Int32) (v2 : Int32) (v3 : Int32) (st : St) : Option (Int32 × St) := (F_X7_isComing v1 v2 v3 st).bind (fun q1 => if q1.1 = 0 then some ((-1000000001), q1.2) else (F_X6_canStandAt 9 v1 v2 v3 q1.2).bind (fun q3 => if q3.1 = 0 then some ((-1000000003), q3.2) else (F_X1_comesIn 9 v1 v2 v3 q3.2).bind (fun q5 => some (q5.1, q5.2))))
set_option maxRecDepth 100000 in
set_option maxHeartbeats 4000000 in
theorem Z_X7_come_0 {l : Launch} {X : Cx} (hX : Ok X) {p : Program} {e : Env} {s : State} {m : MethodId} {args : Array Value} {below : List Frame} {meth : Method} {c : Code} {rr : Int32} {st' : St} (hh : Hy X p s m args meth c cX7_come 4 RX7) (hr : meth.sig.returnType = some .int) (v1 : Int32) (v2 : Int32) (v3 : Int32) (st : St) (hf : F_X7_come_0 v1 v2 v3 st = some (rr, st')) : Z X p l e (rmk 4) s m args below meth c 4 (MQ below (Qf X (some (.int rr)) st') args s 0 0 (cA X)) 0 [(0, .ref (X.2.1 0)), (1, .int v1), (2, .int v2), (3, .int v3)] [] st := by
  unfold F_X7_come_0 at hf
  refine x_aload_n hh dX7_come_0 rfl 0 rfl 1 rfl ?_
  refine x_iload_n hh dX7_come_1 rfl 1 rfl 2 rfl ?_
  refine x_iload_n hh dX7_come_2 rfl 2 rfl 3 rfl ?_
  refine x_iload_n hh dX7_come_3 rfl 3 rfl 4 rfl ?_
  obtain ⟨q1, hq1, hf⟩ := b_some hf
  refine x_callV (rest := []) hh mi_X7_isComing [.int v1, .int v2, .int v3] dX7_come_4 sh_0 wd_515 (C_X7_isComing l hX  hq1) rfl rfl ⟨Nat.le_of_ble_eq_true rfl, Nat.le_of_ble_eq_true rfl⟩ (Nat.le_of_ble_eq_true rfl) 7 rfl [.int q1.1] rfl ?_
  refine x_if_ne hh dX7_come_7 13 rfl 10 rfl (fun hc2 => ?_) (fun hc2 => ?_)
  · have hf := t_neg hc2 hf
    refine x_aload_n hh dX7_come_13 rfl 0 rfl 14 rfl ?_
    refine x_getR hh cl_7 dX7_come_14 sh_0 1 9 rfl (Nat.le_of_ble_eq_true rfl) wd_292 17 rfl ?_
    refine x_iload_n hh dX7_come_17 rfl 1 rfl 18 rfl ?_
    refine x_iload_n hh dX7_come_18 rfl 2 rfl 19 rfl ?_
    refine x_iload_n hh dX7_come_19 rfl 3 rfl 20 rfl ?_
    obtain ⟨q3, hq3, hf⟩ := b_some hf
    refine x_callV (rest := []) hh mi_X6_canStandAt [.int v1, .int v2, .int v3] dX7_come_20 sh_9 wd_518 (C_X6_canStandAt l hX sc_9 hq3) rfl rfl ⟨Nat.le_of_ble_eq_true rfl, Nat.le_of_ble_eq_true rfl⟩ (Nat.le_of_ble_eq_true rfl) 23 rfl [.int q3.1] rfl ?_
    refine x_if_ne hh dX7_come_23 29 rfl 26 rfl (fun hc4 => ?_) (fun hc4 => ?_)
    · have hf := t_neg hc4 hf
      refine x_aload_n hh dX7_come_29 rfl 0 rfl 30 rfl ?_
      refine x_getR hh cl_7 dX7_come_30 sh_0 2 15 rfl (Nat.le_of_ble_eq_true rfl) wd_293 33 rfl ?_
      refine x_iload_n hh dX7_come_33 rfl 1 rfl 34 rfl ?_
      refine x_iload_n hh dX7_come_34 rfl 2 rfl 35 rfl ?_
      refine x_iload_n hh dX7_come_35 rfl 3 rfl 36 rfl ?_
      obtain ⟨q5, hq5, hf⟩ := b_some hf
      refine x_callV (rest := []) hh mi_X1_comesIn [.int v1, .int v2, .int v3] dX7_come_36 sh_15 wd_593 (C_X1_comesIn l hX ev_9 hq5) rfl rfl ⟨Nat.le_of_ble_eq_true rfl, Nat.le_of_ble_eq_true rfl⟩ (Nat.le_of_ble_eq_true rfl) 39 rfl [.int q5.1] rfl ?_
      obtain ⟨rfl, rfl⟩ := ret2 hf
      exact x_iret hh hr dX7_come_39
    · have hf := t_pos hc4 hf
      refine x_ldc hh dX7_come_26 wd_523 28 rfl ?_
      obtain ⟨rfl, rfl⟩ := ret2 hf
      exact x_iret hh hr dX7_come_28
  · have hf := t_pos hc2 hf
    refine x_ldc hh dX7_come_10 wd_475 12 rfl ?_
    obtain ⟨rfl, rfl⟩ := ret2 hf
    exact x_iret hh hr dX7_come_12
def F_X7_come (v1 : Int32) (v2 : Int32) (v3 : Int32) (st : St) : Option (Int32 × St) := F_X7_come_0  v1 v2 v3 st
set_option maxRecDepth 100000 in
theorem C_X7_come (l : Launch) {X : Cx} (hX : Ok X) {v1 : Int32} {v2 : Int32} {v3 : Int32} {st : St} {q : Int32 × St} (hf : F_X7_come v1 v2 v3 st = some q) : Ct l X 4 yX7_come (.code yX7_come cX7_come 4 (some .int)) [.ref (X.2.1 0), .int v1, .int v2, .int v3] st (some (.int q.1)) q.2 := by
  refine Ct.of hX (by decide) (Nat.le_of_ble_eq_true rfl) ?_
  intro p e s m args below meth c hh hr
  exact Z_X7_come_0 hX hh hr v1 v2 v3 st hf

def F_X7_party_38 (st : St) : Option (Int32 × St) := some ((-1000000001), st)
set_option maxRecDepth 100000 in
set_option maxHeartbeats 4000000 in
theorem Z_X7_party_38 {l : Launch} {X : Cx} (hX : Ok X) {p : Program} {e : Env} {s : State} {m : MethodId} {args : Array Value} {below : List Frame} {meth : Method} {c : Code} {rr : Int32} {st' : St} (hh : Hy X p s m args meth c cX7_party 4 RX7) (hr : meth.sig.returnType = some .int) (st : St) (hf : F_X7_party_38 st = some (rr, st')) : Z X p l e (rmk 17) s m args below meth c 4 (MQ below (Qf X (some (.int rr)) st') args s 0 0 (cA X)) 38 [(0, .ref (X.2.1 0))] [] st := by
  unfold F_X7_party_38 at hf
  refine x_ldc hh dX7_party_38 wd_475 40 rfl ?_
  obtain ⟨rfl, rfl⟩ := ret2 hf
  exact x_iret hh hr dX7_party_40
def F_X7_party_88 (t0 : Int32) (st : St) : Option (Int32 × St) := some (t0, st)
set_option maxRecDepth 100000 in
set_option maxHeartbeats 4000000 in
theorem Z_X7_party_88 {l : Launch} {X : Cx} (hX : Ok X) {p : Program} {e : Env} {s : State} {m : MethodId} {args : Array Value} {below : List Frame} {meth : Method} {c : Code} {rr : Int32} {st' : St} (hh : Hy X p s m args meth c cX7_party 4 RX7) (hr : meth.sig.returnType = some .int) (t0 : Int32) (st : St) (hf : F_X7_party_88 t0 st = some (rr, st')) : Z X p l e (rmk 17) s m args below meth c 4 (MQ below (Qf X (some (.int rr)) st') args s 0 0 (cA X)) 88 [(0, .ref (X.2.1 0))] [.int t0] st := by
  unfold F_X7_party_88 at hf
  obtain ⟨rfl, rfl⟩ := ret2 hf
  exact x_iret hh hr dX7_party_88
def F_X7_party_41 (v1 : Int32) (v2 : Int32) (v3 : Int32) (st : St) : Option (Int32 × St) := (F_X4_findPlaces v1 v2 st).bind (fun q8 => if q8.1 = 0 then some ((-1), q8.2) else if v3 = ((-1)) then (F_X4_leastSum q8.2).bind (fun q13 => some (q13.1, q13.2)) else if ((v2 >>> (v3 &&& 31)) &&& 1) = 0 then F_X7_party_88 ((-1)) q8.2 else (F_X4_placeOf v3 q8.2).bind (fun q12 => F_X7_party_88 q12.1 q12.2))
set_option maxRecDepth 100000 in
set_option maxHeartbeats 4000000 in
theorem Z_X7_party_41 {l : Launch} {X : Cx} (hX : Ok X) {p : Program} {e : Env} {s : State} {m : MethodId} {args : Array Value} {below : List Frame} {meth : Method} {c : Code} {rr : Int32} {st' : St} (hh : Hy X p s m args meth c cX7_party 4 RX7) (hr : meth.sig.returnType = some .int) (v1 : Int32) (v2 : Int32) (v3 : Int32) (st : St) (hf : F_X7_party_41 v1 v2 v3 st = some (rr, st')) : Z X p l e (rmk 17) s m args below meth c 4 (MQ below (Qf X (some (.int rr)) st') args s 0 0 (cA X)) 41 [(0, .ref (X.2.1 0)), (1, .int v1), (2, .int v2), (3, .int v3)] [] st := by
  unfold F_X7_party_41 at hf
  refine x_aload_n hh dX7_party_41 rfl 0 rfl 42 rfl ?_
  refine x_getR hh cl_7 dX7_party_42 sh_0 6 33 rfl (Nat.le_of_ble_eq_true rfl) wd_297 45 rfl ?_
  refine x_iload_n hh dX7_party_45 rfl 1 rfl 46 rfl ?_
  refine x_iload_n hh dX7_party_46 rfl 2 rfl 47 rfl ?_
  obtain ⟨q8, hq8, hf⟩ := b_some hf
  refine x_callV (rest := []) hh mi_X4_findPlaces [.int v1, .int v2] dX7_party_47 sh_33 wd_616 (C_X4_findPlaces l hX  hq8) rfl rfl ⟨Nat.le_of_ble_eq_true rfl, Nat.le_of_ble_eq_true rfl⟩ (Nat.le_of_ble_eq_true rfl) 50 rfl [.int q8.1] rfl ?_
  refine x_if_ne hh dX7_party_50 55 rfl 53 rfl (fun hc9 => ?_) (fun hc9 => ?_)
  · have hf := t_neg hc9 hf
    refine x_iload_n hh dX7_party_55 rfl 3 rfl 56 rfl ?_
    refine x_iconst hh dX7_party_56 (-1) rfl 57 rfl ?_
    refine x_icmp_ne hh dX7_party_57 68 rfl 60 rfl (fun hc10 => ?_) (fun hc10 => ?_)
    · have hf := t_neg hc10 hf
      refine x_iload_n hh dX7_party_68 rfl 2 rfl 69 rfl ?_
      refine x_iload_n hh dX7_party_69 rfl 3 rfl 70 rfl ?_
      refine x_ishr hh dX7_party_70 71 rfl ?_
      refine x_iconst hh dX7_party_71 1 rfl 72 rfl ?_
      refine x_iand hh dX7_party_72 73 rfl ?_
      refine x_if_ne hh dX7_party_73 80 rfl 76 rfl (fun hc11 => ?_) (fun hc11 => ?_)
      · have hf := t_neg hc11 hf
        refine x_aload_n hh dX7_party_80 rfl 0 rfl 81 rfl ?_
        refine x_getR hh cl_7 dX7_party_81 sh_0 6 33 rfl (Nat.le_of_ble_eq_true rfl) wd_297 84 rfl ?_
        refine x_iload_n hh dX7_party_84 rfl 3 rfl 85 rfl ?_
        obtain ⟨q12, hq12, hf⟩ := b_some hf
        refine x_callV (rest := []) hh mi_X4_placeOf [.int v3] dX7_party_85 sh_33 wd_651 (C_X4_placeOf l hX  hq12) rfl rfl ⟨Nat.le_of_ble_eq_true rfl, Nat.le_of_ble_eq_true rfl⟩ (Nat.le_of_ble_eq_true rfl) 88 rfl [.int q12.1] rfl ?_
        refine x_sub (lv' := [(0, .ref (X.2.1 0))]) [0] rfl ?_
        exact Z_X7_party_88 hX hh hr  q12.1 q12.2 hf
      · have hf := t_pos hc11 hf
        refine x_iconst hh dX7_party_76 (-1) rfl 77 rfl ?_
        refine x_goto hh dX7_party_77 88 rfl ?_
        refine x_sub (lv' := [(0, .ref (X.2.1 0))]) [0] rfl ?_
        exact Z_X7_party_88 hX hh hr  ((-1)) q8.2 hf
    · have hf := t_pos hc10 hf
      refine x_aload_n hh dX7_party_60 rfl 0 rfl 61 rfl ?_
      refine x_getR hh cl_7 dX7_party_61 sh_0 6 33 rfl (Nat.le_of_ble_eq_true rfl) wd_297 64 rfl ?_
      obtain ⟨q13, hq13, hf⟩ := b_some hf
      refine x_callV (rest := []) hh mi_X4_leastSum [] dX7_party_64 sh_33 wd_647 (C_X4_leastSum l hX  hq13) rfl rfl ⟨Nat.le_of_ble_eq_true rfl, Nat.le_of_ble_eq_true rfl⟩ (Nat.le_of_ble_eq_true rfl) 67 rfl [.int q13.1] rfl ?_
      obtain ⟨rfl, rfl⟩ := ret2 hf
      exact x_iret hh hr dX7_party_67
  · have hf := t_pos hc9 hf
    refine x_iconst hh dX7_party_53 (-1) rfl 54 rfl ?_
    obtain ⟨rfl, rfl⟩ := ret2 hf
    exact x_iret hh hr dX7_party_54
def F_X7_party_0 (v1 : Int32) (v2 : Int32) (v3 : Int32) (st : St) : Option (Int32 × St) := (F_X3_hasRoom 1 v1 st).bind (fun q1 => if q1.1 = 0 then F_X7_party_38 q1.2 else (F_X3_hasAll 1 v2 q1.2).bind (fun q3 => if q3.1 = 0 then F_X7_party_38 q3.2 else if v3 = ((-1)) then F_X7_party_41 v1 v2 v3 q3.2 else (F_X3_hasPerson 1 v3 q3.2).bind (fun q6 => if q6.1 = 0 then F_X7_party_38 q6.2 else F_X7_party_41 v1 v2 v3 q6.2)))
set_option maxRecDepth 100000 in
set_option maxHeartbeats 4000000 in
theorem Z_X7_party_0 {l : Launch} {X : Cx} (hX : Ok X) {p : Program} {e : Env} {s : State} {m : MethodId} {args : Array Value} {below : List Frame} {meth : Method} {c : Code} {rr : Int32} {st' : St} (hh : Hy X p s m args meth c cX7_party 4 RX7) (hr : meth.sig.returnType = some .int) (v1 : Int32) (v2 : Int32) (v3 : Int32) (st : St) (hf : F_X7_party_0 v1 v2 v3 st = some (rr, st')) : Z X p l e (rmk 17) s m args below meth c 4 (MQ below (Qf X (some (.int rr)) st') args s 0 0 (cA X)) 0 [(0, .ref (X.2.1 0)), (1, .int v1), (2, .int v2), (3, .int v3)] [] st := by
  unfold F_X7_party_0 at hf
  refine x_aload_n hh dX7_party_0 rfl 0 rfl 1 rfl ?_
  refine x_getR hh cl_7 dX7_party_1 sh_0 0 1 rfl (Nat.le_of_ble_eq_true rfl) wd_291 4 rfl ?_
  refine x_iload_n hh dX7_party_4 rfl 1 rfl 5 rfl ?_
  obtain ⟨q1, hq1, hf⟩ := b_some hf
  refine x_callV (rest := []) hh mi_X3_hasRoom [.int v1] dX7_party_5 sh_1 wd_471 (C_X3_hasRoom l hX ho_1 hq1) rfl rfl ⟨Nat.le_of_ble_eq_true rfl, Nat.le_of_ble_eq_true rfl⟩ (Nat.le_of_ble_eq_true rfl) 8 rfl [.int q1.1] rfl ?_
  refine x_if_eq hh dX7_party_8 38 rfl 11 rfl (fun hc2 => ?_) (fun hc2 => ?_)
  · have hf := t_pos hc2 hf
    refine x_sub (lv' := [(0, .ref (X.2.1 0))]) [0] rfl ?_
    exact Z_X7_party_38 hX hh hr  q1.2 hf
  · have hf := t_neg hc2 hf
    refine x_aload_n hh dX7_party_11 rfl 0 rfl 12 rfl ?_
    refine x_getR hh cl_7 dX7_party_12 sh_0 0 1 rfl (Nat.le_of_ble_eq_true rfl) wd_291 15 rfl ?_
    refine x_iload_n hh dX7_party_15 rfl 2 rfl 16 rfl ?_
    obtain ⟨q3, hq3, hf⟩ := b_some hf
    refine x_callV (rest := []) hh mi_X3_hasAll [.int v2] dX7_party_16 sh_1 wd_612 (C_X3_hasAll l hX ho_1 hq3) rfl rfl ⟨Nat.le_of_ble_eq_true rfl, Nat.le_of_ble_eq_true rfl⟩ (Nat.le_of_ble_eq_true rfl) 19 rfl [.int q3.1] rfl ?_
    refine x_if_eq hh dX7_party_19 38 rfl 22 rfl (fun hc4 => ?_) (fun hc4 => ?_)
    · have hf := t_pos hc4 hf
      refine x_sub (lv' := [(0, .ref (X.2.1 0))]) [0] rfl ?_
      exact Z_X7_party_38 hX hh hr  q3.2 hf
    · have hf := t_neg hc4 hf
      refine x_iload_n hh dX7_party_22 rfl 3 rfl 23 rfl ?_
      refine x_iconst hh dX7_party_23 (-1) rfl 24 rfl ?_
      refine x_icmp_eq hh dX7_party_24 41 rfl 27 rfl (fun hc5 => ?_) (fun hc5 => ?_)
      · have hf := t_pos hc5 hf
        exact Z_X7_party_41 hX hh hr  v1 v2 v3 q3.2 hf
      · have hf := t_neg hc5 hf
        refine x_aload_n hh dX7_party_27 rfl 0 rfl 28 rfl ?_
        refine x_getR hh cl_7 dX7_party_28 sh_0 0 1 rfl (Nat.le_of_ble_eq_true rfl) wd_291 31 rfl ?_
        refine x_iload_n hh dX7_party_31 rfl 3 rfl 32 rfl ?_
        obtain ⟨q6, hq6, hf⟩ := b_some hf
        refine x_callV (rest := []) hh mi_X3_hasPerson [.int v3] dX7_party_32 sh_1 wd_496 (C_X3_hasPerson l hX ho_1 hq6) rfl rfl ⟨Nat.le_of_ble_eq_true rfl, Nat.le_of_ble_eq_true rfl⟩ (Nat.le_of_ble_eq_true rfl) 35 rfl [.int q6.1] rfl ?_
        refine x_if_ne hh dX7_party_35 41 rfl 38 rfl (fun hc7 => ?_) (fun hc7 => ?_)
        · have hf := t_neg hc7 hf
          exact Z_X7_party_41 hX hh hr  v1 v2 v3 q6.2 hf
        · have hf := t_pos hc7 hf
          refine x_sub (lv' := [(0, .ref (X.2.1 0))]) [0] rfl ?_
          exact Z_X7_party_38 hX hh hr  q6.2 hf
def F_X7_party (v1 : Int32) (v2 : Int32) (v3 : Int32) (st : St) : Option (Int32 × St) := F_X7_party_0  v1 v2 v3 st
set_option maxRecDepth 100000 in
theorem C_X7_party (l : Launch) {X : Cx} (hX : Ok X) {v1 : Int32} {v2 : Int32} {v3 : Int32} {st : St} {q : Int32 × St} (hf : F_X7_party v1 v2 v3 st = some q) : Ct l X 17 yX7_party (.code yX7_party cX7_party 4 (some .int)) [.ref (X.2.1 0), .int v1, .int v2, .int v3] st (some (.int q.1)) q.2 := by
  refine Ct.of hX (by decide) (Nat.le_of_ble_eq_true rfl) ?_
  intro p e s m args below meth c hh hr
  exact Z_X7_party_0 hX hh hr v1 v2 v3 st hf

def F_X7_feast_33 (st : St) : Option (Int32 × St) := some ((-1000000001), st)
set_option maxRecDepth 100000 in
set_option maxHeartbeats 4000000 in
theorem Z_X7_feast_33 {l : Launch} {X : Cx} (hX : Ok X) {p : Program} {e : Env} {s : State} {m : MethodId} {args : Array Value} {below : List Frame} {meth : Method} {c : Code} {rr : Int32} {st' : St} (hh : Hy X p s m args meth c cX7_feast 3 RX7) (hr : meth.sig.returnType = some .int) (st : St) (hf : F_X7_feast_33 st = some (rr, st')) : Z X p l e (rmk 18) s m args below meth c 3 (MQ below (Qf X (some (.int rr)) st') args s 0 0 (cA X)) 33 [(0, .ref (X.2.1 0))] [] st := by
  unfold F_X7_feast_33 at hf
  refine x_ldc hh dX7_feast_33 wd_475 35 rfl ?_
  obtain ⟨rfl, rfl⟩ := ret2 hf
  exact x_iret hh hr dX7_feast_35
def F_X7_feast_86 (t0 : Int32) (st : St) : Option (Int32 × St) := some (t0, st)
set_option maxRecDepth 100000 in
set_option maxHeartbeats 4000000 in
theorem Z_X7_feast_86 {l : Launch} {X : Cx} (hX : Ok X) {p : Program} {e : Env} {s : State} {m : MethodId} {args : Array Value} {below : List Frame} {meth : Method} {c : Code} {rr : Int32} {st' : St} (hh : Hy X p s m args meth c cX7_feast 3 RX7) (hr : meth.sig.returnType = some .int) (t0 : Int32) (st : St) (hf : F_X7_feast_86 t0 st = some (rr, st')) : Z X p l e (rmk 18) s m args below meth c 3 (MQ below (Qf X (some (.int rr)) st') args s 0 0 (cA X)) 86 [(0, .ref (X.2.1 0))] [.int t0] st := by
  unfold F_X7_feast_86 at hf
  obtain ⟨rfl, rfl⟩ := ret2 hf
  exact x_iret hh hr dX7_feast_86
def F_X7_feast_36 (v1 : Int32) (v2 : Int32) (st : St) : Option (Int32 × St) := (F_X2_findDeal v1 st).bind (fun q7 => if q7.1 = 0 then some ((-1), q7.2) else if v2 = ((-1)) then some (q7.2.1 38 5, q7.2) else if v2 = ((-2)) then F_X7_feast_86 (q7.2.1 38 6) q7.2 else (F_X2_roomFor v2 q7.2).bind (fun q11 => F_X7_feast_86 q11.1 q11.2))
set_option maxRecDepth 100000 in
set_option maxHeartbeats 4000000 in
theorem Z_X7_feast_36 {l : Launch} {X : Cx} (hX : Ok X) {p : Program} {e : Env} {s : State} {m : MethodId} {args : Array Value} {below : List Frame} {meth : Method} {c : Code} {rr : Int32} {st' : St} (hh : Hy X p s m args meth c cX7_feast 3 RX7) (hr : meth.sig.returnType = some .int) (v1 : Int32) (v2 : Int32) (st : St) (hf : F_X7_feast_36 v1 v2 st = some (rr, st')) : Z X p l e (rmk 18) s m args below meth c 3 (MQ below (Qf X (some (.int rr)) st') args s 0 0 (cA X)) 36 [(0, .ref (X.2.1 0)), (1, .int v1), (2, .int v2)] [] st := by
  unfold F_X7_feast_36 at hf
  refine x_aload_n hh dX7_feast_36 rfl 0 rfl 37 rfl ?_
  refine x_getR hh cl_7 dX7_feast_37 sh_0 7 38 rfl (Nat.le_of_ble_eq_true rfl) wd_298 40 rfl ?_
  refine x_iload_n hh dX7_feast_40 rfl 1 rfl 41 rfl ?_
  obtain ⟨q7, hq7, hf⟩ := b_some hf
  refine x_callV (rest := []) hh mi_X2_findDeal [.int v1] dX7_feast_41 sh_38 wd_659 (C_X2_findDeal l hX  hq7) rfl rfl ⟨Nat.le_of_ble_eq_true rfl, Nat.le_of_ble_eq_true rfl⟩ (Nat.le_of_ble_eq_true rfl) 44 rfl [.int q7.1] rfl ?_
  refine x_if_ne hh dX7_feast_44 49 rfl 47 rfl (fun hc8 => ?_) (fun hc8 => ?_)
  · have hf := t_neg hc8 hf
    refine x_iload_n hh dX7_feast_49 rfl 2 rfl 50 rfl ?_
    refine x_iconst hh dX7_feast_50 (-1) rfl 51 rfl ?_
    refine x_icmp_ne hh dX7_feast_51 62 rfl 54 rfl (fun hc9 => ?_) (fun hc9 => ?_)
    · have hf := t_neg hc9 hf
      refine x_iload_n hh dX7_feast_62 rfl 2 rfl 63 rfl ?_
      refine x_bipush hh dX7_feast_63 (-2) rfl 65 rfl ?_
      refine x_icmp_ne hh dX7_feast_65 78 rfl 68 rfl (fun hc10 => ?_) (fun hc10 => ?_)
      · have hf := t_neg hc10 hf
        refine x_aload_n hh dX7_feast_78 rfl 0 rfl 79 rfl ?_
        refine x_getR hh cl_7 dX7_feast_79 sh_0 7 38 rfl (Nat.le_of_ble_eq_true rfl) wd_298 82 rfl ?_
        refine x_iload_n hh dX7_feast_82 rfl 2 rfl 83 rfl ?_
        obtain ⟨q11, hq11, hf⟩ := b_some hf
        refine x_callV (rest := []) hh mi_X2_roomFor [.int v2] dX7_feast_83 sh_38 wd_692 (C_X2_roomFor l hX  hq11) rfl rfl ⟨Nat.le_of_ble_eq_true rfl, Nat.le_of_ble_eq_true rfl⟩ (Nat.le_of_ble_eq_true rfl) 86 rfl [.int q11.1] rfl ?_
        refine x_sub (lv' := [(0, .ref (X.2.1 0))]) [0] rfl ?_
        exact Z_X7_feast_86 hX hh hr  q11.1 q11.2 hf
      · have hf := t_pos hc10 hf
        refine x_aload_n hh dX7_feast_68 rfl 0 rfl 69 rfl ?_
        refine x_getR hh cl_7 dX7_feast_69 sh_0 7 38 rfl (Nat.le_of_ble_eq_true rfl) wd_298 72 rfl ?_
        refine x_getI hh cl_2 dX7_feast_72 sh_38 6 rfl (Nat.le_of_ble_eq_true rfl) wd_266 75 rfl ?_
        refine x_goto hh dX7_feast_75 86 rfl ?_
        refine x_sub (lv' := [(0, .ref (X.2.1 0))]) [0] rfl ?_
        exact Z_X7_feast_86 hX hh hr  (q7.2.1 38 6) q7.2 hf
    · have hf := t_pos hc9 hf
      refine x_aload_n hh dX7_feast_54 rfl 0 rfl 55 rfl ?_
      refine x_getR hh cl_7 dX7_feast_55 sh_0 7 38 rfl (Nat.le_of_ble_eq_true rfl) wd_298 58 rfl ?_
      refine x_getI hh cl_2 dX7_feast_58 sh_38 5 rfl (Nat.le_of_ble_eq_true rfl) wd_264 61 rfl ?_
      obtain ⟨rfl, rfl⟩ := ret2 hf
      exact x_iret hh hr dX7_feast_61
  · have hf := t_pos hc8 hf
    refine x_iconst hh dX7_feast_47 (-1) rfl 48 rfl ?_
    obtain ⟨rfl, rfl⟩ := ret2 hf
    exact x_iret hh hr dX7_feast_48
def F_X7_feast_0 (v1 : Int32) (v2 : Int32) (st : St) : Option (Int32 × St) := (F_X3_hasAll 1 v1 st).bind (fun q1 => if q1.1 = 0 then F_X7_feast_33 q1.2 else if v2 = ((-1)) then F_X7_feast_36 v1 v2 q1.2 else if v2 = ((-2)) then F_X7_feast_36 v1 v2 q1.2 else (F_X3_hasPerson 1 v2 q1.2).bind (fun q5 => if q5.1 = 0 then F_X7_feast_33 q5.2 else F_X7_feast_36 v1 v2 q5.2))
set_option maxRecDepth 100000 in
set_option maxHeartbeats 4000000 in
theorem Z_X7_feast_0 {l : Launch} {X : Cx} (hX : Ok X) {p : Program} {e : Env} {s : State} {m : MethodId} {args : Array Value} {below : List Frame} {meth : Method} {c : Code} {rr : Int32} {st' : St} (hh : Hy X p s m args meth c cX7_feast 3 RX7) (hr : meth.sig.returnType = some .int) (v1 : Int32) (v2 : Int32) (st : St) (hf : F_X7_feast_0 v1 v2 st = some (rr, st')) : Z X p l e (rmk 18) s m args below meth c 3 (MQ below (Qf X (some (.int rr)) st') args s 0 0 (cA X)) 0 [(0, .ref (X.2.1 0)), (1, .int v1), (2, .int v2)] [] st := by
  unfold F_X7_feast_0 at hf
  refine x_aload_n hh dX7_feast_0 rfl 0 rfl 1 rfl ?_
  refine x_getR hh cl_7 dX7_feast_1 sh_0 0 1 rfl (Nat.le_of_ble_eq_true rfl) wd_291 4 rfl ?_
  refine x_iload_n hh dX7_feast_4 rfl 1 rfl 5 rfl ?_
  obtain ⟨q1, hq1, hf⟩ := b_some hf
  refine x_callV (rest := []) hh mi_X3_hasAll [.int v1] dX7_feast_5 sh_1 wd_612 (C_X3_hasAll l hX ho_1 hq1) rfl rfl ⟨Nat.le_of_ble_eq_true rfl, Nat.le_of_ble_eq_true rfl⟩ (Nat.le_of_ble_eq_true rfl) 8 rfl [.int q1.1] rfl ?_
  refine x_if_eq hh dX7_feast_8 33 rfl 11 rfl (fun hc2 => ?_) (fun hc2 => ?_)
  · have hf := t_pos hc2 hf
    refine x_sub (lv' := [(0, .ref (X.2.1 0))]) [0] rfl ?_
    exact Z_X7_feast_33 hX hh hr  q1.2 hf
  · have hf := t_neg hc2 hf
    refine x_iload_n hh dX7_feast_11 rfl 2 rfl 12 rfl ?_
    refine x_iconst hh dX7_feast_12 (-1) rfl 13 rfl ?_
    refine x_icmp_eq hh dX7_feast_13 36 rfl 16 rfl (fun hc3 => ?_) (fun hc3 => ?_)
    · have hf := t_pos hc3 hf
      exact Z_X7_feast_36 hX hh hr  v1 v2 q1.2 hf
    · have hf := t_neg hc3 hf
      refine x_iload_n hh dX7_feast_16 rfl 2 rfl 17 rfl ?_
      refine x_bipush hh dX7_feast_17 (-2) rfl 19 rfl ?_
      refine x_icmp_eq hh dX7_feast_19 36 rfl 22 rfl (fun hc4 => ?_) (fun hc4 => ?_)
      · have hf := t_pos hc4 hf
        exact Z_X7_feast_36 hX hh hr  v1 v2 q1.2 hf
      · have hf := t_neg hc4 hf
        refine x_aload_n hh dX7_feast_22 rfl 0 rfl 23 rfl ?_
        refine x_getR hh cl_7 dX7_feast_23 sh_0 0 1 rfl (Nat.le_of_ble_eq_true rfl) wd_291 26 rfl ?_
        refine x_iload_n hh dX7_feast_26 rfl 2 rfl 27 rfl ?_
        obtain ⟨q5, hq5, hf⟩ := b_some hf
        refine x_callV (rest := []) hh mi_X3_hasPerson [.int v2] dX7_feast_27 sh_1 wd_496 (C_X3_hasPerson l hX ho_1 hq5) rfl rfl ⟨Nat.le_of_ble_eq_true rfl, Nat.le_of_ble_eq_true rfl⟩ (Nat.le_of_ble_eq_true rfl) 30 rfl [.int q5.1] rfl ?_
        refine x_if_ne hh dX7_feast_30 36 rfl 33 rfl (fun hc6 => ?_) (fun hc6 => ?_)
        · have hf := t_neg hc6 hf
          exact Z_X7_feast_36 hX hh hr  v1 v2 q5.2 hf
        · have hf := t_pos hc6 hf
          refine x_sub (lv' := [(0, .ref (X.2.1 0))]) [0] rfl ?_
          exact Z_X7_feast_33 hX hh hr  q5.2 hf
def F_X7_feast (v1 : Int32) (v2 : Int32) (st : St) : Option (Int32 × St) := F_X7_feast_0  v1 v2 st
set_option maxRecDepth 100000 in
theorem C_X7_feast (l : Launch) {X : Cx} (hX : Ok X) {v1 : Int32} {v2 : Int32} {st : St} {q : Int32 × St} (hf : F_X7_feast v1 v2 st = some q) : Ct l X 18 yX7_feast (.code yX7_feast cX7_feast 3 (some .int)) [.ref (X.2.1 0), .int v1, .int v2] st (some (.int q.1)) q.2 := by
  refine Ct.of hX (by decide) (Nat.le_of_ble_eq_true rfl) ?_
  intro p e s m args below meth c hh hr
  exact Z_X7_feast_0 hX hh hr v1 v2 st hf

def F_X7_placeInRow_58 (k23 : Int32 → Int32 → Int32 → Int32 → St → Option (St)) (v1 : Int32) (v2 : Int32) (v3 : Int32) (v4 : Int32) (st : St) : Option (St) := k23 v1 v2 v3 (v4 + 1) st
set_option maxRecDepth 100000 in
set_option maxHeartbeats 4000000 in
theorem Z_X7_placeInRow_58 {l : Launch} {X : Cx} (hX : Ok X) {p : Program} {e : Env} {s : State} {m : MethodId} {args : Array Value} {below : List Frame} {meth : Method} {c : Code} {st' : St} (hh : Hy X p s m args meth c cX7_placeInRow 5 RX7) (hr : meth.sig.returnType = none) {k23 : Int32 → Int32 → Int32 → Int32 → St → Option (St)} (hk23 : ∀ (v1 : Int32) (v2 : Int32) (v3 : Int32) (v4 : Int32) (st : St), k23 v1 v2 v3 v4 st = some st' → Z X p l e (rmk 4) s m args below meth c 5 (MQ below (Qf X none st') args s 0 0 (cA X)) 23 [(0, .ref (X.2.1 0)), (1, .int v1), (2, .int v2), (3, .int v3), (4, .int v4)] [] st) (v1 : Int32) (v2 : Int32) (v3 : Int32) (v4 : Int32) (st : St) (hf : F_X7_placeInRow_58 k23 v1 v2 v3 v4 st = some st') : Z X p l e (rmk 4) s m args below meth c 5 (MQ below (Qf X none st') args s 0 0 (cA X)) 58 [(0, .ref (X.2.1 0)), (1, .int v1), (2, .int v2), (3, .int v3), (4, .int v4)] [] st := by
  unfold F_X7_placeInRow_58 at hf
  refine x_iinc hh dX7_placeInRow_58 4 rfl (v4 + 1) rfl (by decide) [(4, .int (v4 + 1)), (0, .ref (X.2.1 0)), (1, .int v1), (2, .int v2), (3, .int v3)] rfl 61 rfl ?_
  refine x_goto hh dX7_placeInRow_61 23 rfl ?_
  refine x_sub (lv' := [(0, .ref (X.2.1 0)), (1, .int v1), (2, .int v2), (3, .int v3), (4, .int (v4 + 1))]) [1, 2, 3, 4, 0] rfl ?_
  exact hk23 v1 v2 v3 (v4 + 1) st hf
def F_X7_placeInRow_23 : Nat → Int32 → Int32 → Int32 → Int32 → St → Option (St)
  | 0, _, _, _, _, _ => none
  | n + 1, v1, v2, v3, v4, st => if (st.1 1 1) ≤ v4 then some st else if ((v2 >>> (v4 &&& 31)) &&& 1) = 0 then F_X7_placeInRow_58 (F_X7_placeInRow_23 n) v1 v2 v3 v4 st else (F_X6_standAt 16 v4 v1 v3 st).bind (fun q5 => F_X7_placeInRow_58 (F_X7_placeInRow_23 n) v1 v2 (v3 + 1) v4 q5)
set_option maxRecDepth 100000 in
set_option maxHeartbeats 4000000 in
theorem Z_X7_placeInRow_23 {l : Launch} {X : Cx} (hX : Ok X) {p : Program} {e : Env} {s : State} {m : MethodId} {args : Array Value} {below : List Frame} {meth : Method} {c : Code} {st' : St} (hh : Hy X p s m args meth c cX7_placeInRow 5 RX7) (hr : meth.sig.returnType = none) : ∀ (n : Nat) (v1 : Int32) (v2 : Int32) (v3 : Int32) (v4 : Int32) (st : St), F_X7_placeInRow_23 n v1 v2 v3 v4 st = some st' → Z X p l e (rmk 4) s m args below meth c 5 (MQ below (Qf X none st') args s 0 0 (cA X)) 23 [(0, .ref (X.2.1 0)), (1, .int v1), (2, .int v2), (3, .int v3), (4, .int v4)] [] st := by
  intro n
  induction n with
  | zero =>
    intro v1 v2 v3 v4 st hf
    cases hf
  | succ n ih =>
    intro v1 v2 v3 v4 st hf
    rw [F_X7_placeInRow_23] at hf
    refine x_iload hh dX7_placeInRow_23 4 rfl 25 rfl ?_
    refine x_aload_n hh dX7_placeInRow_25 rfl 0 rfl 26 rfl ?_
    refine x_getR hh cl_7 dX7_placeInRow_26 sh_0 0 1 rfl (Nat.le_of_ble_eq_true rfl) wd_291 29 rfl ?_
    refine x_getI hh cl_3 dX7_placeInRow_29 sh_1 1 rfl (Nat.le_of_ble_eq_true rfl) wd_112 32 rfl ?_
    refine x_icmp_ge hh dX7_placeInRow_32 64 rfl 35 rfl (fun hc3 => ?_) (fun hc3 => ?_)
    · have hf := t_pos hc3 hf
      obtain rfl := ret1 hf
      exact x_vret hh hr dX7_placeInRow_64
    · have hf := t_neg hc3 hf
      refine x_iload_n hh dX7_placeInRow_35 rfl 2 rfl 36 rfl ?_
      refine x_iload hh dX7_placeInRow_36 4 rfl 38 rfl ?_
      refine x_ishr hh dX7_placeInRow_38 39 rfl ?_
      refine x_iconst hh dX7_placeInRow_39 1 rfl 40 rfl ?_
      refine x_iand hh dX7_placeInRow_40 41 rfl ?_
      refine x_if_eq hh dX7_placeInRow_41 58 rfl 44 rfl (fun hc4 => ?_) (fun hc4 => ?_)
      · have hf := t_pos hc4 hf
        exact Z_X7_placeInRow_58 hX hh hr ih  v1 v2 v3 v4 st hf
      · have hf := t_neg hc4 hf
        refine x_aload_n hh dX7_placeInRow_44 rfl 0 rfl 45 rfl ?_
        refine x_getR hh cl_7 dX7_placeInRow_45 sh_0 3 16 rfl (Nat.le_of_ble_eq_true rfl) wd_294 48 rfl ?_
        refine x_iload hh dX7_placeInRow_48 4 rfl 50 rfl ?_
        refine x_iload_n hh dX7_placeInRow_50 rfl 1 rfl 51 rfl ?_
        refine x_iload_n hh dX7_placeInRow_51 rfl 3 rfl 52 rfl ?_
        obtain ⟨q5, hq5, hf⟩ := b_some hf
        refine x_callV (rest := []) hh mi_X6_standAt [.int v4, .int v1, .int v3] dX7_placeInRow_52 sh_16 wd_524 (C_X6_standAt l hX sc_16 hq5) rfl rfl ⟨Nat.le_of_ble_eq_true rfl, Nat.le_of_ble_eq_true rfl⟩ (Nat.le_of_ble_eq_true rfl) 55 rfl [] rfl ?_
        refine x_iinc hh dX7_placeInRow_55 3 rfl (v3 + 1) rfl (by decide) [(3, .int (v3 + 1)), (0, .ref (X.2.1 0)), (1, .int v1), (2, .int v2), (4, .int v4)] rfl 58 rfl ?_
        refine x_sub (lv' := [(0, .ref (X.2.1 0)), (1, .int v1), (2, .int v2), (3, .int (v3 + 1)), (4, .int v4)]) [1, 2, 3, 0, 4] rfl ?_
        exact Z_X7_placeInRow_58 hX hh hr ih  v1 v2 (v3 + 1) v4 q5 hf
def F_X7_placeInRow_0 (v1 : Int32) (v2 : Int32) (st : St) : Option (St) := (F_X6_copyFrom 16 9 st).bind (fun q1 => (F_X6_sendAllOut 16 q1).bind (fun q2 => F_X7_placeInRow_23 fN v1 v2 0 0 q2))
set_option maxRecDepth 100000 in
set_option maxHeartbeats 4000000 in
theorem Z_X7_placeInRow_0 {l : Launch} {X : Cx} (hX : Ok X) {p : Program} {e : Env} {s : State} {m : MethodId} {args : Array Value} {below : List Frame} {meth : Method} {c : Code} {st' : St} (hh : Hy X p s m args meth c cX7_placeInRow 5 RX7) (hr : meth.sig.returnType = none) (v1 : Int32) (v2 : Int32) (st : St) (hf : F_X7_placeInRow_0 v1 v2 st = some st') : Z X p l e (rmk 4) s m args below meth c 5 (MQ below (Qf X none st') args s 0 0 (cA X)) 0 [(0, .ref (X.2.1 0)), (1, .int v1), (2, .int v2)] [] st := by
  unfold F_X7_placeInRow_0 at hf
  refine x_aload_n hh dX7_placeInRow_0 rfl 0 rfl 1 rfl ?_
  refine x_getR hh cl_7 dX7_placeInRow_1 sh_0 3 16 rfl (Nat.le_of_ble_eq_true rfl) wd_294 4 rfl ?_
  refine x_aload_n hh dX7_placeInRow_4 rfl 0 rfl 5 rfl ?_
  refine x_getR hh cl_7 dX7_placeInRow_5 sh_0 1 9 rfl (Nat.le_of_ble_eq_true rfl) wd_292 8 rfl ?_
  obtain ⟨q1, hq1, hf⟩ := b_some hf
  refine x_callV (rest := []) hh mi_X6_copyFrom [.ref (X.2.1 9)] dX7_placeInRow_8 sh_16 wd_709 (C_X6_copyFrom l hX sc_16 sc_9 hq1) rfl rfl ⟨Nat.le_of_ble_eq_true rfl, Nat.le_of_ble_eq_true rfl⟩ (Nat.le_of_ble_eq_true rfl) 11 rfl [] rfl ?_
  refine x_aload_n hh dX7_placeInRow_11 rfl 0 rfl 12 rfl ?_
  refine x_getR hh cl_7 dX7_placeInRow_12 sh_0 3 16 rfl (Nat.le_of_ble_eq_true rfl) wd_294 15 rfl ?_
  obtain ⟨q2, hq2, hf⟩ := b_some hf
  refine x_callV (rest := []) hh mi_X6_sendAllOut [] dX7_placeInRow_15 sh_16 wd_713 (C_X6_sendAllOut l hX sc_16 hq2) rfl rfl ⟨Nat.le_of_ble_eq_true rfl, Nat.le_of_ble_eq_true rfl⟩ (Nat.le_of_ble_eq_true rfl) 18 rfl [] rfl ?_
  refine x_iconst hh dX7_placeInRow_18 0 rfl 19 rfl ?_
  refine x_istore_n hh dX7_placeInRow_19 rfl (by decide) [(3, .int 0), (0, .ref (X.2.1 0)), (1, .int v1), (2, .int v2)] rfl 20 rfl ?_
  refine x_iconst hh dX7_placeInRow_20 0 rfl 21 rfl ?_
  refine x_istore hh dX7_placeInRow_21 (by decide) [(4, .int 0), (3, .int 0), (0, .ref (X.2.1 0)), (1, .int v1), (2, .int v2)] rfl 23 rfl ?_
  refine x_sub (lv' := [(0, .ref (X.2.1 0)), (1, .int v1), (2, .int v2), (3, .int 0), (4, .int 0)]) [2, 3, 4, 1, 0] rfl ?_
  exact Z_X7_placeInRow_23 hX hh hr fN v1 v2 0 0 q2 hf
def F_X7_placeInRow (v1 : Int32) (v2 : Int32) (st : St) : Option (St) := F_X7_placeInRow_0  v1 v2 st
set_option maxRecDepth 100000 in
theorem C_X7_placeInRow (l : Launch) {X : Cx} (hX : Ok X) {v1 : Int32} {v2 : Int32} {st : St} {q : St} (hf : F_X7_placeInRow v1 v2 st = some q) : Ct l X 4 yX7_placeInRow (.code yX7_placeInRow cX7_placeInRow 5 (none)) [.ref (X.2.1 0), .int v1, .int v2] st none q := by
  refine Ct.of hX (by decide) (Nat.le_of_ble_eq_true rfl) ?_
  intro p e s m args below meth c hh hr
  exact Z_X7_placeInRow_0 hX hh hr v1 v2 st hf

def F_X7_cuts_22 (st : St) : Option (Int32 × St) := some ((-1000000001), st)
set_option maxRecDepth 100000 in
set_option maxHeartbeats 4000000 in
theorem Z_X7_cuts_22 {l : Launch} {X : Cx} (hX : Ok X) {p : Program} {e : Env} {s : State} {m : MethodId} {args : Array Value} {below : List Frame} {meth : Method} {c : Code} {rr : Int32} {st' : St} (hh : Hy X p s m args meth c cX7_cuts 3 RX7) (hr : meth.sig.returnType = some .int) (st : St) (hf : F_X7_cuts_22 st = some (rr, st')) : Z X p l e (rmk 5) s m args below meth c 3 (MQ below (Qf X (some (.int rr)) st') args s 0 0 (cA X)) 22 [(0, .ref (X.2.1 0))] [] st := by
  unfold F_X7_cuts_22 at hf
  refine x_ldc hh dX7_cuts_22 wd_475 24 rfl ?_
  obtain ⟨rfl, rfl⟩ := ret2 hf
  exact x_iret hh hr dX7_cuts_24
def F_X7_cuts_0 (v1 : Int32) (v2 : Int32) (st : St) : Option (Int32 × St) := (F_X3_hasRoom 1 v1 st).bind (fun q1 => if q1.1 = 0 then F_X7_cuts_22 q1.2 else (F_X3_hasAll 1 v2 q1.2).bind (fun q3 => if q3.1 = 0 then F_X7_cuts_22 q3.2 else (F_J6_bitCount_0f7a4 v2 q3.2).bind (fun q5 => (F_X3_placesOf 1 v1 q5.2).bind (fun q6 => if q5.1 ≤ q6.1 then (F_X7_placeInRow v1 v2 q6.2).bind (fun q8 => (F_X1_inchesToCut 16 v1 q8).bind (fun q9 => some (q9.1, q9.2))) else some ((-1), q6.2)))))
set_option maxRecDepth 100000 in
set_option maxHeartbeats 4000000 in
theorem Z_X7_cuts_0 {l : Launch} {X : Cx} (hX : Ok X) {p : Program} {e : Env} {s : State} {m : MethodId} {args : Array Value} {below : List Frame} {meth : Method} {c : Code} {rr : Int32} {st' : St} (hh : Hy X p s m args meth c cX7_cuts 3 RX7) (hr : meth.sig.returnType = some .int) (v1 : Int32) (v2 : Int32) (st : St) (hf : F_X7_cuts_0 v1 v2 st = some (rr, st')) : Z X p l e (rmk 5) s m args below meth c 3 (MQ below (Qf X (some (.int rr)) st') args s 0 0 (cA X)) 0 [(0, .ref (X.2.1 0)), (1, .int v1), (2, .int v2)] [] st := by
  unfold F_X7_cuts_0 at hf
  refine x_aload_n hh dX7_cuts_0 rfl 0 rfl 1 rfl ?_
  refine x_getR hh cl_7 dX7_cuts_1 sh_0 0 1 rfl (Nat.le_of_ble_eq_true rfl) wd_291 4 rfl ?_
  refine x_iload_n hh dX7_cuts_4 rfl 1 rfl 5 rfl ?_
  obtain ⟨q1, hq1, hf⟩ := b_some hf
  refine x_callV (rest := []) hh mi_X3_hasRoom [.int v1] dX7_cuts_5 sh_1 wd_471 (C_X3_hasRoom l hX ho_1 hq1) rfl rfl ⟨Nat.le_of_ble_eq_true rfl, Nat.le_of_ble_eq_true rfl⟩ (Nat.le_of_ble_eq_true rfl) 8 rfl [.int q1.1] rfl ?_
  refine x_if_eq hh dX7_cuts_8 22 rfl 11 rfl (fun hc2 => ?_) (fun hc2 => ?_)
  · have hf := t_pos hc2 hf
    refine x_sub (lv' := [(0, .ref (X.2.1 0))]) [0] rfl ?_
    exact Z_X7_cuts_22 hX hh hr  q1.2 hf
  · have hf := t_neg hc2 hf
    refine x_aload_n hh dX7_cuts_11 rfl 0 rfl 12 rfl ?_
    refine x_getR hh cl_7 dX7_cuts_12 sh_0 0 1 rfl (Nat.le_of_ble_eq_true rfl) wd_291 15 rfl ?_
    refine x_iload_n hh dX7_cuts_15 rfl 2 rfl 16 rfl ?_
    obtain ⟨q3, hq3, hf⟩ := b_some hf
    refine x_callV (rest := []) hh mi_X3_hasAll [.int v2] dX7_cuts_16 sh_1 wd_612 (C_X3_hasAll l hX ho_1 hq3) rfl rfl ⟨Nat.le_of_ble_eq_true rfl, Nat.le_of_ble_eq_true rfl⟩ (Nat.le_of_ble_eq_true rfl) 19 rfl [.int q3.1] rfl ?_
    refine x_if_ne hh dX7_cuts_19 25 rfl 22 rfl (fun hc4 => ?_) (fun hc4 => ?_)
    · have hf := t_neg hc4 hf
      refine x_iload_n hh dX7_cuts_25 rfl 2 rfl 26 rfl ?_
      obtain ⟨q5, hq5, hf⟩ := b_some hf
      refine x_callS (rest := []) hh ms_J6_bitCount_0f7a4 [.int v2] dX7_cuts_26 wd_700 (C_J6_bitCount_0f7a4 l hX  hq5) rfl rfl ⟨Nat.le_of_ble_eq_true rfl, Nat.le_of_ble_eq_true rfl⟩ (Nat.le_of_ble_eq_true rfl) 29 rfl [.int q5.1] rfl ?_
      refine x_aload_n hh dX7_cuts_29 rfl 0 rfl 30 rfl ?_
      refine x_getR hh cl_7 dX7_cuts_30 sh_0 0 1 rfl (Nat.le_of_ble_eq_true rfl) wd_291 33 rfl ?_
      refine x_iload_n hh dX7_cuts_33 rfl 1 rfl 34 rfl ?_
      obtain ⟨q6, hq6, hf⟩ := b_some hf
      refine x_callV (rest := [.int q5.1]) hh mi_X3_placesOf [.int v1] dX7_cuts_34 sh_1 wd_476 (C_X3_placesOf l hX ho_1 hq6) rfl rfl ⟨Nat.le_of_ble_eq_true rfl, Nat.le_of_ble_eq_true rfl⟩ (Nat.le_of_ble_eq_true rfl) 37 rfl [.int q6.1, .int q5.1] rfl ?_
      refine x_icmp_le hh dX7_cuts_37 42 rfl 40 rfl (fun hc7 => ?_) (fun hc7 => ?_)
      · have hf := t_pos hc7 hf
        refine x_aload_n hh dX7_cuts_42 rfl 0 rfl 43 rfl ?_
        refine x_iload_n hh dX7_cuts_43 rfl 1 rfl 44 rfl ?_
        refine x_iload_n hh dX7_cuts_44 rfl 2 rfl 45 rfl ?_
        obtain ⟨q8, hq8, hf⟩ := b_some hf
        refine x_callV (rest := []) hh mi_X7_placeInRow [.int v1, .int v2] dX7_cuts_45 sh_0 wd_706 (C_X7_placeInRow l hX  hq8) rfl rfl ⟨Nat.le_of_ble_eq_true rfl, Nat.le_of_ble_eq_true rfl⟩ (Nat.le_of_ble_eq_true rfl) 48 rfl [] rfl ?_
        refine x_aload_n hh dX7_cuts_48 rfl 0 rfl 49 rfl ?_
        refine x_getR hh cl_7 dX7_cuts_49 sh_0 4 22 rfl (Nat.le_of_ble_eq_true rfl) wd_295 52 rfl ?_
        refine x_iload_n hh dX7_cuts_52 rfl 1 rfl 53 rfl ?_
        obtain ⟨q9, hq9, hf⟩ := b_some hf
        refine x_callV (rest := []) hh mi_X1_inchesToCut [.int v1] dX7_cuts_53 sh_22 wd_714 (C_X1_inchesToCut l hX ev_16 hq9) rfl rfl ⟨Nat.le_of_ble_eq_true rfl, Nat.le_of_ble_eq_true rfl⟩ (Nat.le_of_ble_eq_true rfl) 56 rfl [.int q9.1] rfl ?_
        obtain ⟨rfl, rfl⟩ := ret2 hf
        exact x_iret hh hr dX7_cuts_56
      · have hf := t_neg hc7 hf
        refine x_iconst hh dX7_cuts_40 (-1) rfl 41 rfl ?_
        obtain ⟨rfl, rfl⟩ := ret2 hf
        exact x_iret hh hr dX7_cuts_41
    · have hf := t_pos hc4 hf
      refine x_sub (lv' := [(0, .ref (X.2.1 0))]) [0] rfl ?_
      exact Z_X7_cuts_22 hX hh hr  q3.2 hf
def F_X7_cuts (v1 : Int32) (v2 : Int32) (st : St) : Option (Int32 × St) := F_X7_cuts_0  v1 v2 st
set_option maxRecDepth 100000 in
theorem C_X7_cuts (l : Launch) {X : Cx} (hX : Ok X) {v1 : Int32} {v2 : Int32} {st : St} {q : Int32 × St} (hf : F_X7_cuts v1 v2 st = some q) : Ct l X 5 yX7_cuts (.code yX7_cuts cX7_cuts 3 (some .int)) [.ref (X.2.1 0), .int v1, .int v2] st (some (.int q.1)) q.2 := by
  refine Ct.of hX (by decide) (Nat.le_of_ble_eq_true rfl) ?_
  intro p e s m args below meth c hh hr
  exact Z_X7_cuts_0 hX hh hr v1 v2 st hf

def F_X7_till_13 : Nat → Int32 → St → Option (Int32 × St)
  | 0, _, _ => none
  | n + 1, v1, st => if (60 : Int32) ≤ v1 then some (60, st) else (F_X1_roomsWithFault 16 st).bind (fun q3 => if q3.1 = 0 then (F_X1_passYear 16 q3.2).bind (fun q5 => F_X7_till_13 n (v1 + 1) q5) else some (v1, q3.2))
set_option maxRecDepth 100000 in
set_option maxHeartbeats 4000000 in
theorem Z_X7_till_13 {l : Launch} {X : Cx} (hX : Ok X) {p : Program} {e : Env} {s : State} {m : MethodId} {args : Array Value} {below : List Frame} {meth : Method} {c : Code} {rr : Int32} {st' : St} (hh : Hy X p s m args meth c cX7_till 2 RX7) (hr : meth.sig.returnType = some .int) : ∀ (n : Nat) (v1 : Int32) (st : St), F_X7_till_13 n v1 st = some (rr, st') → Z X p l e (rmk 5) s m args below meth c 2 (MQ below (Qf X (some (.int rr)) st') args s 0 0 (cA X)) 13 [(0, .ref (X.2.1 0)), (1, .int v1)] [] st := by
  intro n
  induction n with
  | zero =>
    intro v1 st hf
    cases hf
  | succ n ih =>
    intro v1 st hf
    rw [F_X7_till_13] at hf
    refine x_iload_n hh dX7_till_13 rfl 1 rfl 14 rfl ?_
    refine x_bipush hh dX7_till_14 60 rfl 16 rfl ?_
    refine x_icmp_ge hh dX7_till_16 44 rfl 19 rfl (fun hc2 => ?_) (fun hc2 => ?_)
    · have hf := t_pos hc2 hf
      refine x_bipush hh dX7_till_44 60 rfl 46 rfl ?_
      obtain ⟨rfl, rfl⟩ := ret2 hf
      exact x_iret hh hr dX7_till_46
    · have hf := t_neg hc2 hf
      refine x_aload_n hh dX7_till_19 rfl 0 rfl 20 rfl ?_
      refine x_getR hh cl_7 dX7_till_20 sh_0 4 22 rfl (Nat.le_of_ble_eq_true rfl) wd_295 23 rfl ?_
      obtain ⟨q3, hq3, hf⟩ := b_some hf
      refine x_callV (rest := []) hh mi_X1_roomsWithFault [] dX7_till_23 sh_22 wd_584 (C_X1_roomsWithFault l hX ev_16 hq3) rfl rfl ⟨Nat.le_of_ble_eq_true rfl, Nat.le_of_ble_eq_true rfl⟩ (Nat.le_of_ble_eq_true rfl) 26 rfl [.int q3.1] rfl ?_
      refine x_if_eq hh dX7_till_26 31 rfl 29 rfl (fun hc4 => ?_) (fun hc4 => ?_)
      · have hf := t_pos hc4 hf
        refine x_aload_n hh dX7_till_31 rfl 0 rfl 32 rfl ?_
        refine x_getR hh cl_7 dX7_till_32 sh_0 4 22 rfl (Nat.le_of_ble_eq_true rfl) wd_295 35 rfl ?_
        obtain ⟨q5, hq5, hf⟩ := b_some hf
        refine x_callV (rest := []) hh mi_X1_passYear [] dX7_till_35 sh_22 wd_580 (C_X1_passYear l hX ev_16 hq5) rfl rfl ⟨Nat.le_of_ble_eq_true rfl, Nat.le_of_ble_eq_true rfl⟩ (Nat.le_of_ble_eq_true rfl) 38 rfl [] rfl ?_
        refine x_iinc hh dX7_till_38 1 rfl (v1 + 1) rfl (by decide) [(1, .int (v1 + 1)), (0, .ref (X.2.1 0))] rfl 41 rfl ?_
        refine x_goto hh dX7_till_41 13 rfl ?_
        refine x_sub (lv' := [(0, .ref (X.2.1 0)), (1, .int (v1 + 1))]) [1, 0] rfl ?_
        exact ih (v1 + 1) q5 hf
      · have hf := t_neg hc4 hf
        refine x_iload_n hh dX7_till_29 rfl 1 rfl 30 rfl ?_
        obtain ⟨rfl, rfl⟩ := ret2 hf
        exact x_iret hh hr dX7_till_30
def F_X7_till_0 (st : St) : Option (Int32 × St) := (F_X6_copyFrom 16 9 st).bind (fun q1 => F_X7_till_13 fN 0 q1)
set_option maxRecDepth 100000 in
set_option maxHeartbeats 4000000 in
theorem Z_X7_till_0 {l : Launch} {X : Cx} (hX : Ok X) {p : Program} {e : Env} {s : State} {m : MethodId} {args : Array Value} {below : List Frame} {meth : Method} {c : Code} {rr : Int32} {st' : St} (hh : Hy X p s m args meth c cX7_till 2 RX7) (hr : meth.sig.returnType = some .int) (st : St) (hf : F_X7_till_0 st = some (rr, st')) : Z X p l e (rmk 5) s m args below meth c 2 (MQ below (Qf X (some (.int rr)) st') args s 0 0 (cA X)) 0 [(0, .ref (X.2.1 0))] [] st := by
  unfold F_X7_till_0 at hf
  refine x_aload_n hh dX7_till_0 rfl 0 rfl 1 rfl ?_
  refine x_getR hh cl_7 dX7_till_1 sh_0 3 16 rfl (Nat.le_of_ble_eq_true rfl) wd_294 4 rfl ?_
  refine x_aload_n hh dX7_till_4 rfl 0 rfl 5 rfl ?_
  refine x_getR hh cl_7 dX7_till_5 sh_0 1 9 rfl (Nat.le_of_ble_eq_true rfl) wd_292 8 rfl ?_
  obtain ⟨q1, hq1, hf⟩ := b_some hf
  refine x_callV (rest := []) hh mi_X6_copyFrom [.ref (X.2.1 9)] dX7_till_8 sh_16 wd_709 (C_X6_copyFrom l hX sc_16 sc_9 hq1) rfl rfl ⟨Nat.le_of_ble_eq_true rfl, Nat.le_of_ble_eq_true rfl⟩ (Nat.le_of_ble_eq_true rfl) 11 rfl [] rfl ?_
  refine x_iconst hh dX7_till_11 0 rfl 12 rfl ?_
  refine x_istore_n hh dX7_till_12 rfl (by decide) [(1, .int 0), (0, .ref (X.2.1 0))] rfl 13 rfl ?_
  refine x_sub (lv' := [(0, .ref (X.2.1 0)), (1, .int 0)]) [1, 0] rfl ?_
  exact Z_X7_till_13 hX hh hr fN 0 q1 hf
def F_X7_till (st : St) : Option (Int32 × St) := F_X7_till_0  st
set_option maxRecDepth 100000 in
theorem C_X7_till (l : Launch) {X : Cx} (hX : Ok X) {st : St} {q : Int32 × St} (hf : F_X7_till st = some q) : Ct l X 5 yX7_till (.code yX7_till cX7_till 2 (some .int)) [.ref (X.2.1 0)] st (some (.int q.1)) q.2 := by
  refine Ct.of hX (by decide) (Nat.le_of_ble_eq_true rfl) ?_
  intro p e s m args below meth c hh hr
  exact Z_X7_till_0 hX hh hr st hf

def F_X7_heelsIn_72 (k4 : Int32 → Int32 → Int32 → St → Option (Int32 × St)) (v1 : Int32) (v2 : Int32) (v3 : Int32) (st : St) : Option (Int32 × St) := k4 v1 v2 (v3 + 1) st
set_option maxRecDepth 100000 in
set_option maxHeartbeats 4000000 in
theorem Z_X7_heelsIn_72 {l : Launch} {X : Cx} (hX : Ok X) {p : Program} {e : Env} {s : State} {m : MethodId} {args : Array Value} {below : List Frame} {meth : Method} {c : Code} {rr : Int32} {st' : St} (hh : Hy X p s m args meth c cX7_heelsIn 4 RX7) (hr : meth.sig.returnType = some .int) {k4 : Int32 → Int32 → Int32 → St → Option (Int32 × St)} (hk4 : ∀ (v1 : Int32) (v2 : Int32) (v3 : Int32) (st : St), k4 v1 v2 v3 st = some (rr, st') → Z X p l e (rmk 4) s m args below meth c 4 (MQ below (Qf X (some (.int rr)) st') args s 0 0 (cA X)) 4 [(0, .ref (X.2.1 0)), (1, .int v1), (2, .int v2), (3, .int v3)] [] st) (v1 : Int32) (v2 : Int32) (v3 : Int32) (st : St) (hf : F_X7_heelsIn_72 k4 v1 v2 v3 st = some (rr, st')) : Z X p l e (rmk 4) s m args below meth c 4 (MQ below (Qf X (some (.int rr)) st') args s 0 0 (cA X)) 72 [(0, .ref (X.2.1 0)), (1, .int v1), (2, .int v2), (3, .int v3)] [] st := by
  unfold F_X7_heelsIn_72 at hf
  refine x_iinc hh dX7_heelsIn_72 3 rfl (v3 + 1) rfl (by decide) [(3, .int (v3 + 1)), (0, .ref (X.2.1 0)), (1, .int v1), (2, .int v2)] rfl 75 rfl ?_
  refine x_goto hh dX7_heelsIn_75 4 rfl ?_
  refine x_sub (lv' := [(0, .ref (X.2.1 0)), (1, .int v1), (2, .int v2), (3, .int (v3 + 1))]) [1, 2, 3, 0] rfl ?_
  exact hk4 v1 v2 (v3 + 1) st hf
def F_X7_heelsIn_59 (k4 : Int32 → Int32 → Int32 → St → Option (Int32 × St)) (v1 : Int32) (v2 : Int32) (v3 : Int32) (st : St) : Option (Int32 × St) := gi v3 6 (gi v3 6 (bs (sV st 21 v3.toNatClampNeg ((st.1 21 v3.toNatClampNeg) + 1)) (fun st11 => F_X7_heelsIn_72 k4 v1 v2 v3 st11)))
set_option maxRecDepth 100000 in
set_option maxHeartbeats 4000000 in
theorem Z_X7_heelsIn_59 {l : Launch} {X : Cx} (hX : Ok X) {p : Program} {e : Env} {s : State} {m : MethodId} {args : Array Value} {below : List Frame} {meth : Method} {c : Code} {rr : Int32} {st' : St} (hh : Hy X p s m args meth c cX7_heelsIn 4 RX7) (hr : meth.sig.returnType = some .int) {k4 : Int32 → Int32 → Int32 → St → Option (Int32 × St)} (hk4 : ∀ (v1 : Int32) (v2 : Int32) (v3 : Int32) (st : St), k4 v1 v2 v3 st = some (rr, st') → Z X p l e (rmk 4) s m args below meth c 4 (MQ below (Qf X (some (.int rr)) st') args s 0 0 (cA X)) 4 [(0, .ref (X.2.1 0)), (1, .int v1), (2, .int v2), (3, .int v3)] [] st) (v1 : Int32) (v2 : Int32) (v3 : Int32) (st : St) (hf : F_X7_heelsIn_59 k4 v1 v2 v3 st = some (rr, st')) : Z X p l e (rmk 4) s m args below meth c 4 (MQ below (Qf X (some (.int rr)) st') args s 0 0 (cA X)) 59 [(0, .ref (X.2.1 0)), (1, .int v1), (2, .int v2), (3, .int v3)] [] st := by
  unfold F_X7_heelsIn_59 at hf
  refine x_aload_n hh dX7_heelsIn_59 rfl 0 rfl 60 rfl ?_
  refine x_getR hh cl_7 dX7_heelsIn_60 sh_0 3 16 rfl (Nat.le_of_ble_eq_true rfl) wd_294 63 rfl ?_
  refine x_getR hh cl_6 dX7_heelsIn_63 sh_16 4 21 rfl (Nat.le_of_ble_eq_true rfl) wd_172 66 rfl ?_
  refine x_iload_n hh dX7_heelsIn_66 rfl 3 rfl 67 rfl ?_
  refine x_dup2 hh dX7_heelsIn_67 rfl rfl 68 rfl ?_
  obtain ⟨hi9, hf⟩ := gi_some hf
  refine x_iaload hh dX7_heelsIn_68 sh_21 hi9 69 rfl ?_
  refine x_iconst hh dX7_heelsIn_69 1 rfl 70 rfl ?_
  refine x_iadd hh dX7_heelsIn_70 71 rfl ?_
  obtain ⟨hi10, hf⟩ := gi_some hf
  obtain ⟨st11, est11, hf⟩ := bs_some hf
  refine x_iastore hh dX7_heelsIn_71 sh_21 hi10 72 rfl st11 est11 ?_
  exact Z_X7_heelsIn_72 hX hh hr hk4  v1 v2 v3 st11 hf
def F_X7_heelsIn_4 : Nat → Int32 → Int32 → Int32 → St → Option (Int32 × St)
  | 0, _, _, _, _ => none
  | n + 1, v1, v2, v3, st => if (st.1 1 1) ≤ v3 then some (v2, st) else gi v3 6 (if (st.1 17 v3.toNatClampNeg) = v1 then gi v3 6 (gi v3 6 (bs (sV st 21 v3.toNatClampNeg ((st.1 21 v3.toNatClampNeg) - 1)) (fun st6 => (F_X1_firstTooHigh 16 v1 st6).bind (fun q7 => if q7.1 = ((-1)) then F_X7_heelsIn_59 (F_X7_heelsIn_4 n) v1 (v2 ||| (1 <<< (v3 &&& 31))) v3 q7.2 else F_X7_heelsIn_59 (F_X7_heelsIn_4 n) v1 v2 v3 q7.2)))) else F_X7_heelsIn_72 (F_X7_heelsIn_4 n) v1 v2 v3 st)
set_option maxRecDepth 100000 in
set_option maxHeartbeats 4000000 in
theorem Z_X7_heelsIn_4 {l : Launch} {X : Cx} (hX : Ok X) {p : Program} {e : Env} {s : State} {m : MethodId} {args : Array Value} {below : List Frame} {meth : Method} {c : Code} {rr : Int32} {st' : St} (hh : Hy X p s m args meth c cX7_heelsIn 4 RX7) (hr : meth.sig.returnType = some .int) : ∀ (n : Nat) (v1 : Int32) (v2 : Int32) (v3 : Int32) (st : St), F_X7_heelsIn_4 n v1 v2 v3 st = some (rr, st') → Z X p l e (rmk 4) s m args below meth c 4 (MQ below (Qf X (some (.int rr)) st') args s 0 0 (cA X)) 4 [(0, .ref (X.2.1 0)), (1, .int v1), (2, .int v2), (3, .int v3)] [] st := by
  intro n
  induction n with
  | zero =>
    intro v1 v2 v3 st hf
    cases hf
  | succ n ih =>
    intro v1 v2 v3 st hf
    rw [F_X7_heelsIn_4] at hf
    refine x_iload_n hh dX7_heelsIn_4 rfl 3 rfl 5 rfl ?_
    refine x_aload_n hh dX7_heelsIn_5 rfl 0 rfl 6 rfl ?_
    refine x_getR hh cl_7 dX7_heelsIn_6 sh_0 0 1 rfl (Nat.le_of_ble_eq_true rfl) wd_291 9 rfl ?_
    refine x_getI hh cl_3 dX7_heelsIn_9 sh_1 1 rfl (Nat.le_of_ble_eq_true rfl) wd_112 12 rfl ?_
    refine x_icmp_ge hh dX7_heelsIn_12 78 rfl 15 rfl (fun hc1 => ?_) (fun hc1 => ?_)
    · have hf := t_pos hc1 hf
      refine x_iload_n hh dX7_heelsIn_78 rfl 2 rfl 79 rfl ?_
      obtain ⟨rfl, rfl⟩ := ret2 hf
      exact x_iret hh hr dX7_heelsIn_79
    · have hf := t_neg hc1 hf
      refine x_aload_n hh dX7_heelsIn_15 rfl 0 rfl 16 rfl ?_
      refine x_getR hh cl_7 dX7_heelsIn_16 sh_0 3 16 rfl (Nat.le_of_ble_eq_true rfl) wd_294 19 rfl ?_
      refine x_getR hh cl_6 dX7_heelsIn_19 sh_16 0 17 rfl (Nat.le_of_ble_eq_true rfl) wd_159 22 rfl ?_
      refine x_iload_n hh dX7_heelsIn_22 rfl 3 rfl 23 rfl ?_
      obtain ⟨hi2, hf⟩ := gi_some hf
      refine x_iaload hh dX7_heelsIn_23 sh_17 hi2 24 rfl ?_
      refine x_iload_n hh dX7_heelsIn_24 rfl 1 rfl 25 rfl ?_
      refine x_icmp_ne hh dX7_heelsIn_25 72 rfl 28 rfl (fun hc3 => ?_) (fun hc3 => ?_)
      · have hf := t_neg hc3 hf
        exact Z_X7_heelsIn_72 hX hh hr ih  v1 v2 v3 st hf
      · have hf := t_pos hc3 hf
        refine x_aload_n hh dX7_heelsIn_28 rfl 0 rfl 29 rfl ?_
        refine x_getR hh cl_7 dX7_heelsIn_29 sh_0 3 16 rfl (Nat.le_of_ble_eq_true rfl) wd_294 32 rfl ?_
        refine x_getR hh cl_6 dX7_heelsIn_32 sh_16 4 21 rfl (Nat.le_of_ble_eq_true rfl) wd_172 35 rfl ?_
        refine x_iload_n hh dX7_heelsIn_35 rfl 3 rfl 36 rfl ?_
        refine x_dup2 hh dX7_heelsIn_36 rfl rfl 37 rfl ?_
        obtain ⟨hi4, hf⟩ := gi_some hf
        refine x_iaload hh dX7_heelsIn_37 sh_21 hi4 38 rfl ?_
        refine x_iconst hh dX7_heelsIn_38 1 rfl 39 rfl ?_
        refine x_isub hh dX7_heelsIn_39 40 rfl ?_
        obtain ⟨hi5, hf⟩ := gi_some hf
        obtain ⟨st6, est6, hf⟩ := bs_some hf
        refine x_iastore hh dX7_heelsIn_40 sh_21 hi5 41 rfl st6 est6 ?_
        refine x_aload_n hh dX7_heelsIn_41 rfl 0 rfl 42 rfl ?_
        refine x_getR hh cl_7 dX7_heelsIn_42 sh_0 4 22 rfl (Nat.le_of_ble_eq_true rfl) wd_295 45 rfl ?_
        refine x_iload_n hh dX7_heelsIn_45 rfl 1 rfl 46 rfl ?_
        obtain ⟨q7, hq7, hf⟩ := b_some hf
        refine x_callV (rest := []) hh mi_X1_firstTooHigh [.int v1] dX7_heelsIn_46 sh_22 wd_539 (C_X1_firstTooHigh l hX ev_16 hq7) rfl rfl ⟨Nat.le_of_ble_eq_true rfl, Nat.le_of_ble_eq_true rfl⟩ (Nat.le_of_ble_eq_true rfl) 49 rfl [.int q7.1] rfl ?_
        refine x_iconst hh dX7_heelsIn_49 (-1) rfl 50 rfl ?_
        refine x_icmp_ne hh dX7_heelsIn_50 59 rfl 53 rfl (fun hc8 => ?_) (fun hc8 => ?_)
        · have hf := t_neg hc8 hf
          exact Z_X7_heelsIn_59 hX hh hr ih  v1 v2 v3 q7.2 hf
        · have hf := t_pos hc8 hf
          refine x_iload_n hh dX7_heelsIn_53 rfl 2 rfl 54 rfl ?_
          refine x_iconst hh dX7_heelsIn_54 1 rfl 55 rfl ?_
          refine x_iload_n hh dX7_heelsIn_55 rfl 3 rfl 56 rfl ?_
          refine x_ishl hh dX7_heelsIn_56 57 rfl ?_
          refine x_ior hh dX7_heelsIn_57 58 rfl ?_
          refine x_istore_n hh dX7_heelsIn_58 rfl (by decide) [(2, .int (v2 ||| (1 <<< (v3 &&& 31)))), (0, .ref (X.2.1 0)), (1, .int v1), (3, .int v3)] rfl 59 rfl ?_
          refine x_sub (lv' := [(0, .ref (X.2.1 0)), (1, .int v1), (2, .int (v2 ||| (1 <<< (v3 &&& 31)))), (3, .int v3)]) [1, 2, 0, 3] rfl ?_
          exact Z_X7_heelsIn_59 hX hh hr ih  v1 (v2 ||| (1 <<< (v3 &&& 31))) v3 q7.2 hf
def F_X7_heelsIn_0 (v1 : Int32) (st : St) : Option (Int32 × St) := F_X7_heelsIn_4 fN v1 0 0 st
set_option maxRecDepth 100000 in
set_option maxHeartbeats 4000000 in
theorem Z_X7_heelsIn_0 {l : Launch} {X : Cx} (hX : Ok X) {p : Program} {e : Env} {s : State} {m : MethodId} {args : Array Value} {below : List Frame} {meth : Method} {c : Code} {rr : Int32} {st' : St} (hh : Hy X p s m args meth c cX7_heelsIn 4 RX7) (hr : meth.sig.returnType = some .int) (v1 : Int32) (st : St) (hf : F_X7_heelsIn_0 v1 st = some (rr, st')) : Z X p l e (rmk 4) s m args below meth c 4 (MQ below (Qf X (some (.int rr)) st') args s 0 0 (cA X)) 0 [(0, .ref (X.2.1 0)), (1, .int v1)] [] st := by
  unfold F_X7_heelsIn_0 at hf
  refine x_iconst hh dX7_heelsIn_0 0 rfl 1 rfl ?_
  refine x_istore_n hh dX7_heelsIn_1 rfl (by decide) [(2, .int 0), (0, .ref (X.2.1 0)), (1, .int v1)] rfl 2 rfl ?_
  refine x_iconst hh dX7_heelsIn_2 0 rfl 3 rfl ?_
  refine x_istore_n hh dX7_heelsIn_3 rfl (by decide) [(3, .int 0), (2, .int 0), (0, .ref (X.2.1 0)), (1, .int v1)] rfl 4 rfl ?_
  refine x_sub (lv' := [(0, .ref (X.2.1 0)), (1, .int v1), (2, .int 0), (3, .int 0)]) [2, 3, 1, 0] rfl ?_
  exact Z_X7_heelsIn_4 hX hh hr fN v1 0 0 st hf
def F_X7_heelsIn (v1 : Int32) (st : St) : Option (Int32 × St) := F_X7_heelsIn_0  v1 st
set_option maxRecDepth 100000 in
theorem C_X7_heelsIn (l : Launch) {X : Cx} (hX : Ok X) {v1 : Int32} {st : St} {q : Int32 × St} (hf : F_X7_heelsIn v1 st = some q) : Ct l X 4 yX7_heelsIn (.code yX7_heelsIn cX7_heelsIn 4 (some .int)) [.ref (X.2.1 0), .int v1] st (some (.int q.1)) q.2 := by
  refine Ct.of hX (by decide) (Nat.le_of_ble_eq_true rfl) ?_
  intro p e s m args below meth c hh hr
  exact Z_X7_heelsIn_0 hX hh hr v1 st hf

def F_X7_someAgeIsLawful_117 (k18 : Int32 → Int32 → Int32 → Int32 → St → Option (Int32 × St)) (v1 : Int32) (v2 : Int32) (v3 : Int32) (v4 : Int32) (st : St) : Option (Int32 × St) := k18 v1 v2 v3 (v4 + 1) st
set_option maxRecDepth 100000 in
set_option maxHeartbeats 4000000 in
theorem Z_X7_someAgeIsLawful_117 {l : Launch} {X : Cx} (hX : Ok X) {p : Program} {e : Env} {s : State} {m : MethodId} {args : Array Value} {below : List Frame} {meth : Method} {c : Code} {rr : Int32} {st' : St} (hh : Hy X p s m args meth c cX7_someAgeIsLawful 6 RX7) (hr : meth.sig.returnType = some .boolean) {k18 : Int32 → Int32 → Int32 → Int32 → St → Option (Int32 × St)} (hk18 : ∀ (v1 : Int32) (v2 : Int32) (v3 : Int32) (v4 : Int32) (st : St), k18 v1 v2 v3 v4 st = some (rr, st') → Z X p l e (rmk 4) s m args below meth c 6 (MQ below (Qf X (some (.int rr)) st') args s 0 0 (cA X)) 18 [(0, .ref (X.2.1 0)), (1, .int v1), (2, .int v2), (3, .int v3), (4, .int v4)] [] st) (v1 : Int32) (v2 : Int32) (v3 : Int32) (v4 : Int32) (st : St) (hf : F_X7_someAgeIsLawful_117 k18 v1 v2 v3 v4 st = some (rr, st')) : Z X p l e (rmk 4) s m args below meth c 6 (MQ below (Qf X (some (.int rr)) st') args s 0 0 (cA X)) 117 [(0, .ref (X.2.1 0)), (1, .int v1), (2, .int v2), (3, .int v3), (4, .int v4)] [] st := by
  unfold F_X7_someAgeIsLawful_117 at hf
  refine x_iinc hh dX7_someAgeIsLawful_117 4 rfl (v4 + 1) rfl (by decide) [(4, .int (v4 + 1)), (0, .ref (X.2.1 0)), (1, .int v1), (2, .int v2), (3, .int v3)] rfl 120 rfl ?_
  refine x_goto hh dX7_someAgeIsLawful_120 18 rfl ?_
  refine x_sub (lv' := [(0, .ref (X.2.1 0)), (1, .int v1), (2, .int v2), (3, .int v3), (4, .int (v4 + 1))]) [1, 2, 3, 4, 0] rfl ?_
  exact hk18 v1 v2 v3 (v4 + 1) st hf
def F_X7_someAgeIsLawful_70 (k18 : Int32 → Int32 → Int32 → Int32 → St → Option (Int32 × St)) (v1 : Int32) (v2 : Int32) (v3 : Int32) (v4 : Int32) (t0 : Int32) (st : St) : Option (Int32 × St) := if (99 : Int32) < t0 then F_X7_someAgeIsLawful_117 k18 v1 v2 v3 v4 st else (F_X6_someoneHasAge 16 v3 t0 st).bind (fun q8 => if q8.1 = 0 then gi v1 6 (bs (sV q8.2 20 v1.toNatClampNeg t0) (fun st11 => (F_X1_firstTooHigh 16 v2 st11).bind (fun q12 => if q12.1 = ((-1)) then some (1, q12.2) else F_X7_someAgeIsLawful_117 k18 v1 v2 v3 v4 q12.2))) else F_X7_someAgeIsLawful_117 k18 v1 v2 v3 v4 q8.2)
set_option maxRecDepth 100000 in
set_option maxHeartbeats 4000000 in
theorem Z_X7_someAgeIsLawful_70 {l : Launch} {X : Cx} (hX : Ok X) {p : Program} {e : Env} {s : State} {m : MethodId} {args : Array Value} {below : List Frame} {meth : Method} {c : Code} {rr : Int32} {st' : St} (hh : Hy X p s m args meth c cX7_someAgeIsLawful 6 RX7) (hr : meth.sig.returnType = some .boolean) {k18 : Int32 → Int32 → Int32 → Int32 → St → Option (Int32 × St)} (hk18 : ∀ (v1 : Int32) (v2 : Int32) (v3 : Int32) (v4 : Int32) (st : St), k18 v1 v2 v3 v4 st = some (rr, st') → Z X p l e (rmk 4) s m args below meth c 6 (MQ below (Qf X (some (.int rr)) st') args s 0 0 (cA X)) 18 [(0, .ref (X.2.1 0)), (1, .int v1), (2, .int v2), (3, .int v3), (4, .int v4)] [] st) (v1 : Int32) (v2 : Int32) (v3 : Int32) (v4 : Int32) (t0 : Int32) (st : St) (hf : F_X7_someAgeIsLawful_70 k18 v1 v2 v3 v4 t0 st = some (rr, st')) : Z X p l e (rmk 4) s m args below meth c 6 (MQ below (Qf X (some (.int rr)) st') args s 0 0 (cA X)) 70 [(0, .ref (X.2.1 0)), (1, .int v1), (2, .int v2), (3, .int v3), (4, .int v4)] [.int t0] st := by
  unfold F_X7_someAgeIsLawful_70 at hf
  refine x_istore hh dX7_someAgeIsLawful_70 (by decide) [(5, .int t0), (0, .ref (X.2.1 0)), (1, .int v1), (2, .int v2), (3, .int v3), (4, .int v4)] rfl 72 rfl ?_
  refine x_iload hh dX7_someAgeIsLawful_72 0 rfl 74 rfl ?_
  refine x_bipush hh dX7_someAgeIsLawful_74 99 rfl 76 rfl ?_
  refine x_icmp_gt hh dX7_someAgeIsLawful_76 117 rfl 79 rfl (fun hc7 => ?_) (fun hc7 => ?_)
  · have hf := t_pos hc7 hf
    refine x_sub (lv' := [(0, .ref (X.2.1 0)), (1, .int v1), (2, .int v2), (3, .int v3), (4, .int v4)]) [1, 2, 3, 4, 5] rfl ?_
    exact Z_X7_someAgeIsLawful_117 hX hh hr hk18  v1 v2 v3 v4 st hf
  · have hf := t_neg hc7 hf
    refine x_aload_n hh dX7_someAgeIsLawful_79 rfl 1 rfl 80 rfl ?_
    refine x_getR hh cl_7 dX7_someAgeIsLawful_80 sh_0 3 16 rfl (Nat.le_of_ble_eq_true rfl) wd_294 83 rfl ?_
    refine x_iload_n hh dX7_someAgeIsLawful_83 rfl 4 rfl 84 rfl ?_
    refine x_iload hh dX7_someAgeIsLawful_84 0 rfl 86 rfl ?_
    obtain ⟨q8, hq8, hf⟩ := b_some hf
    refine x_callV (rest := []) hh mi_X6_someoneHasAge [.int v3, .int t0] dX7_someAgeIsLawful_86 sh_16 wd_732 (C_X6_someoneHasAge l hX sc_16 hq8) rfl rfl ⟨Nat.le_of_ble_eq_true rfl, Nat.le_of_ble_eq_true rfl⟩ (Nat.le_of_ble_eq_true rfl) 89 rfl [.int q8.1] rfl ?_
    refine x_if_ne hh dX7_someAgeIsLawful_89 117 rfl 92 rfl (fun hc9 => ?_) (fun hc9 => ?_)
    · have hf := t_neg hc9 hf
      refine x_sub (lv' := [(0, .ref (X.2.1 0)), (1, .int v1), (2, .int v2), (3, .int v3), (4, .int v4)]) [1, 2, 3, 4, 5] rfl ?_
      exact Z_X7_someAgeIsLawful_117 hX hh hr hk18  v1 v2 v3 v4 q8.2 hf
    · have hf := t_pos hc9 hf
      refine x_aload_n hh dX7_someAgeIsLawful_92 rfl 1 rfl 93 rfl ?_
      refine x_getR hh cl_7 dX7_someAgeIsLawful_93 sh_0 3 16 rfl (Nat.le_of_ble_eq_true rfl) wd_294 96 rfl ?_
      refine x_getR hh cl_6 dX7_someAgeIsLawful_96 sh_16 3 20 rfl (Nat.le_of_ble_eq_true rfl) wd_168 99 rfl ?_
      refine x_iload_n hh dX7_someAgeIsLawful_99 rfl 2 rfl 100 rfl ?_
      refine x_iload hh dX7_someAgeIsLawful_100 0 rfl 102 rfl ?_
      obtain ⟨hi10, hf⟩ := gi_some hf
      obtain ⟨st11, est11, hf⟩ := bs_some hf
      refine x_iastore hh dX7_someAgeIsLawful_102 sh_20 hi10 103 rfl st11 est11 ?_
      refine x_aload_n hh dX7_someAgeIsLawful_103 rfl 1 rfl 104 rfl ?_
      refine x_getR hh cl_7 dX7_someAgeIsLawful_104 sh_0 4 22 rfl (Nat.le_of_ble_eq_true rfl) wd_295 107 rfl ?_
      refine x_iload_n hh dX7_someAgeIsLawful_107 rfl 3 rfl 108 rfl ?_
      obtain ⟨q12, hq12, hf⟩ := b_some hf
      refine x_callV (rest := []) hh mi_X1_firstTooHigh [.int v2] dX7_someAgeIsLawful_108 sh_22 wd_539 (C_X1_firstTooHigh l hX ev_16 hq12) rfl rfl ⟨Nat.le_of_ble_eq_true rfl, Nat.le_of_ble_eq_true rfl⟩ (Nat.le_of_ble_eq_true rfl) 111 rfl [.int q12.1] rfl ?_
      refine x_iconst hh dX7_someAgeIsLawful_111 (-1) rfl 112 rfl ?_
      refine x_icmp_ne hh dX7_someAgeIsLawful_112 117 rfl 115 rfl (fun hc13 => ?_) (fun hc13 => ?_)
      · have hf := t_neg hc13 hf
        refine x_sub (lv' := [(0, .ref (X.2.1 0)), (1, .int v1), (2, .int v2), (3, .int v3), (4, .int v4)]) [1, 2, 3, 4, 5] rfl ?_
        exact Z_X7_someAgeIsLawful_117 hX hh hr hk18  v1 v2 v3 v4 q12.2 hf
      · have hf := t_pos hc13 hf
        refine x_iconst hh dX7_someAgeIsLawful_115 1 rfl 116 rfl ?_
        obtain ⟨rfl, rfl⟩ := ret2 hf
        exact x_zret hh hr rfl dX7_someAgeIsLawful_116
def F_X7_someAgeIsLawful_48 (k18 : Int32 → Int32 → Int32 → Int32 → St → Option (Int32 × St)) (v1 : Int32) (v2 : Int32) (v3 : Int32) (v4 : Int32) (st : St) : Option (Int32 × St) := if v4 = ((-1)) then F_X7_someAgeIsLawful_70 k18 v1 v2 v3 v4 0 st else gi v4 6 (F_X7_someAgeIsLawful_70 k18 v1 v2 v3 v4 ((st.1 20 v4.toNatClampNeg) + 1) st)
set_option maxRecDepth 100000 in
set_option maxHeartbeats 4000000 in
theorem Z_X7_someAgeIsLawful_48 {l : Launch} {X : Cx} (hX : Ok X) {p : Program} {e : Env} {s : State} {m : MethodId} {args : Array Value} {below : List Frame} {meth : Method} {c : Code} {rr : Int32} {st' : St} (hh : Hy X p s m args meth c cX7_someAgeIsLawful 6 RX7) (hr : meth.sig.returnType = some .boolean) {k18 : Int32 → Int32 → Int32 → Int32 → St → Option (Int32 × St)} (hk18 : ∀ (v1 : Int32) (v2 : Int32) (v3 : Int32) (v4 : Int32) (st : St), k18 v1 v2 v3 v4 st = some (rr, st') → Z X p l e (rmk 4) s m args below meth c 6 (MQ below (Qf X (some (.int rr)) st') args s 0 0 (cA X)) 18 [(0, .ref (X.2.1 0)), (1, .int v1), (2, .int v2), (3, .int v3), (4, .int v4)] [] st) (v1 : Int32) (v2 : Int32) (v3 : Int32) (v4 : Int32) (st : St) (hf : F_X7_someAgeIsLawful_48 k18 v1 v2 v3 v4 st = some (rr, st')) : Z X p l e (rmk 4) s m args below meth c 6 (MQ below (Qf X (some (.int rr)) st') args s 0 0 (cA X)) 48 [(0, .ref (X.2.1 0)), (1, .int v1), (2, .int v2), (3, .int v3), (4, .int v4)] [] st := by
  unfold F_X7_someAgeIsLawful_48 at hf
  refine x_iload hh dX7_someAgeIsLawful_48 4 rfl 50 rfl ?_
  refine x_iconst hh dX7_someAgeIsLawful_50 (-1) rfl 51 rfl ?_
  refine x_icmp_ne hh dX7_someAgeIsLawful_51 58 rfl 54 rfl (fun hc5 => ?_) (fun hc5 => ?_)
  · have hf := t_neg hc5 hf
    refine x_aload_n hh dX7_someAgeIsLawful_58 rfl 0 rfl 59 rfl ?_
    refine x_getR hh cl_7 dX7_someAgeIsLawful_59 sh_0 3 16 rfl (Nat.le_of_ble_eq_true rfl) wd_294 62 rfl ?_
    refine x_getR hh cl_6 dX7_someAgeIsLawful_62 sh_16 3 20 rfl (Nat.le_of_ble_eq_true rfl) wd_168 65 rfl ?_
    refine x_iload hh dX7_someAgeIsLawful_65 4 rfl 67 rfl ?_
    obtain ⟨hi6, hf⟩ := gi_some hf
    refine x_iaload hh dX7_someAgeIsLawful_67 sh_20 hi6 68 rfl ?_
    refine x_iconst hh dX7_someAgeIsLawful_68 1 rfl 69 rfl ?_
    refine x_iadd hh dX7_someAgeIsLawful_69 70 rfl ?_
    exact Z_X7_someAgeIsLawful_70 hX hh hr hk18  v1 v2 v3 v4 ((st.1 20 v4.toNatClampNeg) + 1) st hf
  · have hf := t_pos hc5 hf
    refine x_iconst hh dX7_someAgeIsLawful_54 0 rfl 55 rfl ?_
    refine x_goto hh dX7_someAgeIsLawful_55 70 rfl ?_
    exact Z_X7_someAgeIsLawful_70 hX hh hr hk18  v1 v2 v3 v4 0 st hf
def F_X7_someAgeIsLawful_18 : Nat → Int32 → Int32 → Int32 → Int32 → St → Option (Int32 × St)
  | 0, _, _, _, _, _ => none
  | n + 1, v1, v2, v3, v4, st => if (st.1 1 1) ≤ v4 then some (0, st) else if v4 = ((-1)) then F_X7_someAgeIsLawful_48 (F_X7_someAgeIsLawful_18 n) v1 v2 v3 v4 st else if ((v3 >>> (v4 &&& 31)) &&& 1) = 0 then F_X7_someAgeIsLawful_117 (F_X7_someAgeIsLawful_18 n) v1 v2 v3 v4 st else F_X7_someAgeIsLawful_48 (F_X7_someAgeIsLawful_18 n) v1 v2 v3 v4 st
set_option maxRecDepth 100000 in
set_option maxHeartbeats 4000000 in
theorem Z_X7_someAgeIsLawful_18 {l : Launch} {X : Cx} (hX : Ok X) {p : Program} {e : Env} {s : State} {m : MethodId} {args : Array Value} {below : List Frame} {meth : Method} {c : Code} {rr : Int32} {st' : St} (hh : Hy X p s m args meth c cX7_someAgeIsLawful 6 RX7) (hr : meth.sig.returnType = some .boolean) : ∀ (n : Nat) (v1 : Int32) (v2 : Int32) (v3 : Int32) (v4 : Int32) (st : St), F_X7_someAgeIsLawful_18 n v1 v2 v3 v4 st = some (rr, st') → Z X p l e (rmk 4) s m args below meth c 6 (MQ below (Qf X (some (.int rr)) st') args s 0 0 (cA X)) 18 [(0, .ref (X.2.1 0)), (1, .int v1), (2, .int v2), (3, .int v3), (4, .int v4)] [] st := by
  intro n
  induction n with
  | zero =>
    intro v1 v2 v3 v4 st hf
    cases hf
  | succ n ih =>
    intro v1 v2 v3 v4 st hf
    rw [F_X7_someAgeIsLawful_18] at hf
    refine x_iload hh dX7_someAgeIsLawful_18 4 rfl 20 rfl ?_
    refine x_aload_n hh dX7_someAgeIsLawful_20 rfl 0 rfl 21 rfl ?_
    refine x_getR hh cl_7 dX7_someAgeIsLawful_21 sh_0 0 1 rfl (Nat.le_of_ble_eq_true rfl) wd_291 24 rfl ?_
    refine x_getI hh cl_3 dX7_someAgeIsLawful_24 sh_1 1 rfl (Nat.le_of_ble_eq_true rfl) wd_112 27 rfl ?_
    refine x_icmp_ge hh dX7_someAgeIsLawful_27 123 rfl 30 rfl (fun hc2 => ?_) (fun hc2 => ?_)
    · have hf := t_pos hc2 hf
      refine x_iconst hh dX7_someAgeIsLawful_123 0 rfl 124 rfl ?_
      obtain ⟨rfl, rfl⟩ := ret2 hf
      exact x_zret hh hr rfl dX7_someAgeIsLawful_124
    · have hf := t_neg hc2 hf
      refine x_iload hh dX7_someAgeIsLawful_30 4 rfl 32 rfl ?_
      refine x_iconst hh dX7_someAgeIsLawful_32 (-1) rfl 33 rfl ?_
      refine x_icmp_eq hh dX7_someAgeIsLawful_33 48 rfl 36 rfl (fun hc3 => ?_) (fun hc3 => ?_)
      · have hf := t_pos hc3 hf
        exact Z_X7_someAgeIsLawful_48 hX hh hr ih  v1 v2 v3 v4 st hf
      · have hf := t_neg hc3 hf
        refine x_iload_n hh dX7_someAgeIsLawful_36 rfl 3 rfl 37 rfl ?_
        refine x_iload hh dX7_someAgeIsLawful_37 4 rfl 39 rfl ?_
        refine x_ishr hh dX7_someAgeIsLawful_39 40 rfl ?_
        refine x_iconst hh dX7_someAgeIsLawful_40 1 rfl 41 rfl ?_
        refine x_iand hh dX7_someAgeIsLawful_41 42 rfl ?_
        refine x_if_ne hh dX7_someAgeIsLawful_42 48 rfl 45 rfl (fun hc4 => ?_) (fun hc4 => ?_)
        · have hf := t_neg hc4 hf
          exact Z_X7_someAgeIsLawful_48 hX hh hr ih  v1 v2 v3 v4 st hf
        · have hf := t_pos hc4 hf
          refine x_goto hh dX7_someAgeIsLawful_45 117 rfl ?_
          exact Z_X7_someAgeIsLawful_117 hX hh hr ih  v1 v2 v3 v4 st hf
def F_X7_someAgeIsLawful_0 (v1 : Int32) (v2 : Int32) (st : St) : Option (Int32 × St) := (F_X6_whoIsIn 16 v2 st).bind (fun q1 => F_X7_someAgeIsLawful_18 fN v1 v2 (q1.1 &&& ((1 <<< (v1 &&& 31)) ^^^ ((-1)))) ((-1)) q1.2)
set_option maxRecDepth 100000 in
set_option maxHeartbeats 4000000 in
theorem Z_X7_someAgeIsLawful_0 {l : Launch} {X : Cx} (hX : Ok X) {p : Program} {e : Env} {s : State} {m : MethodId} {args : Array Value} {below : List Frame} {meth : Method} {c : Code} {rr : Int32} {st' : St} (hh : Hy X p s m args meth c cX7_someAgeIsLawful 6 RX7) (hr : meth.sig.returnType = some .boolean) (v1 : Int32) (v2 : Int32) (st : St) (hf : F_X7_someAgeIsLawful_0 v1 v2 st = some (rr, st')) : Z X p l e (rmk 4) s m args below meth c 6 (MQ below (Qf X (some (.int rr)) st') args s 0 0 (cA X)) 0 [(0, .ref (X.2.1 0)), (1, .int v1), (2, .int v2)] [] st := by
  unfold F_X7_someAgeIsLawful_0 at hf
  refine x_aload_n hh dX7_someAgeIsLawful_0 rfl 0 rfl 1 rfl ?_
  refine x_getR hh cl_7 dX7_someAgeIsLawful_1 sh_0 3 16 rfl (Nat.le_of_ble_eq_true rfl) wd_294 4 rfl ?_
  refine x_iload_n hh dX7_someAgeIsLawful_4 rfl 2 rfl 5 rfl ?_
  obtain ⟨q1, hq1, hf⟩ := b_some hf
  refine x_callV (rest := []) hh mi_X6_whoIsIn [.int v2] dX7_someAgeIsLawful_5 sh_16 wd_525 (C_X6_whoIsIn l hX sc_16 hq1) rfl rfl ⟨Nat.le_of_ble_eq_true rfl, Nat.le_of_ble_eq_true rfl⟩ (Nat.le_of_ble_eq_true rfl) 8 rfl [.int q1.1] rfl ?_
  refine x_iconst hh dX7_someAgeIsLawful_8 1 rfl 9 rfl ?_
  refine x_iload_n hh dX7_someAgeIsLawful_9 rfl 1 rfl 10 rfl ?_
  refine x_ishl hh dX7_someAgeIsLawful_10 11 rfl ?_
  refine x_iconst hh dX7_someAgeIsLawful_11 (-1) rfl 12 rfl ?_
  refine x_ixor hh dX7_someAgeIsLawful_12 13 rfl ?_
  refine x_iand hh dX7_someAgeIsLawful_13 14 rfl ?_
  refine x_istore_n hh dX7_someAgeIsLawful_14 rfl (by decide) [(3, .int (q1.1 &&& ((1 <<< (v1 &&& 31)) ^^^ ((-1))))), (0, .ref (X.2.1 0)), (1, .int v1), (2, .int v2)] rfl 15 rfl ?_
  refine x_iconst hh dX7_someAgeIsLawful_15 (-1) rfl 16 rfl ?_
  refine x_istore hh dX7_someAgeIsLawful_16 (by decide) [(4, .int ((-1))), (3, .int (q1.1 &&& ((1 <<< (v1 &&& 31)) ^^^ ((-1))))), (0, .ref (X.2.1 0)), (1, .int v1), (2, .int v2)] rfl 18 rfl ?_
  refine x_sub (lv' := [(0, .ref (X.2.1 0)), (1, .int v1), (2, .int v2), (3, .int (q1.1 &&& ((1 <<< (v1 &&& 31)) ^^^ ((-1))))), (4, .int ((-1)))]) [2, 3, 4, 1, 0] rfl ?_
  exact Z_X7_someAgeIsLawful_18 hX hh hr fN v1 v2 (q1.1 &&& ((1 <<< (v1 &&& 31)) ^^^ ((-1)))) ((-1)) q1.2 hf
def F_X7_someAgeIsLawful (v1 : Int32) (v2 : Int32) (st : St) : Option (Int32 × St) := F_X7_someAgeIsLawful_0  v1 v2 st
set_option maxRecDepth 100000 in
theorem C_X7_someAgeIsLawful (l : Launch) {X : Cx} (hX : Ok X) {v1 : Int32} {v2 : Int32} {st : St} {q : Int32 × St} (hf : F_X7_someAgeIsLawful v1 v2 st = some q) : Ct l X 4 yX7_someAgeIsLawful (.code yX7_someAgeIsLawful cX7_someAgeIsLawful 6 (some .boolean)) [.ref (X.2.1 0), .int v1, .int v2] st (some (.int q.1)) q.2 := by
  refine Ct.of hX (by decide) (Nat.le_of_ble_eq_true rfl) ?_
  intro p e s m args below meth c hh hr
  exact Z_X7_someAgeIsLawful_0 hX hh hr v1 v2 st hf

def F_X7_suspectsIn_65 (k4 : Int32 → Int32 → Int32 → St → Option (Int32 × St)) (v1 : Int32) (v2 : Int32) (v3 : Int32) (st : St) : Option (Int32 × St) := k4 v1 v2 (v3 + 1) st
set_option maxRecDepth 100000 in
set_option maxHeartbeats 4000000 in
theorem Z_X7_suspectsIn_65 {l : Launch} {X : Cx} (hX : Ok X) {p : Program} {e : Env} {s : State} {m : MethodId} {args : Array Value} {below : List Frame} {meth : Method} {c : Code} {rr : Int32} {st' : St} (hh : Hy X p s m args meth c cX7_suspectsIn 5 RX7) (hr : meth.sig.returnType = some .int) {k4 : Int32 → Int32 → Int32 → St → Option (Int32 × St)} (hk4 : ∀ (v1 : Int32) (v2 : Int32) (v3 : Int32) (st : St), k4 v1 v2 v3 st = some (rr, st') → Z X p l e (rmk 5) s m args below meth c 5 (MQ below (Qf X (some (.int rr)) st') args s 0 0 (cA X)) 4 [(0, .ref (X.2.1 0)), (1, .int v1), (2, .int v2), (3, .int v3)] [] st) (v1 : Int32) (v2 : Int32) (v3 : Int32) (st : St) (hf : F_X7_suspectsIn_65 k4 v1 v2 v3 st = some (rr, st')) : Z X p l e (rmk 5) s m args below meth c 5 (MQ below (Qf X (some (.int rr)) st') args s 0 0 (cA X)) 65 [(0, .ref (X.2.1 0)), (1, .int v1), (2, .int v2), (3, .int v3)] [] st := by
  unfold F_X7_suspectsIn_65 at hf
  refine x_iinc hh dX7_suspectsIn_65 3 rfl (v3 + 1) rfl (by decide) [(3, .int (v3 + 1)), (0, .ref (X.2.1 0)), (1, .int v1), (2, .int v2)] rfl 68 rfl ?_
  refine x_goto hh dX7_suspectsIn_68 4 rfl ?_
  refine x_sub (lv' := [(0, .ref (X.2.1 0)), (1, .int v1), (2, .int v2), (3, .int (v3 + 1))]) [1, 2, 3, 0] rfl ?_
  exact hk4 v1 v2 (v3 + 1) st hf
def F_X7_suspectsIn_54 (k4 : Int32 → Int32 → Int32 → St → Option (Int32 × St)) (v1 : Int32) (v2 : Int32) (v3 : Int32) (v4 : Int32) (st : St) : Option (Int32 × St) := gi v3 6 (bs (sV st 20 v3.toNatClampNeg v4) (fun st8 => F_X7_suspectsIn_65 k4 v1 v2 v3 st8))
set_option maxRecDepth 100000 in
set_option maxHeartbeats 4000000 in
theorem Z_X7_suspectsIn_54 {l : Launch} {X : Cx} (hX : Ok X) {p : Program} {e : Env} {s : State} {m : MethodId} {args : Array Value} {below : List Frame} {meth : Method} {c : Code} {rr : Int32} {st' : St} (hh : Hy X p s m args meth c cX7_suspectsIn 5 RX7) (hr : meth.sig.returnType = some .int) {k4 : Int32 → Int32 → Int32 → St → Option (Int32 × St)} (hk4 : ∀ (v1 : Int32) (v2 : Int32) (v3 : Int32) (st : St), k4 v1 v2 v3 st = some (rr, st') → Z X p l e (rmk 5) s m args below meth c 5 (MQ below (Qf X (some (.int rr)) st') args s 0 0 (cA X)) 4 [(0, .ref (X.2.1 0)), (1, .int v1), (2, .int v2), (3, .int v3)] [] st) (v1 : Int32) (v2 : Int32) (v3 : Int32) (v4 : Int32) (st : St) (hf : F_X7_suspectsIn_54 k4 v1 v2 v3 v4 st = some (rr, st')) : Z X p l e (rmk 5) s m args below meth c 5 (MQ below (Qf X (some (.int rr)) st') args s 0 0 (cA X)) 54 [(0, .ref (X.2.1 0)), (1, .int v1), (2, .int v2), (3, .int v3), (4, .int v4)] [] st := by
  unfold F_X7_suspectsIn_54 at hf
  refine x_aload_n hh dX7_suspectsIn_54 rfl 0 rfl 55 rfl ?_
  refine x_getR hh cl_7 dX7_suspectsIn_55 sh_0 3 16 rfl (Nat.le_of_ble_eq_true rfl) wd_294 58 rfl ?_
  refine x_getR hh cl_6 dX7_suspectsIn_58 sh_16 3 20 rfl (Nat.le_of_ble_eq_true rfl) wd_168 61 rfl ?_
  refine x_iload_n hh dX7_suspectsIn_61 rfl 3 rfl 62 rfl ?_
  refine x_iload hh dX7_suspectsIn_62 4 rfl 64 rfl ?_
  obtain ⟨hi7, hf⟩ := gi_some hf
  obtain ⟨st8, est8, hf⟩ := bs_some hf
  refine x_iastore hh dX7_suspectsIn_64 sh_20 hi7 65 rfl st8 est8 ?_
  refine x_sub (lv' := [(0, .ref (X.2.1 0)), (1, .int v1), (2, .int v2), (3, .int v3)]) [0, 1, 2, 3] rfl ?_
  exact Z_X7_suspectsIn_65 hX hh hr hk4  v1 v2 v3 st8 hf
def F_X7_suspectsIn_4 : Nat → Int32 → Int32 → Int32 → St → Option (Int32 × St)
  | 0, _, _, _, _ => none
  | n + 1, v1, v2, v3, st => if (st.1 1 1) ≤ v3 then some (v2, st) else gi v3 6 (if (st.1 17 v3.toNatClampNeg) = v1 then gi v3 6 ((F_X7_someAgeIsLawful v3 v1 st).bind (fun q5 => if q5.1 = 0 then F_X7_suspectsIn_54 (F_X7_suspectsIn_4 n) v1 v2 v3 (st.1 20 v3.toNatClampNeg) q5.2 else F_X7_suspectsIn_54 (F_X7_suspectsIn_4 n) v1 (v2 ||| (1 <<< (v3 &&& 31))) v3 (st.1 20 v3.toNatClampNeg) q5.2)) else F_X7_suspectsIn_65 (F_X7_suspectsIn_4 n) v1 v2 v3 st)
set_option maxRecDepth 100000 in
set_option maxHeartbeats 4000000 in
theorem Z_X7_suspectsIn_4 {l : Launch} {X : Cx} (hX : Ok X) {p : Program} {e : Env} {s : State} {m : MethodId} {args : Array Value} {below : List Frame} {meth : Method} {c : Code} {rr : Int32} {st' : St} (hh : Hy X p s m args meth c cX7_suspectsIn 5 RX7) (hr : meth.sig.returnType = some .int) : ∀ (n : Nat) (v1 : Int32) (v2 : Int32) (v3 : Int32) (st : St), F_X7_suspectsIn_4 n v1 v2 v3 st = some (rr, st') → Z X p l e (rmk 5) s m args below meth c 5 (MQ below (Qf X (some (.int rr)) st') args s 0 0 (cA X)) 4 [(0, .ref (X.2.1 0)), (1, .int v1), (2, .int v2), (3, .int v3)] [] st := by
  intro n
  induction n with
  | zero =>
    intro v1 v2 v3 st hf
    cases hf
  | succ n ih =>
    intro v1 v2 v3 st hf
    rw [F_X7_suspectsIn_4] at hf
    refine x_iload_n hh dX7_suspectsIn_4 rfl 3 rfl 5 rfl ?_
    refine x_aload_n hh dX7_suspectsIn_5 rfl 0 rfl 6 rfl ?_
    refine x_getR hh cl_7 dX7_suspectsIn_6 sh_0 0 1 rfl (Nat.le_of_ble_eq_true rfl) wd_291 9 rfl ?_
    refine x_getI hh cl_3 dX7_suspectsIn_9 sh_1 1 rfl (Nat.le_of_ble_eq_true rfl) wd_112 12 rfl ?_
    refine x_icmp_ge hh dX7_suspectsIn_12 71 rfl 15 rfl (fun hc1 => ?_) (fun hc1 => ?_)
    · have hf := t_pos hc1 hf
      refine x_iload_n hh dX7_suspectsIn_71 rfl 2 rfl 72 rfl ?_
      obtain ⟨rfl, rfl⟩ := ret2 hf
      exact x_iret hh hr dX7_suspectsIn_72
    · have hf := t_neg hc1 hf
      refine x_aload_n hh dX7_suspectsIn_15 rfl 0 rfl 16 rfl ?_
      refine x_getR hh cl_7 dX7_suspectsIn_16 sh_0 3 16 rfl (Nat.le_of_ble_eq_true rfl) wd_294 19 rfl ?_
      refine x_getR hh cl_6 dX7_suspectsIn_19 sh_16 0 17 rfl (Nat.le_of_ble_eq_true rfl) wd_159 22 rfl ?_
      refine x_iload_n hh dX7_suspectsIn_22 rfl 3 rfl 23 rfl ?_
      obtain ⟨hi2, hf⟩ := gi_some hf
      refine x_iaload hh dX7_suspectsIn_23 sh_17 hi2 24 rfl ?_
      refine x_iload_n hh dX7_suspectsIn_24 rfl 1 rfl 25 rfl ?_
      refine x_icmp_ne hh dX7_suspectsIn_25 65 rfl 28 rfl (fun hc3 => ?_) (fun hc3 => ?_)
      · have hf := t_neg hc3 hf
        exact Z_X7_suspectsIn_65 hX hh hr ih  v1 v2 v3 st hf
      · have hf := t_pos hc3 hf
        refine x_aload_n hh dX7_suspectsIn_28 rfl 0 rfl 29 rfl ?_
        refine x_getR hh cl_7 dX7_suspectsIn_29 sh_0 3 16 rfl (Nat.le_of_ble_eq_true rfl) wd_294 32 rfl ?_
        refine x_getR hh cl_6 dX7_suspectsIn_32 sh_16 3 20 rfl (Nat.le_of_ble_eq_true rfl) wd_168 35 rfl ?_
        refine x_iload_n hh dX7_suspectsIn_35 rfl 3 rfl 36 rfl ?_
        obtain ⟨hi4, hf⟩ := gi_some hf
        refine x_iaload hh dX7_suspectsIn_36 sh_20 hi4 37 rfl ?_
        refine x_istore hh dX7_suspectsIn_37 (by decide) [(4, .int (st.1 20 v3.toNatClampNeg)), (0, .ref (X.2.1 0)), (1, .int v1), (2, .int v2), (3, .int v3)] rfl 39 rfl ?_
        refine x_aload_n hh dX7_suspectsIn_39 rfl 1 rfl 40 rfl ?_
        refine x_iload_n hh dX7_suspectsIn_40 rfl 4 rfl 41 rfl ?_
        refine x_iload_n hh dX7_suspectsIn_41 rfl 2 rfl 42 rfl ?_
        obtain ⟨q5, hq5, hf⟩ := b_some hf
        refine x_callV (rest := []) hh mi_X7_someAgeIsLawful [.int v3, .int v1] dX7_suspectsIn_42 sh_0 wd_729 (C_X7_someAgeIsLawful l hX  hq5) rfl rfl ⟨Nat.le_of_ble_eq_true rfl, Nat.le_of_ble_eq_true rfl⟩ (Nat.le_of_ble_eq_true rfl) 45 rfl [.int q5.1] rfl ?_
        refine x_if_eq hh dX7_suspectsIn_45 54 rfl 48 rfl (fun hc6 => ?_) (fun hc6 => ?_)
        · have hf := t_pos hc6 hf
          refine x_sub (lv' := [(0, .ref (X.2.1 0)), (1, .int v1), (2, .int v2), (3, .int v3), (4, .int (st.1 20 v3.toNatClampNeg))]) [1, 2, 3, 4, 0] rfl ?_
          exact Z_X7_suspectsIn_54 hX hh hr ih  v1 v2 v3 (st.1 20 v3.toNatClampNeg) q5.2 hf
        · have hf := t_neg hc6 hf
          refine x_iload_n hh dX7_suspectsIn_48 rfl 3 rfl 49 rfl ?_
          refine x_iconst hh dX7_suspectsIn_49 1 rfl 50 rfl ?_
          refine x_iload_n hh dX7_suspectsIn_50 rfl 4 rfl 51 rfl ?_
          refine x_ishl hh dX7_suspectsIn_51 52 rfl ?_
          refine x_ior hh dX7_suspectsIn_52 53 rfl ?_
          refine x_istore_n hh dX7_suspectsIn_53 rfl (by decide) [(2, .int (v2 ||| (1 <<< (v3 &&& 31)))), (4, .int (st.1 20 v3.toNatClampNeg)), (0, .ref (X.2.1 0)), (1, .int v1), (3, .int v3)] rfl 54 rfl ?_
          refine x_sub (lv' := [(0, .ref (X.2.1 0)), (1, .int v1), (2, .int (v2 ||| (1 <<< (v3 &&& 31)))), (3, .int v3), (4, .int (st.1 20 v3.toNatClampNeg))]) [2, 3, 0, 4, 1] rfl ?_
          exact Z_X7_suspectsIn_54 hX hh hr ih  v1 (v2 ||| (1 <<< (v3 &&& 31))) v3 (st.1 20 v3.toNatClampNeg) q5.2 hf
def F_X7_suspectsIn_0 (v1 : Int32) (st : St) : Option (Int32 × St) := F_X7_suspectsIn_4 fN v1 0 0 st
set_option maxRecDepth 100000 in
set_option maxHeartbeats 4000000 in
theorem Z_X7_suspectsIn_0 {l : Launch} {X : Cx} (hX : Ok X) {p : Program} {e : Env} {s : State} {m : MethodId} {args : Array Value} {below : List Frame} {meth : Method} {c : Code} {rr : Int32} {st' : St} (hh : Hy X p s m args meth c cX7_suspectsIn 5 RX7) (hr : meth.sig.returnType = some .int) (v1 : Int32) (st : St) (hf : F_X7_suspectsIn_0 v1 st = some (rr, st')) : Z X p l e (rmk 5) s m args below meth c 5 (MQ below (Qf X (some (.int rr)) st') args s 0 0 (cA X)) 0 [(0, .ref (X.2.1 0)), (1, .int v1)] [] st := by
  unfold F_X7_suspectsIn_0 at hf
  refine x_iconst hh dX7_suspectsIn_0 0 rfl 1 rfl ?_
  refine x_istore_n hh dX7_suspectsIn_1 rfl (by decide) [(2, .int 0), (0, .ref (X.2.1 0)), (1, .int v1)] rfl 2 rfl ?_
  refine x_iconst hh dX7_suspectsIn_2 0 rfl 3 rfl ?_
  refine x_istore_n hh dX7_suspectsIn_3 rfl (by decide) [(3, .int 0), (2, .int 0), (0, .ref (X.2.1 0)), (1, .int v1)] rfl 4 rfl ?_
  refine x_sub (lv' := [(0, .ref (X.2.1 0)), (1, .int v1), (2, .int 0), (3, .int 0)]) [2, 3, 1, 0] rfl ?_
  exact Z_X7_suspectsIn_4 hX hh hr fN v1 0 0 st hf
def F_X7_suspectsIn (v1 : Int32) (st : St) : Option (Int32 × St) := F_X7_suspectsIn_0  v1 st
set_option maxRecDepth 100000 in
theorem C_X7_suspectsIn (l : Launch) {X : Cx} (hX : Ok X) {v1 : Int32} {st : St} {q : Int32 × St} (hf : F_X7_suspectsIn v1 st = some q) : Ct l X 5 yX7_suspectsIn (.code yX7_suspectsIn cX7_suspectsIn 5 (some .int)) [.ref (X.2.1 0), .int v1] st (some (.int q.1)) q.2 := by
  refine Ct.of hX (by decide) (Nat.le_of_ble_eq_true rfl) ?_
  intro p e s m args below meth c hh hr
  exact Z_X7_suspectsIn_0 hX hh hr v1 st hf

def F_X7_seen_23 (st : St) : Option (Int32 × St) := some ((-1000000002), st)
set_option maxRecDepth 100000 in
set_option maxHeartbeats 4000000 in
theorem Z_X7_seen_23 {l : Launch} {X : Cx} (hX : Ok X) {p : Program} {e : Env} {s : State} {m : MethodId} {args : Array Value} {below : List Frame} {meth : Method} {c : Code} {rr : Int32} {st' : St} (hh : Hy X p s m args meth c cX7_seen 3 RX7) (hr : meth.sig.returnType = some .int) (st : St) (hf : F_X7_seen_23 st = some (rr, st')) : Z X p l e (rmk 6) s m args below meth c 3 (MQ below (Qf X (some (.int rr)) st') args s 0 0 (cA X)) 23 [(0, .ref (X.2.1 0))] [] st := by
  unfold F_X7_seen_23 at hf
  refine x_ldc hh dX7_seen_23 wd_320 25 rfl ?_
  obtain ⟨rfl, rfl⟩ := ret2 hf
  exact x_iret hh hr dX7_seen_25
def F_X7_seen_68 (t0 : Int32) (st : St) : Option (Int32 × St) := some (t0, st)
set_option maxRecDepth 100000 in
set_option maxHeartbeats 4000000 in
theorem Z_X7_seen_68 {l : Launch} {X : Cx} (hX : Ok X) {p : Program} {e : Env} {s : State} {m : MethodId} {args : Array Value} {below : List Frame} {meth : Method} {c : Code} {rr : Int32} {st' : St} (hh : Hy X p s m args meth c cX7_seen 3 RX7) (hr : meth.sig.returnType = some .int) (t0 : Int32) (st : St) (hf : F_X7_seen_68 t0 st = some (rr, st')) : Z X p l e (rmk 6) s m args below meth c 3 (MQ below (Qf X (some (.int rr)) st') args s 0 0 (cA X)) 68 [(0, .ref (X.2.1 0))] [.int t0] st := by
  unfold F_X7_seen_68 at hf
  obtain ⟨rfl, rfl⟩ := ret2 hf
  exact x_iret hh hr dX7_seen_68
def F_X7_seen_0 (v1 : Int32) (v2 : Int32) (st : St) : Option (Int32 × St) := (F_X3_hasRoom 1 v1 st).bind (fun q1 => if q1.1 = 0 then some ((-1000000001), q1.2) else if v2 < 0 then F_X7_seen_23 q1.2 else if v2 ≤ 1 then (F_X1_firstTooHigh 9 v1 q1.2).bind (fun q5 => if q5.1 = ((-1)) then some (0, q5.2) else (F_X6_copyFrom 16 9 q5.2).bind (fun q7 => if v2 = 0 then (F_X7_suspectsIn v1 q7).bind (fun q10 => F_X7_seen_68 q10.1 q10.2) else (F_X7_heelsIn v1 q7).bind (fun q9 => F_X7_seen_68 q9.1 q9.2))) else F_X7_seen_23 q1.2)
set_option maxRecDepth 100000 in
set_option maxHeartbeats 4000000 in
theorem Z_X7_seen_0 {l : Launch} {X : Cx} (hX : Ok X) {p : Program} {e : Env} {s : State} {m : MethodId} {args : Array Value} {below : List Frame} {meth : Method} {c : Code} {rr : Int32} {st' : St} (hh : Hy X p s m args meth c cX7_seen 3 RX7) (hr : meth.sig.returnType = some .int) (v1 : Int32) (v2 : Int32) (st : St) (hf : F_X7_seen_0 v1 v2 st = some (rr, st')) : Z X p l e (rmk 6) s m args below meth c 3 (MQ below (Qf X (some (.int rr)) st') args s 0 0 (cA X)) 0 [(0, .ref (X.2.1 0)), (1, .int v1), (2, .int v2)] [] st := by
  unfold F_X7_seen_0 at hf
  refine x_aload_n hh dX7_seen_0 rfl 0 rfl 1 rfl ?_
  refine x_getR hh cl_7 dX7_seen_1 sh_0 0 1 rfl (Nat.le_of_ble_eq_true rfl) wd_291 4 rfl ?_
  refine x_iload_n hh dX7_seen_4 rfl 1 rfl 5 rfl ?_
  obtain ⟨q1, hq1, hf⟩ := b_some hf
  refine x_callV (rest := []) hh mi_X3_hasRoom [.int v1] dX7_seen_5 sh_1 wd_471 (C_X3_hasRoom l hX ho_1 hq1) rfl rfl ⟨Nat.le_of_ble_eq_true rfl, Nat.le_of_ble_eq_true rfl⟩ (Nat.le_of_ble_eq_true rfl) 8 rfl [.int q1.1] rfl ?_
  refine x_if_ne hh dX7_seen_8 14 rfl 11 rfl (fun hc2 => ?_) (fun hc2 => ?_)
  · have hf := t_neg hc2 hf
    refine x_iload_n hh dX7_seen_14 rfl 2 rfl 15 rfl ?_
    refine x_if_lt hh dX7_seen_15 23 rfl 18 rfl (fun hc3 => ?_) (fun hc3 => ?_)
    · have hf := t_pos hc3 hf
      refine x_sub (lv' := [(0, .ref (X.2.1 0))]) [0] rfl ?_
      exact Z_X7_seen_23 hX hh hr  q1.2 hf
    · have hf := t_neg hc3 hf
      refine x_iload_n hh dX7_seen_18 rfl 2 rfl 19 rfl ?_
      refine x_iconst hh dX7_seen_19 1 rfl 20 rfl ?_
      refine x_icmp_le hh dX7_seen_20 26 rfl 23 rfl (fun hc4 => ?_) (fun hc4 => ?_)
      · have hf := t_pos hc4 hf
        refine x_aload_n hh dX7_seen_26 rfl 0 rfl 27 rfl ?_
        refine x_getR hh cl_7 dX7_seen_27 sh_0 2 15 rfl (Nat.le_of_ble_eq_true rfl) wd_293 30 rfl ?_
        refine x_iload_n hh dX7_seen_30 rfl 1 rfl 31 rfl ?_
        obtain ⟨q5, hq5, hf⟩ := b_some hf
        refine x_callV (rest := []) hh mi_X1_firstTooHigh [.int v1] dX7_seen_31 sh_15 wd_539 (C_X1_firstTooHigh l hX ev_9 hq5) rfl rfl ⟨Nat.le_of_ble_eq_true rfl, Nat.le_of_ble_eq_true rfl⟩ (Nat.le_of_ble_eq_true rfl) 34 rfl [.int q5.1] rfl ?_
        refine x_iconst hh dX7_seen_34 (-1) rfl 35 rfl ?_
        refine x_icmp_ne hh dX7_seen_35 40 rfl 38 rfl (fun hc6 => ?_) (fun hc6 => ?_)
        · have hf := t_neg hc6 hf
          refine x_aload_n hh dX7_seen_40 rfl 0 rfl 41 rfl ?_
          refine x_getR hh cl_7 dX7_seen_41 sh_0 3 16 rfl (Nat.le_of_ble_eq_true rfl) wd_294 44 rfl ?_
          refine x_aload_n hh dX7_seen_44 rfl 0 rfl 45 rfl ?_
          refine x_getR hh cl_7 dX7_seen_45 sh_0 1 9 rfl (Nat.le_of_ble_eq_true rfl) wd_292 48 rfl ?_
          obtain ⟨q7, hq7, hf⟩ := b_some hf
          refine x_callV (rest := []) hh mi_X6_copyFrom [.ref (X.2.1 9)] dX7_seen_48 sh_16 wd_709 (C_X6_copyFrom l hX sc_16 sc_9 hq7) rfl rfl ⟨Nat.le_of_ble_eq_true rfl, Nat.le_of_ble_eq_true rfl⟩ (Nat.le_of_ble_eq_true rfl) 51 rfl [] rfl ?_
          refine x_iload_n hh dX7_seen_51 rfl 2 rfl 52 rfl ?_
          refine x_if_ne hh dX7_seen_52 63 rfl 55 rfl (fun hc8 => ?_) (fun hc8 => ?_)
          · have hf := t_neg hc8 hf
            refine x_aload_n hh dX7_seen_63 rfl 0 rfl 64 rfl ?_
            refine x_iload_n hh dX7_seen_64 rfl 1 rfl 65 rfl ?_
            obtain ⟨q9, hq9, hf⟩ := b_some hf
            refine x_callV (rest := []) hh mi_X7_heelsIn [.int v1] dX7_seen_65 sh_0 wd_736 (C_X7_heelsIn l hX  hq9) rfl rfl ⟨Nat.le_of_ble_eq_true rfl, Nat.le_of_ble_eq_true rfl⟩ (Nat.le_of_ble_eq_true rfl) 68 rfl [.int q9.1] rfl ?_
            refine x_sub (lv' := [(0, .ref (X.2.1 0))]) [0] rfl ?_
            exact Z_X7_seen_68 hX hh hr  q9.1 q9.2 hf
          · have hf := t_pos hc8 hf
            refine x_aload_n hh dX7_seen_55 rfl 0 rfl 56 rfl ?_
            refine x_iload_n hh dX7_seen_56 rfl 1 rfl 57 rfl ?_
            obtain ⟨q10, hq10, hf⟩ := b_some hf
            refine x_callV (rest := []) hh mi_X7_suspectsIn [.int v1] dX7_seen_57 sh_0 wd_726 (C_X7_suspectsIn l hX  hq10) rfl rfl ⟨Nat.le_of_ble_eq_true rfl, Nat.le_of_ble_eq_true rfl⟩ (Nat.le_of_ble_eq_true rfl) 60 rfl [.int q10.1] rfl ?_
            refine x_goto hh dX7_seen_60 68 rfl ?_
            refine x_sub (lv' := [(0, .ref (X.2.1 0))]) [0] rfl ?_
            exact Z_X7_seen_68 hX hh hr  q10.1 q10.2 hf
        · have hf := t_pos hc6 hf
          refine x_iconst hh dX7_seen_38 0 rfl 39 rfl ?_
          obtain ⟨rfl, rfl⟩ := ret2 hf
          exact x_iret hh hr dX7_seen_39
      · have hf := t_neg hc4 hf
        refine x_sub (lv' := [(0, .ref (X.2.1 0))]) [0] rfl ?_
        exact Z_X7_seen_23 hX hh hr  q1.2 hf
  · have hf := t_pos hc2 hf
    refine x_ldc hh dX7_seen_11 wd_475 13 rfl ?_
    obtain ⟨rfl, rfl⟩ := ret2 hf
    exact x_iret hh hr dX7_seen_13
def F_X7_seen (v1 : Int32) (v2 : Int32) (st : St) : Option (Int32 × St) := F_X7_seen_0  v1 v2 st
set_option maxRecDepth 100000 in
theorem C_X7_seen (l : Launch) {X : Cx} (hX : Ok X) {v1 : Int32} {v2 : Int32} {st : St} {q : Int32 × St} (hf : F_X7_seen v1 v2 st = some q) : Ct l X 6 yX7_seen (.code yX7_seen cX7_seen 3 (some .int)) [.ref (X.2.1 0), .int v1, .int v2] st (some (.int q.1)) q.2 := by
  refine Ct.of hX (by decide) (Nat.le_of_ble_eq_true rfl) ?_
  intro p e s m args below meth c hh hr
  exact Z_X7_seen_0 hX hh hr v1 v2 st hf

def F_X7_write_0 (v1 : Int32) (v2 : Int32) (v3 : Int32) (st : St) : Option (Int32 × St) := (F_X7_isComing v1 v2 v3 st).bind (fun q1 => if q1.1 = 0 then some ((-1000000001), q1.2) else if (q1.2.1 41 3) < 20 then (F_X0_append v1 v2 v3 q1.2).bind (fun q4 => some (q4.1 41 3, q4)) else some ((-1000000004), q1.2))
set_option maxRecDepth 100000 in
set_option maxHeartbeats 4000000 in
theorem Z_X7_write_0 {l : Launch} {X : Cx} (hX : Ok X) {p : Program} {e : Env} {s : State} {m : MethodId} {args : Array Value} {below : List Frame} {meth : Method} {c : Code} {rr : Int32} {st' : St} (hh : Hy X p s m args meth c cX7_write 4 RX7) (hr : meth.sig.returnType = some .int) (v1 : Int32) (v2 : Int32) (v3 : Int32) (st : St) (hf : F_X7_write_0 v1 v2 v3 st = some (rr, st')) : Z X p l e (rmk 2) s m args below meth c 4 (MQ below (Qf X (some (.int rr)) st') args s 0 0 (cA X)) 0 [(0, .ref (X.2.1 0)), (1, .int v1), (2, .int v2), (3, .int v3)] [] st := by
  unfold F_X7_write_0 at hf
  refine x_aload_n hh dX7_write_0 rfl 0 rfl 1 rfl ?_
  refine x_iload_n hh dX7_write_1 rfl 1 rfl 2 rfl ?_
  refine x_iload_n hh dX7_write_2 rfl 2 rfl 3 rfl ?_
  refine x_iload_n hh dX7_write_3 rfl 3 rfl 4 rfl ?_
  obtain ⟨q1, hq1, hf⟩ := b_some hf
  refine x_callV (rest := []) hh mi_X7_isComing [.int v1, .int v2, .int v3] dX7_write_4 sh_0 wd_515 (C_X7_isComing l hX  hq1) rfl rfl ⟨Nat.le_of_ble_eq_true rfl, Nat.le_of_ble_eq_true rfl⟩ (Nat.le_of_ble_eq_true rfl) 7 rfl [.int q1.1] rfl ?_
  refine x_if_ne hh dX7_write_7 13 rfl 10 rfl (fun hc2 => ?_) (fun hc2 => ?_)
  · have hf := t_neg hc2 hf
    refine x_aload_n hh dX7_write_13 rfl 0 rfl 14 rfl ?_
    refine x_getR hh cl_7 dX7_write_14 sh_0 8 41 rfl (Nat.le_of_ble_eq_true rfl) wd_299 17 rfl ?_
    refine x_getI hh cl_0 dX7_write_17 sh_41 3 rfl (Nat.le_of_ble_eq_true rfl) wd_286 20 rfl ?_
    refine x_bipush hh dX7_write_20 20 rfl 22 rfl ?_
    refine x_icmp_lt hh dX7_write_22 28 rfl 25 rfl (fun hc3 => ?_) (fun hc3 => ?_)
    · have hf := t_pos hc3 hf
      refine x_aload_n hh dX7_write_28 rfl 0 rfl 29 rfl ?_
      refine x_getR hh cl_7 dX7_write_29 sh_0 8 41 rfl (Nat.le_of_ble_eq_true rfl) wd_299 32 rfl ?_
      refine x_iload_n hh dX7_write_32 rfl 1 rfl 33 rfl ?_
      refine x_iload_n hh dX7_write_33 rfl 2 rfl 34 rfl ?_
      refine x_iload_n hh dX7_write_34 rfl 3 rfl 35 rfl ?_
      obtain ⟨q4, hq4, hf⟩ := b_some hf
      refine x_callV (rest := []) hh mi_X0_append [.int v1, .int v2, .int v3] dX7_write_35 sh_41 wd_743 (C_X0_append l hX  hq4) rfl rfl ⟨Nat.le_of_ble_eq_true rfl, Nat.le_of_ble_eq_true rfl⟩ (Nat.le_of_ble_eq_true rfl) 38 rfl [] rfl ?_
      refine x_aload_n hh dX7_write_38 rfl 0 rfl 39 rfl ?_
      refine x_getR hh cl_7 dX7_write_39 sh_0 8 41 rfl (Nat.le_of_ble_eq_true rfl) wd_299 42 rfl ?_
      refine x_getI hh cl_0 dX7_write_42 sh_41 3 rfl (Nat.le_of_ble_eq_true rfl) wd_286 45 rfl ?_
      obtain ⟨rfl, rfl⟩ := ret2 hf
      exact x_iret hh hr dX7_write_45
    · have hf := t_neg hc3 hf
      refine x_ldc hh dX7_write_25 wd_321 27 rfl ?_
      obtain ⟨rfl, rfl⟩ := ret2 hf
      exact x_iret hh hr dX7_write_27
  · have hf := t_pos hc2 hf
    refine x_ldc hh dX7_write_10 wd_475 12 rfl ?_
    obtain ⟨rfl, rfl⟩ := ret2 hf
    exact x_iret hh hr dX7_write_12
def F_X7_write (v1 : Int32) (v2 : Int32) (v3 : Int32) (st : St) : Option (Int32 × St) := F_X7_write_0  v1 v2 v3 st
set_option maxRecDepth 100000 in
theorem C_X7_write (l : Launch) {X : Cx} (hX : Ok X) {v1 : Int32} {v2 : Int32} {v3 : Int32} {st : St} {q : Int32 × St} (hf : F_X7_write v1 v2 v3 st = some q) : Ct l X 2 yX7_write (.code yX7_write cX7_write 4 (some .int)) [.ref (X.2.1 0), .int v1, .int v2, .int v3] st (some (.int q.1)) q.2 := by
  refine Ct.of hX (by decide) (Nat.le_of_ble_eq_true rfl) ?_
  intro p e s m args below meth c hh hr
  exact Z_X7_write_0 hX hh hr v1 v2 v3 st hf

def F_X7_tear_0 (st : St) : Option (Int32 × St) := bs (sV st 41 3 0) (fun st1 => some (st.1 41 3, st1))
set_option maxRecDepth 100000 in
set_option maxHeartbeats 4000000 in
theorem Z_X7_tear_0 {l : Launch} {X : Cx} (hX : Ok X) {p : Program} {e : Env} {s : State} {m : MethodId} {args : Array Value} {below : List Frame} {meth : Method} {c : Code} {rr : Int32} {st' : St} (hh : Hy X p s m args meth c cX7_tear 2 RX7) (hr : meth.sig.returnType = some .int) (st : St) (hf : F_X7_tear_0 st = some (rr, st')) : Z X p l e (rmk 0) s m args below meth c 2 (MQ below (Qf X (some (.int rr)) st') args s 0 0 (cA X)) 0 [(0, .ref (X.2.1 0))] [] st := by
  unfold F_X7_tear_0 at hf
  refine x_aload_n hh dX7_tear_0 rfl 0 rfl 1 rfl ?_
  refine x_getR hh cl_7 dX7_tear_1 sh_0 8 41 rfl (Nat.le_of_ble_eq_true rfl) wd_299 4 rfl ?_
  refine x_getI hh cl_0 dX7_tear_4 sh_41 3 rfl (Nat.le_of_ble_eq_true rfl) wd_286 7 rfl ?_
  refine x_istore_n hh dX7_tear_7 rfl (by decide) [(1, .int (st.1 41 3)), (0, .ref (X.2.1 0))] rfl 8 rfl ?_
  refine x_aload_n hh dX7_tear_8 rfl 1 rfl 9 rfl ?_
  refine x_getR hh cl_7 dX7_tear_9 sh_0 8 41 rfl (Nat.le_of_ble_eq_true rfl) wd_299 12 rfl ?_
  refine x_iconst hh dX7_tear_12 0 rfl 13 rfl ?_
  obtain ⟨st1, est1, hf⟩ := bs_some hf
  refine x_putI hh cl_0 dX7_tear_13 sh_41 3 rfl (Nat.le_of_ble_eq_true rfl) wd_286 rfl rfl rfl 16 rfl st1 est1 ?_
  refine x_iload_n hh dX7_tear_16 rfl 0 rfl 17 rfl ?_
  obtain ⟨rfl, rfl⟩ := ret2 hf
  exact x_iret hh hr dX7_tear_17
def F_X7_tear (st : St) : Option (Int32 × St) := F_X7_tear_0  st
set_option maxRecDepth 100000 in
theorem C_X7_tear (l : Launch) {X : Cx} (hX : Ok X) {st : St} {q : Int32 × St} (hf : F_X7_tear st = some q) : Ct l X 0 yX7_tear (.code yX7_tear cX7_tear 2 (some .int)) [.ref (X.2.1 0)] st (some (.int q.1)) q.2 := by
  refine Ct.of hX (by decide) (Nat.le_of_ble_eq_true rfl) ?_
  intro p e s m args below meth c hh hr
  exact Z_X7_tear_0 hX hh hr st hf

def F_X7_judge_9 (st : St) : Option (Int32 × St) := some ((-1000000002), st)
set_option maxRecDepth 100000 in
set_option maxHeartbeats 4000000 in
theorem Z_X7_judge_9 {l : Launch} {X : Cx} (hX : Ok X) {p : Program} {e : Env} {s : State} {m : MethodId} {args : Array Value} {below : List Frame} {meth : Method} {c : Code} {rr : Int32} {st' : St} (hh : Hy X p s m args meth c cX7_judge 4 RX7) (hr : meth.sig.returnType = some .int) (st : St) (hf : F_X7_judge_9 st = some (rr, st')) : Z X p l e (rmk 4) s m args below meth c 4 (MQ below (Qf X (some (.int rr)) st') args s 0 0 (cA X)) 9 [(0, .ref (X.2.1 0))] [] st := by
  unfold F_X7_judge_9 at hf
  refine x_ldc hh dX7_judge_9 wd_320 11 rfl ?_
  obtain ⟨rfl, rfl⟩ := ret2 hf
  exact x_iret hh hr dX7_judge_11
def F_X7_judge_97 (t0 : Int32) (st : St) : Option (Int32 × St) := some (t0, st)
set_option maxRecDepth 100000 in
set_option maxHeartbeats 4000000 in
theorem Z_X7_judge_97 {l : Launch} {X : Cx} (hX : Ok X) {p : Program} {e : Env} {s : State} {m : MethodId} {args : Array Value} {below : List Frame} {meth : Method} {c : Code} {rr : Int32} {st' : St} (hh : Hy X p s m args meth c cX7_judge 4 RX7) (hr : meth.sig.returnType = some .int) (t0 : Int32) (st : St) (hf : F_X7_judge_97 t0 st = some (rr, st')) : Z X p l e (rmk 4) s m args below meth c 4 (MQ below (Qf X (some (.int rr)) st') args s 0 0 (cA X)) 97 [(0, .ref (X.2.1 0))] [.int t0] st := by
  unfold F_X7_judge_97 at hf
  obtain ⟨rfl, rfl⟩ := ret2 hf
  exact x_iret hh hr dX7_judge_97
def F_X7_judge_150 (t0 : Int32) (st : St) : Option (Int32 × St) := some (t0, st)
set_option maxRecDepth 100000 in
set_option maxHeartbeats 4000000 in
theorem Z_X7_judge_150 {l : Launch} {X : Cx} (hX : Ok X) {p : Program} {e : Env} {s : State} {m : MethodId} {args : Array Value} {below : List Frame} {meth : Method} {c : Code} {rr : Int32} {st' : St} (hh : Hy X p s m args meth c cX7_judge 4 RX7) (hr : meth.sig.returnType = some .int) (t0 : Int32) (st : St) (hf : F_X7_judge_150 t0 st = some (rr, st')) : Z X p l e (rmk 4) s m args below meth c 4 (MQ below (Qf X (some (.int rr)) st') args s 0 0 (cA X)) 150 [(0, .ref (X.2.1 0))] [.int t0] st := by
  unfold F_X7_judge_150 at hf
  obtain ⟨rfl, rfl⟩ := ret2 hf
  exact x_iret hh hr dX7_judge_150
def F_X7_judge_141 (v1 : Int32) (v2 : Int32) (st : St) : Option (Int32 × St) := if v1 = 0 then F_X7_judge_150 ((-1)) st else F_X7_judge_150 v2 st
set_option maxRecDepth 100000 in
set_option maxHeartbeats 4000000 in
theorem Z_X7_judge_141 {l : Launch} {X : Cx} (hX : Ok X) {p : Program} {e : Env} {s : State} {m : MethodId} {args : Array Value} {below : List Frame} {meth : Method} {c : Code} {rr : Int32} {st' : St} (hh : Hy X p s m args meth c cX7_judge 4 RX7) (hr : meth.sig.returnType = some .int) (v1 : Int32) (v2 : Int32) (st : St) (hf : F_X7_judge_141 v1 v2 st = some (rr, st')) : Z X p l e (rmk 4) s m args below meth c 4 (MQ below (Qf X (some (.int rr)) st') args s 0 0 (cA X)) 141 [(0, .ref (X.2.1 0)), (1, .int v1), (2, .int v2)] [] st := by
  unfold F_X7_judge_141 at hf
  refine x_iload_n hh dX7_judge_141 rfl 1 rfl 142 rfl ?_
  refine x_if_ne hh dX7_judge_142 149 rfl 145 rfl (fun hc17 => ?_) (fun hc17 => ?_)
  · have hf := t_neg hc17 hf
    refine x_iload_n hh dX7_judge_149 rfl 2 rfl 150 rfl ?_
    refine x_sub (lv' := [(0, .ref (X.2.1 0))]) [0] rfl ?_
    exact Z_X7_judge_150 hX hh hr  v2 st hf
  · have hf := t_pos hc17 hf
    refine x_iconst hh dX7_judge_145 (-1) rfl 146 rfl ?_
    refine x_goto hh dX7_judge_146 150 rfl ?_
    refine x_sub (lv' := [(0, .ref (X.2.1 0))]) [0] rfl ?_
    exact Z_X7_judge_150 hX hh hr  ((-1)) st hf
def F_X7_judge_34 : Nat → Int32 → Int32 → Int32 → St → Option (Int32 × St)
  | 0, _, _, _, _ => none
  | n + 1, v1, v2, v3, st => if (st.1 41 3) ≤ v3 then F_X7_judge_141 v1 v2 st else if (20 : Int32) ≤ v3 then F_X7_judge_141 v1 v2 st else gi v3 20 (gi v3 20 (gi v3 20 ((F_X6_canStandAt 16 (st.1 42 v3.toNatClampNeg) (st.1 43 v3.toNatClampNeg) (st.1 44 v3.toNatClampNeg) st).bind (fun q10 => if q10.1 = 0 then if v1 = 0 then F_X7_judge_97 v3 q10.2 else F_X7_judge_97 v2 q10.2 else gi v3 20 (gi v3 20 (gi v3 20 ((F_X1_comesIn 16 (q10.2.1 42 v3.toNatClampNeg) (q10.2.1 43 v3.toNatClampNeg) (q10.2.1 44 v3.toNatClampNeg) q10.2).bind (fun q15 => F_X7_judge_34 n v1 (v2 + q15.1) (v3 + 1) q15.2))))))))
set_option maxRecDepth 100000 in
set_option maxHeartbeats 4000000 in
theorem Z_X7_judge_34 {l : Launch} {X : Cx} (hX : Ok X) {p : Program} {e : Env} {s : State} {m : MethodId} {args : Array Value} {below : List Frame} {meth : Method} {c : Code} {rr : Int32} {st' : St} (hh : Hy X p s m args meth c cX7_judge 4 RX7) (hr : meth.sig.returnType = some .int) : ∀ (n : Nat) (v1 : Int32) (v2 : Int32) (v3 : Int32) (st : St), F_X7_judge_34 n v1 v2 v3 st = some (rr, st') → Z X p l e (rmk 4) s m args below meth c 4 (MQ below (Qf X (some (.int rr)) st') args s 0 0 (cA X)) 34 [(0, .ref (X.2.1 0)), (1, .int v1), (2, .int v2), (3, .int v3)] [] st := by
  intro n
  induction n with
  | zero =>
    intro v1 v2 v3 st hf
    cases hf
  | succ n ih =>
    intro v1 v2 v3 st hf
    rw [F_X7_judge_34] at hf
    refine x_iload_n hh dX7_judge_34 rfl 3 rfl 35 rfl ?_
    refine x_aload_n hh dX7_judge_35 rfl 0 rfl 36 rfl ?_
    refine x_getR hh cl_7 dX7_judge_36 sh_0 8 41 rfl (Nat.le_of_ble_eq_true rfl) wd_299 39 rfl ?_
    refine x_getI hh cl_0 dX7_judge_39 sh_41 3 rfl (Nat.le_of_ble_eq_true rfl) wd_286 42 rfl ?_
    refine x_icmp_ge hh dX7_judge_42 141 rfl 45 rfl (fun hc5 => ?_) (fun hc5 => ?_)
    · have hf := t_pos hc5 hf
      refine x_sub (lv' := [(0, .ref (X.2.1 0)), (1, .int v1), (2, .int v2)]) [0, 1, 2] rfl ?_
      exact Z_X7_judge_141 hX hh hr  v1 v2 st hf
    · have hf := t_neg hc5 hf
      refine x_iload_n hh dX7_judge_45 rfl 3 rfl 46 rfl ?_
      refine x_bipush hh dX7_judge_46 20 rfl 48 rfl ?_
      refine x_icmp_ge hh dX7_judge_48 141 rfl 51 rfl (fun hc6 => ?_) (fun hc6 => ?_)
      · have hf := t_pos hc6 hf
        refine x_sub (lv' := [(0, .ref (X.2.1 0)), (1, .int v1), (2, .int v2)]) [0, 1, 2] rfl ?_
        exact Z_X7_judge_141 hX hh hr  v1 v2 st hf
      · have hf := t_neg hc6 hf
        refine x_aload_n hh dX7_judge_51 rfl 0 rfl 52 rfl ?_
        refine x_getR hh cl_7 dX7_judge_52 sh_0 3 16 rfl (Nat.le_of_ble_eq_true rfl) wd_294 55 rfl ?_
        refine x_aload_n hh dX7_judge_55 rfl 0 rfl 56 rfl ?_
        refine x_getR hh cl_7 dX7_judge_56 sh_0 8 41 rfl (Nat.le_of_ble_eq_true rfl) wd_299 59 rfl ?_
        refine x_getR hh cl_0 dX7_judge_59 sh_41 0 42 rfl (Nat.le_of_ble_eq_true rfl) wd_280 62 rfl ?_
        refine x_iload_n hh dX7_judge_62 rfl 3 rfl 63 rfl ?_
        obtain ⟨hi7, hf⟩ := gi_some hf
        refine x_iaload hh dX7_judge_63 sh_42 hi7 64 rfl ?_
        refine x_aload_n hh dX7_judge_64 rfl 0 rfl 65 rfl ?_
        refine x_getR hh cl_7 dX7_judge_65 sh_0 8 41 rfl (Nat.le_of_ble_eq_true rfl) wd_299 68 rfl ?_
        refine x_getR hh cl_0 dX7_judge_68 sh_41 1 43 rfl (Nat.le_of_ble_eq_true rfl) wd_282 71 rfl ?_
        refine x_iload_n hh dX7_judge_71 rfl 3 rfl 72 rfl ?_
        obtain ⟨hi8, hf⟩ := gi_some hf
        refine x_iaload hh dX7_judge_72 sh_43 hi8 73 rfl ?_
        refine x_aload_n hh dX7_judge_73 rfl 0 rfl 74 rfl ?_
        refine x_getR hh cl_7 dX7_judge_74 sh_0 8 41 rfl (Nat.le_of_ble_eq_true rfl) wd_299 77 rfl ?_
        refine x_getR hh cl_0 dX7_judge_77 sh_41 2 44 rfl (Nat.le_of_ble_eq_true rfl) wd_284 80 rfl ?_
        refine x_iload_n hh dX7_judge_80 rfl 3 rfl 81 rfl ?_
        obtain ⟨hi9, hf⟩ := gi_some hf
        refine x_iaload hh dX7_judge_81 sh_44 hi9 82 rfl ?_
        obtain ⟨q10, hq10, hf⟩ := b_some hf
        refine x_callV (rest := []) hh mi_X6_canStandAt [.int (st.1 42 v3.toNatClampNeg), .int (st.1 43 v3.toNatClampNeg), .int (st.1 44 v3.toNatClampNeg)] dX7_judge_82 sh_16 wd_518 (C_X6_canStandAt l hX sc_16 hq10) rfl rfl ⟨Nat.le_of_ble_eq_true rfl, Nat.le_of_ble_eq_true rfl⟩ (Nat.le_of_ble_eq_true rfl) 85 rfl [.int q10.1] rfl ?_
        refine x_if_ne hh dX7_judge_85 98 rfl 88 rfl (fun hc11 => ?_) (fun hc11 => ?_)
        · have hf := t_neg hc11 hf
          refine x_iload_n hh dX7_judge_98 rfl 2 rfl 99 rfl ?_
          refine x_aload_n hh dX7_judge_99 rfl 0 rfl 100 rfl ?_
          refine x_getR hh cl_7 dX7_judge_100 sh_0 4 22 rfl (Nat.le_of_ble_eq_true rfl) wd_295 103 rfl ?_
          refine x_aload_n hh dX7_judge_103 rfl 0 rfl 104 rfl ?_
          refine x_getR hh cl_7 dX7_judge_104 sh_0 8 41 rfl (Nat.le_of_ble_eq_true rfl) wd_299 107 rfl ?_
          refine x_getR hh cl_0 dX7_judge_107 sh_41 0 42 rfl (Nat.le_of_ble_eq_true rfl) wd_280 110 rfl ?_
          refine x_iload_n hh dX7_judge_110 rfl 3 rfl 111 rfl ?_
          obtain ⟨hi12, hf⟩ := gi_some hf
          refine x_iaload hh dX7_judge_111 sh_42 hi12 112 rfl ?_
          refine x_aload_n hh dX7_judge_112 rfl 0 rfl 113 rfl ?_
          refine x_getR hh cl_7 dX7_judge_113 sh_0 8 41 rfl (Nat.le_of_ble_eq_true rfl) wd_299 116 rfl ?_
          refine x_getR hh cl_0 dX7_judge_116 sh_41 1 43 rfl (Nat.le_of_ble_eq_true rfl) wd_282 119 rfl ?_
          refine x_iload_n hh dX7_judge_119 rfl 3 rfl 120 rfl ?_
          obtain ⟨hi13, hf⟩ := gi_some hf
          refine x_iaload hh dX7_judge_120 sh_43 hi13 121 rfl ?_
          refine x_aload_n hh dX7_judge_121 rfl 0 rfl 122 rfl ?_
          refine x_getR hh cl_7 dX7_judge_122 sh_0 8 41 rfl (Nat.le_of_ble_eq_true rfl) wd_299 125 rfl ?_
          refine x_getR hh cl_0 dX7_judge_125 sh_41 2 44 rfl (Nat.le_of_ble_eq_true rfl) wd_284 128 rfl ?_
          refine x_iload_n hh dX7_judge_128 rfl 3 rfl 129 rfl ?_
          obtain ⟨hi14, hf⟩ := gi_some hf
          refine x_iaload hh dX7_judge_129 sh_44 hi14 130 rfl ?_
          obtain ⟨q15, hq15, hf⟩ := b_some hf
          refine x_callV (rest := [.int v2]) hh mi_X1_comesIn [.int (q10.2.1 42 v3.toNatClampNeg), .int (q10.2.1 43 v3.toNatClampNeg), .int (q10.2.1 44 v3.toNatClampNeg)] dX7_judge_130 sh_22 wd_593 (C_X1_comesIn l hX ev_16 hq15) rfl rfl ⟨Nat.le_of_ble_eq_true rfl, Nat.le_of_ble_eq_true rfl⟩ (Nat.le_of_ble_eq_true rfl) 133 rfl [.int q15.1, .int v2] rfl ?_
          refine x_iadd hh dX7_judge_133 134 rfl ?_
          refine x_istore_n hh dX7_judge_134 rfl (by decide) [(2, .int (v2 + q15.1)), (0, .ref (X.2.1 0)), (1, .int v1), (3, .int v3)] rfl 135 rfl ?_
          refine x_iinc hh dX7_judge_135 3 rfl (v3 + 1) rfl (by decide) [(3, .int (v3 + 1)), (2, .int (v2 + q15.1)), (0, .ref (X.2.1 0)), (1, .int v1)] rfl 138 rfl ?_
          refine x_goto hh dX7_judge_138 34 rfl ?_
          refine x_sub (lv' := [(0, .ref (X.2.1 0)), (1, .int v1), (2, .int (v2 + q15.1)), (3, .int (v3 + 1))]) [2, 3, 1, 0] rfl ?_
          exact ih v1 (v2 + q15.1) (v3 + 1) q15.2 hf
        · have hf := t_pos hc11 hf
          refine x_iload_n hh dX7_judge_88 rfl 1 rfl 89 rfl ?_
          refine x_if_ne hh dX7_judge_89 96 rfl 92 rfl (fun hc16 => ?_) (fun hc16 => ?_)
          · have hf := t_neg hc16 hf
            refine x_iload_n hh dX7_judge_96 rfl 2 rfl 97 rfl ?_
            refine x_sub (lv' := [(0, .ref (X.2.1 0))]) [0] rfl ?_
            exact Z_X7_judge_97 hX hh hr  v2 q10.2 hf
          · have hf := t_pos hc16 hf
            refine x_iload_n hh dX7_judge_92 rfl 3 rfl 93 rfl ?_
            refine x_goto hh dX7_judge_93 97 rfl ?_
            refine x_sub (lv' := [(0, .ref (X.2.1 0))]) [0] rfl ?_
            exact Z_X7_judge_97 hX hh hr  v3 q10.2 hf
def F_X7_judge_0 (v1 : Int32) (st : St) : Option (Int32 × St) := if v1 < 0 then F_X7_judge_9 st else if v1 ≤ 1 then (F_X6_copyFrom 16 9 st).bind (fun q3 => (F_X6_sendAllOut 16 q3).bind (fun q4 => F_X7_judge_34 fN v1 0 0 q4)) else F_X7_judge_9 st
set_option maxRecDepth 100000 in
set_option maxHeartbeats 4000000 in
theorem Z_X7_judge_0 {l : Launch} {X : Cx} (hX : Ok X) {p : Program} {e : Env} {s : State} {m : MethodId} {args : Array Value} {below : List Frame} {meth : Method} {c : Code} {rr : Int32} {st' : St} (hh : Hy X p s m args meth c cX7_judge 4 RX7) (hr : meth.sig.returnType = some .int) (v1 : Int32) (st : St) (hf : F_X7_judge_0 v1 st = some (rr, st')) : Z X p l e (rmk 4) s m args below meth c 4 (MQ below (Qf X (some (.int rr)) st') args s 0 0 (cA X)) 0 [(0, .ref (X.2.1 0)), (1, .int v1)] [] st := by
  unfold F_X7_judge_0 at hf
  refine x_iload_n hh dX7_judge_0 rfl 1 rfl 1 rfl ?_
  refine x_if_lt hh dX7_judge_1 9 rfl 4 rfl (fun hc1 => ?_) (fun hc1 => ?_)
  · have hf := t_pos hc1 hf
    refine x_sub (lv' := [(0, .ref (X.2.1 0))]) [0] rfl ?_
    exact Z_X7_judge_9 hX hh hr  st hf
  · have hf := t_neg hc1 hf
    refine x_iload_n hh dX7_judge_4 rfl 1 rfl 5 rfl ?_
    refine x_iconst hh dX7_judge_5 1 rfl 6 rfl ?_
    refine x_icmp_le hh dX7_judge_6 12 rfl 9 rfl (fun hc2 => ?_) (fun hc2 => ?_)
    · have hf := t_pos hc2 hf
      refine x_aload_n hh dX7_judge_12 rfl 0 rfl 13 rfl ?_
      refine x_getR hh cl_7 dX7_judge_13 sh_0 3 16 rfl (Nat.le_of_ble_eq_true rfl) wd_294 16 rfl ?_
      refine x_aload_n hh dX7_judge_16 rfl 0 rfl 17 rfl ?_
      refine x_getR hh cl_7 dX7_judge_17 sh_0 1 9 rfl (Nat.le_of_ble_eq_true rfl) wd_292 20 rfl ?_
      obtain ⟨q3, hq3, hf⟩ := b_some hf
      refine x_callV (rest := []) hh mi_X6_copyFrom [.ref (X.2.1 9)] dX7_judge_20 sh_16 wd_709 (C_X6_copyFrom l hX sc_16 sc_9 hq3) rfl rfl ⟨Nat.le_of_ble_eq_true rfl, Nat.le_of_ble_eq_true rfl⟩ (Nat.le_of_ble_eq_true rfl) 23 rfl [] rfl ?_
      refine x_aload_n hh dX7_judge_23 rfl 0 rfl 24 rfl ?_
      refine x_getR hh cl_7 dX7_judge_24 sh_0 3 16 rfl (Nat.le_of_ble_eq_true rfl) wd_294 27 rfl ?_
      obtain ⟨q4, hq4, hf⟩ := b_some hf
      refine x_callV (rest := []) hh mi_X6_sendAllOut [] dX7_judge_27 sh_16 wd_713 (C_X6_sendAllOut l hX sc_16 hq4) rfl rfl ⟨Nat.le_of_ble_eq_true rfl, Nat.le_of_ble_eq_true rfl⟩ (Nat.le_of_ble_eq_true rfl) 30 rfl [] rfl ?_
      refine x_iconst hh dX7_judge_30 0 rfl 31 rfl ?_
      refine x_istore_n hh dX7_judge_31 rfl (by decide) [(2, .int 0), (0, .ref (X.2.1 0)), (1, .int v1)] rfl 32 rfl ?_
      refine x_iconst hh dX7_judge_32 0 rfl 33 rfl ?_
      refine x_istore_n hh dX7_judge_33 rfl (by decide) [(3, .int 0), (2, .int 0), (0, .ref (X.2.1 0)), (1, .int v1)] rfl 34 rfl ?_
      refine x_sub (lv' := [(0, .ref (X.2.1 0)), (1, .int v1), (2, .int 0), (3, .int 0)]) [2, 3, 1, 0] rfl ?_
      exact Z_X7_judge_34 hX hh hr fN v1 0 0 q4 hf
    · have hf := t_neg hc2 hf
      refine x_sub (lv' := [(0, .ref (X.2.1 0))]) [0] rfl ?_
      exact Z_X7_judge_9 hX hh hr  st hf
def F_X7_judge (v1 : Int32) (st : St) : Option (Int32 × St) := F_X7_judge_0  v1 st
set_option maxRecDepth 100000 in
theorem C_X7_judge (l : Launch) {X : Cx} (hX : Ok X) {v1 : Int32} {st : St} {q : Int32 × St} (hf : F_X7_judge v1 st = some q) : Ct l X 4 yX7_judge (.code yX7_judge cX7_judge 4 (some .int)) [.ref (X.2.1 0), .int v1] st (some (.int q.1)) q.2 := by
  refine Ct.of hX (by decide) (Nat.le_of_ble_eq_true rfl) ?_
  intro p e s m args below meth c hh hr
  exact Z_X7_judge_0 hX hh hr v1 st hf

def F_X7_drift_11 (st : St) : Option (Int32 × St) := some ((-1000000002), st)
set_option maxRecDepth 100000 in
set_option maxHeartbeats 4000000 in
theorem Z_X7_drift_11 {l : Launch} {X : Cx} (hX : Ok X) {p : Program} {e : Env} {s : State} {m : MethodId} {args : Array Value} {below : List Frame} {meth : Method} {c : Code} {rr : Int32} {st' : St} (hh : Hy X p s m args meth c cX7_drift 4 RX7) (hr : meth.sig.returnType = some .int) (st : St) (hf : F_X7_drift_11 st = some (rr, st')) : Z X p l e (rmk 5) s m args below meth c 4 (MQ below (Qf X (some (.int rr)) st') args s 0 0 (cA X)) 11 [(0, .ref (X.2.1 0))] [] st := by
  unfold F_X7_drift_11 at hf
  refine x_ldc hh dX7_drift_11 wd_320 13 rfl ?_
  obtain ⟨rfl, rfl⟩ := ret2 hf
  exact x_iret hh hr dX7_drift_13
def F_X7_drift_34 (st : St) : Option (Int32 × St) := some ((-1000000003), st)
set_option maxRecDepth 100000 in
set_option maxHeartbeats 4000000 in
theorem Z_X7_drift_34 {l : Launch} {X : Cx} (hX : Ok X) {p : Program} {e : Env} {s : State} {m : MethodId} {args : Array Value} {below : List Frame} {meth : Method} {c : Code} {rr : Int32} {st' : St} (hh : Hy X p s m args meth c cX7_drift 4 RX7) (hr : meth.sig.returnType = some .int) (st : St) (hf : F_X7_drift_34 st = some (rr, st')) : Z X p l e (rmk 5) s m args below meth c 4 (MQ below (Qf X (some (.int rr)) st') args s 0 0 (cA X)) 34 [(0, .ref (X.2.1 0))] [] st := by
  unfold F_X7_drift_34 at hf
  refine x_ldc hh dX7_drift_34 wd_523 36 rfl ?_
  obtain ⟨rfl, rfl⟩ := ret2 hf
  exact x_iret hh hr dX7_drift_36
def F_X7_drift_41 : Nat → Int32 → Int32 → Int32 → St → Option (Int32 × St)
  | 0, _, _, _, _ => none
  | n + 1, v1, v2, v3, st => if v1 ≤ v3 then some (v2, st) else (F_X1_passByDraw 9 st).bind (fun q6 => F_X7_drift_41 n v1 (v2 + q6.1) (v3 + 1) q6.2)
set_option maxRecDepth 100000 in
set_option maxHeartbeats 4000000 in
theorem Z_X7_drift_41 {l : Launch} {X : Cx} (hX : Ok X) {p : Program} {e : Env} {s : State} {m : MethodId} {args : Array Value} {below : List Frame} {meth : Method} {c : Code} {rr : Int32} {st' : St} (hh : Hy X p s m args meth c cX7_drift 4 RX7) (hr : meth.sig.returnType = some .int) : ∀ (n : Nat) (v1 : Int32) (v2 : Int32) (v3 : Int32) (st : St), F_X7_drift_41 n v1 v2 v3 st = some (rr, st') → Z X p l e (rmk 5) s m args below meth c 4 (MQ below (Qf X (some (.int rr)) st') args s 0 0 (cA X)) 41 [(0, .ref (X.2.1 0)), (1, .int v1), (2, .int v2), (3, .int v3)] [] st := by
  intro n
  induction n with
  | zero =>
    intro v1 v2 v3 st hf
    cases hf
  | succ n ih =>
    intro v1 v2 v3 st hf
    rw [F_X7_drift_41] at hf
    refine x_iload_n hh dX7_drift_41 rfl 3 rfl 42 rfl ?_
    refine x_iload_n hh dX7_drift_42 rfl 1 rfl 43 rfl ?_
    refine x_icmp_ge hh dX7_drift_43 62 rfl 46 rfl (fun hc5 => ?_) (fun hc5 => ?_)
    · have hf := t_pos hc5 hf
      refine x_iload_n hh dX7_drift_62 rfl 2 rfl 63 rfl ?_
      obtain ⟨rfl, rfl⟩ := ret2 hf
      exact x_iret hh hr dX7_drift_63
    · have hf := t_neg hc5 hf
      refine x_iload_n hh dX7_drift_46 rfl 2 rfl 47 rfl ?_
      refine x_aload_n hh dX7_drift_47 rfl 0 rfl 48 rfl ?_
      refine x_getR hh cl_7 dX7_drift_48 sh_0 2 15 rfl (Nat.le_of_ble_eq_true rfl) wd_293 51 rfl ?_
      obtain ⟨q6, hq6, hf⟩ := b_some hf
      refine x_callV (rest := [.int v2]) hh mi_X1_passByDraw [] dX7_drift_51 sh_15 wd_759 (C_X1_passByDraw l hX ev_9 hq6) rfl rfl ⟨Nat.le_of_ble_eq_true rfl, Nat.le_of_ble_eq_true rfl⟩ (Nat.le_of_ble_eq_true rfl) 54 rfl [.int q6.1, .int v2] rfl ?_
      refine x_iadd hh dX7_drift_54 55 rfl ?_
      refine x_istore_n hh dX7_drift_55 rfl (by decide) [(2, .int (v2 + q6.1)), (0, .ref (X.2.1 0)), (1, .int v1), (3, .int v3)] rfl 56 rfl ?_
      refine x_iinc hh dX7_drift_56 3 rfl (v3 + 1) rfl (by decide) [(3, .int (v3 + 1)), (2, .int (v2 + q6.1)), (0, .ref (X.2.1 0)), (1, .int v1)] rfl 59 rfl ?_
      refine x_goto hh dX7_drift_59 41 rfl ?_
      refine x_sub (lv' := [(0, .ref (X.2.1 0)), (1, .int v1), (2, .int (v2 + q6.1)), (3, .int (v3 + 1))]) [2, 3, 1, 0] rfl ?_
      exact ih v1 (v2 + q6.1) (v3 + 1) q6.2 hf
def F_X7_drift_0 (v1 : Int32) (st : St) : Option (Int32 × St) := if v1 < 1 then F_X7_drift_11 st else if v1 ≤ 99 then if (st.1 1 1) = 0 then F_X7_drift_34 st else if (st.1 1 0) = 0 then F_X7_drift_34 st else F_X7_drift_41 fN v1 0 0 st else F_X7_drift_11 st
set_option maxRecDepth 100000 in
set_option maxHeartbeats 4000000 in
theorem Z_X7_drift_0 {l : Launch} {X : Cx} (hX : Ok X) {p : Program} {e : Env} {s : State} {m : MethodId} {args : Array Value} {below : List Frame} {meth : Method} {c : Code} {rr : Int32} {st' : St} (hh : Hy X p s m args meth c cX7_drift 4 RX7) (hr : meth.sig.returnType = some .int) (v1 : Int32) (st : St) (hf : F_X7_drift_0 v1 st = some (rr, st')) : Z X p l e (rmk 5) s m args below meth c 4 (MQ below (Qf X (some (.int rr)) st') args s 0 0 (cA X)) 0 [(0, .ref (X.2.1 0)), (1, .int v1)] [] st := by
  unfold F_X7_drift_0 at hf
  refine x_iload_n hh dX7_drift_0 rfl 1 rfl 1 rfl ?_
  refine x_iconst hh dX7_drift_1 1 rfl 2 rfl ?_
  refine x_icmp_lt hh dX7_drift_2 11 rfl 5 rfl (fun hc1 => ?_) (fun hc1 => ?_)
  · have hf := t_pos hc1 hf
    refine x_sub (lv' := [(0, .ref (X.2.1 0))]) [0] rfl ?_
    exact Z_X7_drift_11 hX hh hr  st hf
  · have hf := t_neg hc1 hf
    refine x_iload_n hh dX7_drift_5 rfl 1 rfl 6 rfl ?_
    refine x_bipush hh dX7_drift_6 99 rfl 8 rfl ?_
    refine x_icmp_le hh dX7_drift_8 14 rfl 11 rfl (fun hc2 => ?_) (fun hc2 => ?_)
    · have hf := t_pos hc2 hf
      refine x_aload_n hh dX7_drift_14 rfl 0 rfl 15 rfl ?_
      refine x_getR hh cl_7 dX7_drift_15 sh_0 0 1 rfl (Nat.le_of_ble_eq_true rfl) wd_291 18 rfl ?_
      refine x_getI hh cl_3 dX7_drift_18 sh_1 1 rfl (Nat.le_of_ble_eq_true rfl) wd_112 21 rfl ?_
      refine x_if_eq hh dX7_drift_21 34 rfl 24 rfl (fun hc3 => ?_) (fun hc3 => ?_)
      · have hf := t_pos hc3 hf
        refine x_sub (lv' := [(0, .ref (X.2.1 0))]) [0] rfl ?_
        exact Z_X7_drift_34 hX hh hr  st hf
      · have hf := t_neg hc3 hf
        refine x_aload_n hh dX7_drift_24 rfl 0 rfl 25 rfl ?_
        refine x_getR hh cl_7 dX7_drift_25 sh_0 0 1 rfl (Nat.le_of_ble_eq_true rfl) wd_291 28 rfl ?_
        refine x_getI hh cl_3 dX7_drift_28 sh_1 0 rfl (Nat.le_of_ble_eq_true rfl) wd_109 31 rfl ?_
        refine x_if_ne hh dX7_drift_31 37 rfl 34 rfl (fun hc4 => ?_) (fun hc4 => ?_)
        · have hf := t_neg hc4 hf
          refine x_iconst hh dX7_drift_37 0 rfl 38 rfl ?_
          refine x_istore_n hh dX7_drift_38 rfl (by decide) [(2, .int 0), (0, .ref (X.2.1 0)), (1, .int v1)] rfl 39 rfl ?_
          refine x_iconst hh dX7_drift_39 0 rfl 40 rfl ?_
          refine x_istore_n hh dX7_drift_40 rfl (by decide) [(3, .int 0), (2, .int 0), (0, .ref (X.2.1 0)), (1, .int v1)] rfl 41 rfl ?_
          refine x_sub (lv' := [(0, .ref (X.2.1 0)), (1, .int v1), (2, .int 0), (3, .int 0)]) [2, 3, 1, 0] rfl ?_
          exact Z_X7_drift_41 hX hh hr fN v1 0 0 st hf
        · have hf := t_pos hc4 hf
          refine x_sub (lv' := [(0, .ref (X.2.1 0))]) [0] rfl ?_
          exact Z_X7_drift_34 hX hh hr  st hf
    · have hf := t_neg hc2 hf
      refine x_sub (lv' := [(0, .ref (X.2.1 0))]) [0] rfl ?_
      exact Z_X7_drift_11 hX hh hr  st hf
def F_X7_drift (v1 : Int32) (st : St) : Option (Int32 × St) := F_X7_drift_0  v1 st
set_option maxRecDepth 100000 in
theorem C_X7_drift (l : Launch) {X : Cx} (hX : Ok X) {v1 : Int32} {st : St} {q : Int32 × St} (hf : F_X7_drift v1 st = some q) : Ct l X 5 yX7_drift (.code yX7_drift cX7_drift 4 (some .int)) [.ref (X.2.1 0), .int v1] st (some (.int q.1)) q.2 := by
  refine Ct.of hX (by decide) (Nat.le_of_ble_eq_true rfl) ?_
  intro p e s m args below meth c hh hr
  exact Z_X7_drift_0 hX hh hr v1 st hf

def F_X7_empty_0 (st : St) : Option (Int32 × St) := (F_X6_somewhere 9 st).bind (fun q1 => (F_J6_bitCount_0f7a4 q1.1 q1.2).bind (fun q2 => (F_X6_sendAllOut 9 q2.2).bind (fun q3 => some (q2.1, q3))))
set_option maxRecDepth 100000 in
set_option maxHeartbeats 4000000 in
theorem Z_X7_empty_0 {l : Launch} {X : Cx} (hX : Ok X) {p : Program} {e : Env} {s : State} {m : MethodId} {args : Array Value} {below : List Frame} {meth : Method} {c : Code} {rr : Int32} {st' : St} (hh : Hy X p s m args meth c cX7_empty 2 RX7) (hr : meth.sig.returnType = some .int) (st : St) (hf : F_X7_empty_0 st = some (rr, st')) : Z X p l e (rmk 3) s m args below meth c 2 (MQ below (Qf X (some (.int rr)) st') args s 0 0 (cA X)) 0 [(0, .ref (X.2.1 0))] [] st := by
  unfold F_X7_empty_0 at hf
  refine x_aload_n hh dX7_empty_0 rfl 0 rfl 1 rfl ?_
  refine x_getR hh cl_7 dX7_empty_1 sh_0 1 9 rfl (Nat.le_of_ble_eq_true rfl) wd_292 4 rfl ?_
  obtain ⟨q1, hq1, hf⟩ := b_some hf
  refine x_callV (rest := []) hh mi_X6_somewhere [] dX7_empty_4 sh_9 wd_459 (C_X6_somewhere l hX sc_9 hq1) rfl rfl ⟨Nat.le_of_ble_eq_true rfl, Nat.le_of_ble_eq_true rfl⟩ (Nat.le_of_ble_eq_true rfl) 7 rfl [.int q1.1] rfl ?_
  obtain ⟨q2, hq2, hf⟩ := b_some hf
  refine x_callS (rest := []) hh ms_J6_bitCount_0f7a4 [.int q1.1] dX7_empty_7 wd_700 (C_J6_bitCount_0f7a4 l hX  hq2) rfl rfl ⟨Nat.le_of_ble_eq_true rfl, Nat.le_of_ble_eq_true rfl⟩ (Nat.le_of_ble_eq_true rfl) 10 rfl [.int q2.1] rfl ?_
  refine x_istore_n hh dX7_empty_10 rfl (by decide) [(1, .int q2.1), (0, .ref (X.2.1 0))] rfl 11 rfl ?_
  refine x_aload_n hh dX7_empty_11 rfl 1 rfl 12 rfl ?_
  refine x_getR hh cl_7 dX7_empty_12 sh_0 1 9 rfl (Nat.le_of_ble_eq_true rfl) wd_292 15 rfl ?_
  obtain ⟨q3, hq3, hf⟩ := b_some hf
  refine x_callV (rest := []) hh mi_X6_sendAllOut [] dX7_empty_15 sh_9 wd_713 (C_X6_sendAllOut l hX sc_9 hq3) rfl rfl ⟨Nat.le_of_ble_eq_true rfl, Nat.le_of_ble_eq_true rfl⟩ (Nat.le_of_ble_eq_true rfl) 18 rfl [] rfl ?_
  refine x_iload_n hh dX7_empty_18 rfl 0 rfl 19 rfl ?_
  obtain ⟨rfl, rfl⟩ := ret2 hf
  exact x_iret hh hr dX7_empty_19
def F_X7_empty (st : St) : Option (Int32 × St) := F_X7_empty_0  st
set_option maxRecDepth 100000 in
theorem C_X7_empty (l : Launch) {X : Cx} (hX : Ok X) {st : St} {q : Int32 × St} (hf : F_X7_empty st = some q) : Ct l X 3 yX7_empty (.code yX7_empty cX7_empty 2 (some .int)) [.ref (X.2.1 0)] st (some (.int q.1)) q.2 := by
  refine Ct.of hX (by decide) (Nat.le_of_ble_eq_true rfl) ?_
  intro p e s m args below meth c hh hr
  exact Z_X7_empty_0 hX hh hr st hf

def F_X7_seed_0 (v1 : Int32) (st : St) : Option (Int32 × St) := if (0 : Int32) ≤ v1 then bs (sV st 9 6 v1) (fun st2 => some (st.1 9 6, st2)) else some ((-1000000002), st)
set_option maxRecDepth 100000 in
set_option maxHeartbeats 4000000 in
theorem Z_X7_seed_0 {l : Launch} {X : Cx} (hX : Ok X) {p : Program} {e : Env} {s : State} {m : MethodId} {args : Array Value} {below : List Frame} {meth : Method} {c : Code} {rr : Int32} {st' : St} (hh : Hy X p s m args meth c cX7_seed 3 RX7) (hr : meth.sig.returnType = some .int) (v1 : Int32) (st : St) (hf : F_X7_seed_0 v1 st = some (rr, st')) : Z X p l e (rmk 0) s m args below meth c 3 (MQ below (Qf X (some (.int rr)) st') args s 0 0 (cA X)) 0 [(0, .ref (X.2.1 0)), (1, .int v1)] [] st := by
  unfold F_X7_seed_0 at hf
  refine x_iload_n hh dX7_seed_0 rfl 1 rfl 1 rfl ?_
  refine x_if_ge hh dX7_seed_1 7 rfl 4 rfl (fun hc1 => ?_) (fun hc1 => ?_)
  · have hf := t_pos hc1 hf
    refine x_aload_n hh dX7_seed_7 rfl 0 rfl 8 rfl ?_
    refine x_getR hh cl_7 dX7_seed_8 sh_0 1 9 rfl (Nat.le_of_ble_eq_true rfl) wd_292 11 rfl ?_
    refine x_getI hh cl_6 dX7_seed_11 sh_9 6 rfl (Nat.le_of_ble_eq_true rfl) wd_179 14 rfl ?_
    refine x_istore_n hh dX7_seed_14 rfl (by decide) [(2, .int (st.1 9 6)), (0, .ref (X.2.1 0)), (1, .int v1)] rfl 15 rfl ?_
    refine x_aload_n hh dX7_seed_15 rfl 1 rfl 16 rfl ?_
    refine x_getR hh cl_7 dX7_seed_16 sh_0 1 9 rfl (Nat.le_of_ble_eq_true rfl) wd_292 19 rfl ?_
    refine x_iload_n hh dX7_seed_19 rfl 2 rfl 20 rfl ?_
    obtain ⟨st2, est2, hf⟩ := bs_some hf
    refine x_putI hh cl_6 dX7_seed_20 sh_9 6 rfl (Nat.le_of_ble_eq_true rfl) wd_179 rfl rfl rfl 23 rfl st2 est2 ?_
    refine x_iload_n hh dX7_seed_23 rfl 0 rfl 24 rfl ?_
    obtain ⟨rfl, rfl⟩ := ret2 hf
    exact x_iret hh hr dX7_seed_24
  · have hf := t_neg hc1 hf
    refine x_ldc hh dX7_seed_4 wd_320 6 rfl ?_
    obtain ⟨rfl, rfl⟩ := ret2 hf
    exact x_iret hh hr dX7_seed_6
def F_X7_seed (v1 : Int32) (st : St) : Option (Int32 × St) := F_X7_seed_0  v1 st
set_option maxRecDepth 100000 in
theorem C_X7_seed (l : Launch) {X : Cx} (hX : Ok X) {v1 : Int32} {st : St} {q : Int32 × St} (hf : F_X7_seed v1 st = some q) : Ct l X 0 yX7_seed (.code yX7_seed cX7_seed 3 (some .int)) [.ref (X.2.1 0), .int v1] st (some (.int q.1)) q.2 := by
  refine Ct.of hX (by decide) (Nat.le_of_ble_eq_true rfl) ?_
  intro p e s m args below meth c hh hr
  exact Z_X7_seed_0 hX hh hr v1 st hf

def F_X7_isImage_14 (t0 : Int32) (st : St) : Option (Int32 × St) := gb t0 (some (t0, st))
set_option maxRecDepth 100000 in
set_option maxHeartbeats 4000000 in
theorem Z_X7_isImage_14 {l : Launch} {X : Cx} (hX : Ok X) {p : Program} {e : Env} {s : State} {m : MethodId} {args : Array Value} {below : List Frame} {meth : Method} {c : Code} {rr : Int32} {st' : St} (hh : Hy X p s m args meth c cX7_isImage 2 RX7) (hr : meth.sig.returnType = some .boolean) (t0 : Int32) (st : St) (hf : F_X7_isImage_14 t0 st = some (rr, st')) : Z X p l e (rmk 0) s m args below meth c 2 (MQ below (Qf X (some (.int rr)) st') args s 0 0 (cA X)) 14 [(0, .ref (X.2.1 0))] [.int t0] st := by
  unfold F_X7_isImage_14 at hf
  obtain ⟨hb3, hf⟩ := gb_some hf
  obtain ⟨rfl, rfl⟩ := ret2 hf
  exact x_zret hh hr (nb_n hb3) dX7_isImage_14
def F_X7_isImage_13 (st : St) : Option (Int32 × St) := F_X7_isImage_14 0 st
set_option maxRecDepth 100000 in
set_option maxHeartbeats 4000000 in
theorem Z_X7_isImage_13 {l : Launch} {X : Cx} (hX : Ok X) {p : Program} {e : Env} {s : State} {m : MethodId} {args : Array Value} {below : List Frame} {meth : Method} {c : Code} {rr : Int32} {st' : St} (hh : Hy X p s m args meth c cX7_isImage 2 RX7) (hr : meth.sig.returnType = some .boolean) (st : St) (hf : F_X7_isImage_13 st = some (rr, st')) : Z X p l e (rmk 0) s m args below meth c 2 (MQ below (Qf X (some (.int rr)) st') args s 0 0 (cA X)) 13 [(0, .ref (X.2.1 0))] [] st := by
  unfold F_X7_isImage_13 at hf
  refine x_iconst hh dX7_isImage_13 0 rfl 14 rfl ?_
  exact Z_X7_isImage_14 hX hh hr  0 st hf
def F_X7_isImage_0 (v1 : Int32) (st : St) : Option (Int32 × St) := if v1 < 0 then F_X7_isImage_13 st else if (2 : Int32) ≤ v1 then F_X7_isImage_13 st else F_X7_isImage_14 1 st
set_option maxRecDepth 100000 in
set_option maxHeartbeats 4000000 in
theorem Z_X7_isImage_0 {l : Launch} {X : Cx} (hX : Ok X) {p : Program} {e : Env} {s : State} {m : MethodId} {args : Array Value} {below : List Frame} {meth : Method} {c : Code} {rr : Int32} {st' : St} (hh : Hy X p s m args meth c cX7_isImage 2 RX7) (hr : meth.sig.returnType = some .boolean) (v1 : Int32) (st : St) (hf : F_X7_isImage_0 v1 st = some (rr, st')) : Z X p l e (rmk 0) s m args below meth c 2 (MQ below (Qf X (some (.int rr)) st') args s 0 0 (cA X)) 0 [(0, .ref (X.2.1 0)), (1, .int v1)] [] st := by
  unfold F_X7_isImage_0 at hf
  refine x_iload_n hh dX7_isImage_0 rfl 1 rfl 1 rfl ?_
  refine x_if_lt hh dX7_isImage_1 13 rfl 4 rfl (fun hc1 => ?_) (fun hc1 => ?_)
  · have hf := t_pos hc1 hf
    refine x_sub (lv' := [(0, .ref (X.2.1 0))]) [0] rfl ?_
    exact Z_X7_isImage_13 hX hh hr  st hf
  · have hf := t_neg hc1 hf
    refine x_iload_n hh dX7_isImage_4 rfl 1 rfl 5 rfl ?_
    refine x_iconst hh dX7_isImage_5 2 rfl 6 rfl ?_
    refine x_icmp_ge hh dX7_isImage_6 13 rfl 9 rfl (fun hc2 => ?_) (fun hc2 => ?_)
    · have hf := t_pos hc2 hf
      refine x_sub (lv' := [(0, .ref (X.2.1 0))]) [0] rfl ?_
      exact Z_X7_isImage_13 hX hh hr  st hf
    · have hf := t_neg hc2 hf
      refine x_iconst hh dX7_isImage_9 1 rfl 10 rfl ?_
      refine x_goto hh dX7_isImage_10 14 rfl ?_
      refine x_sub (lv' := [(0, .ref (X.2.1 0))]) [0] rfl ?_
      exact Z_X7_isImage_14 hX hh hr  1 st hf
def F_X7_isImage (v1 : Int32) (st : St) : Option (Int32 × St) := F_X7_isImage_0  v1 st
set_option maxRecDepth 100000 in
theorem C_X7_isImage (l : Launch) {X : Cx} (hX : Ok X) {v1 : Int32} {st : St} {q : Int32 × St} (hf : F_X7_isImage v1 st = some q) : Ct l X 0 yX7_isImage (.code yX7_isImage cX7_isImage 2 (some .boolean)) [.ref (X.2.1 0), .int v1] st (some (.int q.1)) q.2 := by
  refine Ct.of hX (by decide) (Nat.le_of_ble_eq_true rfl) ?_
  intro p e s m args below meth c hh hr
  exact Z_X7_isImage_0 hX hh hr v1 st hf

def F_X7_keep_0 (v1 : Int32) (st : St) : Option (Int32 × St) := (F_X7_isImage v1 st).bind (fun q1 => if q1.1 = 0 then some ((-1000000001), q1.2) else gi v1 2 ((F_X6_copyFrom (imgId v1) 9 q1.2).bind (fun q4 => gi v1 2 (bs (sV q4 58 v1.toNatClampNeg (vp_nar .boolean 1)) (fun st6 => some (1, st6))))))
set_option maxRecDepth 100000 in
set_option maxHeartbeats 4000000 in
theorem Z_X7_keep_0 {l : Launch} {X : Cx} (hX : Ok X) {p : Program} {e : Env} {s : State} {m : MethodId} {args : Array Value} {below : List Frame} {meth : Method} {c : Code} {rr : Int32} {st' : St} (hh : Hy X p s m args meth c cX7_keep 2 RX7) (hr : meth.sig.returnType = some .int) (v1 : Int32) (st : St) (hf : F_X7_keep_0 v1 st = some (rr, st')) : Z X p l e (rmk 4) s m args below meth c 2 (MQ below (Qf X (some (.int rr)) st') args s 0 0 (cA X)) 0 [(0, .ref (X.2.1 0)), (1, .int v1)] [] st := by
  unfold F_X7_keep_0 at hf
  refine x_aload_n hh dX7_keep_0 rfl 0 rfl 1 rfl ?_
  refine x_iload_n hh dX7_keep_1 rfl 1 rfl 2 rfl ?_
  obtain ⟨q1, hq1, hf⟩ := b_some hf
  refine x_callV (rest := []) hh mi_X7_isImage [.int v1] dX7_keep_2 sh_0 wd_784 (C_X7_isImage l hX  hq1) rfl rfl ⟨Nat.le_of_ble_eq_true rfl, Nat.le_of_ble_eq_true rfl⟩ (Nat.le_of_ble_eq_true rfl) 5 rfl [.int q1.1] rfl ?_
  refine x_if_ne hh dX7_keep_5 11 rfl 8 rfl (fun hc2 => ?_) (fun hc2 => ?_)
  · have hf := t_neg hc2 hf
    refine x_aload_n hh dX7_keep_11 rfl 0 rfl 12 rfl ?_
    refine x_getR hh cl_7 dX7_keep_12 sh_0 9 45 rfl (Nat.le_of_ble_eq_true rfl) wd_300 15 rfl ?_
    refine x_iload_n hh dX7_keep_15 rfl 1 rfl 16 rfl ?_
    obtain ⟨hi3, hf⟩ := gi_some hf
    refine x_aaload hh dX7_keep_16 sh_45 hi3 (img_r hi3) 17 rfl ?_
    refine x_aload_n hh dX7_keep_17 rfl 0 rfl 18 rfl ?_
    refine x_getR hh cl_7 dX7_keep_18 sh_0 1 9 rfl (Nat.le_of_ble_eq_true rfl) wd_292 21 rfl ?_
    obtain ⟨q4, hq4, hf⟩ := b_some hf
    refine x_callV (rest := []) hh mi_X6_copyFrom [.ref (X.2.1 9)] dX7_keep_21 (img_sc hi3).1 wd_709 (C_X6_copyFrom l hX (img_sc hi3) sc_9 hq4) rfl rfl ⟨Nat.le_of_ble_eq_true rfl, Nat.le_of_ble_eq_true rfl⟩ (Nat.le_of_ble_eq_true rfl) 24 rfl [] rfl ?_
    refine x_aload_n hh dX7_keep_24 rfl 0 rfl 25 rfl ?_
    refine x_getR hh cl_7 dX7_keep_25 sh_0 10 58 rfl (Nat.le_of_ble_eq_true rfl) wd_301 28 rfl ?_
    refine x_iload_n hh dX7_keep_28 rfl 1 rfl 29 rfl ?_
    refine x_iconst hh dX7_keep_29 1 rfl 30 rfl ?_
    obtain ⟨hi5, hf⟩ := gi_some hf
    obtain ⟨st6, est6, hf⟩ := bs_some hf
    refine x_zastore hh dX7_keep_30 sh_58 hi5 31 rfl st6 est6 ?_
    refine x_iconst hh dX7_keep_31 1 rfl 32 rfl ?_
    obtain ⟨rfl, rfl⟩ := ret2 hf
    exact x_iret hh hr dX7_keep_32
  · have hf := t_pos hc2 hf
    refine x_ldc hh dX7_keep_8 wd_475 10 rfl ?_
    obtain ⟨rfl, rfl⟩ := ret2 hf
    exact x_iret hh hr dX7_keep_10
def F_X7_keep (v1 : Int32) (st : St) : Option (Int32 × St) := F_X7_keep_0  v1 st
set_option maxRecDepth 100000 in
theorem C_X7_keep (l : Launch) {X : Cx} (hX : Ok X) {v1 : Int32} {st : St} {q : Int32 × St} (hf : F_X7_keep v1 st = some q) : Ct l X 4 yX7_keep (.code yX7_keep cX7_keep 2 (some .int)) [.ref (X.2.1 0), .int v1] st (some (.int q.1)) q.2 := by
  refine Ct.of hX (by decide) (Nat.le_of_ble_eq_true rfl) ?_
  intro p e s m args below meth c hh hr
  exact Z_X7_keep_0 hX hh hr v1 st hf

def F_X7_goBack_0 (v1 : Int32) (st : St) : Option (Int32 × St) := (F_X7_isImage v1 st).bind (fun q1 => if q1.1 = 0 then some ((-1000000001), q1.2) else gi v1 2 (if (q1.2.1 58 v1.toNatClampNeg) = 0 then some ((-1000000003), q1.2) else gi v1 2 ((F_X6_copyFrom 9 ((imgId v1)) q1.2).bind (fun q6 => some (1, q6)))))
set_option maxRecDepth 100000 in
set_option maxHeartbeats 4000000 in
theorem Z_X7_goBack_0 {l : Launch} {X : Cx} (hX : Ok X) {p : Program} {e : Env} {s : State} {m : MethodId} {args : Array Value} {below : List Frame} {meth : Method} {c : Code} {rr : Int32} {st' : St} (hh : Hy X p s m args meth c cX7_goBack 2 RX7) (hr : meth.sig.returnType = some .int) (v1 : Int32) (st : St) (hf : F_X7_goBack_0 v1 st = some (rr, st')) : Z X p l e (rmk 4) s m args below meth c 2 (MQ below (Qf X (some (.int rr)) st') args s 0 0 (cA X)) 0 [(0, .ref (X.2.1 0)), (1, .int v1)] [] st := by
  unfold F_X7_goBack_0 at hf
  refine x_aload_n hh dX7_goBack_0 rfl 0 rfl 1 rfl ?_
  refine x_iload_n hh dX7_goBack_1 rfl 1 rfl 2 rfl ?_
  obtain ⟨q1, hq1, hf⟩ := b_some hf
  refine x_callV (rest := []) hh mi_X7_isImage [.int v1] dX7_goBack_2 sh_0 wd_784 (C_X7_isImage l hX  hq1) rfl rfl ⟨Nat.le_of_ble_eq_true rfl, Nat.le_of_ble_eq_true rfl⟩ (Nat.le_of_ble_eq_true rfl) 5 rfl [.int q1.1] rfl ?_
  refine x_if_ne hh dX7_goBack_5 11 rfl 8 rfl (fun hc2 => ?_) (fun hc2 => ?_)
  · have hf := t_neg hc2 hf
    refine x_aload_n hh dX7_goBack_11 rfl 0 rfl 12 rfl ?_
    refine x_getR hh cl_7 dX7_goBack_12 sh_0 10 58 rfl (Nat.le_of_ble_eq_true rfl) wd_301 15 rfl ?_
    refine x_iload_n hh dX7_goBack_15 rfl 1 rfl 16 rfl ?_
    obtain ⟨hi3, hf⟩ := gi_some hf
    refine x_zaload hh dX7_goBack_16 sh_58 hi3 17 rfl ?_
    refine x_if_ne hh dX7_goBack_17 23 rfl 20 rfl (fun hc4 => ?_) (fun hc4 => ?_)
    · have hf := t_neg hc4 hf
      refine x_aload_n hh dX7_goBack_23 rfl 0 rfl 24 rfl ?_
      refine x_getR hh cl_7 dX7_goBack_24 sh_0 1 9 rfl (Nat.le_of_ble_eq_true rfl) wd_292 27 rfl ?_
      refine x_aload_n hh dX7_goBack_27 rfl 0 rfl 28 rfl ?_
      refine x_getR hh cl_7 dX7_goBack_28 sh_0 9 45 rfl (Nat.le_of_ble_eq_true rfl) wd_300 31 rfl ?_
      refine x_iload_n hh dX7_goBack_31 rfl 1 rfl 32 rfl ?_
      obtain ⟨hi5, hf⟩ := gi_some hf
      refine x_aaload hh dX7_goBack_32 sh_45 hi5 (img_r hi5) 33 rfl ?_
      obtain ⟨q6, hq6, hf⟩ := b_some hf
      refine x_callV (rest := []) hh mi_X6_copyFrom [.ref (X.2.1 ((imgId v1)))] dX7_goBack_33 sh_9 wd_709 (C_X6_copyFrom l hX sc_9 (img_sc hi5) hq6) rfl rfl ⟨Nat.le_of_ble_eq_true rfl, Nat.le_of_ble_eq_true rfl⟩ (Nat.le_of_ble_eq_true rfl) 36 rfl [] rfl ?_
      refine x_iconst hh dX7_goBack_36 1 rfl 37 rfl ?_
      obtain ⟨rfl, rfl⟩ := ret2 hf
      exact x_iret hh hr dX7_goBack_37
    · have hf := t_pos hc4 hf
      refine x_ldc hh dX7_goBack_20 wd_523 22 rfl ?_
      obtain ⟨rfl, rfl⟩ := ret2 hf
      exact x_iret hh hr dX7_goBack_22
  · have hf := t_pos hc2 hf
    refine x_ldc hh dX7_goBack_8 wd_475 10 rfl ?_
    obtain ⟨rfl, rfl⟩ := ret2 hf
    exact x_iret hh hr dX7_goBack_10
def F_X7_goBack (v1 : Int32) (st : St) : Option (Int32 × St) := F_X7_goBack_0  v1 st
set_option maxRecDepth 100000 in
theorem C_X7_goBack (l : Launch) {X : Cx} (hX : Ok X) {v1 : Int32} {st : St} {q : Int32 × St} (hf : F_X7_goBack v1 st = some q) : Ct l X 4 yX7_goBack (.code yX7_goBack cX7_goBack 2 (some .int)) [.ref (X.2.1 0), .int v1] st (some (.int q.1)) q.2 := by
  refine Ct.of hX (by decide) (Nat.le_of_ble_eq_true rfl) ?_
  intro p e s m args below meth c hh hr
  exact Z_X7_goBack_0 hX hh hr v1 st hf

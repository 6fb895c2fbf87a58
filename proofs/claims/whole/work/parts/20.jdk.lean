def F_J6_bitCount_0f7a4_0 (v0 : Int32) (st : St) : Option (Int32 × St) := bs (v0 - (((v0.toUInt32 >>> ((1 : Int32).toUInt32 &&& Int32.toUInt32 31)).toInt32) &&& 1431655765)) (fun x1 => bs ((x1 &&& 858993459) + (((x1.toUInt32 >>> ((2 : Int32).toUInt32 &&& Int32.toUInt32 31)).toInt32) &&& 858993459)) (fun x2 => bs ((x2 + ((x2.toUInt32 >>> ((4 : Int32).toUInt32 &&& Int32.toUInt32 31)).toInt32)) &&& 252645135) (fun x3 => bs ((x3 + ((x3.toUInt32 >>> ((8 : Int32).toUInt32 &&& Int32.toUInt32 31)).toInt32)) + (((x3 + ((x3.toUInt32 >>> ((8 : Int32).toUInt32 &&& Int32.toUInt32 31)).toInt32)).toUInt32 >>> ((16 : Int32).toUInt32 &&& Int32.toUInt32 31)).toInt32)) (fun x4 => some (x4 &&& 63, st)))))
set_option maxRecDepth 100000 in
set_option maxHeartbeats 4000000 in
theorem Z_J6_bitCount_0f7a4_0 {l : Launch} {X : Cx} (hX : Ok X) {p : Program} {e : Env} {s : State} {m : MethodId} {args : Array Value} {below : List Frame} {meth : Method} {c : Code} {rr : Int32} {st' : St} (hh : Hy X p s m args meth c cJ6_bitCount_0f7a4 1 RJ6) (hr : meth.sig.returnType = some .int) (v0 : Int32) (st : St) (hf : F_J6_bitCount_0f7a4_0 v0 st = some (rr, st')) : Z X p l e (rmk 0) s m args below meth c 1 (MQ below (Qf X (some (.int rr)) st') args s 0 0 (cA X)) 0 [(0, .int v0)] [] st := by
  unfold F_J6_bitCount_0f7a4_0 at hf
  refine x_iload_n hh dJ6_bitCount_0f7a4_0 rfl 0 rfl 1 rfl ?_
  refine x_iload_n hh dJ6_bitCount_0f7a4_1 rfl 0 rfl 2 rfl ?_
  refine x_iconst hh dJ6_bitCount_0f7a4_2 1 rfl 3 rfl ?_
  refine x_iushr hh dJ6_bitCount_0f7a4_3 4 rfl ?_
  refine x_ldc_w hh dJ6_bitCount_0f7a4_4 wd_703 7 rfl ?_
  refine x_iand hh dJ6_bitCount_0f7a4_7 8 rfl ?_
  refine x_isub hh dJ6_bitCount_0f7a4_8 9 rfl ?_
  obtain ⟨x1, ex1, hf⟩ := bs_some hf
  refine x_nmi ex1 ?_
  refine x_istore_n hh dJ6_bitCount_0f7a4_9 rfl (by decide) [(0, .int x1)] rfl 10 rfl ?_
  refine x_iload_n hh dJ6_bitCount_0f7a4_10 rfl 0 rfl 11 rfl ?_
  refine x_ldc_w hh dJ6_bitCount_0f7a4_11 wd_704 14 rfl ?_
  refine x_iand hh dJ6_bitCount_0f7a4_14 15 rfl ?_
  refine x_iload_n hh dJ6_bitCount_0f7a4_15 rfl 0 rfl 16 rfl ?_
  refine x_iconst hh dJ6_bitCount_0f7a4_16 2 rfl 17 rfl ?_
  refine x_iushr hh dJ6_bitCount_0f7a4_17 18 rfl ?_
  refine x_ldc_w hh dJ6_bitCount_0f7a4_18 wd_704 21 rfl ?_
  refine x_iand hh dJ6_bitCount_0f7a4_21 22 rfl ?_
  refine x_iadd hh dJ6_bitCount_0f7a4_22 23 rfl ?_
  obtain ⟨x2, ex2, hf⟩ := bs_some hf
  refine x_nmi ex2 ?_
  refine x_istore_n hh dJ6_bitCount_0f7a4_23 rfl (by decide) [(0, .int x2)] rfl 24 rfl ?_
  refine x_iload_n hh dJ6_bitCount_0f7a4_24 rfl 0 rfl 25 rfl ?_
  refine x_iload_n hh dJ6_bitCount_0f7a4_25 rfl 0 rfl 26 rfl ?_
  refine x_iconst hh dJ6_bitCount_0f7a4_26 4 rfl 27 rfl ?_
  refine x_iushr hh dJ6_bitCount_0f7a4_27 28 rfl ?_
  refine x_iadd hh dJ6_bitCount_0f7a4_28 29 rfl ?_
  refine x_ldc_w hh dJ6_bitCount_0f7a4_29 wd_705 32 rfl ?_
  refine x_iand hh dJ6_bitCount_0f7a4_32 33 rfl ?_
  obtain ⟨x3, ex3, hf⟩ := bs_some hf
  refine x_nmi ex3 ?_
  refine x_istore_n hh dJ6_bitCount_0f7a4_33 rfl (by decide) [(0, .int x3)] rfl 34 rfl ?_
  refine x_iload_n hh dJ6_bitCount_0f7a4_34 rfl 0 rfl 35 rfl ?_
  refine x_iload_n hh dJ6_bitCount_0f7a4_35 rfl 0 rfl 36 rfl ?_
  refine x_bipush hh dJ6_bitCount_0f7a4_36 8 rfl 38 rfl ?_
  refine x_iushr hh dJ6_bitCount_0f7a4_38 39 rfl ?_
  refine x_iadd hh dJ6_bitCount_0f7a4_39 40 rfl ?_
  refine x_istore_n hh dJ6_bitCount_0f7a4_40 rfl (by decide) [(0, .int (x3 + ((x3.toUInt32 >>> ((8 : Int32).toUInt32 &&& Int32.toUInt32 31)).toInt32)))] rfl 41 rfl ?_
  refine x_iload_n hh dJ6_bitCount_0f7a4_41 rfl 0 rfl 42 rfl ?_
  refine x_iload_n hh dJ6_bitCount_0f7a4_42 rfl 0 rfl 43 rfl ?_
  refine x_bipush hh dJ6_bitCount_0f7a4_43 16 rfl 45 rfl ?_
  refine x_iushr hh dJ6_bitCount_0f7a4_45 46 rfl ?_
  refine x_iadd hh dJ6_bitCount_0f7a4_46 47 rfl ?_
  obtain ⟨x4, ex4, hf⟩ := bs_some hf
  refine x_nmi ex4 ?_
  refine x_istore_n hh dJ6_bitCount_0f7a4_47 rfl (by decide) [(0, .int x4)] rfl 48 rfl ?_
  refine x_iload_n hh dJ6_bitCount_0f7a4_48 rfl 0 rfl 49 rfl ?_
  refine x_bipush hh dJ6_bitCount_0f7a4_49 63 rfl 51 rfl ?_
  refine x_iand hh dJ6_bitCount_0f7a4_51 52 rfl ?_
  obtain ⟨rfl, rfl⟩ := ret2 hf
  exact x_iret hh hr dJ6_bitCount_0f7a4_52
def F_J6_bitCount_0f7a4 (v0 : Int32) (st : St) : Option (Int32 × St) := F_J6_bitCount_0f7a4_0  v0 st
set_option maxRecDepth 100000 in
theorem C_J6_bitCount_0f7a4 (l : Launch) {X : Cx} (hX : Ok X) {v0 : Int32} {st : St} {q : Int32 × St} (hf : F_J6_bitCount_0f7a4 v0 st = some q) : Ct l X 0 yJ6_bitCount_0f7a4 (.code yJ6_bitCount_0f7a4 cJ6_bitCount_0f7a4 1 (some .int)) [.int v0] st (some (.int q.1)) q.2 := by
  refine Ct.of hX (by decide) (Nat.le_of_ble_eq_true rfl) ?_
  intro p e s m args below meth c hh hr
  exact Z_J6_bitCount_0f7a4_0 hX hh hr v0 st hf

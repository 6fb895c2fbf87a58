/-! the String constants' members: by hand -/
def F_J0_length_8abf5 (w : Nat) (st : St) : Option (Int32 × St) := some (Int32.ofNat (strLen.getD w 0), st)
def strCh (w : Nat) (i : Int32) : Int32 := ((((strByt.getD w []).getD i.toNatClampNeg 0) &&& 255).toUInt32 % 65536).toInt32
def F_J0_charAt_5068e (w : Nat) (v1 : Int32) (st : St) : Option (Int32 × St) := gi v1 (strLen.getD w 0) (some (strCh w v1, st))
theorem str_lt {w : Nat} (h : Wo w) : strLen.getD w 0 < 2 ^ 31 := by
  unfold Wo at h
  rcases (show w = 0 ∨ w = 1 ∨ w = 2 by omega) with rfl | rfl | rfl <;> decide
theorem C_J0_coder (l : Launch) {X : Cx} (hX : Ok X) {w : Nat} (hw : Wo w) {st : St} : Ct l X 0 yJ0_coder_7d493 (.code yJ0_coder_7d493 cJ0_coder_7d493 1 (some .byte)) [.ref (X.2.2.2.2.1 w)] st (some (.int 0)) st := by
  refine Ct.of hX (by decide) (Nat.le_of_ble_eq_true rfl) ?_
  intro p e s m args below meth c hh hr
  refine Z.at0 (lv' := [(0, .ref (X.2.2.2.2.1 w))]) rfl ?_
  refine x_gets hh dJ0_coder_7d493_0 wd_355 3 rfl ?_
  refine x_if_eq hh dJ0_coder_7d493_3 13 rfl 6 rfl (fun h => absurd h (by decide)) (fun _ => ?_)
  refine x_aload_n hh dJ0_coder_7d493_6 rfl 0 rfl 7 rfl ?_
  refine x_strC hh hw dJ0_coder_7d493_7 wd_1182 10 rfl ?_
  refine x_goto hh dJ0_coder_7d493_10 14 rfl ?_
  exact x_zret hh hr rfl dJ0_coder_7d493_14
theorem C_J0_isLatin1 (l : Launch) {X : Cx} (hX : Ok X) {w : Nat} (hw : Wo w) {st : St} : Ct l X 0 yJ0_isLatin1_aae02 (.code yJ0_isLatin1_aae02 cJ0_isLatin1_aae02 1 (some .boolean)) [.ref (X.2.2.2.2.1 w)] st (some (.int 1)) st := by
  refine Ct.of hX (by decide) (Nat.le_of_ble_eq_true rfl) ?_
  intro p e s m args below meth c hh hr
  refine Z.at0 (lv' := [(0, .ref (X.2.2.2.2.1 w))]) rfl ?_
  refine x_gets hh dJ0_isLatin1_aae02_0 wd_355 3 rfl ?_
  refine x_if_eq hh dJ0_isLatin1_aae02_3 17 rfl 6 rfl (fun h => absurd h (by decide)) (fun _ => ?_)
  refine x_aload_n hh dJ0_isLatin1_aae02_6 rfl 0 rfl 7 rfl ?_
  refine x_strC hh hw dJ0_isLatin1_aae02_7 wd_1182 10 rfl ?_
  refine x_if_ne hh dJ0_isLatin1_aae02_10 17 rfl 13 rfl (fun h => absurd rfl h) (fun _ => ?_)
  refine x_iconst hh dJ0_isLatin1_aae02_13 1 rfl 14 rfl ?_
  refine x_goto hh dJ0_isLatin1_aae02_14 18 rfl ?_
  exact x_zret hh hr rfl dJ0_isLatin1_aae02_18
theorem C_J0_length_8abf5 (l : Launch) {X : Cx} (hX : Ok X) {w : Nat} (hw : Wo w) {st : St} {q : Int32 × St} (hf : F_J0_length_8abf5 w st = some q) : Ct l X 8 yJ0_length_8abf5 (.code yJ0_length_8abf5 cJ0_length_8abf5 1 (some .int)) [.ref (X.2.2.2.2.1 w)] st (some (.int q.1)) q.2 := by
  cases hf
  refine Ct.of hX (by decide) (Nat.le_of_ble_eq_true rfl) ?_
  intro p e s m args below meth c hh hr
  refine Z.at0 (lv' := [(0, .ref (X.2.2.2.2.1 w))]) rfl ?_
  refine x_aload_n hh dJ0_length_8abf5_0 rfl 0 rfl 1 rfl ?_
  refine x_strV hh hw dJ0_length_8abf5_1 wd_1181 4 rfl ?_
  refine x_strL hh hw dJ0_length_8abf5_4 5 rfl ?_
  refine x_aload_n hh dJ0_length_8abf5_5 rfl 0 rfl 6 rfl ?_
  refine x_callVS (rest := [.int (Int32.ofNat (strLen.getD w 0))]) hh hw mi_J0_coder_7d493 [] dJ0_length_8abf5_6 wd_351 (C_J0_coder l hX hw) rfl rfl ⟨Nat.le_of_ble_eq_true rfl, Nat.le_of_ble_eq_true rfl⟩ (Nat.le_of_ble_eq_true rfl) 9 rfl [.int 0, .int (Int32.ofNat (strLen.getD w 0))] rfl ?_
  refine x_ishr hh dJ0_length_8abf5_9 10 rfl ?_
  refine x_nmi (sb_shr0 _).symm ?_
  exact x_iret hh hr dJ0_length_8abf5_10
theorem C_J3_checkIndex (l : Launch) {X : Cx} (hX : Ok X) {i n : Int32} {v : Value} (hv : v.category = 1) (h0 : ¬ i < 0) (hn : i < n) {st : St} : Ct l X 0 yJ3_checkIndex_8e157 (.code yJ3_checkIndex_8e157 cJ3_checkIndex_8e157 3 (some .int)) [.int i, .int n, v] st (some (.int i)) st := by
  refine Ct.of hX (by decide) (by cases v <;> simp [lg_sl, Value.category] at hv ⊢) ?_
  intro p e s m args below meth c hh hr
  refine Z.at0 (lv' := [(0, .int i), (1, .int n), (2, v)]) rfl ?_
  refine x_iload_n hh dJ3_checkIndex_8e157_0 rfl 0 rfl 1 rfl ?_
  refine x_if_lt hh dJ3_checkIndex_8e157_1 9 rfl 4 rfl (fun h => absurd h h0) (fun _ => ?_)
  refine x_iload_n hh dJ3_checkIndex_8e157_4 rfl 0 rfl 5 rfl ?_
  refine x_iload_n hh dJ3_checkIndex_8e157_5 rfl 1 rfl 6 rfl ?_
  refine x_icmp_lt hh dJ3_checkIndex_8e157_6 16 rfl 9 rfl (fun _ => ?_) (fun h => absurd hn h)
  refine x_iload_n hh dJ3_checkIndex_8e157_16 rfl 0 rfl 17 rfl ?_
  exact x_iret hh hr dJ3_checkIndex_8e157_17
theorem C_J0_checkIndex (l : Launch) {X : Cx} (hX : Ok X) {i n : Int32} (h0 : ¬ i < 0) (hn : i < n) {st : St} : Ct l X 1 yJ0_checkIndex_df160 (.code yJ0_checkIndex_df160 cJ0_checkIndex_df160 2 none) [.int i, .int n] st none st := by
  refine Ct.of hX (by decide) (Nat.le_of_ble_eq_true rfl) ?_
  intro p e s m args below meth c hh hr
  refine Z.at0 (lv' := [(0, .int i), (1, .int n)]) rfl ?_
  refine x_iload_n hh dJ0_checkIndex_df160_0 rfl 0 rfl 1 rfl ?_
  refine x_iload_n hh dJ0_checkIndex_df160_1 rfl 1 rfl 2 rfl ?_
  refine x_getsq hh dJ0_checkIndex_df160_2 wd_370 5 rfl (fun v hv => ?_)
  refine x_callS (rest := []) hh ms_J3_checkIndex_8e157 [.int i, .int n, v] dJ0_checkIndex_df160_5 wd_371 (C_J3_checkIndex l hX hv h0 hn) rfl rfl ⟨Nat.le_of_ble_eq_true rfl, Nat.le_of_ble_eq_true rfl⟩ (Nat.le_of_ble_eq_true rfl) 8 rfl [.int i] rfl ?_
  refine x_pop hh dJ0_checkIndex_df160_8 rfl 9 rfl ?_
  exact x_vret hh hr dJ0_checkIndex_df160_9
theorem C_J1_charAt (l : Launch) {X : Cx} (hX : Ok X) {w : Nat} (hw : Wo w) {i : Int32} (hi : vp_in i (strLen.getD w 0)) {st : St} : Ct l X 2 yJ1_charAt_3b067 (.code yJ1_charAt_3b067 cJ1_charAt_3b067 2 (some .char)) [.ref (X.2.2.2.2.2 w), .int i] st (some (.int (strCh w i))) st := by
  have hn := str_lt hw
  obtain ⟨j, hj, ej⟩ := vp_in_of hi hn
  have h0 : ¬ i < 0 := by rw [ej]; exact nI_pos (by omega)
  have h1 : i < Int32.ofNat (strLen.getD w 0) := by rw [ej]; exact nI_lt hj hn
  refine Ct.of hX (by decide) (Nat.le_of_ble_eq_true rfl) ?_
  intro p e s m args below meth c hh hr
  refine Z.at0 (lv' := [(0, .ref (X.2.2.2.2.2 w)), (1, .int i)]) rfl ?_
  refine x_iload_n hh dJ1_charAt_3b067_0 rfl 1 rfl 1 rfl ?_
  refine x_aload_n hh dJ1_charAt_3b067_1 rfl 0 rfl 2 rfl ?_
  refine x_strL hh hw dJ1_charAt_3b067_2 3 rfl ?_
  refine x_callS (rest := []) hh ms_J0_checkIndex_df160 [.int i, .int (Int32.ofNat (strLen.getD w 0))] dJ1_charAt_3b067_3 wd_367 (C_J0_checkIndex l hX h0 h1) rfl rfl ⟨Nat.le_of_ble_eq_true rfl, Nat.le_of_ble_eq_true rfl⟩ (Nat.le_of_ble_eq_true rfl) 6 rfl [] rfl ?_
  refine x_aload_n hh dJ1_charAt_3b067_6 rfl 0 rfl 7 rfl ?_
  refine x_iload_n hh dJ1_charAt_3b067_7 rfl 1 rfl 8 rfl ?_
  refine x_strB hh hw dJ1_charAt_3b067_8 hi 9 rfl ?_
  refine x_sipush hh dJ1_charAt_3b067_9 255 rfl 12 rfl ?_
  refine x_iand hh dJ1_charAt_3b067_12 13 rfl ?_
  refine x_i2c hh dJ1_charAt_3b067_13 14 rfl ?_
  exact x_zret hh hr (pk_nc _) dJ1_charAt_3b067_14
theorem C_J0_charAt_5068e (l : Launch) {X : Cx} (hX : Ok X) {w : Nat} (hw : Wo w) {v1 : Int32} {st : St} {q : Int32 × St} (hf : F_J0_charAt_5068e w v1 st = some q) : Ct l X 8 yJ0_charAt_5068e (.code yJ0_charAt_5068e cJ0_charAt_5068e 2 (some .char)) [.ref (X.2.2.2.2.1 w), .int v1] st (some (.int q.1)) q.2 := by
  obtain ⟨hi, hf⟩ := gi_some hf
  cases hf
  refine Ct.of hX (by decide) (Nat.le_of_ble_eq_true rfl) ?_
  intro p e s m args below meth c hh hr
  refine Z.at0 (lv' := [(0, .ref (X.2.2.2.2.1 w)), (1, .int v1)]) rfl ?_
  refine x_aload_n hh dJ0_charAt_5068e_0 rfl 0 rfl 1 rfl ?_
  refine x_callVS (rest := []) hh hw mi_J0_isLatin1_aae02 [] dJ0_charAt_5068e_1 wd_360 (C_J0_isLatin1 l hX hw) rfl rfl ⟨Nat.le_of_ble_eq_true rfl, Nat.le_of_ble_eq_true rfl⟩ (Nat.le_of_ble_eq_true rfl) 4 rfl [.int 1] rfl ?_
  refine x_if_eq hh dJ0_charAt_5068e_4 16 rfl 7 rfl (fun h => absurd h (by decide)) (fun _ => ?_)
  refine x_aload_n hh dJ0_charAt_5068e_7 rfl 0 rfl 8 rfl ?_
  refine x_strV hh hw dJ0_charAt_5068e_8 wd_1181 11 rfl ?_
  refine x_iload_n hh dJ0_charAt_5068e_11 rfl 1 rfl 12 rfl ?_
  refine x_callS (rest := []) hh ms_J1_charAt_3b067 [.ref (X.2.2.2.2.2 w), .int v1] dJ0_charAt_5068e_12 wd_364 (C_J1_charAt l hX hw hi) rfl rfl ⟨Nat.le_of_ble_eq_true rfl, Nat.le_of_ble_eq_true rfl⟩ (Nat.le_of_ble_eq_true rfl) 15 rfl [.int (strCh w v1)] rfl ?_
  exact x_zret hh hr (pk_nc _) dJ0_charAt_5068e_15

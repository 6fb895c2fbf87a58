/-! copyRow: by hand -/
def F_X7_copyRow (a b : Nat) (st : St) : Option St := some (sA st b (va_cpy (st.1 a) (st.1 b) 0 0 (lenOf a)))
theorem imn_self (x : Int32) : imn x x = x := by simp [imn]
set_option maxRecDepth 100000 in
theorem C_X7_copyRow (l : Launch) {X : Cx} (hX : Ok X) {a b n : Nat} {st : St} {q : St} (ha : shp[a]? = some (.inl (0, n))) (hb : shp[b]? = some (.inl (0, n))) (hf : F_X7_copyRow a b st = some q) : Ct l X 2 yX7_copyRow (.code yX7_copyRow cX7_copyRow 2 (none)) [.ref (X.2.1 a), .ref (X.2.1 b)] st none q := by
  have hn : n < 2 ^ 31 := by
    have h1 : ∀ c ∈ shp, ∀ t n : Nat, c = .inl (t, n) → n < 2 ^ 31 := by
      intro c hc t n e
      have h2 : shp.all (fun c => match c with | .inl q => decide (q.2 < 2 ^ 31) | _ => true) = true := by decide +kernel
      have h3 := List.all_eq_true.mp h2 c hc
      rw [e] at h3
      simpa using h3
    exact h1 _ (List.mem_of_getElem? ha) 0 n rfl
  have hl : lenOf a = n := by simp [lenOf, ha]
  refine Ct.of hX (by decide) (Nat.le_of_ble_eq_true rfl) ?_
  intro p e s m args below meth c hh hr
  obtain ⟨st1, e1, hf⟩ := bs_some (a := sA st b (va_cpy (st.1 a) (st.1 b) 0 0 (lenOf a))) (f := fun x => some x) hf
  rw [hl] at e1
  refine Z.at0 (lv' := [(0, .ref (X.2.1 a)), (1, .ref (X.2.1 b))]) rfl ?_
  refine x_aload_n hh dX7_copyRow_0 rfl 0 rfl 1 rfl ?_
  refine x_iconst hh dX7_copyRow_1 0 rfl 2 rfl ?_
  refine x_aload_n hh dX7_copyRow_2 rfl 1 rfl 3 rfl ?_
  refine x_iconst hh dX7_copyRow_3 0 rfl 4 rfl ?_
  refine x_aload_n hh dX7_copyRow_4 rfl 0 rfl 5 rfl ?_
  refine x_alen hh dX7_copyRow_5 ha ⟨_, rfl⟩ (Int32.ofNat n) rfl 6 rfl ?_
  refine x_aload_n hh dX7_copyRow_6 rfl 1 rfl 7 rfl ?_
  refine x_alen hh dX7_copyRow_7 hb ⟨_, rfl⟩ (Int32.ofNat n) rfl 8 rfl ?_
  refine x_mmin hh dX7_copyRow_8 wd_425 wd_426 wd_89 wd_427 ⟨Nat.le_of_ble_eq_true rfl, Nat.le_of_ble_eq_true rfl⟩ 11 rfl ?_
  rw [imn_self]
  refine x_copyi hh dX7_copyRow_11 wd_428 wd_430 wd_429 wd_90 ha hb rfl hn ⟨Nat.le_of_ble_eq_true rfl, by decide⟩ 14 rfl st1 e1 ?_
  cases hf
  exact x_vret hh hr dX7_copyRow_14

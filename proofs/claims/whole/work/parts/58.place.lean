/-! PURE: whole views written; standing, leaving, the lowest free place -/
def setV (sc : Nat) (v : Vw) (st : St) : St := (fun a => if a = sc + 1 then v.1 else if a = sc + 2 then v.2.1 else if a = sc + 3 then v.2.2.1 else if a = sc + 4 then v.2.2.2.1 else if a = sc + 5 then v.2.2.2.2 else st.1 a, st.2)
def setM (v : Vw) (st : St) : St := (fun a => if a = 69 then v.1 else if a = 70 then v.2.1 else if a = 71 then v.2.2.1 else if a = 67 then v.2.2.2.1 else if a = 68 then v.2.2.2.2 else st.1 a, st.2)
theorem vC_setV (sc : Nat) (v : Vw) (st : St) : vC sc (setV sc v st) = v := by
  obtain ⟨a, b, c, d, e⟩ := v
  simp [vC, setV]
theorem vM_setM (v : Vw) (st : St) : vM (setM v st) = v := by
  obtain ⟨a, b, c, d, e⟩ := v
  simp [vM, setM]
theorem setV_off {sc a : Nat} {v : Vw} {st : St} (h : a ≤ sc ∨ sc + 6 ≤ a) : (setV sc v st).1 a = st.1 a := by
  simp only [setV]
  rw [if_neg (by omega), if_neg (by omega), if_neg (by omega), if_neg (by omega), if_neg (by omega)]
theorem setM_off {a : Nat} {v : Vw} {st : St} (h : a ≤ 66 ∨ 72 ≤ a) : (setM v st).1 a = st.1 a := by
  simp only [setM]
  rw [if_neg (by omega), if_neg (by omega), if_neg (by omega), if_neg (by omega), if_neg (by omega)]
theorem St_ext {a b : St} (h1 : ∀ i, a.1 i = b.1 i) (h2 : a.2 = b.2) : a = b := Prod.ext (funext h1) h2
theorem setV_setV (sc : Nat) (v w : Vw) (st : St) : setV sc w (setV sc v st) = setV sc w st := by
  refine St_ext (fun i => ?_) rfl
  by_cases c0 : i = sc + 1
  · subst c0; simp [setV]
  by_cases c1 : i = sc + 2
  · subst c1; simp [setV]
  by_cases c2 : i = sc + 3
  · subst c2; simp [setV]
  by_cases c3 : i = sc + 4
  · subst c3; simp [setV]
  by_cases c4 : i = sc + 5
  · subst c4; simp [setV]
  simp [setV, c0, c1, c2, c3, c4]
theorem setV_self (sc : Nat) (st : St) : setV sc (vC sc st) st = st := by
  refine St_ext (fun i => ?_) rfl
  by_cases c0 : i = sc + 1
  · subst c0; simp [vC, setV]
  by_cases c1 : i = sc + 2
  · subst c1; simp [vC, setV]
  by_cases c2 : i = sc + 3
  · subst c2; simp [vC, setV]
  by_cases c3 : i = sc + 4
  · subst c3; simp [vC, setV]
  by_cases c4 : i = sc + 5
  · subst c4; simp [vC, setV]
  simp [vC, setV, c0, c1, c2, c3, c4]
theorem setM_setM (v w : Vw) (st : St) : setM w (setM v st) = setM w st := by
  refine St_ext (fun i => ?_) rfl
  by_cases c0 : i = 69
  · subst c0; simp [setM]
  by_cases c1 : i = 70
  · subst c1; simp [setM]
  by_cases c2 : i = 71
  · subst c2; simp [setM]
  by_cases c3 : i = 67
  · subst c3; simp [setM]
  by_cases c4 : i = 68
  · subst c4; simp [setM]
  simp [setM, c0, c1, c2, c3, c4]
theorem setM_self (st : St) : setM (vM st) st = st := by
  refine St_ext (fun i => ?_) rfl
  by_cases c0 : i = 69
  · subst c0; simp [vM, setM]
  by_cases c1 : i = 70
  · subst c1; simp [vM, setM]
  by_cases c2 : i = 71
  · subst c2; simp [vM, setM]
  by_cases c3 : i = 67
  · subst c3; simp [vM, setM]
  by_cases c4 : i = 68
  · subst c4; simp [vM, setM]
  simp [vM, setM, c0, c1, c2, c3, c4]
theorem sA_V1 (sc : Nat) (v : Vw) (st : St) (f : Nat → Int32) : sA (setV sc v st) (sc + 1) f = setV sc (f, v.2) st := by
  refine St_ext (fun i => ?_) rfl
  simp only [setV, sA]
  by_cases c : i = sc + 1
  · simp [c]
  · simp [c]
theorem sA_V2 (sc : Nat) (v : Vw) (st : St) (f : Nat → Int32) : sA (setV sc v st) (sc + 2) f = setV sc (v.1, f, v.2.2) st := by
  refine St_ext (fun i => ?_) rfl
  simp only [setV, sA]
  by_cases c : i = sc + 2
  · subst c; simp
  · simp [c]
theorem sA_V3 (sc : Nat) (v : Vw) (st : St) (f : Nat → Int32) : sA (setV sc v st) (sc + 3) f = setV sc (v.1, v.2.1, f, v.2.2.2) st := by
  refine St_ext (fun i => ?_) rfl
  simp only [setV, sA]
  by_cases c : i = sc + 3
  · subst c; simp
  · simp [c]
theorem sA_V4 (sc : Nat) (v : Vw) (st : St) (f : Nat → Int32) : sA (setV sc v st) (sc + 4) f = setV sc (v.1, v.2.1, v.2.2.1, f, v.2.2.2.2) st := by
  refine St_ext (fun i => ?_) rfl
  simp only [setV, sA]
  by_cases c : i = sc + 4
  · subst c; simp
  · simp [c]
theorem sA_V5 (sc : Nat) (v : Vw) (st : St) (f : Nat → Int32) : sA (setV sc v st) (sc + 5) f = setV sc (v.1, v.2.1, v.2.2.1, v.2.2.2.1, f) st := by
  refine St_ext (fun i => ?_) rfl
  simp only [setV, sA]
  by_cases c : i = sc + 5
  · subst c; simp
  · simp [c]
theorem sA_M69 (v : Vw) (st : St) (f : Nat → Int32) : sA (setM v st) 69 f = setM (f, v.2) st := by
  refine St_ext (fun i => ?_) rfl
  simp only [setM, sA]
  by_cases c : i = 69
  · subst c; simp
  · simp [c]
theorem sA_M70 (v : Vw) (st : St) (f : Nat → Int32) : sA (setM v st) 70 f = setM (v.1, f, v.2.2) st := by
  refine St_ext (fun i => ?_) rfl
  simp only [setM, sA]
  by_cases c : i = 70
  · subst c; simp
  · simp [c]
theorem sA_M71 (v : Vw) (st : St) (f : Nat → Int32) : sA (setM v st) 71 f = setM (v.1, v.2.1, f, v.2.2.2) st := by
  refine St_ext (fun i => ?_) rfl
  simp only [setM, sA]
  by_cases c : i = 71
  · subst c; simp
  · simp [c]
theorem sA_M67 (v : Vw) (st : St) (f : Nat → Int32) : sA (setM v st) 67 f = setM (v.1, v.2.1, v.2.2.1, f, v.2.2.2.2) st := by
  refine St_ext (fun i => ?_) rfl
  simp only [setM, sA]
  by_cases c : i = 67
  · subst c; simp
  · simp [c]
theorem sA_M68 (v : Vw) (st : St) (f : Nat → Int32) : sA (setM v st) 68 f = setM (v.1, v.2.1, v.2.2.1, v.2.2.2.1, f) st := by
  refine St_ext (fun i => ?_) rfl
  simp only [setM, sA]
  by_cases c : i = 68
  · subst c; simp
  · simp [c]
theorem sA_Moff {i : Nat} (h : i ≤ 66 ∨ 72 ≤ i) (v : Vw) (st : St) (f : Nat → Int32) : sA (setM v st) i f = setM v (sA st i f) := by
  refine St_ext (fun j => ?_) rfl
  simp only [setM, sA]
  by_cases c : j = i
  · subst c
    rw [if_pos rfl, if_neg (by omega), if_neg (by omega), if_neg (by omega), if_neg (by omega), if_neg (by omega), if_pos rfl]
  · simp [c]

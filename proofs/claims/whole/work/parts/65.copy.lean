/-! PURE: copies of scenes; all sent out -/
def mix6 (f g : Nat → Int32) : Nat → Int32 := fun j => if j < 6 then f j else g j
theorem cpy6 (f g : Nat → Int32) : va_cpy f g 0 0 6 = mix6 f g := by
  funext j
  unfold va_cpy mix6
  by_cases c : j < 6
  · rw [if_pos ⟨Nat.zero_le _, by omega⟩, if_pos c]; simp
  · rw [if_neg (fun q => c (by omega)), if_neg c]
theorem mix6_lt {f g : Nat → Int32} {p : Nat} (h : p < 6) : mix6 f g p = f p := by simp [mix6, h]
theorem len6 {sc : Nat} (h : Sc sc) : lenOf (sc + 1) = 6 ∧ lenOf (sc + 2) = 6 ∧ lenOf (sc + 3) = 6 ∧ lenOf (sc + 4) = 6 ∧ lenOf (sc + 5) = 6 := by
  obtain ⟨-, h1, h2, h3, h4, h5⟩ := h
  simp [lenOf, h1, h2, h3, h4, h5]
def mixV (u v : Vw) : Vw := (mix6 u.1 v.1, mix6 u.2.1 v.2.1, mix6 u.2.2.1 v.2.2.1, mix6 u.2.2.2.1 v.2.2.2.1, mix6 u.2.2.2.2 v.2.2.2.2)
/-- a scene becomes another -/
def cpS (sc sc0 : Nat) (st : St) : St := sV (sV (setV sc (mixV (vC sc0 st) (vC sc st)) st) sc 5 (st.1 sc0 5)) sc 6 (st.1 sc0 6)
theorem P_copyFrom {sc sc0 : Nat} (h0 : Sc sc0) (hd : sc + 6 ≤ sc0 ∨ sc0 + 6 ≤ sc) (st : St) : F_X6_copyFrom sc sc0 st = some (cpS sc sc0 st) := by
  obtain ⟨l1, l2, l3, l4, l5⟩ := len6 h0
  have o : ∀ a, sc0 ≤ a → a ≤ sc0 + 5 → ∀ j, sc ≤ j → j ≤ sc + 5 → a ≠ j := by intro a h1 h2 j h3 h4; omega
  simp only [F_X6_copyFrom, F_X6_copyFrom_0, F_X7_copyRow, Option.bind_some, l1, l2, l3, l4, l5, cpy6, bs]
  have key : sA (sA (sA (sA (sA st (sc + 1) (mix6 (st.1 (sc0 + 1)) (st.1 (sc + 1)))) (sc + 2) (mix6 (st.1 (sc0 + 2)) (st.1 (sc + 2)))) (sc + 3) (mix6 (st.1 (sc0 + 3)) (st.1 (sc + 3)))) (sc + 4) (mix6 (st.1 (sc0 + 4)) (st.1 (sc + 4)))) (sc + 5) (mix6 (st.1 (sc0 + 5)) (st.1 (sc + 5))) = setV sc (mixV (vC sc0 st) (vC sc st)) st := by
    rw [← setV_self sc st, sA_V1, sA_V2, sA_V3, sA_V4, sA_V5, setV_self]
    rfl
  rw [sA_off (show sc0 + 2 ≠ sc + 1 by omega), sA_off (show sc + 2 ≠ sc + 1 by omega)]
  rw [sA_off (show sc0 + 3 ≠ sc + 2 by omega), sA_off (show sc0 + 3 ≠ sc + 1 by omega), sA_off (show sc + 3 ≠ sc + 2 by omega), sA_off (show sc + 3 ≠ sc + 1 by omega)]
  rw [sA_off (show sc0 + 4 ≠ sc + 3 by omega), sA_off (show sc0 + 4 ≠ sc + 2 by omega), sA_off (show sc0 + 4 ≠ sc + 1 by omega), sA_off (show sc + 4 ≠ sc + 3 by omega), sA_off (show sc + 4 ≠ sc + 2 by omega), sA_off (show sc + 4 ≠ sc + 1 by omega)]
  rw [sA_off (show sc0 + 5 ≠ sc + 4 by omega), sA_off (show sc0 + 5 ≠ sc + 3 by omega), sA_off (show sc0 + 5 ≠ sc + 2 by omega), sA_off (show sc0 + 5 ≠ sc + 1 by omega), sA_off (show sc + 5 ≠ sc + 4 by omega), sA_off (show sc + 5 ≠ sc + 3 by omega), sA_off (show sc + 5 ≠ sc + 2 by omega), sA_off (show sc + 5 ≠ sc + 1 by omega)]
  rw [key]
  have e5 : (setV sc (mixV (vC sc0 st) (vC sc st)) st).1 sc0 = st.1 sc0 := setV_off (by omega)
  rw [e5, sV_off (show sc0 ≠ sc by omega), e5]
  rfl
/-- nobody is anywhere, among the first j -/
def allOut (j : Nat) (v : Vw) : Vw := ((fun p => if p < j then -1 else v.1 p), (fun p => if p < j then -1 else v.2.1 p), (fun p => if p < j then 0 else v.2.2.1 p), v.2.2.2)
theorem allOut_s (j : Nat) (v : Vw) : ouS (allOut j v) j = allOut (j + 1) v := by
  have e : ∀ (f : Nat → Int32) (x : Int32), upd (fun p => if p < j then x else f p) j x = fun p => if p < j + 1 then x else f p := by
    intro f x
    funext p
    unfold upd
    by_cases c : p = j
    · subst c; simp
    · have : (p < j + 1) = (p < j) := propext (by omega)
      simp only [c, if_false, this]
  simp only [ouS, stS, allOut, e]
theorem allOut_0 (v : Vw) : allOut 0 v = v := by simp [allOut]
theorem P_sendAllOut {sc : Nat} (v : Vw) (st : St) : F_X6_sendAllOut sc (setV sc v st) = some (setV sc (allOut 6 v) st) := by
  have hL := upn (n := 6) (P := fun N j => F_X6_sendAllOut_2 sc N (nI j) (setV sc (allOut j v) st) = some (setV sc (allOut 6 v) st))
    (fun N => by simp only [F_X6_sendAllOut_2, t6, if_true]) (fun N j hj ih => by
      simp only [F_X6_sendAllOut_2, f6 hj, if_false, P_goOut hj, Option.bind_some, allOut_s, nI_1]
      exact ih) fN 0 (by decide) (fN0 (by decide))
  rw [allOut_0] at hL
  exact hL
theorem VV_allOut {k n : Nat} {pc : Nat → Nat} {v : Vw} (h : VV k n pc v) (hn : n ≤ 6) : VV k n pc (allOut 6 v) := by
  refine ⟨fun p hp => Or.inr ⟨?_, ?_⟩, h.2.1, fun p h1 h2 => ?_, fun p q hp hq _ _ e => ?_⟩
  · simp [allOut, show p < 6 by omega]
  · simp [allOut, show p < 6 by omega]
  · simp [allOut, h2]
  · simp [allOut, show p < 6 by omega] at e
theorem Ag_allOut {n : Nat} {v w : Vw} (h : Ag n v w) (hn : n ≤ 6) : Ag n (allOut 6 v) (allOut 6 w) := by
  refine ⟨fun p hp => ?_, fun p h1 h2 => by simp [allOut, h2]⟩
  have hp6 : p < 6 := by omega
  refine ⟨?_, ?_, (h.1 p hp).2.2.1, (h.1 p hp).2.2.2.1, ?_⟩ <;> simp [allOut, hp6]

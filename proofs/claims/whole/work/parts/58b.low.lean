theorem HC_V {k n : Nat} {pc : Nat → Nat} {st : St} (h : HC k n pc st) {sc : Nat} (hsc : 9 ≤ sc) (v : Vw) : HC k n pc (setV sc v st) := by
  obtain ⟨h1, h2, h3, h4, h5⟩ := h
  refine ⟨h1, h2, ?_, ?_, fun r hr => ?_⟩
  · rw [setV_off (by omega)]; exact h3
  · rw [setV_off (by omega)]; exact h4
  · rw [setV_off (by omega)]; exact h5 r hr
theorem HM_M {k n : Nat} {pc : Nat → Nat} {st : St} (h : HM k n pc st) (v : Vw) : HM k n pc (setM v st) := by
  obtain ⟨h1, h2, h3, h4, h5⟩ := h
  refine ⟨h1, h2, ?_, ?_, fun r hr => ?_⟩
  · rw [setM_off (by omega)]; exact h3
  · rw [setM_off (by omega)]; exact h4
  · rw [setM_off (by omega)]; exact h5 r hr
/-- somebody stands at a place, without bend -/
def stS (v : Vw) (p : Nat) (r i : Int32) : Vw := (upd v.1 p r, upd v.2.1 p i, upd v.2.2.1 p 0, v.2.2.2)
def ouS (v : Vw) (p : Nat) : Vw := stS v p (-1) (-1)
theorem setV_at1 (sc : Nat) (v : Vw) (st : St) : (setV sc v st).1 (sc + 1) = v.1 := by simp [setV]
theorem setV_at2 (sc : Nat) (v : Vw) (st : St) : (setV sc v st).1 (sc + 2) = v.2.1 := by simp [setV]
theorem setV_at3 (sc : Nat) (v : Vw) (st : St) : (setV sc v st).1 (sc + 3) = v.2.2.1 := by simp [setV]
theorem setV_at4 (sc : Nat) (v : Vw) (st : St) : (setV sc v st).1 (sc + 4) = v.2.2.2.1 := by simp [setV]
theorem setV_at5 (sc : Nat) (v : Vw) (st : St) : (setV sc v st).1 (sc + 5) = v.2.2.2.2 := by simp [setV]
theorem P_standAt {sc p : Nat} (hp : p < 6) (r i : Int32) (v : Vw) (st : St) : F_X6_standAt sc (nI p) r i (setV sc v st) = some (setV sc (stS v p r i) st) := by
  simp only [F_X6_standAt, F_X6_standAt_0, g6 hp, c6 hp, bs, sV, setV_at1, sA_V1, setV_at2, sA_V2, setV_at3, sA_V3]
  rfl
theorem P_goOut {sc p : Nat} (hp : p < 6) (v : Vw) (st : St) : F_X6_goOut sc (nI p) (setV sc v st) = some (setV sc (ouS v p) st) := by
  simp only [F_X6_goOut, F_X6_goOut_0, P_standAt hp, Option.bind_some]
  rfl
theorem setM_69 (v : Vw) (st : St) : (setM v st).1 69 = v.1 := by simp [setM]
theorem setM_70 (v : Vw) (st : St) : (setM v st).1 70 = v.2.1 := by simp [setM]
theorem setM_71 (v : Vw) (st : St) : (setM v st).1 71 = v.2.2.1 := by simp [setM]
theorem setM_67 (v : Vw) (st : St) : (setM v st).1 67 = v.2.2.2.1 := by simp [setM]
theorem setM_68 (v : Vw) (st : St) : (setM v st).1 68 = v.2.2.2.2 := by simp [setM]
theorem M_leaveNow {p : Nat} (hp : p < 6) (v : Vw) (st : St) : F_X8_leaveNow (nI p) (setM v st) = some (setM (ouS v p) st) := by
  simp only [F_X8_leaveNow, F_X8_leaveNow_0, g6 hp, c6 hp, bs, sV, setM_69, sA_M69, setM_70, sA_M70, setM_71, sA_M71]
  rfl
/-- nobody is there -/
def freeS (v : Vw) (r i : Int32) (n : Nat) : Bool := (whoL v.1 v.2.1 r i n).isNone
theorem P_whoFree {k n : Nat} {pc : Nat → Nat} {v : Vw} (hV : VV k n pc v) (hn : n ≤ 6) {sc r : Nat} (hr : r < 3) (i : Int32) (st : St) : ∃ o : Option Nat, F_X6_whoIsAt sc (nI r) i (setV sc v st) = some (oI o, setV sc v st) ∧ (oI o = -1 ↔ freeS v (nI r) i n = true) ∧ o = whoL v.1 v.2.1 (nI r) i n := by
  refine ⟨whoL v.1 v.2.1 (nI r) i n, ?_, ?_, rfl⟩
  · rw [P_whoIsAt, setV_at1, setV_at2, who_eq hV hn (fun _ _ => rfl) (fun _ _ => rfl) hr]
  · rw [oI_eq (fun p hp => by have := (whoL_some _ _ hp).1; omega)]
    unfold freeS
    cases whoL v.1 v.2.1 (nI r) i n <;> simp
/-- the free place with the lowest floor, the first of like ones, among the first j -/
def lowS (fl : Nat → Int32) (v : Vw) (r n : Nat) : Nat → Option Nat
  | 0 => none
  | j + 1 => match lowS fl v r n j with
    | none => if freeS v (nI r) (nI j) n then some j else none
    | some a => if freeS v (nI r) (nI j) n && !decide (fl (r * 6 + a) ≤ fl (r * 6 + j)) then some j else some a
theorem lowS_some {fl : Nat → Int32} {v : Vw} {r n : Nat} : ∀ j a, lowS fl v r n j = some a → a < j ∧ freeS v (nI r) (nI a) n = true := by
  intro j
  induction j with
  | zero => intro a h; cases h
  | succ j ih =>
    intro a h
    rw [lowS] at h
    cases hl : lowS fl v r n j with
    | none =>
      rw [hl] at h
      dsimp only at h
      split at h
      · cases h; rename_i hf; exact ⟨by omega, hf⟩
      · cases h
    | some b =>
      rw [hl] at h
      dsimp only at h
      split at h
      · cases h; rename_i hf; simp at hf; exact ⟨by omega, hf.1⟩
      · cases h; have := ih _ hl; exact ⟨by omega, this.2⟩
theorem P_lowestFree {k n : Nat} {pc : Nat → Nat} {v : Vw} {st : St} (h : HC k n pc st) (hV : VV k n pc v) {sc r : Nat} (hsc : 9 ≤ sc) (hr : r < k) : F_X1_lowestFree sc (nI r) (setV sc v st) = some (oI (lowS (st.1 3) v r n (pc r)), setV sc v st) := by
  have hn : n ≤ 6 := h.2.1
  have hk : k ≤ 3 := h.1
  have hS := HC_V h hsc v
  have hpc := h.2.2.2.2 r hr
  have e3 : (setV sc v st).1 3 = st.1 3 := setV_off (by omega)
  have hL := upn (n := pc r) (P := fun N j => F_X1_lowestFree_4 sc N (nI r) (oI (lowS (st.1 3) v r n j)) (nI j) (setV sc v st) = some (oI (lowS (st.1 3) v r n (pc r)), setV sc v st))
    (fun N => by simp only [F_X1_lowestFree_4, P_placesOf hS hr, Option.bind_some, tn, if_true]) (fun N j hj ih => by
      obtain ⟨o, w1, w2, -⟩ := P_whoFree hV hn (sc := sc) (r := r) (by omega) (nI j) st
      simp only [F_X1_lowestFree_4, P_placesOf hS hr, Option.bind_some, fn hpc.2.2 hj, if_false, F_X1_lowestFree_42, F_X1_lowestFree_47, F_X1_lowestFree_69, nI_1, w1]
      rw [lowS] at ih
      cases hl : lowS (st.1 3) v r n j with
      | none =>
        rw [hl] at ih
        dsimp only at ih
        rw [if_pos oI_none, if_neg (by decide)]
        by_cases c : freeS v (nI r) (nI j) n = true
        · rw [if_pos (w2.mpr c)]; rw [if_pos c] at ih; exact ih
        · rw [if_neg (fun q => c (w2.mp q))]; rw [if_neg c] at ih; exact ih
      | some a =>
        have ha := (lowS_some j a hl).1
        rw [hl] at ih
        dsimp only at ih
        rw [if_neg (show ¬ oI (some a) = -1 from nI_ne1 (by omega))]
        rw [show oI (some a) = nI a from rfl]
        simp only [P_floorAt hS hr hj, P_floorAt hS hr (show a < pc r by omega), Option.bind_some, e3, w1]
        by_cases c2 : st.1 3 (r * 6 + a) ≤ st.1 3 (r * 6 + j)
        · rw [if_pos c2]
          simp only [if_true]
          rw [if_neg (by simp [c2])] at ih; exact ih
        · rw [if_neg c2, if_neg (by decide)]
          by_cases c : freeS v (nI r) (nI j) n = true
          · rw [if_pos (w2.mpr c)]; rw [if_pos (by rw [c, decide_eq_false c2]; rfl)] at ih; exact ih
          · rw [if_neg (fun q => c (w2.mp q))]; rw [if_neg (by simp [c])] at ih; exact ih) fN 0 (by omega) (fN0 (by omega))
  exact hL

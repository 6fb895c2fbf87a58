/-! PURE: somebody comes in (the reference) -/
theorem M_lowestFree {k n : Nat} {pc : Nat → Nat} {st : St} (h : HM k n pc st) {r : Nat} (hr : r < k) : F_X8_lowestFree (nI r) st = some (oI (lowS (st.1 61) (vM st) r n (pc r)), st) := by
  have hn : n ≤ 6 := h.2.1
  have hk : k ≤ 3 := h.1
  have hpc := h.2.2.2.2 r hr
  have hr3 : r < 3 := by omega
  have ei : ∀ i, 6 * nI r + nI i = nI (r * 6 + i) := fun i => by rw [litN 6, pk_mul, nI_add, Nat.mul_comm]
  have hL := upn (n := pc r) (P := fun N j => F_X8_lowestFree_4 N (nI r) (oI (lowS (st.1 61) (vM st) r n j)) (nI j) st = some (oI (lowS (st.1 61) (vM st) r n (pc r)), st))
    (fun N => by simp only [F_X8_lowestFree_4, gi_in hr3 (show 3 < 2 ^ 31 by decide), clN (show r < 2 ^ 31 by omega), hpc.1, tn, if_true]) (fun N j hj ih => by
      have hw := M_whoAt h (nI r) (nI j)
      obtain ⟨o, ho⟩ : ∃ o, o = whoL (st.1 69) (st.1 70) (nI r) (nI j) n := ⟨_, rfl⟩
      rw [← ho] at hw
      have hwo : ∀ p, o = some p → p < 2 ^ 31 := fun p hp => by rw [hp] at ho; have := (whoL_some _ _ ho.symm).1; omega
      have hfr : freeS (vM st) (nI r) (nI j) n = o.isNone := by unfold freeS; rw [ho]; rfl
      have hneg : ((0 : Int32) ≤ oI o) = (o.isNone = false) := by
        have := oI_neg hwo
        cases o with
        | none => simp only [oI, eq_iff_iff]; decide
        | some p => simp only [oI, eq_iff_iff]; constructor
                    · intro _; rfl
                    · intro _; exact nI_pos' (hwo p rfl)
      simp only [F_X8_lowestFree_4, gi_in hr3 (show 3 < 2 ^ 31 by decide), clN (show r < 2 ^ 31 by omega), hpc.1, fn hpc.2.2 hj, if_false, F_X8_lowestFree_43, F_X8_lowestFree_48, F_X8_lowestFree_68, F_X8_lowestFree_69, hw, Option.bind_some, nI_1, hneg]
      rw [lowS, hfr] at ih
      cases hl : lowS (st.1 61) (vM st) r n j with
      | none =>
        rw [hl] at ih
        dsimp only at ih
        rw [if_pos (show oI none < 0 by decide)]
        cases hon : o.isNone with
        | true => rw [hon, if_pos rfl] at ih; rw [if_neg (by decide), if_neg (by decide)]; exact ih
        | false => rw [hon, if_neg (by decide)] at ih; rw [if_pos rfl]; exact ih
      | some a =>
        have ha := (lowS_some j a hl).1
        rw [hl] at ih
        dsimp only at ih
        rw [if_neg (show ¬ oI (some a) < 0 from nI_pos (by omega)), show oI (some a) = nI a from rfl, ei, ei, gi_in (show r * 6 + j < 18 by omega) (by decide), gi_in (show r * 6 + a < 18 by omega) (by decide), clN (show r * 6 + j < 2 ^ 31 by omega), clN (show r * 6 + a < 2 ^ 31 by omega)]
        by_cases c2 : st.1 61 (r * 6 + a) ≤ st.1 61 (r * 6 + j)
        · rw [if_pos c2]
          simp only [if_true]
          rw [if_neg (by simp [c2])] at ih
          split <;> exact ih
        · rw [if_neg c2, if_neg (show ¬ (1 : Int32) = 0 by decide)]
          cases hon : o.isNone with
          | true => rw [hon, if_pos (by rw [decide_eq_false c2]; rfl)] at ih; rw [if_neg (by decide)]; exact ih
          | false => rw [hon, if_neg (by simp)] at ih; rw [if_pos rfl]; exact ih) fN 0 (by omega) (fN0 (by omega))
  exact hL
/-- floors, inches, knees are small -/
def BdM (k n : Nat) (pc : Nat → Nat) (fl K : Nat → Int32) (v : Vw) : Prop := (∀ r, r < k → ∀ i, i < pc r → 0 ≤ (fl (r * 6 + i)).toInt ∧ (fl (r * 6 + i)).toInt ≤ 40) ∧ (∀ p, p < n → 20 ≤ (v.2.2.2.2 p).toInt ∧ (v.2.2.2.2 p).toInt ≤ 90) ∧ ∀ p, p < n → 0 ≤ (K p).toInt ∧ (K p).toInt ≤ 40
theorem tl_bd {k n : Nat} {pc : Nat → Nat} {fl K : Nat → Int32} {v : Vw} (hk : k ≤ 3) (hpc : ∀ r, r < k → pc r ≤ 6) (h : BdM k n pc fl K v) {p : Nat} (hp : p < n) (hi : inP k pc v p) : 20 ≤ (tl fl v p).toInt ∧ (tl fl v p).toInt ≤ 130 := by
  obtain ⟨r, i, h1, h2, h3, h4⟩ := hi
  have := hpc r h1
  have a := h.1 r h1 i h2
  have b := h.2.1 p hp
  unfold tl
  rw [h3, h4, clN (by omega), clN (by omega), tadd (by omega) (by omega)]
  omega
theorem BdM_I {k n : Nat} {pc : Nat → Nat} {fl K : Nat → Int32} {v w : Vw} (h : BdM k n pc fl K v) (e : w.2.2.2.2 = v.2.2.2.2) : BdM k n pc fl K w := ⟨h.1, fun p hp => by rw [e]; exact h.2.1 p hp, h.2.2⟩
def scr (st : St) (t b : Nat → Int32) : St := sA (sA st 80 t) 81 b
theorem HM_scr {k n : Nat} {pc : Nat → Nat} {st : St} (h : HM k n pc st) (t b : Nat → Int32) : HM k n pc (scr st t b) := HM_sA (HM_sA h (by omega) t) (by omega) b
theorem scr_off {st : St} {t b : Nat → Int32} {i : Nat} (h : i ≠ 80 ∧ i ≠ 81) : (scr st t b).1 i = st.1 i := by unfold scr; rw [sA_off h.2, sA_off h.1]
theorem scr_scr (st : St) (t b t' b' : Nat → Int32) : scr (scr st t b) t' b' = scr st t' b' := by
  unfold scr
  rw [sA_comm (sA st 80 t) (show 81 ≠ 80 by decide), sA_sA, sA_sA]
theorem M_bowNowV {k n : Nat} {pc : Nat → Nat} {w : Vw} {st : St} (h : HM k n pc st) {r lw : Nat} (hV : VV k n pc w) (hl : st.1 59 10 = nI lw) (hlw : lw ≤ 1) (hr : r < k) (hB : BdM k n pc (st.1 61) (st.1 64) w) : ∃ t b, F_X8_bowNow (nI r) (setM w st) = some (nI (bwV lw (st.1 61) (st.1 64) n r w).1, setM (w.1, w.2.1, mixB n (mkS (fun p => decide (w.1 p = nI r)) n) (bwV lw (st.1 61) (st.1 64) n r w).2 w.2.2.1, w.2.2.2) (scr st t b)) := by
  have hk : k ≤ 3 := h.1
  have hpc : ∀ r, r < k → pc r ≤ 6 := fun r hr => (h.2.2.2.2 r hr).2.2
  have e61 : (setM w st).1 61 = st.1 61 := setM_off (by omega)
  have e64 : (setM w st).1 64 = st.1 64 := setM_off (by omega)
  have e10 : (setM w st).1 59 10 = nI lw := by rw [setM_off (by omega)]; exact hl
  obtain ⟨t, b, hh⟩ := M_bowNow (HM_M h w) (r := r) (lw := lw) (by rw [vM_setM]; exact hV) e10 hlw hr (fun p hp e => by
    rw [vM_setM, e61]
    rw [setM_69] at e
    have := tl_bd hk hpc hB hp (hV.at hk h.2.1 (by have := h.2.1; omega) hr e).2
    omega) (fun p hp => by rw [e64]; have := hB.2.2 p hp; omega)
  refine ⟨t, b, ?_⟩
  rw [vM_setM, e61, e64, setM_67, setM_69, setM_71, sA_Moff (show 80 ≤ 66 ∨ 72 ≤ 80 by omega), sA_Moff (show 81 ≤ 66 ∨ 72 ≤ 81 by omega), sA_M71] at hh
  exact hh
/-- what the reference asks: who would be too high -/
theorem M_ask {k n : Nat} {pc : Nat → Nat} {w : Vw} {st : St} (h : HM k n pc st) {r lw : Nat} (hV : VV k n pc w) (hl : st.1 59 10 = nI lw) (hlw : lw ≤ 1) (hr : r < k) (hB : BdM k n pc (st.1 61) (st.1 64) w) : ∃ t b, F_X8_isIn (nI r) (setM w st) = some (nI (mkS (fun p => decide (w.1 p = nI r)) n), setM w st) ∧ F_X8_takeTall (nI (mkS (fun p => decide (w.1 p = nI r)) n)) (setM w st) = some (setM w (sA st 80 t)) ∧ F_X8_bowAll (nI (mkS (fun p => decide (w.1 p = nI r)) n)) (setM w (sA st 80 t)) = some (nI (bwV lw (st.1 61) (st.1 64) n r w).1, setM w (scr st t b)) := by
  have hn : n ≤ 6 := h.2.1
  have hk : k ≤ 3 := h.1
  have hpc : ∀ r, r < k → pc r ≤ 6 := fun r hr => (h.2.2.2.2 r hr).2.2
  have e61 : (setM w st).1 61 = st.1 61 := setM_off (by omega)
  have hI := M_isIn (HM_M h w) (nI r)
  rw [setM_69] at hI
  obtain ⟨s, hs⟩ : ∃ s, s = mkS (fun p => decide (w.1 p = nI r)) n := ⟨_, rfl⟩
  have hs64 : s < 64 := by rw [hs]; exact mkS_lt _ n hn
  have hsbit : ∀ q, q < 6 → s.testBit q = (decide (q < n) && decide (w.1 q = nI r)) := fun q hq => by rw [hs]; exact mkS_bit _ n hn q hq
  have hsin : ∀ q, q < n → s.testBit q = true → inP k pc w q := fun q hq hb => by
    rw [hsbit q (by omega)] at hb
    simp [hq] at hb
    exact (hV.at hk hn (by omega) hr hb).2
  have hT := M_takeTall (HM_M h w) hs64 (fun p hp hb => by rw [vM_setM]; exact hsin p hp hb)
  rw [sA_Moff (show 80 ≤ 66 ∨ 72 ≤ 80 by omega), vM_setM, e61] at hT
  obtain ⟨t, ht⟩ : ∃ t : Nat → Int32, t = fun p => if p < n then (if s.testBit p then tl (st.1 61) w p else 0) else (setM w st).1 80 p := ⟨_, rfl⟩
  rw [← ht] at hT
  have htp : ∀ q, q < n → s.testBit q = true → t q = tl (st.1 61) w q := fun q hq hb => by rw [ht]; simp [hq, hb]
  have hH := HM_M (HM_sA h (show 61 ≤ 80 by omega) t) w
  have e80 : (setM w (sA st 80 t)).1 80 = t := by rw [setM_off (by omega), sA_at]
  have e64 : (setM w (sA st 80 t)).1 64 = st.1 64 := by rw [setM_off (by omega), sA_off (by omega)]
  have e10 : (setM w (sA st 80 t)).1 59 10 = nI lw := by rw [setM_off (by omega), sA_off (by omega)]; exact hl
  have hBA := M_bowAll (s := s) (lw := lw) hH e10 hlw hs64 (fun q h1 h2 => by rw [hsbit q h2]; have : ¬ q < n := by omega
                                                                              simp [this]) (fun p hp hb => by rw [e80, htp p hp hb]; have := tl_bd hk hpc hB hp (hsin p hp hb); omega) (fun p hp => by rw [e64]; have := hB.2.2 p hp; omega)
  rw [e80, e64, setM_67, sA_Moff (show 81 ≤ 66 ∨ 72 ≤ 81 by omega)] at hBA
  rw [bwS_congr (A' := w.2.2.2.1) (T' := tl (st.1 61) w) (K' := st.1 64) (fun _ _ => rfl) (fun _ _ => rfl) 6 s none _ 0 htp hs64 hn] at hBA
  have hb6 : ∀ q, n ≤ q → s.testBit q = false := by
    intro q hq
    by_cases c : q < 6
    · rw [hsbit q c]
      have : ¬ q < n := by omega
      simp [this]
    · exact Nat.testBit_lt_two_pow (Nat.lt_of_lt_of_le hs64 (by rw [show (64 : Nat) = 2 ^ 6 from rfl]; exact Nat.pow_le_pow_right (by decide) (by omega)))
  obtain ⟨q1, _⟩ := bwS_B (lw := lw) (A := w.2.2.2.1) (T := tl (st.1 61) w) (K := st.1 64) hn 6 s none ((setM w (sA st 80 t)).1 81) w.2.2.1 0 hs64 pop_le hb6
  rw [q1] at hBA
  rw [← hs] at hI ⊢
  refine ⟨t, (bwS lw w.2.2.2.1 (tl (st.1 61) w) (st.1 64) n 6 s none ((setM w (sA st 80 t)).1 81) 0).2, hI, hT, ?_⟩
  rw [hBA]
  unfold bwV scr
  rw [← hs]

/-! PURE: the first who is too high; rooms that have a fault -/
theorem imx_eq {a b : Int32} : (if b ≤ a then a else b) = imx a b := by
  unfold imx
  by_cases c : b ≤ a
  · rw [if_pos c, if_neg (Int32.not_lt.mpr c)]
  · rw [if_neg c, if_pos (Int32.not_le.mp c)]
theorem mxS_pos (c : Nat → Bool) (d : Nat → Int32) : ∀ n, 0 ≤ mxS c d n := by
  intro n
  induction n with
  | zero => exact Int32.le_refl _
  | succ n ih =>
    rw [mxS]
    split
    · unfold imx; split
      · rename_i h; exact Int32.le_of_lt (Int32.lt_of_le_of_lt ih h)
      · exact ih
    · exact ih
theorem imx_pos {a : Int32} (h : 0 ≤ a) : imx a 0 = a := by unfold imx; rw [if_neg (Int32.not_lt.mpr h)]
theorem mxS_one {d : Nat → Int32} {e : Nat} : ∀ n, mxS (fun q => decide (q = e)) d n = if e < n then imx 0 (d e) else 0 := by
  intro n
  induction n with
  | zero => simp [mxS]
  | succ n ih =>
    rw [mxS, ih]
    by_cases c : n = e
    · subst c; simp
    · simp only [c, decide_false, Bool.false_eq_true, if_false]
      have : (e < n + 1) = (e < n) := propext (by omega)
      simp only [this]
theorem mxS_congr {c c' : Nat → Bool} {d d' : Nat → Int32} : ∀ n, (∀ q, q < n → c q = c' q) → (∀ q, q < n → c q = true → d q = d' q) → mxS c d n = mxS c' d' n := by
  intro n
  induction n with
  | zero => intro _ _; rfl
  | succ n ih =>
    intro h1 h2
    rw [mxS, mxS, ih (fun q hq => h1 q (by omega)) (fun q hq => h2 q (by omega)), ← h1 n (by omega)]
    by_cases e : c n = true
    · rw [if_pos e, if_pos e, h2 n (by omega) e]
    · rw [if_neg e, if_neg e]
theorem M_tooHigh {k n : Nat} {pc : Nat → Nat} {st : St} (h : HM k n pc st) {p r lw : Nat} (hV : VV k n pc (vM st)) (hl : st.1 59 10 = nI lw) (hlw : lw ≤ 1) (hp : p < n) (hr : r < k) (e : st.1 69 p = nI r) : F_X8_tooHigh (nI p) (nI r) st = some (exS lw n (st.1 61) (vM st) (nI r) p, st) := by
  have hn : n ≤ 6 := h.2.1
  have hk : k ≤ 3 := h.1
  have hp6 : p < 6 := by omega
  have hin := (hV.at hk hn hp6 hr e).2
  have hh1 := M_headOf h hp6 hin
  have hlow : ∀ q, q < 6 → st.1 69 q = nI r → F_X8_headOf (nI q) st = some (hd (st.1 61) (vM st) q, st) := fun q hq e2 => M_headOf h hq (hV.at hk hn hq hr e2).2
  have hm : mkS (fun q => decide (st.1 69 q = nI r)) n < 64 := mkS_lt _ n (by omega)
  simp only [F_X8_tooHigh, F_X8_tooHigh_0, M_isIn h, Option.bind_some, M_eldest h hm]
  have hrm : ∀ q, q < 6 → (mkS (fun q => decide (st.1 69 q = nI r)) n).testBit q = (decide (q < n) && decide (st.1 69 q = nI r)) := fun q hq => mkS_bit _ n hn q hq
  have hpin : (mkS (fun q => decide (st.1 69 q = nI r)) n).testBit p = true := by rw [hrm p hp6]; simp [hp, e]
  cases hE : eld (st.1 67) (mkS (fun q => decide (st.1 69 q = nI r)) n) n with
  | none => have := eld_none _ hE p hp; rw [this] at hpin; cases hpin
  | some a =>
    obtain ⟨a1, a2⟩ := eld_lt _ _ hE
    rw [hrm a (by omega)] at a2
    simp [a1] at a2
    obtain ⟨cc, hcc⟩ : ∃ f : Nat → Bool, f = fun q => decide (st.1 69 q = nI r) && (if lw = 1 then !decide (st.1 67 q ≤ st.1 67 p) else decide (q = a)) := ⟨_, rfl⟩
    have hL := upn (n := n) (P := fun N j => F_X8_tooHigh_16 N (nI p) (nI r) (oI (some a)) (mxS cc (fun q => hd (st.1 61) (vM st) p - hd (st.1 61) (vM st) q) j) (nI j) st = some (mxS cc (fun q => hd (st.1 61) (vM st) p - hd (st.1 61) (vM st) q) n, st))
      (fun N => by simp only [F_X8_tooHigh_16, h.2.2.2.1, tn, if_true]) (fun N j hj ih => by
        have hj6 : j < 6 := by omega
        have hpos := mxS_pos cc (fun q => hd (st.1 61) (vM st) p - hd (st.1 61) (vM st) q) j
        have tl0 : F_X8_tooHigh_72 (F_X8_tooHigh_16 N) (nI p) (nI r) (oI (some a)) (mxS cc (fun q => hd (st.1 61) (vM st) p - hd (st.1 61) (vM st) q) j) (nI j) st = F_X8_tooHigh_16 N (nI p) (nI r) (oI (some a)) (mxS cc (fun q => hd (st.1 61) (vM st) p - hd (st.1 61) (vM st) q) j) (nI (j + 1)) st := by
          simp only [F_X8_tooHigh_72, F_X8_tooHigh_73, F_X8_tooHigh_96, F_X8_tooHigh_112, if_true, nI_1]
          rw [if_pos hpos]
        have tl1 : st.1 69 j = nI r → F_X8_tooHigh_68 (F_X8_tooHigh_16 N) (nI p) (nI r) (oI (some a)) (mxS cc (fun q => hd (st.1 61) (vM st) p - hd (st.1 61) (vM st) q) j) (nI j) st = F_X8_tooHigh_16 N (nI p) (nI r) (oI (some a)) (imx (mxS cc (fun q => hd (st.1 61) (vM st) p - hd (st.1 61) (vM st) q) j) (hd (st.1 61) (vM st) p - hd (st.1 61) (vM st) j)) (nI (j + 1)) st := by
          intro ej
          simp only [F_X8_tooHigh_68, F_X8_tooHigh_73, F_X8_tooHigh_96, F_X8_tooHigh_112, nI_1, hh1, Option.bind_some, hlow j hj6 ej]
          rw [if_neg (by decide), ← imx_eq]
          split <;> rfl
        simp only [F_X8_tooHigh_16, h.2.2.2.1, fn hn hj, if_false, g6 hj6, c6 hj6, g6 hp6, c6 hp6]
        rw [mxS] at ih
        by_cases c : st.1 69 j = nI r
        · rw [if_pos c]
          by_cases c1 : lw = 1
          · rw [if_neg (by rw [hl, c1]; decide)]
            by_cases c2 : st.1 67 j ≤ st.1 67 p
            · rw [if_pos c2, tl0]; rw [if_neg (by rw [hcc]; simp [c1, c2])] at ih; exact ih
            · rw [if_neg c2, tl1 c]; rw [if_pos (by rw [hcc]; show (decide (st.1 69 j = nI r) && (if lw = 1 then !decide (st.1 67 j ≤ st.1 67 p) else decide (j = a))) = true; rw [decide_eq_true c, if_pos c1, decide_eq_false c2]; rfl)] at ih; exact ih
          · rw [if_pos (by rw [hl, show lw = 0 by omega]; rfl)]
            by_cases c2 : j = a
            · rw [if_pos (by rw [c2]; rfl), tl1 c]; rw [if_pos (by rw [hcc]; simp [c, c1, c2, a2])] at ih; exact ih
            · rw [if_neg (by show ¬ nI j = nI a; rw [eqN (by omega) (by omega)]; exact c2), tl0]; rw [if_neg (by rw [hcc]; simp [c1, c2])] at ih; exact ih
        · rw [if_neg c, tl0]; rw [if_neg (by rw [hcc]; simp [c])] at ih; exact ih) fN 0 (by omega) (fN0 (by omega))
    refine Eq.trans hL ?_
    congr 2
    unfold exS
    by_cases c1 : lw = 1
    · rw [if_pos c1]
      refine mxS_congr n (fun q _ => ?_) (fun q _ _ => rfl)
      rw [hcc]; show (_ && (if lw = 1 then _ else _)) = _; rw [if_pos c1]; rfl
    · rw [if_neg c1]
      have hE2 : eld (vM st).2.2.2.1 (mkS (fun q => decide ((vM st).1 q = nI r)) n) n = some a := hE
      rw [hE2]
      show _ = imx 0 _
      have := mxS_one (d := fun q => hd (st.1 61) (vM st) p - hd (st.1 61) (vM st) q) (e := a) n
      rw [if_pos a1] at this
      rw [← this]
      refine mxS_congr n (fun q _ => ?_) (fun q _ _ => rfl)
      rw [hcc]
      by_cases c2 : q = a
      · subst c2; simp [c1, a2]
      · simp [c1, c2]
/-- the first with a property -/
def fstC (c : Nat → Bool) : Nat → Nat → Option Nat
  | _, 0 => none
  | k, d + 1 => if c k then some k else fstC c (k + 1) d
theorem fstC_some {c : Nat → Bool} : ∀ d k p, fstC c k d = some p → k ≤ p ∧ p < k + d ∧ c p = true ∧ ∀ q, k ≤ q → q < p → c q = false := by
  intro d
  induction d with
  | zero => intro k p h; cases h
  | succ d ih =>
    intro k p h
    rw [fstC] at h
    by_cases e : c k = true
    · rw [if_pos e] at h; cases h; exact ⟨by omega, by omega, e, fun q _ _ => by omega⟩
    · rw [if_neg e] at h
      obtain ⟨a, b, d2, f⟩ := ih _ _ h
      refine ⟨by omega, by omega, d2, fun q h1 h2 => ?_⟩
      by_cases e2 : q = k
      · subst e2; simpa using e
      · exact f q (by omega) h2
theorem fstC_none {c : Nat → Bool} : ∀ d k, fstC c k d = none → ∀ q, k ≤ q → q < k + d → c q = false := by
  intro d
  induction d with
  | zero => intro k h q h1 h2; omega
  | succ d ih =>
    intro k h q h1 h2
    rw [fstC] at h
    by_cases e : c k = true
    · rw [if_pos e] at h; cases h
    · rw [if_neg e] at h
      by_cases e2 : q = k
      · subst e2; simpa using e
      · exact ih _ h q (by omega) (by omega)
theorem fstC_congr {c c' : Nat → Bool} : ∀ d k, (∀ q, k ≤ q → q < k + d → c q = c' q) → fstC c k d = fstC c' k d := by
  intro d
  induction d with
  | zero => intro k _; rfl
  | succ d ih =>
    intro k h
    rw [fstC, fstC, h k (by omega) (by omega), ih (k + 1) (fun q h1 h2 => h q (by omega) (by omega))]
/-- FIRST FAULT of a room -/
def ffS (lw n : Nat) (fl : Nat → Int32) (v : Vw) (r : Int32) : Option Nat := fstC (fun p => decide (v.1 p = r) && !decide (exS lw n fl v r p ≤ 0)) 0 n
theorem ffS_lt {lw n : Nat} {fl : Nat → Int32} {v : Vw} {r : Int32} {p : Nat} (h : ffS lw n fl v r = some p) : p < n ∧ v.1 p = r ∧ 0 < exS lw n fl v r p := by
  obtain ⟨_, a, b, _⟩ := fstC_some _ _ _ h
  simp at b
  exact ⟨by omega, b.1, b.2⟩
theorem P_firstTooHigh {k n : Nat} {pc : Nat → Nat} {st : St} (h : HC k n pc st) {sc r lw : Nat} (hV : VV k n pc (vC sc st)) (hl : st.1 sc 5 = nI lw) (hlw : lw ≤ 1) (hr : r < k) : F_X1_firstTooHigh sc (nI r) st = some (oI (ffS lw n (st.1 3) (vC sc st) (nI r)), st) := by
  have hn : n ≤ 6 := h.2.1
  obtain ⟨cc, hcc⟩ : ∃ f : Nat → Bool, f = fun p => decide ((vC sc st).1 p = nI r) && !decide (exS lw n (st.1 3) (vC sc st) (nI r) p ≤ 0) := ⟨_, rfl⟩
  have hL := upn (n := n) (P := fun N j => F_X1_firstTooHigh_2 sc N (nI r) (nI j) st = some (oI (fstC cc j (n - j)), st))
    (fun N => by simp only [F_X1_firstTooHigh_2, h.2.2.2.1, tn, if_true, Nat.sub_self, fstC]; rfl) (fun N j hj ih => by
      have hj6 : j < 6 := by omega
      simp only [F_X1_firstTooHigh_2, h.2.2.2.1, fn hn hj, if_false, g6 hj6, c6 hj6, F_X1_firstTooHigh_37, nI_1]
      rw [show n - j = (n - (j + 1)) + 1 by omega, fstC]
      by_cases c : st.1 (sc + 1) j = nI r
      · simp only [c, if_true, P_excessOf h hV hl hlw hj hr c, Option.bind_some]
        by_cases c2 : exS lw n (st.1 3) (vC sc st) (nI r) j ≤ 0
        · rw [if_pos c2, if_neg (by rw [hcc]; simp [c2])]; exact ih
        · rw [if_neg c2, if_pos (by rw [hcc]; show (decide (st.1 (sc + 1) j = nI r) && !decide (exS lw n (st.1 3) (vC sc st) (nI r) j ≤ 0)) = true; rw [decide_eq_true c, decide_eq_false c2]; rfl)]; rfl
      · rw [if_neg c, if_neg (by rw [hcc]; simp [vC, c])]; exact ih) fN 0 (by omega) (fN0 (by omega))
  rw [hcc] at hL
  exact hL
theorem downn {n : Nat} {P : Nat → Nat → Prop} (h0 : ∀ N, P (N + 1) 0) (hs : ∀ N i, i < n → P N i → P (N + 1) (i + 1)) : ∀ N i, i ≤ n → i < N → P N i := by
  intro N
  induction N with
  | zero => intro i _ h; omega
  | succ N ih =>
    intro i hi h
    cases i with
    | zero => exact h0 N
    | succ i => exact hs N i (by omega) (ih i (by omega) (by omega))
theorem M_firstFault {k n : Nat} {pc : Nat → Nat} {st : St} (h : HM k n pc st) {r lw : Nat} (hV : VV k n pc (vM st)) (hl : st.1 59 10 = nI lw) (hlw : lw ≤ 1) (hr : r < k) : F_X8_firstFault (nI r) st = some (oI (ffS lw n (st.1 61) (vM st) (nI r)), st) := by
  have hn : n ≤ 6 := h.2.1
  obtain ⟨cc, hcc⟩ : ∃ f : Nat → Bool, f = fun p => decide ((vM st).1 p = nI r) && !decide (exS lw n (st.1 61) (vM st) (nI r) p ≤ 0) := ⟨_, rfl⟩
  have hL := downn (n := n) (P := fun N j => F_X8_firstFault_9 N (nI r) (oI (fstC cc j (n - j))) (nI j - 1) st = some (oI (fstC cc 0 n), st))
    (fun N => by simp only [F_X8_firstFault_9]; rw [if_pos (by decide)]; rfl) (fun N j hj ih => by
      have hj6 : j < 6 := by omega
      have e1 : nI (j + 1) - 1 = nI j := nI_pred j
      have e2 : nI j + (-1) = nI j - 1 := by rw [Int32.sub_eq_add_neg]
      rw [e1]
      simp only [F_X8_firstFault_9, g6 hj6, c6 hj6, F_X8_firstFault_36, F_X8_firstFault_37, e2]
      rw [if_neg (nI_pos (by omega))]
      have e3 : fstC cc j (n - j) = if cc j then some j else fstC cc (j + 1) (n - (j + 1)) := by
        rw [show n - j = (n - (j + 1)) + 1 by omega, fstC]
      rw [e3] at ih
      by_cases c : st.1 69 j = nI r
      · simp only [c, if_true, M_tooHigh h hV hl hlw hj hr c, Option.bind_some]
        by_cases c2 : exS lw n (st.1 61) (vM st) (nI r) j ≤ 0
        · rw [if_neg (by rw [hcc]; simp [c2])] at ih; rw [if_pos c2]; exact ih
        · rw [if_pos (by rw [hcc]; show (decide (st.1 69 j = nI r) && !decide (exS lw n (st.1 61) (vM st) (nI r) j ≤ 0)) = true; rw [decide_eq_true c, decide_eq_false c2]; rfl)] at ih; rw [if_neg c2]; exact ih
      · rw [if_neg (by rw [hcc]; simp [vM, c])] at ih; rw [if_neg c]; exact ih) fN n (Nat.le_refl _) (by have := fN_big; omega)
  simp only [F_X8_firstFault, F_X8_firstFault_0, h.2.2.2.1]
  rw [Nat.sub_self] at hL
  rw [hcc] at hL
  exact hL

/-! PURE: who is too high, where ages are unlike in one room alone -/
def VW (k n : Nat) (pc : Nat → Nat) (v : Vw) : Prop := (∀ p, p < n → inP k pc v p ∨ (v.1 p = -1 ∧ v.2.1 p = -1)) ∧ (∀ p, n ≤ p → p < 6 → v.1 p = -1)
theorem VV.w {k n : Nat} {pc : Nat → Nat} {v : Vw} (h : VV k n pc v) : VW k n pc v := ⟨h.1, h.2.2.1⟩
theorem VW.at {k n : Nat} {pc : Nat → Nat} {v : Vw} (h : VW k n pc v) {p r : Nat} (hk : k ≤ 3) (hn : n ≤ 6) (hp : p < 6) (hr : r < k) (e : v.1 p = nI r) : p < n ∧ inP k pc v p := by
  have hne : ¬ nI r = -1 := nI_ne1 (by omega)
  by_cases c : p < n
  · refine ⟨c, ?_⟩
    rcases h.1 p c with h1 | h1
    · exact h1
    · rw [e] at h1; exact absurd h1.1 hne
  · have := h.2 p (by omega) hp
    rw [e] at this; exact absurd this hne
theorem PW_excessOf {k n : Nat} {pc : Nat → Nat} {st : St} (h : HC k n pc st) {sc p r lw : Nat} (hV : VW k n pc (vC sc st)) (hU : ∀ a b, a < n → b < n → st.1 (sc + 1) a = nI r → st.1 (sc + 1) b = nI r → st.1 (sc + 4) a = st.1 (sc + 4) b → a = b) (hl : st.1 sc 5 = nI lw) (hlw : lw ≤ 1) (hp : p < n) (hr : r < k) (e : st.1 (sc + 1) p = nI r) : F_X1_excessOf sc (nI p) (nI r) st = some (exS lw n (st.1 3) (vC sc st) (nI r) p, st) := by
  have hn : n ≤ 6 := h.2.1
  have hk : k ≤ 3 := h.1
  have hp6 : p < 6 := by omega
  have hin := (hV.at hk hn hp6 hr e).2
  have hh1 := P_headOf h hp6 hin
  have hlow : ∀ q, q < 6 → st.1 (sc + 1) q = nI r → q < n ∧ F_X1_headOf sc (nI q) st = some (hd (st.1 3) (vC sc st) q, st) := fun q hq e2 =>
    ⟨(hV.at hk hn hq hr e2).1, P_headOf h hq (hV.at hk hn hq hr e2).2⟩
  obtain ⟨old, hold⟩ : ∃ f : Nat → Bool, f = fun q => decide (st.1 (sc + 1) q = nI r) && !decide (st.1 (sc + 4) q ≤ st.1 (sc + 4) p) := ⟨_, rfl⟩
  have hm : mkS old 6 < 64 := mkS_lt old 6 (by omega)
  simp only [F_X1_excessOf, F_X1_excessOf_0, g6 hp6, c6 hp6, P_whoIsOlderIn, Option.bind_some, hl, ← hold]
  have hbit : ∀ q, q < 6 → (mkS old 6).testBit q = old q := fun q hq => by rw [mkS_bit old 6 (by omega) q hq]; simp [hq]
  have holdR : ∀ q, old q = true → st.1 (sc + 1) q = nI r := fun q hq => by rw [hold] at hq; simp at hq; exact hq.1
  unfold exS
  by_cases c : lw = 1
  · rw [if_pos c, if_pos (by rw [c]; rfl)]
    obtain ⟨res, hres⟩ : ∃ res, res = mxS (fun q => decide ((vC sc st).1 q = nI r) && !decide ((vC sc st).2.2.2.1 q ≤ (vC sc st).2.2.2.1 p)) (fun q => hd (st.1 3) (vC sc st) p - hd (st.1 3) (vC sc st) q) n := ⟨_, rfl⟩
    rw [← hres]
    have hres2 : res = mxS old (fun q => hd (st.1 3) (vC sc st) p - hd (st.1 3) (vC sc st) q) n := by rw [hres, hold]; rfl
    clear hres
    have hL := upn (n := n) (P := fun N j => F_X1_excessOf_72 sc N (nI p) (nI (mkS old 6)) (mxS old (fun q => hd (st.1 3) (vC sc st) p - hd (st.1 3) (vC sc st) q) j) (nI j) st = some (res, st))
      (fun N => by simp only [F_X1_excessOf_72, h.2.2.2.1, tn, if_true, hres2]) (fun N j hj ih => by
        have hj6 : j < 6 := by omega
        simp only [F_X1_excessOf_72, h.2.2.2.1, fn hn hj, if_false, bitN hm hj6, hbit j hj6, F_X1_excessOf_112, nI_1]
        rw [mxS] at ih
        by_cases c2 : old j = true
        · rw [if_neg (by rw [c2]; decide)]
          rw [if_pos c2] at ih
          simp only [hh1, Option.bind_some, (hlow j hj6 (holdR j c2)).2]
          exact ih
        · rw [if_neg c2] at ih
          rw [if_pos (by simpa using c2)]; exact ih) fN 0 (by omega) (fN0 (by omega))
    exact hL
  · have hl0 : lw = 0 := by omega
    rw [if_neg c, if_neg (by rw [hl0]; decide)]
    simp only [P_eldestOf sc _ hm, Option.bind_some]
    have hrm : ∀ q, q < 6 → (mkS (fun q => decide ((vC sc st).1 q = nI r)) n).testBit q = (decide (q < n) && decide (st.1 (sc + 1) q = nI r)) := fun q hq => mkS_bit _ n hn q hq
    have hpin : (mkS (fun q => decide ((vC sc st).1 q = nI r)) n).testBit p = true := by rw [hrm p hp6]; simp [hp, e]
    cases hE : eld (vC sc st).2.2.2.1 (mkS (fun q => decide ((vC sc st).1 q = nI r)) n) n with
    | none => have := eld_none _ hE p hp; rw [this] at hpin; cases hpin
    | some a =>
      obtain ⟨a1, a2⟩ := eld_lt _ _ hE
      have amax := eld_max _ _ hE
      rw [hrm a (by omega)] at a2
      simp [a1] at a2
      cases hO : eld (st.1 (sc + 4)) (mkS old 6) 6 with
      | none =>
        rw [if_pos oI_none]
        have h1 := eld_none _ hO a (by omega)
        rw [hbit a (by omega), hold] at h1
        simp [a2] at h1
        have h2 := amax p hp hpin
        have h3 : a = p := hU a p a1 hp a2 e (Int32.le_antisymm h1 h2)
        rw [h3]
        show F_X1_excessOf_65 sc 0 st = some (imx 0 (hd (st.1 3) (vC sc st) p - hd (st.1 3) (vC sc st) p), st)
        rw [Int32.sub_self, imx_0]; rfl
      | some b =>
        obtain ⟨b1, b2⟩ := eld_lt _ _ hO
        rw [hbit b b1] at b2
        have b3 := holdR b b2
        have b4 := (hlow b b1 b3).1
        have hb : (mkS (fun q => decide ((vC sc st).1 q = nI r)) n).testBit b = true := by rw [hrm b b1]; simp [b4, b3]
        have h1 := amax b b4 hb
        have b5 : ¬ st.1 (sc + 4) b ≤ st.1 (sc + 4) p := by rw [hold] at b2; simp at b2; exact Int32.not_le.mpr b2.2
        have hao : old a = true := by
          rw [hold]
          simp only [a2, decide_true, Bool.true_and, Bool.not_eq_true', decide_eq_false_iff_not]
          intro q
          exact b5 (Int32.le_trans h1 q)
        have h2 := eld_max _ _ hO a (by omega) (by rw [hbit a (by omega)]; exact hao)
        have h3 : a = b := hU a b a1 b4 a2 b3 (Int32.le_antisymm h2 h1)
        subst h3
        rw [if_neg (show ¬ oI (some a) = -1 from nI_ne1 (by omega))]
        show Option.bind (F_X1_headOf sc (nI p) st) _ = _
        simp only [hh1, Option.bind_some, oI, (hlow a b1 a2).2, F_X1_excessOf_65]
theorem PW_firstTooHigh {k n : Nat} {pc : Nat → Nat} {st : St} (h : HC k n pc st) {sc r lw : Nat} (hV : VW k n pc (vC sc st)) (hU : ∀ a b, a < n → b < n → st.1 (sc + 1) a = nI r → st.1 (sc + 1) b = nI r → st.1 (sc + 4) a = st.1 (sc + 4) b → a = b) (hl : st.1 sc 5 = nI lw) (hlw : lw ≤ 1) (hr : r < k) : F_X1_firstTooHigh sc (nI r) st = some (oI (ffS lw n (st.1 3) (vC sc st) (nI r)), st) := by
  have hn : n ≤ 6 := h.2.1
  obtain ⟨cc, hcc⟩ : ∃ f : Nat → Bool, f = fun p => decide ((vC sc st).1 p = nI r) && !decide (exS lw n (st.1 3) (vC sc st) (nI r) p ≤ 0) := ⟨_, rfl⟩
  have hL := upn (n := n) (P := fun N j => F_X1_firstTooHigh_2 sc N (nI r) (nI j) st = some (oI (fstC cc j (n - j)), st))
    (fun N => by simp only [F_X1_firstTooHigh_2, h.2.2.2.1, tn, if_true, Nat.sub_self, fstC]; rfl) (fun N j hj ih => by
      have hj6 : j < 6 := by omega
      simp only [F_X1_firstTooHigh_2, h.2.2.2.1, fn hn hj, if_false, g6 hj6, c6 hj6, F_X1_firstTooHigh_37, nI_1]
      rw [show n - j = (n - (j + 1)) + 1 by omega, fstC]
      by_cases c : st.1 (sc + 1) j = nI r
      · simp only [c, if_true, PW_excessOf h hV hU hl hlw hj hr c, Option.bind_some]
        by_cases c2 : exS lw n (st.1 3) (vC sc st) (nI r) j ≤ 0
        · rw [if_pos c2, if_neg (by rw [hcc]; simp [c2])]; exact ih
        · rw [if_neg c2, if_pos (by rw [hcc]; show (decide (st.1 (sc + 1) j = nI r) && !decide (exS lw n (st.1 3) (vC sc st) (nI r) j ≤ 0)) = true; rw [decide_eq_true c, decide_eq_false c2]; rfl)]; rfl
      · rw [if_neg c, if_neg (by rw [hcc]; simp [vC, c])]; exact ih) fN 0 (by omega) (fN0 (by omega))
  rw [hcc] at hL
  exact hL
theorem MW_tooHigh {k n : Nat} {pc : Nat → Nat} {st : St} (h : HM k n pc st) {p r lw : Nat} (hV : VW k n pc (vM st)) (hl : st.1 59 10 = nI lw) (hlw : lw ≤ 1) (hp : p < n) (hr : r < k) (e : st.1 69 p = nI r) : F_X8_tooHigh (nI p) (nI r) st = some (exS lw n (st.1 61) (vM st) (nI r) p, st) := by
  have hn : n ≤ 6 := h.2.1
  have hk : k ≤ 3 := h.1
  have hp6 : p < 6 := by omega
  have hin := (hV.at hk hn hp6 hr e).2
  have hh1 := M_headOf h hp6 hin
  have hlow : ∀ q, q < 6 → st.1 69 q = nI r → F_X8_headOf (nI q) st = some (hd (st.1 61) (vM st) q, st) := fun q hq e2 => M_headOf h hq (hV.at hk hn hq hr e2).2
  have hm : mkS (fun q => decide (st.1 69 q = nI r)) n < 64 := mkS_lt _ n (by omega)
  simp only [F_X8_tooHigh, F_X8_tooHigh_0, M_isIn h, Option.bind_some, M_eldest h hm]
  have hrm : ∀ q, q < 6 → (mkS (fun q => decide (st.1 69 q = nI r)) n).testBit q = (decide (q < n) && decide (st.1 69 q = nI r)) := fun q hq => mkS_bit _ n hn q hq
  have hpin : (mkS (fun q => decide (st.1 69 q = nI r)) n).testBit p = true := by rw [hrm p hp6]; simp [hp, e]
  cases hE : eld (st.1 67) (mkS (fun q => decide (st.1 69 q = nI r)) n) n with
  | none => have := eld_none _ hE p hp; rw [this] at hpin; cases hpin
  | some a =>
    obtain ⟨a1, a2⟩ := eld_lt _ _ hE
    rw [hrm a (by omega)] at a2
    simp [a1] at a2
    obtain ⟨cc, hcc⟩ : ∃ f : Nat → Bool, f = fun q => decide (st.1 69 q = nI r) && (if lw = 1 then !decide (st.1 67 q ≤ st.1 67 p) else decide (q = a)) := ⟨_, rfl⟩
    have hL := upn (n := n) (P := fun N j => F_X8_tooHigh_16 N (nI p) (nI r) (oI (some a)) (mxS cc (fun q => hd (st.1 61) (vM st) p - hd (st.1 61) (vM st) q) j) (nI j) st = some (mxS cc (fun q => hd (st.1 61) (vM st) p - hd (st.1 61) (vM st) q) n, st))
      (fun N => by simp only [F_X8_tooHigh_16, h.2.2.2.1, tn, if_true]) (fun N j hj ih => by
        have hj6 : j < 6 := by omega
        have hpos := mxS_pos cc (fun q => hd (st.1 61) (vM st) p - hd (st.1 61) (vM st) q) j
        have tl0 : F_X8_tooHigh_72 (F_X8_tooHigh_16 N) (nI p) (nI r) (oI (some a)) (mxS cc (fun q => hd (st.1 61) (vM st) p - hd (st.1 61) (vM st) q) j) (nI j) st = F_X8_tooHigh_16 N (nI p) (nI r) (oI (some a)) (mxS cc (fun q => hd (st.1 61) (vM st) p - hd (st.1 61) (vM st) q) j) (nI (j + 1)) st := by
          simp only [F_X8_tooHigh_72, F_X8_tooHigh_73, F_X8_tooHigh_96, F_X8_tooHigh_112, if_true, nI_1]
          rw [if_pos hpos]
        have tl1 : st.1 69 j = nI r → F_X8_tooHigh_68 (F_X8_tooHigh_16 N) (nI p) (nI r) (oI (some a)) (mxS cc (fun q => hd (st.1 61) (vM st) p - hd (st.1 61) (vM st) q) j) (nI j) st = F_X8_tooHigh_16 N (nI p) (nI r) (oI (some a)) (imx (mxS cc (fun q => hd (st.1 61) (vM st) p - hd (st.1 61) (vM st) q) j) (hd (st.1 61) (vM st) p - hd (st.1 61) (vM st) j)) (nI (j + 1)) st := by
          intro ej
          simp only [F_X8_tooHigh_68, F_X8_tooHigh_73, F_X8_tooHigh_96, F_X8_tooHigh_112, nI_1, hh1, Option.bind_some, hlow j hj6 ej]
          rw [if_neg (by decide), ← imx_eq]
          split <;> rfl
        simp only [F_X8_tooHigh_16, h.2.2.2.1, fn hn hj, if_false, g6 hj6, c6 hj6, g6 hp6, c6 hp6]
        rw [mxS] at ih
        by_cases c : st.1 69 j = nI r
        · rw [if_pos c]
          by_cases c1 : lw = 1
          · rw [if_neg (by rw [hl, c1]; decide)]
            by_cases c2 : st.1 67 j ≤ st.1 67 p
            · rw [if_pos c2, tl0]; rw [if_neg (by rw [hcc]; simp [c1, c2])] at ih; exact ih
            · rw [if_neg c2, tl1 c]; rw [if_pos (by rw [hcc]; show (decide (st.1 69 j = nI r) && (if lw = 1 then !decide (st.1 67 j ≤ st.1 67 p) else decide (j = a))) = true; rw [decide_eq_true c, if_pos c1, decide_eq_false c2]; rfl)] at ih; exact ih
          · rw [if_pos (by rw [hl, show lw = 0 by omega]; rfl)]
            by_cases c2 : j = a
            · rw [if_pos (by rw [c2]; rfl), tl1 c]; rw [if_pos (by rw [hcc]; simp [c, c1, c2, a2])] at ih; exact ih
            · rw [if_neg (by show ¬ nI j = nI a; rw [eqN (by omega) (by omega)]; exact c2), tl0]; rw [if_neg (by rw [hcc]; simp [c1, c2])] at ih; exact ih
        · rw [if_neg c, tl0]; rw [if_neg (by rw [hcc]; simp [c])] at ih; exact ih) fN 0 (by omega) (fN0 (by omega))
    refine Eq.trans hL ?_
    congr 2
    unfold exS
    by_cases c1 : lw = 1
    · rw [if_pos c1]
      refine mxS_congr n (fun q _ => ?_) (fun q _ _ => rfl)
      rw [hcc]; show (_ && (if lw = 1 then _ else _)) = _; rw [if_pos c1]; rfl
    · rw [if_neg c1]
      have hE2 : eld (vM st).2.2.2.1 (mkS (fun q => decide ((vM st).1 q = nI r)) n) n = some a := hE
      rw [hE2]
      show _ = imx 0 _
      have := mxS_one (d := fun q => hd (st.1 61) (vM st) p - hd (st.1 61) (vM st) q) (e := a) n
      rw [if_pos a1] at this
      rw [← this]
      refine mxS_congr n (fun q _ => ?_) (fun q _ _ => rfl)
      rw [hcc]
      by_cases c2 : q = a
      · subst c2; simp [c1, a2]
      · simp [c1, c2]
theorem MW_firstFault {k n : Nat} {pc : Nat → Nat} {st : St} (h : HM k n pc st) {r lw : Nat} (hV : VW k n pc (vM st)) (hl : st.1 59 10 = nI lw) (hlw : lw ≤ 1) (hr : r < k) : F_X8_firstFault (nI r) st = some (oI (ffS lw n (st.1 61) (vM st) (nI r)), st) := by
  have hn : n ≤ 6 := h.2.1
  obtain ⟨cc, hcc⟩ : ∃ f : Nat → Bool, f = fun p => decide ((vM st).1 p = nI r) && !decide (exS lw n (st.1 61) (vM st) (nI r) p ≤ 0) := ⟨_, rfl⟩
  have hL := downn (n := n) (P := fun N j => F_X8_firstFault_9 N (nI r) (oI (fstC cc j (n - j))) (nI j - 1) st = some (oI (fstC cc 0 n), st))
    (fun N => by simp only [F_X8_firstFault_9]; rw [if_pos (by decide)]; rfl) (fun N j hj ih => by
      have hj6 : j < 6 := by omega
      have e1 : nI (j + 1) - 1 = nI j := nI_pred j
      have e2 : nI j + (-1) = nI j - 1 := by rw [Int32.sub_eq_add_neg]
      rw [e1]
      simp only [F_X8_firstFault_9, g6 hj6, c6 hj6, F_X8_firstFault_36, F_X8_firstFault_37, e2]
      rw [if_neg (nI_pos (by omega))]
      have e3 : fstC cc j (n - j) = if cc j then some j else fstC cc (j + 1) (n - (j + 1)) := by
        rw [show n - j = (n - (j + 1)) + 1 by omega, fstC]
      rw [e3] at ih
      by_cases c : st.1 69 j = nI r
      · simp only [c, if_true, MW_tooHigh h hV hl hlw hj hr c, Option.bind_some]
        by_cases c2 : exS lw n (st.1 61) (vM st) (nI r) j ≤ 0
        · rw [if_neg (by rw [hcc]; simp [c2])] at ih; rw [if_pos c2]; exact ih
        · rw [if_pos (by rw [hcc]; show (decide (st.1 69 j = nI r) && !decide (exS lw n (st.1 61) (vM st) (nI r) j ≤ 0)) = true; rw [decide_eq_true c, decide_eq_false c2]; rfl)] at ih; rw [if_neg c2]; exact ih
      · rw [if_neg (by rw [hcc]; simp [vM, c])] at ih; rw [if_neg c]; exact ih) fN n (Nat.le_refl _) (by have := fN_big; omega)
  simp only [F_X8_firstFault, F_X8_firstFault_0, h.2.2.2.1]
  rw [Nat.sub_self] at hL
  rw [hcc] at hL
  exact hL
theorem exW_ag {k n : Nat} {pc : Nat → Nat} {v w : Vw} {fl fl' : Nat → Int32} {lw r p : Nat} (hk : k ≤ 3) (hn : n ≤ 6) (hpc : ∀ r, r < k → pc r ≤ 6) (hf : FlA k pc fl fl') (hV : VW k n pc v) (h : Ag n v w) (hr : r < k) (hp : p < n) (e : v.1 p = nI r) : exS lw n fl v (nI r) p = exS lw n fl' w (nI r) p := by
  have hin : ∀ q, q < n → v.1 q = nI r → inP k pc v q := fun q hq e2 => (hV.at hk hn (by omega) hr e2).2
  have hhd : ∀ q, q < n → v.1 q = nI r → hd fl v q = hd fl' w q := fun q hq e2 => hd_ag hk hpc hf h hq (hin q hq e2)
  unfold exS
  by_cases c : lw = 1
  · rw [if_pos c, if_pos c]
    refine mxS_congr n (fun q hq => ?_) (fun q hq hb => ?_)
    · rw [(h.1 q hq).1, (h.1 q hq).2.2.1, (h.1 p hp).2.2.1]
    · simp at hb
      rw [hhd p hp e, hhd q hq hb.1]
  · rw [if_neg c, if_neg c, set_ag (h.x 0) (nI r), eld_congr n (fun q hq => (h.1 q hq).2.2.1)]
    cases he : eld w.2.2.2.1 (mkS (fun q => decide (w.1 q = nI r)) n) n with
    | none => rfl
    | some a =>
      obtain ⟨a1, a2⟩ := eld_lt _ _ he
      rw [mkS_bit _ n hn a (by omega)] at a2
      simp [a1] at a2
      dsimp only
      rw [hhd p hp e, hhd a a1 (by rw [(h.1 a a1).1]; exact a2)]
theorem ffW_ag {k n : Nat} {pc : Nat → Nat} {v w : Vw} {fl fl' : Nat → Int32} {lw r : Nat} (hk : k ≤ 3) (hn : n ≤ 6) (hpc : ∀ r, r < k → pc r ≤ 6) (hf : FlA k pc fl fl') (hV : VW k n pc v) (h : Ag n v w) (hr : r < k) : ffS lw n fl v (nI r) = ffS lw n fl' w (nI r) := by
  unfold ffS
  refine fstC_congr n 0 (fun q _ hq => ?_)
  have hq : q < n := by omega
  rw [← (h.1 q hq).1]
  by_cases c : v.1 q = nI r
  · rw [exW_ag (lw := lw) hk hn hpc hf hV h hr hq c]
  · rw [decide_eq_false c, Bool.false_and, Bool.false_and]

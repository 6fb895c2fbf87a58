/-! PURE: somebody comes in (the class) -/
def cntS (c : Nat → Bool) : Nat → Nat
  | 0 => 0
  | n + 1 => if c n then cntS c n + 1 else cntS c n
def sumS (f : Nat → Nat) : Nat → Nat
  | 0 => 0
  | n + 1 => sumS f n + f n
theorem cntS_le (c : Nat → Bool) : ∀ n, cntS c n ≤ n := by
  intro n
  induction n with
  | zero => exact Nat.le_refl _
  | succ n ih => rw [cntS]; split <;> omega
theorem cntS_mono {c c' : Nat → Bool} (h : ∀ i, c i = true → c' i = true) : ∀ n, cntS c n ≤ cntS c' n := by
  intro n
  induction n with
  | zero => exact Nat.le_refl _
  | succ n ih =>
    rw [cntS, cntS]
    by_cases e : c n = true
    · rw [if_pos e, if_pos (h n e)]; omega
    · rw [if_neg e]; split <;> omega
theorem cntS_lt {c c' : Nat → Bool} (h : ∀ i, c i = true → c' i = true) {a : Nat} (h1 : c a = false) (h2 : c' a = true) : ∀ n, a < n → cntS c n < cntS c' n := by
  intro n
  induction n with
  | zero => intro ha; omega
  | succ n ih =>
    intro ha
    rw [cntS, cntS]
    by_cases e : n = a
    · subst e
      rw [if_neg (by rw [h1]; decide), if_pos h2]
      have := cntS_mono h n
      omega
    · have := ih (by omega)
      by_cases e2 : c n = true
      · rw [if_pos e2, if_pos (h n e2)]; omega
      · rw [if_neg e2]; split <;> omega
theorem sumS_lt {f g : Nat → Nat} : ∀ n q, q < n → (∀ p, p < n → f p ≤ g p) → f q < g q → sumS f n < sumS g n := by
  intro n
  induction n with
  | zero => intro q hq; omega
  | succ n ih =>
    intro q hq h1 h2
    rw [sumS, sumS]
    by_cases e : q = n
    · subst e
      have hle : ∀ m, m ≤ q → sumS f m ≤ sumS g m := by
        intro m
        induction m with
        | zero => intro _; exact Nat.le_refl _
        | succ m ih2 => intro hm; rw [sumS, sumS]; have := ih2 (by omega); have := h1 m (by omega); omega
      have := hle q (Nat.le_refl _)
      omega
    · have := ih q (by omega) (fun p hp => h1 p (by omega)) h2
      have := h1 n (by omega)
      omega
theorem sumS_le {f : Nat → Nat} {b : Nat} : ∀ n, (∀ p, p < n → f p ≤ b) → sumS f n ≤ n * b := by
  intro n
  induction n with
  | zero => intro _; simp [sumS]
  | succ n ih =>
    intro h
    rw [sumS]
    have := ih (fun p hp => h p (by omega))
    have := h n (by omega)
    rw [Nat.succ_mul]
    omega
/-- how far somebody can still go down -/
def rkS (fl : Nat → Int32) (v : Vw) (r pcr p : Nat) : Nat := if v.1 p = nI r then 1 + cntS (fun i => decide (fl (r * 6 + i) < fl (r * 6 + (v.2.1 p).toNatClampNeg))) pcr else 0
def muS (fl : Nat → Int32) (v : Vw) (r pcr n : Nat) : Nat := sumS (rkS fl v r pcr) n
theorem muS_le {fl : Nat → Int32} {v : Vw} {r pcr n : Nat} (hn : n ≤ 6) (hp : pcr ≤ 6) : muS fl v r pcr n ≤ 42 := by
  have h1 := sumS_le (f := rkS fl v r pcr) (b := 7) n (fun p _ => by
    unfold rkS
    split
    · have := cntS_le (fun i => decide (fl (r * 6 + i) < fl (r * 6 + (v.2.1 p).toNatClampNeg))) pcr
      omega
    · omega)
  unfold muS
  omega
/-- who is too high goes down or out -/
def mvS (fl : Nat → Int32) (v : Vw) (r n pcr q : Nat) : Vw := match lowS fl v r n pcr with
  | none => ouS v q
  | some a => if fl (r * 6 + (v.2.1 q).toNatClampNeg) ≤ fl (r * 6 + a) then ouS v q else stS v q (nI r) (nI a)
theorem rk_out {fl : Nat → Int32} {v : Vw} {r pcr q : Nat} (hr : r < 3) : rkS fl (ouS v q) r pcr q = 0 := by
  unfold rkS ouS stS
  rw [if_neg]
  dsimp only
  rw [upd_at]
  exact fun e => nI_ne1 (a := r) (by omega) e.symm
theorem rk_st {fl : Nat → Int32} {v : Vw} {r pcr p q : Nat} {x i : Int32} (h : p ≠ q) : rkS fl (stS v q x i) r pcr p = rkS fl v r pcr p := by
  unfold rkS stS
  simp only [upd_off h]
theorem mu_mv {k n : Nat} {pc : Nat → Nat} {fl : Nat → Int32} {v : Vw} {r q : Nat} (hk : k ≤ 3) (hr : r < k) (hpc : pc r ≤ 6) (hq : q < n) (e : v.1 q = nI r) : muS fl (mvS fl v r n (pc r) q) r (pc r) n < muS fl v r (pc r) n := by
  have hpos : 0 < rkS fl v r (pc r) q := by unfold rkS; rw [if_pos e]; omega
  have ho : muS fl (ouS v q) r (pc r) n < muS fl v r (pc r) n := by
    refine sumS_lt n q hq (fun p _ => ?_) ?_
    · by_cases c : p = q
      · subst c; rw [rk_out (by omega)]; omega
      · exact Nat.le_of_eq (rk_st c)
    · rw [rk_out (by omega)]; exact hpos
  unfold mvS
  cases hl : lowS fl v r n (pc r) with
  | none => exact ho
  | some a =>
    have ha := (lowS_some _ _ hl).1
    dsimp only
    by_cases c : fl (r * 6 + (v.2.1 q).toNatClampNeg) ≤ fl (r * 6 + a)
    · rw [if_pos c]; exact ho
    · rw [if_neg c]
      have hlt : rkS fl (stS v q (nI r) (nI a)) r (pc r) q < rkS fl v r (pc r) q := by
        unfold rkS
        rw [if_pos e, if_pos (by unfold stS; dsimp only; rw [upd_at])]
        have e2 : (stS v q (nI r) (nI a)).2.1 q = nI a := by unfold stS; dsimp only; rw [upd_at]
        rw [e2, clN (by omega)]
        have := cntS_lt (c := fun i => decide (fl (r * 6 + i) < fl (r * 6 + a))) (c' := fun i => decide (fl (r * 6 + i) < fl (r * 6 + (v.2.1 q).toNatClampNeg))) (fun i hi => by
          simp only [decide_eq_true_eq] at hi ⊢
          exact Int32.lt_trans hi (Int32.not_le.mp c)) (a := a) (by simp) (by simpa using Int32.not_le.mp c) (pc r) ha
        omega
      refine sumS_lt n q hq (fun p _ => ?_) hlt
      by_cases c2 : p = q
      · subst c2; exact Nat.le_of_lt hlt
      · exact Nat.le_of_eq (rk_st c2)
theorem free_none {v : Vw} {r i : Int32} {n : Nat} (h : freeS v r i n = true) : ∀ q, q < n → ¬ (v.1 q = r ∧ v.2.1 q = i) := by
  unfold freeS at h
  cases hl : whoL v.1 v.2.1 r i n with
  | none => exact whoL_none n hl
  | some p => rw [hl] at h; cases h
theorem VV_st {k n : Nat} {pc : Nat → Nat} {v : Vw} (h : VV k n pc v) {q r i : Nat} (hk : k ≤ 3) (hr : r < k) (hi : i < pc r) (hpc : pc r ≤ 6) (hq : q < n) (hf : freeS v (nI r) (nI i) n = true) : VV k n pc (stS v q (nI r) (nI i)) := by
  obtain ⟨h1, h2, h3, h4⟩ := h
  have hfr := free_none hf
  refine ⟨fun p hp => ?_, h2, fun p hp1 hp2 => ?_, fun p p' hp hp' e1 e2 e3 => ?_⟩
  · by_cases c : p = q
    · subst c
      exact Or.inl ⟨r, i, hr, hi, by simp [stS, upd_at], by simp [stS, upd_at]⟩
    · rcases h1 p hp with ⟨r', i', a, b, c1, c2⟩ | ⟨a, b⟩
      · exact Or.inl ⟨r', i', a, b, by simp only [stS]; rw [upd_off c]; exact c1, by simp only [stS]; rw [upd_off c]; exact c2⟩
      · exact Or.inr ⟨by simp only [stS]; rw [upd_off c]; exact a, by simp only [stS]; rw [upd_off c]; exact b⟩
  · have : p ≠ q := by omega
    simp only [stS]
    rw [upd_off this]
    exact h3 p hp1 hp2
  · simp only [stS] at e1 e2 e3
    by_cases c : p = q
    · by_cases c' : p' = q
      · rw [c, c']
      · subst c
        rw [upd_at, upd_off c'] at e1 e2
        exact absurd ⟨e1.symm, e2.symm⟩ (hfr p' hp')
    · by_cases c' : p' = q
      · subst c'
        rw [upd_at, upd_off c] at e1 e2
        exact absurd ⟨e1, e2⟩ (hfr p hp)
      · rw [upd_off c, upd_off c'] at e1 e2
        rw [upd_off c] at e3
        exact h4 p p' hp hp' e1 e2 e3
theorem VV_out {k n : Nat} {pc : Nat → Nat} {v : Vw} (h : VV k n pc v) {q : Nat} (hq : q < n) : VV k n pc (ouS v q) := by
  obtain ⟨h1, h2, h3, h4⟩ := h
  refine ⟨fun p hp => ?_, h2, fun p hp1 hp2 => ?_, fun p p' hp hp' e1 e2 e3 => ?_⟩
  · by_cases c : p = q
    · subst c
      exact Or.inr ⟨by simp [ouS, stS, upd_at], by simp [ouS, stS, upd_at]⟩
    · rcases h1 p hp with ⟨r', i', a, b, c1, c2⟩ | ⟨a, b⟩
      · exact Or.inl ⟨r', i', a, b, by simp only [ouS, stS]; rw [upd_off c]; exact c1, by simp only [ouS, stS]; rw [upd_off c]; exact c2⟩
      · exact Or.inr ⟨by simp only [ouS, stS]; rw [upd_off c]; exact a, by simp only [ouS, stS]; rw [upd_off c]; exact b⟩
  · have : p ≠ q := by omega
    simp only [ouS, stS]
    rw [upd_off this]
    exact h3 p hp1 hp2
  · simp only [ouS, stS] at e1 e2 e3
    by_cases c : p = q
    · subst c; rw [upd_at] at e3; exact absurd rfl e3
    · rw [upd_off c] at e3
      by_cases c' : p' = q
      · subst c'; rw [upd_at, upd_off c] at e1; exact absurd e1 e3
      · rw [upd_off c, upd_off c'] at e1 e2
        exact h4 p p' hp hp' e1 e2 e3
theorem VV_B {k n : Nat} {pc : Nat → Nat} {v : Vw} (h : VV k n pc v) (B : Nat → Int32) : VV k n pc (v.1, v.2.1, B, v.2.2.2) := h
theorem VV_mv {k n : Nat} {pc : Nat → Nat} {fl : Nat → Int32} {v : Vw} (h : VV k n pc v) {q r : Nat} (hk : k ≤ 3) (hr : r < k) (hpc : pc r ≤ 6) (hq : q < n) : VV k n pc (mvS fl v r n (pc r) q) := by
  unfold mvS
  cases hl : lowS fl v r n (pc r) with
  | none => exact VV_out h hq
  | some a =>
    obtain ⟨a1, a2⟩ := lowS_some _ _ hl
    dsimp only
    split
    · exact VV_out h hq
    · exact VV_st h hk hr a1 hpc hq a2
theorem P_moveDownOrOut {k n : Nat} {pc : Nat → Nat} {v : Vw} {st : St} (h : HC k n pc st) (hV : VV k n pc v) {sc r q : Nat} (hsc : 9 ≤ sc) (hr : r < k) (hq : q < n) (e : v.1 q = nI r) : F_X1_moveDownOrOut sc (nI q) (nI r) (setV sc v st) = some (setV sc (mvS (st.1 3) v r n (pc r) q) st) := by
  have hn : n ≤ 6 := h.2.1
  have hk : k ≤ 3 := h.1
  have hq6 : q < 6 := by omega
  have hS := HC_V h hsc v
  have e3 : (setV sc v st).1 3 = st.1 3 := setV_off (by omega)
  obtain ⟨r', i', hr', hi', f1, f2⟩ := (hV.at hk hn hq6 hr e).2
  have hrr : r' = r := by
    rw [f1] at e
    have := (eqN (a := r') (b := r) (by omega) (by omega)).mp e
    exact this
  subst hrr
  have hb : i' < 2 ^ 31 := by have := (h.2.2.2.2 r' hr).2.2; omega
  simp only [F_X1_moveDownOrOut, F_X1_moveDownOrOut_0, P_lowestFree h hV hsc hr, Option.bind_some, F_X1_moveDownOrOut_53, F_X1_moveDownOrOut_61]
  unfold mvS
  cases hl : lowS (st.1 3) v r' n (pc r') with
  | none => rw [if_pos oI_none]; simp only [P_goOut hq6, Option.bind_some]
  | some a =>
    have ha := (lowS_some _ _ hl).1
    rw [if_neg (show ¬ oI (some a) = -1 from nI_ne1 (by have := (h.2.2.2.2 r' hr).2.2; omega)), show oI (some a) = nI a from rfl]
    simp only [P_floorAt hS hr ha, Option.bind_some, g6 hq6, c6 hq6, setV_at2, f2, P_floorAt hS hr hi', e3, clN hb]
    by_cases c : st.1 3 (r' * 6 + i') ≤ st.1 3 (r' * 6 + a)
    · rw [if_pos c, if_pos c]; simp only [P_goOut hq6, Option.bind_some]
    · rw [if_neg c, if_neg c]; simp only [P_standAt hq6, Option.bind_some]
/-- the bowing of a room -/
def bwV (lw : Nat) (fl K : Nat → Int32) (n r : Nat) (v : Vw) : Nat × (Nat → Int32) := bwS lw v.2.2.2.1 (tl fl v) K n 6 (mkS (fun p => decide (v.1 p = nI r)) n) none v.2.2.1 0
def wB (lw : Nat) (fl K : Nat → Int32) (n r : Nat) (v : Vw) : Vw := (v.1, v.2.1, (bwV lw fl K n r v).2, v.2.2.2)
/-- as long as somebody would be too high -/
def cmS (lw : Nat) (fl K : Nat → Int32) (n r pcr : Nat) : Nat → Vw → Nat → Nat × Vw
  | 0, v, m => (m, v)
  | d + 1, v, m => match eld v.2.2.2.1 (bwV lw fl K n r v).1 n with
    | none => (m, wB lw fl K n r v)
    | some q => cmS lw fl K n r pcr d (mvS fl (wB lw fl K n r v) r n pcr q) (m + 1)
theorem bwS_in {lw : Nat} {A T K : Nat → Int32} {n : Nat} (hn : n ≤ 6) : ∀ d s L B still, s < 64 → still < 64 → ∀ q, q < 6 → (bwS lw A T K n d s L B still).1.testBit q = true → still.testBit q = true ∨ s.testBit q = true := by
  intro d
  induction d with
  | zero => intro s L B still _ _ q _ h; exact Or.inl h
  | succ d ih =>
    intro s L B still hs hst q hq h
    rw [bwS] at h
    cases he : eld A s n with
    | none => rw [he] at h; exact Or.inl h
    | some p =>
      obtain ⟨p1, p2⟩ := eld_lt _ _ he
      rw [he] at h
      have hrm : (rmb s p).testBit q = true → s.testBit q = true := fun hb => by rw [rmb_bit hs (by omega) hq] at hb; simp at hb; exact hb.1
      cases L with
      | none =>
        dsimp only at h
        rcases ih _ _ _ _ (rmb_lt hs) hst q hq h with h1 | h1
        · exact Or.inl h1
        · exact Or.inr (hrm h1)
      | some L =>
        dsimp only at h
        have hlt : (if imx 0 (T p - L) ≤ K p then still else still ||| 2 ^ p) < 64 := by split; exact hst; exact or_lt hst (by omega)
        rcases ih _ _ _ _ (rmb_lt hs) hlt q hq h with h1 | h1
        · split at h1
          · exact Or.inl h1
          · rw [or_bit hst (by omega) hq] at h1
            simp at h1
            rcases h1 with h1 | h1
            · exact Or.inl h1
            · subst h1; exact Or.inr p2
        · exact Or.inr (hrm h1)
theorem bwV_lt {lw : Nat} {fl K : Nat → Int32} {n r : Nat} {v : Vw} (hn : n ≤ 6) : (bwV lw fl K n r v).1 < 64 := bwS_lt hn _ _ _ _ _ (by decide)
theorem bwV_in {lw : Nat} {fl K : Nat → Int32} {n r : Nat} {v : Vw} (hn : n ≤ 6) {q : Nat} (hq : q < 6) (h : (bwV lw fl K n r v).1.testBit q = true) : q < n ∧ v.1 q = nI r := by
  rcases bwS_in hn 6 _ _ _ _ (mkS_lt _ n hn) (by decide) q hq h with h1 | h1
  · simp at h1
  · rw [mkS_bit _ n hn q hq] at h1; simp at h1; exact h1
theorem P_allBowV {k n : Nat} {pc : Nat → Nat} {v : Vw} {st : St} (h : HC k n pc st) {sc r lw : Nat} (hsc : 9 ≤ sc) (hV : VV k n pc v) (hl : st.1 sc 5 = nI lw) (hlw : lw ≤ 1) (hr : r < k) : F_X1_allBow sc (nI r) (setV sc v st) = some (nI (bwV lw (st.1 3) (st.1 6) n r v).1, setV sc (wB lw (st.1 3) (st.1 6) n r v) st) := by
  have hS := HC_V h hsc v
  have e5 : (setV sc v st).1 sc 5 = nI lw := by rw [setV_off (by omega)]; exact hl
  have e3 : (setV sc v st).1 3 = st.1 3 := setV_off (by omega)
  have e6 : (setV sc v st).1 6 = st.1 6 := setV_off (by omega)
  have := P_allBow hS hsc (by rw [vC_setV]; exact hV) e5 hlw hr
  rw [vC_setV, e3, e6, setV_at1, setV_at3, setV_at4, sA_V3] at this
  exact this
theorem P_comeLoop {k n : Nat} {pc : Nat → Nat} {st : St} (h : HC k n pc st) {sc r lw : Nat} (hsc : 9 ≤ sc) (hl : st.1 sc 5 = nI lw) (hlw : lw ≤ 1) (hr : r < k) : ∀ d N j m v, VV k n pc v → muS (st.1 3) v r (pc r) n < d → d < N → j + d ≤ 1000 → m + d ≤ 1000 → F_X1_comesIn_16 sc N (nI r) (nI m) (nI j) (setV sc v st) = some (nI (cmS lw (st.1 3) (st.1 6) n r (pc r) d v m).1, setV sc (cmS lw (st.1 3) (st.1 6) n r (pc r) d v m).2 st) := by
  have hn : n ≤ 6 := h.2.1
  have hk : k ≤ 3 := h.1
  have hpc := (h.2.2.2.2 r hr).2.2
  intro d
  induction d with
  | zero => intro N j m v _ hmu; omega
  | succ d ih =>
    intro N j m v hV hmu hN hj hm
    obtain ⟨N, rfl⟩ : ∃ M, N = M + 1 := ⟨N - 1, by omega⟩
    have hb64 := bwV_lt (lw := lw) (fl := st.1 3) (K := st.1 6) (r := r) (v := v) hn
    have hbout : ∀ q, n ≤ q → q < 6 → (bwV lw (st.1 3) (st.1 6) n r v).1.testBit q = false := by
      intro q h1 h2
      cases hb : (bwV lw (st.1 3) (st.1 6) n r v).1.testBit q with
      | false => rfl
      | true => have := (bwV_in hn h2 hb).1; omega
    have hel : F_X6_eldestOf sc (nI (bwV lw (st.1 3) (st.1 6) n r v).1) (setV sc (wB lw (st.1 3) (st.1 6) n r v) st) = some (oI (eld v.2.2.2.1 (bwV lw (st.1 3) (st.1 6) n r v).1 n), setV sc (wB lw (st.1 3) (st.1 6) n r v) st) := by
      rw [P_eldestOf sc _ hb64, setV_at4, eld_ext 6 hn hbout]
      rfl
    have hge : ¬ (1000 : Int32) ≤ nI j := nI_ge (show j < 1000 by omega) (by decide)
    simp only [F_X1_comesIn_16, hge, if_false, P_allBowV h hsc hV hl hlw hr, Option.bind_some, hel, F_X1_comesIn_63, nI_1]
    rw [cmS]
    cases he : eld v.2.2.2.1 (bwV lw (st.1 3) (st.1 6) n r v).1 n with
    | none => rw [if_pos oI_none]
    | some q =>
      obtain ⟨q1, q2⟩ := eld_lt _ _ he
      have q3 := bwV_in hn (by omega) q2
      rw [if_neg (show ¬ oI (some q) = -1 from nI_ne1 (by omega)), show oI (some q) = nI q from rfl]
      have hV2 : VV k n pc (wB lw (st.1 3) (st.1 6) n r v) := VV_B hV _
      simp only [P_moveDownOrOut h hV2 hsc hr q3.1 q3.2, Option.bind_some]
      have hmu2 : muS (st.1 3) (mvS (st.1 3) (wB lw (st.1 3) (st.1 6) n r v) r n (pc r) q) r (pc r) n < muS (st.1 3) v r (pc r) n := mu_mv (v := wB lw (st.1 3) (st.1 6) n r v) hk hr hpc q3.1 q3.2
      exact ih N (j + 1) (m + 1) _ (VV_mv hV2 hk hr hpc q3.1) (by omega) (by omega) (by omega) (by omega)
theorem P_comesIn {k n : Nat} {pc : Nat → Nat} {v : Vw} {st : St} (h : HC k n pc st) {sc r i p lw : Nat} (hsc : 9 ≤ sc) (hV : VV k n pc v) (hl : st.1 sc 5 = nI lw) (hlw : lw ≤ 1) (hr : r < k) (hi : i < pc r) (hp : p < n) (hf : freeS v (nI r) (nI i) n = true) : F_X1_comesIn sc (nI p) (nI r) (nI i) (setV sc v st) = some (nI (cmS lw (st.1 3) (st.1 6) n r (pc r) 43 (stS v p (nI r) (nI i)) 0).1, setV sc (cmS lw (st.1 3) (st.1 6) n r (pc r) 43 (stS v p (nI r) (nI i)) 0).2 st) := by
  have hn : n ≤ 6 := h.2.1
  have hpc := (h.2.2.2.2 r hr).2.2
  simp only [F_X1_comesIn, F_X1_comesIn_0, P_standAt (show p < 6 by omega), Option.bind_some]
  exact P_comeLoop h hsc hl hlw hr 43 fN 0 0 _ (VV_st hV h.1 hr hi hpc hp hf) (by have := muS_le (fl := st.1 3) (v := stS v p (nI r) (nI i)) (r := r) (pcr := pc r) hn hpc; omega) (by have := fN_big; omega) (by decide) (by decide)

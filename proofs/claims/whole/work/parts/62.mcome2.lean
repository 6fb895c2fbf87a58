/-! PURE: the reference's loop of comings -/
theorem AgX_in {n : Nat} {v w : Vw} (h : Ag n v w) (q : Nat) (hq : q < n) (r i : Int32) : AgX n r (stS v q r i) (upd w.1 q r, upd w.2.1 q i, w.2.2) := by
  refine ⟨fun p hp => ?_, fun p h1 h2 => ?_⟩
  · simp only [stS]
    by_cases c : p = q
    · subst c
      simp only [upd_at]
      exact ⟨trivial, trivial, (h.1 p hp).2.2.1, (h.1 p hp).2.2.2.1, fun q => absurd rfl q⟩
    · simp only [upd_off c]
      exact ⟨(h.1 p hp).1, (h.1 p hp).2.1, (h.1 p hp).2.2.1, (h.1 p hp).2.2.2.1, fun _ => (h.1 p hp).2.2.2.2⟩
  · dsimp only; rw [upd_off (by omega)]; exact h.2 p h1 h2
theorem AgX_wB {k n : Nat} {pc : Nat → Nat} {v w : Vw} {fl fl' K K' : Nat → Int32} {lw r : Nat} (hk : k ≤ 3) (hn : n ≤ 6) (hpc : ∀ r, r < k → pc r ≤ 6) (hf : FlA k pc fl fl') (hK : ∀ p, p < n → K p = K' p) (hr : r < k) (hV : VV k n pc v) (h : AgX n (nI r) v w) : AgX n (nI r) (wB lw fl K n r v) w := by
  obtain ⟨_, hb⟩ := bw_ag (lw := lw) hk hn hpc hf hK hr hV h
  refine ⟨fun p hp => ?_, h.2⟩
  obtain ⟨a1, a2, a3, a4, a5⟩ := h.1 p hp
  exact ⟨a1, a2, a3, a4, fun e => ((hb p hp).2 e).1.trans (a5 e)⟩
theorem M_comeLoop {k n : Nat} {pc : Nat → Nat} {fl K : Nat → Int32} {lw r : Nat} (hk : k ≤ 3) (hn : n ≤ 6) (hpc : ∀ r, r < k → pc r ≤ 6) (hlw : lw ≤ 1) (hr : r < k) : ∀ d N m v w st, HM k n pc st → st.1 59 10 = nI lw → FlA k pc fl (st.1 61) → (∀ p, p < n → K p = st.1 64 p) → VV k n pc v → AgX n (nI r) v w → BdM k n pc (st.1 61) (st.1 64) w → muS fl v r (pc r) n < d → 2 * d + 1 < N → m + d ≤ 1000 →
    ∃ t b w', F_X8_comeNow_20 N (nI r) (nI m) 1 (setM w st) = some (nI (cmS lw fl K n r (pc r) d v m).1, setM w' (scr st t b)) ∧ Ag n (cmS lw fl K n r (pc r) d v m).2 w' ∧ w'.2.2.2 = w.2.2.2 := by
  intro d
  induction d with
  | zero => intro N m v w st _ _ _ _ _ _ _ hmu; omega
  | succ d ih =>
    intro N m v w st h hl hf hK hV hA hB hmu hN hm
    obtain ⟨N, rfl⟩ : ∃ M, N = M + 1 := ⟨N - 1, by omega⟩
    have hVw := VV_ag hA hV
    obtain ⟨t, b, q1, q2, q3⟩ := M_ask h hVw hl hlw hr hB
    obtain ⟨hb1, hb2⟩ := bw_ag (lw := lw) hk hn hpc hf hK hr hV hA
    have hb64 := bwV_lt (lw := lw) (fl := fl) (K := K) (r := r) (v := v) hn
    rw [← hb1] at q3
    obtain ⟨still, hstill⟩ : ∃ x, x = (bwV lw fl K n r v).1 := ⟨_, rfl⟩
    rw [← hstill] at q3 hb64
    have hHs := HM_scr h t b
    have e61 : (scr st t b).1 61 = st.1 61 := scr_off (by decide)
    have e64 : (scr st t b).1 64 = st.1 64 := scr_off (by decide)
    have e10 : (scr st t b).1 59 10 = nI lw := by rw [scr_off (by decide)]; exact hl
    simp only [F_X8_comeNow_20, show ¬ (1 : Int32) = 0 by decide, if_false, q1, Option.bind_some, q2, q3]
    rw [cmS, ← hstill]
    by_cases c0 : still = 0
    · have hz : nI still = 0 := by rw [c0]; rfl
      have he : eld v.2.2.2.1 still n = none := by
        rw [c0]
        cases he : eld v.2.2.2.1 0 n with
        | none => rfl
        | some a => have := (eld_lt _ _ he).2; simp at this
      rw [he]
      obtain ⟨N, rfl⟩ : ∃ M, N = M + 1 := ⟨N - 1, by omega⟩
      obtain ⟨t2, b2, hbow⟩ := M_bowNowV hHs hVw e10 hlw hr (by rw [e61, e64]; exact hB)
      rw [scr_scr, e61, e64] at hbow
      simp only [hz, if_true, F_X8_comeNow_56, F_X8_comeNow_136, F_X8_comeNow_20, hbow, Option.bind_some]
      refine ⟨t2, b2, _, rfl, ⟨fun p hp => ?_, hA.2⟩, rfl⟩
      obtain ⟨a1, a2, a3, a4, a5⟩ := hA.1 p hp
      refine ⟨a1, a2, a3, a4, ?_⟩
      show (bwV lw fl K n r v).2 p = mixB n _ _ _ p
      unfold mixB
      rw [if_pos hp, mkS_bit _ n hn p (by omega)]
      by_cases c : v.1 p = nI r
      · rw [if_pos (by rw [← a1]; simp [hp, c])]
        exact (hb2 p hp).1 c
      · rw [if_neg (by rw [← a1]; simp [c])]
        exact ((hb2 p hp).2 c).1.trans (a5 c)
    · have hz : ¬ nI still = 0 := by rw [litN 0, eqN (by omega) (by decide)]; exact c0
      have hbits : ∀ q, q < 6 → still.testBit q = true → q < n ∧ v.1 q = nI r := fun q hq hb => bwV_in hn hq (by rw [← hstill]; exact hb)
      have hel := M_eldest (HM_M hHs w) hb64
      rw [setM_67, eld_AB (B := v.2.2.2.1) (fun q hq => (hA.1 q hq).2.2.1.symm)] at hel
      cases he : eld v.2.2.2.1 still n with
      | none =>
        exfalso
        apply c0
        refine set_ext hb64 (by decide) (fun q hq => ?_)
        cases hq2 : still.testBit q with
        | false => simp
        | true => have := eld_none _ he q (hbits q hq hq2).1; rw [hq2] at this; cases this
      | some q =>
        obtain ⟨g1, g2⟩ := eld_lt _ _ he
        have hq6 : q < 6 := by omega
        have g3 := (hbits q hq6 g2).2
        rw [he, show oI (some q) = nI q from rfl] at hel
        have hlow := M_lowestFree (HM_M hHs w) hr
        rw [vM_setM, setM_off (show 61 ≤ 66 ∨ 72 ≤ 61 by omega), e61, ← low_ag hf hA hr (pc r) (Nat.le_refl _)] at hlow
        have hAw := AgX_wB (lw := lw) hk hn hpc hf hK hr hV hA
        have hVw2 : VV k n pc (wB lw fl K n r v) := VV_B hV _
        have hmu2 : muS fl (mvS fl (wB lw fl K n r v) r n (pc r) q) r (pc r) n < muS fl v r (pc r) n := mu_mv (v := wB lw fl K n r v) hk hr (hpc r hr) g1 g3
        have hVm := VV_mv (fl := fl) hVw2 hk hr (hpc r hr) g1
        have goOn : ∀ w2, AgX n (nI r) (mvS fl (wB lw fl K n r v) r n (pc r) q) w2 → w2.2.2.2 = w.2.2.2 → ∃ t' b' w', F_X8_comeNow_20 N (nI r) (nI (m + 1)) 1 (setM w2 (scr st t b)) = some (nI (cmS lw fl K n r (pc r) d (mvS fl (wB lw fl K n r v) r n (pc r) q) (m + 1)).1, setM w' (scr st t' b')) ∧ Ag n (cmS lw fl K n r (pc r) d (mvS fl (wB lw fl K n r v) r n (pc r) q) (m + 1)).2 w' ∧ w'.2.2.2 = w.2.2.2 := by
          intro w2 hA2 ew
          obtain ⟨t', b', w', z1, z2, z3⟩ := ih N (m + 1) _ w2 (scr st t b) hHs e10 (by rw [e61]; exact hf) (fun p hp => by rw [e64]; exact hK p hp) hVm hA2 (by rw [e61, e64]; exact BdM_I hB (by rw [ew])) (by omega) (by omega) (by omega)
          rw [scr_scr] at z1
          exact ⟨t', b', w', z1, z2, z3.trans ew⟩
        obtain ⟨r', i', hr', hi', f1, f2⟩ := (hV.at hk hn hq6 hr g3).2
        have hrr : r' = r := by
          rw [f1] at g3
          exact (eqN (a := r') (b := r) (by have := hpc r' hr'; omega) (by omega)).mp g3
        subst hrr
        have hi6 := hpc r' hr
        have f3 : w.2.1 q = nI i' := by rw [← (hA.1 q g1).2.1]; exact f2
        have ei : ∀ i, 6 * nI r' + nI i = nI (r' * 6 + i) := fun i => by rw [litN 6, pk_mul, nI_add, Nat.mul_comm]
        simp only [hz, if_false, F_X8_comeNow_56, show ¬ (1 : Int32) = 0 by decide, hel, Option.bind_some, hlow, F_X8_comeNow_127, F_X8_comeNow_133, F_X8_comeNow_136, M_leaveNow hq6, nI_1]
        have hmv : mvS fl (wB lw fl K n r' v) r' n (pc r') q = match lowS fl v r' n (pc r') with
          | none => ouS (wB lw fl K n r' v) q
          | some a => if fl (r' * 6 + i') ≤ fl (r' * 6 + a) then ouS (wB lw fl K n r' v) q else stS (wB lw fl K n r' v) q (nI r') (nI a) := by
          unfold mvS
          have e1 : lowS fl (wB lw fl K n r' v) r' n (pc r') = lowS fl v r' n (pc r') := by
            have : ∀ j, lowS fl (wB lw fl K n r' v) r' n j = lowS fl v r' n j := by
              intro j
              induction j with
              | zero => rfl
              | succ j ihj => rw [lowS, lowS, ihj]; rfl
            exact this _
          rw [e1]
          have e2 : ((wB lw fl K n r' v).2.1 q).toNatClampNeg = i' := by show (v.2.1 q).toNatClampNeg = i'; rw [f2, clN (by omega)]
          rw [e2]
          all_goals (cases lowS fl v r' n (pc r') <;> rfl)
        cases hlo : lowS fl v r' n (pc r') with
        | none =>
          rw [hlo] at hmv
          dsimp only at hmv
          rw [if_pos (show oI none < 0 by decide)]
          exact goOn (ouS w q) (by rw [hmv]; exact AgX_st hAw q g1 _ _) rfl
        | some a =>
          have ha := (lowS_some _ _ hlo).1
          rw [hlo] at hmv
          dsimp only at hmv
          rw [if_neg (show ¬ oI (some a) < 0 from nI_pos (by omega)), show oI (some a) = nI a from rfl, g6 hq6, c6 hq6, setM_70, f3, ei, ei, gi_in (show r' * 6 + a < 18 by omega) (by decide), gi_in (show r' * 6 + i' < 18 by omega) (by decide), clN (show r' * 6 + a < 2 ^ 31 by omega), clN (show r' * 6 + i' < 2 ^ 31 by omega), setM_off (show 61 ≤ 66 ∨ 72 ≤ 61 by omega), e61, ← hf r' hr a (by omega), ← hf r' hr i' (by omega)]
          by_cases c : fl (r' * 6 + i') ≤ fl (r' * 6 + a)
          · rw [if_pos c] at hmv ⊢
            exact goOn (ouS w q) (by rw [hmv]; exact AgX_st hAw q g1 _ _) rfl
          · rw [if_neg c] at hmv ⊢
            simp only [g6 hq6, bs, sV, setM_70, sA_M70]
            exact goOn (w.1, upd w.2.1 q (nI a), w.2.2) (by rw [hmv]; exact AgX_keep hAw q g1 g3 _) rfl
theorem M_comeNow {k n : Nat} {pc : Nat → Nat} {fl K : Nat → Int32} {v w : Vw} {st : St} {lw r i p : Nat} (h : HM k n pc st) (hl : st.1 59 10 = nI lw) (hlw : lw ≤ 1) (hf : FlA k pc fl (st.1 61)) (hK : ∀ p, p < n → K p = st.1 64 p) (hV : VV k n pc v) (hA : Ag n v w) (hB : BdM k n pc (st.1 61) (st.1 64) w) (hr : r < k) (hi : i < pc r) (hp : p < n) (hfr : freeS v (nI r) (nI i) n = true) :
    ∃ t b w', F_X8_comeNow (nI p) (nI r) (nI i) (setM w st) = some (nI (cmS lw fl K n r (pc r) 43 (stS v p (nI r) (nI i)) 0).1, setM w' (scr st t b)) ∧ Ag n (cmS lw fl K n r (pc r) 43 (stS v p (nI r) (nI i)) 0).2 w' ∧ w'.2.2.2 = w.2.2.2 := by
  have hn : n ≤ 6 := h.2.1
  have hk : k ≤ 3 := h.1
  have hpc : ∀ r, r < k → pc r ≤ 6 := fun r hr => (h.2.2.2.2 r hr).2.2
  have hp6 : p < 6 := by omega
  simp only [F_X8_comeNow, F_X8_comeNow_0, g6 hp6, c6 hp6, bs, sV, setM_69, sA_M69, setM_70, sA_M70]
  exact M_comeLoop hk hn hpc hlw hr 43 fN 0 _ (upd w.1 p (nI r), upd w.2.1 p (nI i), w.2.2) st h hl hf hK (VV_st hV hk hr hi (hpc r hr) hp hfr) (AgX_in hA p hp _ _) (BdM_I hB rfl) (by have := muS_le (fl := fl) (v := stS v p (nI r) (nI i)) (r := r) (pcr := pc r) hn (hpc r hr); omega) (by have := fN_big; omega) (by decide)
/-- what comings keep: a scene that can be -/
theorem VV_cm {k n : Nat} {pc : Nat → Nat} {fl K : Nat → Int32} {lw r : Nat} (hk : k ≤ 3) (hn : n ≤ 6) (hpc : ∀ r, r < k → pc r ≤ 6) (hr : r < k) : ∀ d v m, VV k n pc v → VV k n pc (cmS lw fl K n r (pc r) d v m).2 := by
  intro d
  induction d with
  | zero => intro v m h; exact h
  | succ d ih =>
    intro v m h
    rw [cmS]
    cases he : eld v.2.2.2.1 (bwV lw fl K n r v).1 n with
    | none => exact VV_B h _
    | some q =>
      have q1 := (eld_lt _ _ he).1
      exact ih _ _ (VV_mv (VV_B h _) hk hr (hpc r hr) q1)
theorem mv_AI {fl : Nat → Int32} {v : Vw} {r n pcr q : Nat} : (mvS fl v r n pcr q).2.2.2 = v.2.2.2 := by
  unfold mvS
  cases lowS fl v r n pcr with
  | none => rfl
  | some a => dsimp only; split <;> rfl
theorem cm_AI {fl K : Nat → Int32} {lw n r pcr : Nat} : ∀ d v m, (cmS lw fl K n r pcr d v m).2.2.2.2 = v.2.2.2 := by
  intro d
  induction d with
  | zero => intro v m; rfl
  | succ d ih =>
    intro v m
    rw [cmS]
    cases he : eld v.2.2.2.1 (bwV lw fl K n r v).1 n with
    | none => rfl
    | some q => dsimp only; rw [ih, mv_AI]; rfl
/-! years in the reference -/
theorem M_yearNow {k n : Nat} {pc : Nat → Nat} {w : Vw} {st : St} (h : HM k n pc st) (hI : ∀ p, p < n → 20 ≤ (w.2.2.2.2 p).toInt ∧ (w.2.2.2.2 p).toInt ≤ 90) (hG : ∀ p, p < n → 0 ≤ (st.1 65 p).toInt ∧ (st.1 65 p).toInt ≤ 9) : F_X8_yearNow (setM w st) = some (setM (w.1, w.2.1, w.2.2.1, yrA n w.2.2.2.1, yrI n w.2.2.2.1 w.2.2.2.2 (st.1 65)) st) := by
  have hn : n ≤ 6 := h.2.1
  have hL := upn (n := n) (P := fun N j => F_X8_yearNow_2 N (nI j) (setM (w.1, w.2.1, w.2.2.1, yrA j w.2.2.2.1, yrI j w.2.2.2.1 w.2.2.2.2 (st.1 65)) st) = some (setM (w.1, w.2.1, w.2.2.1, yrA n w.2.2.2.1, yrI n w.2.2.2.1 w.2.2.2.2 (st.1 65)) st))
    (fun N => by simp only [F_X8_yearNow_2, (HM_M h _).2.2.2.1, tn, if_true]) (fun N j hj ih => by
      have hj6 : j < 6 := by omega
      have e65 : ∀ u, (setM u st).1 65 = st.1 65 := fun u => setM_off (by omega)
      have hIj : yrI j w.2.2.2.1 w.2.2.2.2 (st.1 65) j = w.2.2.2.2 j := yrI_n _ _ _ _
      have hAj : yrA j w.2.2.2.1 j = w.2.2.2.1 j := yrA_n _ _
      have hIs := yrI_s (n := j) (A := w.2.2.2.1) (I := w.2.2.2.2) (G := st.1 65)
      have hAs := yrA_s (n := j) (A := w.2.2.2.1)
      rw [← hIs, ← hAs] at ih
      have h1 := hI j hj
      have h2 := hG j hj
      simp only [F_X8_yearNow_2, (HM_M h _).2.2.2.1, fn hn hj, if_false, g6 hj6, c6 hj6, setM_67, setM_68, hAj, hIj, e65, F_X8_yearNow_37, F_X8_yearNow_56, bs, sV, sA_M68, sA_M67, nI_1]
      have t90 : (90 : Int32).toInt = 90 := rfl
      by_cases c : (20 : Int32) ≤ w.2.2.2.1 j
      · rw [if_pos c] at ih ⊢
        rw [if_pos (by rw [ile, tadd (by omega) (by rw [t0]; omega), t0, t90]; omega)]
        rw [show w.2.2.2.2 j + 0 = w.2.2.2.2 j from Int32.add_zero _]
        exact ih
      · rw [if_neg c] at ih ⊢
        by_cases c2 : w.2.2.2.2 j + st.1 65 j ≤ 90
        · rw [if_pos c2]
          rw [show imn 90 (w.2.2.2.2 j + st.1 65 j) = w.2.2.2.2 j + st.1 65 j by
            unfold imn
            by_cases c3 : w.2.2.2.2 j + st.1 65 j < 90
            · rw [if_pos c3]
            · rw [if_neg c3]; exact Int32.le_antisymm (Int32.not_lt.mp c3) c2] at ih
          exact ih
        · rw [if_neg c2]
          rw [show imn 90 (w.2.2.2.2 j + st.1 65 j) = 90 by unfold imn; rw [if_neg (fun q => c2 (Int32.le_of_lt q))]] at ih
          exact ih) fN 0 (by omega) (fN0 (by omega))
  have e0 : setM (w.1, w.2.1, w.2.2.1, yrA 0 w.2.2.2.1, yrI 0 w.2.2.2.1 w.2.2.2.2 (st.1 65)) st = setM w st := by
    have a1 : yrI 0 w.2.2.2.1 w.2.2.2.2 (st.1 65) = w.2.2.2.2 := by funext p; simp [yrI]
    have a2 : yrA 0 w.2.2.2.1 = w.2.2.2.1 := by funext p; simp [yrA]
    rw [a1, a2]
  rw [e0] at hL
  exact hL

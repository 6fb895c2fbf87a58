/-! PURE: bend, bow, years, comings -/
theorem B_bend (x y : Int32) : Bo (F_X7_bend x y) (F_X8_bend x y) := by
  intro k n pc b st hb h
  obtain ⟨hc, hm, hF, -, hK, -⟩ := h.house
  have hS := h.scene
  obtain ⟨hA, hV, -, -, h0, -⟩ := h.scene
  have hk := hc.1
  have hn := hc.2.1
  rcases idx x (n := n) (by omega) with ⟨p, hp, rfl⟩ | hx
  · have hp6 : p < 6 := by omega
    have e69 : st.1 10 p = st.1 69 p := (hA.1 p hp).1
    have e71 : st.1 12 p = st.1 71 p := (hA.1 p hp).2.2.2.2
    have hin : ∀ s, s.1 64 p = st.1 64 p → F_X8_in y.toInt64 0 ((s.1 64 p).toInt64) s = some (if ¬ y < 0 ∧ y ≤ st.1 6 p then 1 else 0, s) := by
      intro s hs
      rw [M_in, wide, wide, hs, (hK p hp).1]
      have a0 : (0 : Int64).toInt = 0 := rfl
      congr 2
      rw [a0]
      by_cases c : 0 ≤ y.toInt ∧ y.toInt ≤ (st.1 64 p).toInt
      · rw [if_pos c, if_pos (by rw [ilt, ile, t0]; omega)]
      · rw [if_neg c, if_neg (by rw [ilt, ile, t0]; omega)]
    by_cases c1 : ¬ y < 0 ∧ y ≤ st.1 6 p
    · by_cases c : st.1 10 p = -1
      · refine ro h (-1000000003) ?_ ?_
        · simp only [F_X7_bend, F_X7_bend_0, P_hasPerson_in hc hp, Option.bind_some, g6 hp6, c6 hp6, c, c1, if_true, if_false]
          rw [if_neg (by decide)]
        · simp only [F_X8_bend, F_X8_bend_0, M_isPerson_in hm hp, Option.bind_some, g6 hp6, c6 hp6, hin st rfl, if_pos c1, ← e69, c]
          rw [if_neg (by decide), if_neg (by decide), if_neg (by decide)]
      · have hpm := in_pm (x := st.1 10 p) hk (hV.1 p hp) rfl
        obtain ⟨v', hv'⟩ : ∃ v' : Vw, v' = ((vC 9 st).1, (vC 9 st).2.1, upd (vC 9 st).2.2.1 p y, (vC 9 st).2.2.2) := ⟨_, rfl⟩
        obtain ⟨w', hw'⟩ : ∃ w' : Vw, w' = ((vM st).1, (vM st).2.1, upd (vM st).2.2.1 p y, (vM st).2.2.2) := ⟨_, rfl⟩
        obtain ⟨S, hSS⟩ : ∃ S, S = setV 9 v' st := ⟨_, rfl⟩
        have eS7 : sV st 12 p y = S := by
          rw [hSS, hv']
          conv => lhs; rw [← setV_self 9 st]
          simp only [sV]
          rw [show (setV 9 (vC 9 st) st).1 12 = (vC 9 st).2.2.1 from setV_at3 9 _ _]
          exact sA_V3 9 _ _ _
        have hmS : HM k n pc S := by rw [hSS]; exact HM_V hm (by omega) _
        have eS : S = setM (vM st) S := by rw [hSS, setM_V (by omega)]
        have eS8 : sV S 71 p y = setM w' S := by
          conv => lhs; rw [eS]
          simp only [sV, setM_71, sA_M71, hw']
        have eS69 : S.1 69 p = st.1 69 p := by rw [hSS, setV_off (by omega)]
        have eS71 : S.1 71 p = st.1 71 p := by rw [hSS, setV_off (by omega)]
        have eS64 : S.1 64 p = st.1 64 p := by rw [hSS, setV_off (by omega)]
        refine ⟨st.1 71 p, S, setM w' S, ?_, ?_, k, n, pc, ?_⟩
        · simp only [F_X7_bend, F_X7_bend_0, P_hasPerson_in hc hp, Option.bind_some, g6 hp6, c6 hp6, c, c1, if_true, if_false, bs, eS7, e71]
          rw [if_neg (by decide)]
        · simp only [F_X8_bend, F_X8_bend_0, M_isPerson_in hmS hp, Option.bind_some, g6 hp6, c6 hp6, hin S eS64, if_pos c1, eS69, eS71, ← e69, hpm, c, not_false_eq_true, if_true, bs, eS8]
          rw [if_neg (by decide), if_neg (by decide)]
        · rw [hSS]
          refine h.sc0 (by omega) (ScR.mono (hS.rpb (v' := v') (w' := w') ?_ ?_ ?_ ?_) (by omega))
          · rw [hv', hw']
            refine ⟨fun q hq => ?_, hA.2⟩
            obtain ⟨a1, a2, a3, a4, a5⟩ := hA.1 q hq
            refine ⟨a1, a2, a3, a4, ?_⟩
            by_cases cq : q = p
            · subst cq; simp only [upd_at]
            · simp only [upd_off cq]; exact a5
          · rw [hv']; exact VV_B hV _
          · rw [hv']
          · rw [hv']
            intro q hq e
            by_cases cq : q = p
            · subst cq; exact absurd e c
            · simp only [upd_off cq]; exact h0 q hq e
    · refine ro h (-1000000002) ?_ ?_
      · simp only [F_X7_bend, F_X7_bend_0, F_X7_bend_31, P_hasPerson_in hc hp, Option.bind_some, g6 hp6, c6 hp6]
        rw [if_neg (by decide)]
        by_cases cy : y < 0
        · rw [if_pos cy]
        · rw [if_neg cy, if_neg (fun q => c1 ⟨cy, q⟩)]
      · simp only [F_X8_bend, F_X8_bend_0, M_isPerson_in hm hp, Option.bind_some, g6 hp6, c6 hp6, hin st rfl, if_neg c1, if_true]
        rw [if_neg (by decide)]
  · refine ro h (-1000000001) ?_ ?_
    · simp only [F_X7_bend, F_X7_bend_0, P_hasPerson_out hc hx, Option.bind_some, if_true]
    · simp only [F_X8_bend, F_X8_bend_0, M_isPerson_out hm hx, Option.bind_some, if_true]
/-- those of no room keep their bends when others bow -/
theorem Ag_refl {k n : Nat} {pc : Nat → Nat} {v : Vw} (hV : VV k n pc v) : Ag n v v := ⟨fun _ _ => ⟨rfl, rfl, rfl, rfl, rfl⟩, hV.2.2.1⟩
theorem FlA_refl (k : Nat) (pc : Nat → Nat) (fl : Nat → Int32) : FlA k pc fl fl := fun _ _ _ _ => rfl
theorem wB_nw {k n : Nat} {pc : Nat → Nat} {v : Vw} {fl K : Nat → Int32} {lw r : Nat} (hk : k ≤ 3) (hn : n ≤ 6) (hpc : ∀ r, r < k → pc r ≤ 6) (hr : r < k) (hV : VV k n pc v) (h0 : ∀ p, p < n → v.1 p = -1 → v.2.2.1 p = 0) : ∀ p, p < n → (wB lw fl K n r v).1 p = -1 → (wB lw fl K n r v).2.2.1 p = 0 := by
  intro p hp e
  have := ((bw_ag (lw := lw) (K := K) (K' := K) hk hn hpc (FlA_refl k pc fl) (fun _ _ => rfl) hr hV ((Ag_refl hV).x (nI r))).2 p hp).2 (by rw [show v.1 p = -1 from e]; exact fun q => nI_ne1 (a := r) (by omega) q.symm)
  exact this.1.trans (h0 p hp e)
theorem Ag_bow {k n : Nat} {pc : Nat → Nat} {v w : Vw} {fl fl' K K' : Nat → Int32} {lw r : Nat} (hk : k ≤ 3) (hn : n ≤ 6) (hpc : ∀ r, r < k → pc r ≤ 6) (hf : FlA k pc fl fl') (hK : ∀ p, p < n → K p = K' p) (hr : r < k) (hV : VV k n pc v) (h : Ag n v w) : Ag n (wB lw fl K n r v) (w.1, w.2.1, mixB n (mkS (fun p => decide (w.1 p = nI r)) n) (bwV lw fl' K' n r w).2 w.2.2.1, w.2.2.2) := by
  obtain ⟨hb1, hb2⟩ := bw_ag (lw := lw) hk hn hpc hf hK hr hV (h.x (nI r))
  refine ⟨fun p hp => ?_, h.2⟩
  obtain ⟨a1, a2, a3, a4, a5⟩ := h.1 p hp
  refine ⟨a1, a2, a3, a4, ?_⟩
  show (bwV lw fl K n r v).2 p = mixB n _ _ _ p
  unfold mixB
  rw [if_pos hp, mkS_bit _ n hn p (by omega)]
  by_cases c : v.1 p = nI r
  · rw [if_pos (by rw [← a1]; simp [hp, c])]
    exact (hb2 p hp).1 c
  · rw [if_neg (by rw [← a1]; simp [c])]
    exact ((hb2 p hp).2 c).1.trans a5
theorem B_bow (x : Int32) : Bo (F_X7_bow x) (F_X8_bow x) := by
  intro k n pc b st hb h
  have hH := h.house
  obtain ⟨hc, hm, hF, -, hK, -⟩ := h.house
  have hS := h.scene
  have hVM := SceneR.vw h.scene
  have hB := ScR.bd h.scene hH
  obtain ⟨hA, hV, -, -, h0, ⟨lw, hlw, w1, w2⟩, -⟩ := h.scene
  have hk := hc.1
  have hn := hc.2.1
  have hpc : ∀ r, r < k → pc r ≤ 6 := fun r hr => (hc.2.2.2.2 r hr).2.2
  rcases idx x (n := k) (by omega) with ⟨r, hr, rfl⟩ | hx
  · have s1 := P_allBowV (sc := 9) hc (by omega) hV w1 hlw hr
    rw [setV_self] at s1
    obtain ⟨S, hSS⟩ : ∃ S, S = setV 9 (wB lw (st.1 3) (st.1 6) n r (vC 9 st)) st := ⟨_, rfl⟩
    have hmS : HM k n pc S := by rw [hSS]; exact HM_V hm (by omega) _
    have eS : S = setM (vM st) S := by rw [hSS, setM_V (by omega)]
    have e61 : S.1 61 = st.1 61 := by rw [hSS, setV_off (by omega)]
    have e64 : S.1 64 = st.1 64 := by rw [hSS, setV_off (by omega)]
    have e59 : S.1 59 = st.1 59 := by rw [hSS, setV_off (by omega)]
    obtain ⟨t, bb, hh⟩ := M_bowNowV hmS hVM (by rw [e59]; exact w2) hlw hr (by rw [e61, e64]; exact hB)
    rw [← eS, e61, e64, ← (bw_ag (lw := lw) hk hn hpc hF (fun p hp => (hK p hp).1) hr hV (hA.x (nI r))).1] at hh
    refine ⟨nI (bwV lw (st.1 3) (st.1 6) n r (vC 9 st)).1, S, setM ((vM st).1, (vM st).2.1, mixB n (mkS (fun p => decide ((vM st).1 p = nI r)) n) (bwV lw (st.1 61) (st.1 64) n r (vM st)).2 (vM st).2.2.1, (vM st).2.2.2) (scr S t bb), ?_, ?_, k, n, pc, ?_⟩
    · simp only [F_X7_bow, F_X7_bow_0, F_X7_bow_24, P_hasRoom_in hc hr, Option.bind_some, s1, ← hSS]
      rw [if_neg (by decide)]
    · simp only [F_X8_bow, F_X8_bow_0, F_X8_bow_18, M_isRoom_in hmS hr, Option.bind_some, hh]
      rw [if_neg (by decide)]
    · rw [hSS]
      exact h.sc (by omega) (ScR.mono (hS.rpb (Ag_bow hk hn hpc hF (fun p hp => (hK p hp).1) hr hV hA) (VV_B hV _) rfl (wB_nw hk hn hpc hr hV h0)) (by omega))
  · refine ro h (-1000000001) ?_ ?_
    · simp only [F_X7_bow, F_X7_bow_0, F_X7_bow_24, P_hasRoom_out hc hx, Option.bind_some, if_true]
    · simp only [F_X8_bow, F_X8_bow_0, F_X8_bow_18, M_isRoom_out hm hx, Option.bind_some, if_true]
theorem mv_nw {fl : Nat → Int32} {v : Vw} {r n pcr q : Nat} (h0 : ∀ p, p < n → v.1 p = -1 → v.2.2.1 p = 0) : ∀ p, p < n → (mvS fl v r n pcr q).1 p = -1 → (mvS fl v r n pcr q).2.2.1 p = 0 := by
  unfold mvS
  cases lowS fl v r n pcr with
  | none => exact st_nw h0 q _ _
  | some a =>
    dsimp only
    split
    · exact st_nw h0 q _ _
    · exact st_nw h0 q _ _
theorem cm_nw {k n : Nat} {pc : Nat → Nat} {fl K : Nat → Int32} {lw r : Nat} (hk : k ≤ 3) (hn : n ≤ 6) (hpc : ∀ r, r < k → pc r ≤ 6) (hr : r < k) : ∀ d v m, VV k n pc v → (∀ p, p < n → v.1 p = -1 → v.2.2.1 p = 0) → ∀ p, p < n → (cmS lw fl K n r (pc r) d v m).2.1 p = -1 → (cmS lw fl K n r (pc r) d v m).2.2.2.1 p = 0 := by
  intro d
  induction d with
  | zero => intro v m _ h; exact h
  | succ d ih =>
    intro v m hV h
    rw [cmS]
    cases he : eld v.2.2.2.1 (bwV lw fl K n r v).1 n with
    | none => exact wB_nw hk hn hpc hr hV h
    | some q =>
      have q1 := (eld_lt _ _ he).1
      exact ih _ _ (VV_mv (VV_B hV _) hk hr (hpc r hr) q1) (mv_nw (wB_nw hk hn hpc hr hV h))
theorem B_come (x y z : Int32) : Bo (F_X7_come x y z) (F_X8_come x y z) := by
  intro k n pc b st hb h
  have hH := h.house
  obtain ⟨hc, hm, hF, -, hK, -⟩ := h.house
  have hS := h.scene
  have hVM := SceneR.vw h.scene
  have hB := ScR.bd h.scene hH
  obtain ⟨hA, hV, -, -, h0, ⟨lw, hlw, w1, w2⟩, -⟩ := h.scene
  have hk := hc.1
  have hn := hc.2.1
  have hpc : ∀ r, r < k → pc r ≤ 6 := fun r hr => (hc.2.2.2.2 r hr).2.2
  rcases P_isComing hc x y z with ⟨e1, e2⟩ | ⟨p, r, i, hp, hr, hi, rfl, rfl, rfl, e1⟩
  · refine ro h (-1000000001) ?_ ?_
    · simp only [F_X7_come, F_X7_come_0, e1, Option.bind_some, if_true]
    · rcases e2 st hm with e | ⟨e, e'⟩
      · simp only [F_X8_come, F_X8_come_0, F_X8_come_17, e, Option.bind_some, if_true]
      · simp only [F_X8_come, F_X8_come_0, F_X8_come_17, e, e', Option.bind_some, if_true]
        rw [if_neg (by decide)]
  · have hp6 : p < 6 := by omega
    have c1 := P_canStandAt (st := st) (sc := 9) (i := i) hc hV hp hr
    rw [setV_self] at c1
    by_cases c : (vC 9 st).1 p = -1 ∧ freeS (vC 9 st) (nI r) (nI i) n = true
    · rw [if_pos c] at c1
      have s1 := P_comesIn (sc := 9) hc (by omega) hV w1 hlw hr hi hp c.2
      rw [setV_self] at s1
      obtain ⟨cm, hcm⟩ : ∃ cm, cm = cmS lw (st.1 3) (st.1 6) n r (pc r) 43 (stS (vC 9 st) p (nI r) (nI i)) 0 := ⟨_, rfl⟩
      obtain ⟨S, hSS⟩ : ∃ S, S = setV 9 cm.2 st := ⟨_, rfl⟩
      have hmS : HM k n pc S := by rw [hSS]; exact HM_V hm (by omega) _
      have eS : S = setM (vM st) S := by rw [hSS, setM_V (by omega)]
      have e61 : S.1 61 = st.1 61 := by rw [hSS, setV_off (by omega)]
      have e64 : S.1 64 = st.1 64 := by rw [hSS, setV_off (by omega)]
      have e59 : S.1 59 = st.1 59 := by rw [hSS, setV_off (by omega)]
      have m1 : F_X8_mayCome (nI p) (nI r) (nI i) S = some (1, S) := by
        have := M_mayCome (w := vM st) (st := S) (r := r) (i := i) hmS hVM hp
        rw [← eS, ← free_ag (hA.x 0), ← (hA.1 p hp).1, if_pos c] at this
        exact this
      obtain ⟨t, bb, w', q1, q2, q3⟩ := M_comeNow (st := S) (fl := st.1 3) (K := st.1 6) hmS (by rw [e59]; exact w2) hlw (by rw [e61]; exact hF) (fun p hp => by rw [e64]; exact (hK p hp).1) hV hA (by rw [e61, e64]; exact hB) hr hi hp c.2
      rw [← eS, ← hcm] at q1
      rw [← hcm] at q2 s1
      have hV1 := VV_st hV hk hr hi (hpc r hr) hp c.2
      refine ⟨nI cm.1, S, setM w' (scr S t bb), ?_, ?_, k, n, pc, ?_⟩
      · simp only [F_X7_come, F_X7_come_0, e1, Option.bind_some, c1, s1, ← hSS]
        rw [if_neg (by decide), if_neg (by decide)]
      · simp only [F_X8_come, F_X8_come_0, F_X8_come_43, M_isPerson_in hmS hp, M_isPlace_in hmS hr hi, m1, q1, Option.bind_some]
        rw [if_neg (by decide), if_neg (by decide), if_neg (by decide)]
      · rw [hSS]
        refine h.sc (by omega) (ScR.mono (hS.rpb q2 ?_ ?_ ?_) (by omega))
        · rw [hcm]; exact VV_cm hk hn hpc hr _ _ _ hV1
        · rw [hcm]; exact cm_AI _ _ _
        · rw [hcm]; exact cm_nw hk hn hpc hr _ _ _ hV1 (st_nw h0 p _ _)
    · rw [if_neg c] at c1
      have m1 := M_mayCome (st := st) (r := r) (i := i) hm hVM hp
      rw [setM_self, ← free_ag (hA.x 0), ← (hA.1 p hp).1, if_neg c] at m1
      refine ro h (-1000000003) ?_ ?_
      · simp only [F_X7_come, F_X7_come_0, e1, Option.bind_some, c1, if_true]
        rw [if_neg (by decide)]
      · simp only [F_X8_come, F_X8_come_0, F_X8_come_43, M_isPerson_in hm hp, M_isPlace_in hm hr hi, m1, Option.bind_some, if_true]
        rw [if_neg (by decide), if_neg (by decide)]

/-! PURE: calls that change who is where -/
theorem HM_V {k n : Nat} {pc : Nat → Nat} {st : St} (h : HM k n pc st) {sc : Nat} (hsc : sc + 5 < 59) (v : Vw) : HM k n pc (setV sc v st) := by
  obtain ⟨h1, h2, h3, h4, h5⟩ := h
  refine ⟨h1, h2, ?_, ?_, fun r hr => ?_⟩
  · rw [setV_off (by omega)]; exact h3
  · rw [setV_off (by omega)]; exact h4
  · rw [setV_off (by omega)]; exact h5 r hr
theorem vM_V {sc : Nat} (hsc : sc + 5 < 67) (v : Vw) (st : St) : vM (setV sc v st) = vM st := by
  unfold vM
  rw [setV_off (by omega), setV_off (by omega), setV_off (by omega), setV_off (by omega), setV_off (by omega)]
theorem setM_V {sc : Nat} (hsc : sc + 5 < 67) (v : Vw) (st : St) : setM (vM st) (setV sc v st) = setV sc v st := by
  have := setM_self (setV sc v st)
  rw [vM_V hsc] at this
  exact this
theorem scr_self (st : St) : scr st (st.1 80) (st.1 81) = st := by
  unfold scr
  rw [sA_id]
  exact sA_id st 81
theorem vC9_M (w : Vw) (st : St) : vC 9 (setM w st) = vC 9 st := by
  unfold vC
  rw [setM_off (by omega), setM_off (by omega), setM_off (by omega), setM_off (by omega), setM_off (by omega)]
theorem vC9_scr (t b : Nat → Int32) (st : St) : vC 9 (scr st t b) = vC 9 st := by
  unfold vC
  rw [scr_off (by omega), scr_off (by omega), scr_off (by omega), scr_off (by omega), scr_off (by omega)]
theorem R.sc {k n : Nat} {pc : Nat → Nat} {b b' : Nat} {st : St} (h : R k n pc b st) (hb : b ≤ b') {v w : Vw} {t bb : Nat → Int32} (hs : ScR k n pc b' (st.1 4) v w (st.1 9 5) (st.1 59 10) (st.1 9 6) (st.1 59 16)) : R k n pc b' (setM w (scr (setV 9 v st) t bb)) := by
  have e : ∀ i, (i ≤ 9 ∨ 15 ≤ i) → (i ≤ 66 ∨ 72 ≤ i) → i ≠ 80 → i ≠ 81 → (setM w (scr (setV 9 v st) t bb)).1 i = st.1 i := fun i h1 h2 h3 h4 => by rw [setM_off h2, scr_off ⟨h3, h4⟩, setV_off (by omega)]
  refine h.cg hb (fun i hi => e i (by omega) (by omega) (by omega) (by omega)) (fun j _ => by rw [e 59 (by omega) (by omega) (by omega) (by omega)]) (fun j _ => by rw [e 92 (by omega) (by omega) (by omega) (by omega)]) ?_
  unfold SceneR
  rw [vM_setM, vC9_M, vC9_scr, vC_setV, e 4 (by omega) (by omega) (by omega) (by omega), e 9 (by omega) (by omega) (by omega) (by omega), e 59 (by omega) (by omega) (by omega) (by omega)]
  exact hs
theorem R.sc0 {k n : Nat} {pc : Nat → Nat} {b b' : Nat} {st : St} (h : R k n pc b st) (hb : b ≤ b') {v w : Vw} (hs : ScR k n pc b' (st.1 4) v w (st.1 9 5) (st.1 59 10) (st.1 9 6) (st.1 59 16)) : R k n pc b' (setM w (setV 9 v st)) := by
  have := h.sc hb (t := (setV 9 v st).1 80) (bb := (setV 9 v st).1 81) hs
  rw [scr_self] at this
  exact this
theorem ScR.rpb {k n : Nat} {pc : Nat → Nat} {b : Nat} {A0 : Nat → Int32} {v w v' w' : Vw} {lc lm sc sm : Int32} (h : ScR k n pc b A0 v w lc lm sc sm) (hA : Ag n v' w') (hV : VV k n pc v') (e : v'.2.2.2 = v.2.2.2) (h0 : ∀ p, p < n → v'.1 p = -1 → v'.2.2.1 p = 0) : ScR k n pc b A0 v' w' lc lm sc sm := by
  obtain ⟨-, -, h3, h4, -, h6⟩ := h
  refine ⟨hA, hV, ?_, ?_, h0, h6⟩
  · rw [e]; exact h3
  · rw [e]; exact h4
theorem ScR.bd {k n : Nat} {pc : Nat → Nat} {b : Nat} {A0 : Nat → Int32} {st : St} {v w : Vw} {lc lm sc sm : Int32} (h : ScR k n pc b A0 v w lc lm sc sm) (hH : HouseR k n pc st) : BdM k n pc (st.1 61) (st.1 64) w := by
  obtain ⟨-, -, -, h4, h5, -⟩ := hH
  refine ⟨h4, fun p hp => ?_, fun p hp => (h5 p hp).2⟩
  rw [← (h.1.1 p hp).2.2.2.1]
  exact h.2.2.2.1 p hp
theorem in_pm {x : Int32} {k : Nat} {pc : Nat → Nat} {v : Vw} {p : Nat} (hk : k ≤ 3) (h : inP k pc v p ∨ (v.1 p = -1 ∧ v.2.1 p = -1)) (e : x = v.1 p) : ((0 : Int32) ≤ x) = (¬ x = -1) := by
  subst e
  rcases h with ⟨r, i, h1, h2, e1, e2⟩ | ⟨e1, e2⟩
  · rw [e1]
    have hb : r < 2 ^ 31 := by omega
    simp only [eq_iff_iff]
    exact ⟨fun _ => nI_ne1 hb, fun _ => nI_pos' hb⟩
  · rw [e1]
    simp only [not_true, eq_iff_iff, iff_false]
    decide
theorem P_isComing {k n : Nat} {pc : Nat → Nat} {st : St} (h : HC k n pc st) (x y z : Int32) : (F_X7_isComing x y z st = some (0, st) ∧ (∀ s, HM k n pc s → (F_X8_isPerson x s = some (0, s) ∨ (F_X8_isPerson x s = some (1, s) ∧ F_X8_isPlace y z s = some (0, s))))) ∨ (∃ p r i, p < n ∧ r < k ∧ i < pc r ∧ x = nI p ∧ y = nI r ∧ z = nI i ∧ F_X7_isComing x y z st = some (1, st)) := by
  have hk := h.1
  have hn := h.2.1
  rcases idx x (n := n) (by omega) with ⟨p, hp, rfl⟩ | hx
  · rcases idx y (n := k) (by omega) with ⟨r, hr, rfl⟩ | hy
    · have hpc := (h.2.2.2.2 r hr).2.2
      rcases idx z (n := pc r) (by omega) with ⟨i, hi, rfl⟩ | hz
      · refine Or.inr ⟨p, r, i, hp, hr, hi, rfl, rfl, rfl, ?_⟩
        simp only [F_X7_isComing, F_X7_isComing_0, F_X7_isComing_28, P_hasPerson_in h hp, P_hasPlace_in h hr hi, Option.bind_some]
        rw [if_neg (by decide), if_neg (by decide)]
        rfl
      · refine Or.inl ⟨?_, fun s hs => Or.inr ⟨M_isPerson_in hs hp, M_isPlace_outi hs hr hz⟩⟩
        simp only [F_X7_isComing, F_X7_isComing_0, F_X7_isComing_28, F_X7_isComing_27, P_hasPerson_in h hp, P_hasPlace_outi h hr hz, Option.bind_some, if_true]
        rw [if_neg (by decide)]
        rfl
    · refine Or.inl ⟨?_, fun s hs => Or.inr ⟨M_isPerson_in hs hp, M_isPlace_outr hs hy⟩⟩
      simp only [F_X7_isComing, F_X7_isComing_0, F_X7_isComing_28, F_X7_isComing_27, P_hasPerson_in h hp, P_hasPlace_outr h hy, Option.bind_some, if_true]
      rw [if_neg (by decide)]
      rfl
  · refine Or.inl ⟨?_, fun s hs => Or.inl (M_isPerson_out hs hx)⟩
    simp only [F_X7_isComing, F_X7_isComing_0, F_X7_isComing_28, F_X7_isComing_27, P_hasPerson_out h hx, Option.bind_some, if_true]
    rfl
theorem Ag_st {n : Nat} {v w : Vw} (h : Ag n v w) (q : Nat) (hq : q < n) (r i : Int32) (h0 : w.2.2.1 q = 0) : Ag n (stS v q r i) (upd w.1 q r, upd w.2.1 q i, w.2.2) := by
  refine ⟨fun p hp => ?_, fun p h1 h2 => ?_⟩
  · simp only [stS]
    by_cases c : p = q
    · subst c
      simp only [upd_at]
      exact ⟨trivial, trivial, (h.1 p hp).2.2.1, (h.1 p hp).2.2.2.1, h0.symm⟩
    · simp only [upd_off c]
      exact h.1 p hp
  · dsimp only; rw [upd_off (by omega)]; exact h.2 p h1 h2
theorem Ag_ou {n : Nat} {v w : Vw} (h : Ag n v w) (q : Nat) (hq : q < n) : Ag n (ouS v q) (ouS w q) := by
  refine ⟨fun p hp => ?_, fun p h1 h2 => ?_⟩
  · simp only [ouS, stS]
    by_cases c : p = q
    · subst c
      simp only [upd_at]
      exact ⟨trivial, trivial, (h.1 p hp).2.2.1, (h.1 p hp).2.2.2.1, trivial⟩
    · simp only [upd_off c]
      exact h.1 p hp
  · simp only [ouS, stS]; rw [upd_off (by omega)]; exact h.2 p h1 h2
theorem st_nw {n : Nat} {v : Vw} (h : ∀ p, p < n → v.1 p = -1 → v.2.2.1 p = 0) (q : Nat) (r i : Int32) : ∀ p, p < n → (stS v q r i).1 p = -1 → (stS v q r i).2.2.1 p = 0 := by
  intro p hp e
  simp only [stS] at e ⊢
  by_cases c : p = q
  · subst c; exact upd_at _ _ _
  · rw [upd_off c] at e ⊢; exact h p hp e
theorem mkS6n {n : Nat} {f g : Nat → Bool} (hn : n ≤ 6) (h : ∀ p, p < n → f p = g p) (h6 : ∀ p, n ≤ p → p < 6 → f p = false) : mkS f 6 = mkS g n := by
  refine set_ext (mkS_lt _ 6 (by omega)) (mkS_lt _ n hn) (fun q hq => ?_)
  rw [mkS_bit _ 6 (by omega) q hq, mkS_bit _ n hn q hq]
  by_cases c : q < n
  · rw [h q c]; simp [c, hq]
  · rw [h6 q (by omega) hq]; simp [c]
theorem B_put (x y z : Int32) : Bo (F_X7_put x y z) (F_X8_put x y z) := by
  intro k n pc b st hb h
  obtain ⟨hc, hm, hF, -⟩ := h.house
  have hS := h.scene
  have hVM := SceneR.vw h.scene
  obtain ⟨hA, hV, -, -, h0, -⟩ := h.scene
  have hk := hc.1
  have hn := hc.2.1
  rcases P_isComing hc x y z with ⟨e1, e2⟩ | ⟨p, r, i, hp, hr, hi, rfl, rfl, rfl, e1⟩
  · refine ro h (-1000000001) ?_ ?_
    · simp only [F_X7_put, F_X7_put_0, e1, Option.bind_some, if_true]
    · rcases e2 st hm with e | ⟨e, e'⟩
      · simp only [F_X8_put, F_X8_put_0, F_X8_put_17, e, Option.bind_some, if_true]
      · simp only [F_X8_put, F_X8_put_0, F_X8_put_17, e, e', Option.bind_some, if_true]
        rw [if_neg (by decide)]
  · have hp6 : p < 6 := by omega
    have c1 := P_canStandAt (st := st) (sc := 9) (i := i) hc hV hp hr
    rw [setV_self] at c1
    have m1 := M_mayCome (st := st) (r := r) (i := i) hm hVM hp
    rw [setM_self] at m1
    rw [← free_ag (hA.x 0), ← (hA.1 p hp).1] at m1
    have i1 := M_isPerson_in hm hp
    have i2 := M_isPlace_in hm hr hi
    by_cases c : (vC 9 st).1 p = -1 ∧ freeS (vC 9 st) (nI r) (nI i) n = true
    · rw [if_pos c] at c1 m1
      have s1 := P_standAt (sc := 9) hp6 (nI r) (nI i) (vC 9 st) st
      rw [setV_self] at s1
      have hV' := VV_st hV hk hr hi (hc.2.2.2.2 r hr).2.2 hp c.2
      have hbz : (vM st).2.2.1 p = 0 := by rw [← (hA.1 p hp).2.2.2.2]; exact h0 p hp c.1
      have hA' := Ag_st hA p hp (nI r) (nI i) hbz
      obtain ⟨S, hSS⟩ : ∃ S, S = setV 9 (stS (vC 9 st) p (nI r) (nI i)) st := ⟨_, rfl⟩
      have hmS : HM k n pc S := by rw [hSS]; exact HM_V hm (by omega) _
      have eS : S = setM (vM st) S := by rw [hSS, setM_V (by omega)]
      have m1' : F_X8_mayCome (nI p) (nI r) (nI i) S = some (1, S) := by
        have := M_mayCome (w := vM st) (st := S) (r := r) (i := i) hmS hVM hp
        rw [← eS, ← free_ag (hA.x 0), ← (hA.1 p hp).1, if_pos c] at this
        exact this
      refine ⟨nI (mkS (fun q => decide ((stS (vC 9 st) p (nI r) (nI i)).1 q = nI r)) 6), S, setM (upd (vM st).1 p (nI r), upd (vM st).2.1 p (nI i), (vM st).2.2) S, ?_, ?_, k, n, pc, ?_⟩
      · simp only [F_X7_put, F_X7_put_0, e1, Option.bind_some, c1, s1, P_whoIsIn, setV_at1, ← hSS]
        rw [if_neg (by decide), if_neg (by decide)]
        rw [hSS, setV_at1]
      · simp only [F_X8_put, F_X8_put_0, M_isPerson_in hmS hp, M_isPlace_in hmS hr hi, m1', Option.bind_some, g6 hp6, c6 hp6, bs]
        rw [if_neg (by decide), if_neg (by decide), if_neg (by decide)]
        have w1 : sV (sV S 69 p (nI r)) 70 p (nI i) = setM (upd (vM st).1 p (nI r), upd (vM st).2.1 p (nI i), (vM st).2.2) S := by
          conv => lhs; rw [eS]
          simp only [sV, setM_69, sA_M69, setM_70, sA_M70]
        rw [w1, M_isIn (HM_M hmS _), setM_69]
        simp only [Option.bind_some]
        congr 3
        refine (mkS6n hn (fun q hq => ?_) (fun q h1 h2 => ?_)).symm
        · rw [(hA'.1 q hq).1]
        · have := hV'.2.2.1 q h1 h2
          rw [this]
          exact decide_eq_false (fun e => nI_ne1 (a := r) (by omega) e.symm)
      · rw [hSS]
        exact h.sc0 (by omega) (ScR.mono (hS.rpb hA' hV' rfl (st_nw h0 p _ _)) (by omega))
    · rw [if_neg c] at c1 m1
      refine ro h (-1000000003) ?_ ?_
      · simp only [F_X7_put, F_X7_put_0, e1, Option.bind_some, c1, if_true]
        rw [if_neg (by decide)]
      · simp only [F_X8_put, F_X8_put_0, i1, i2, m1, Option.bind_some, if_true]
        rw [if_neg (by decide), if_neg (by decide)]
theorem B_leave (x : Int32) : Bo (F_X7_leave x) (F_X8_leave x) := by
  intro k n pc b st hb h
  obtain ⟨hc, hm, hF, -⟩ := h.house
  have hS := h.scene
  obtain ⟨hA, hV, -, -, h0, -⟩ := h.scene
  have hk := hc.1
  have hn := hc.2.1
  rcases idx x (n := n) (by omega) with ⟨p, hp, rfl⟩ | hx
  · have hp6 : p < 6 := by omega
    have e69 : st.1 10 p = st.1 69 p := (hA.1 p hp).1
    by_cases c : st.1 10 p = -1
    · have hpm := in_pm (x := st.1 10 p) hk (hV.1 p hp) rfl
      refine ro h (-1000000003) ?_ ?_
      · simp only [F_X7_leave, F_X7_leave_0, P_hasPerson_in hc hp, Option.bind_some, g6 hp6, c6 hp6, c, if_true]
        rw [if_neg (by decide)]
      · simp only [F_X8_leave, F_X8_leave_0, M_isPerson_in hm hp, Option.bind_some, g6 hp6, c6 hp6, ← e69, c]
        rw [if_neg (by decide), if_neg (by decide)]
    · have hpm := in_pm (x := st.1 10 p) hk (hV.1 p hp) rfl
      have s1 := P_goOut (sc := 9) hp6 (vC 9 st) st
      rw [setV_self] at s1
      obtain ⟨S, hSS⟩ : ∃ S, S = setV 9 (ouS (vC 9 st) p) st := ⟨_, rfl⟩
      have hmS : HM k n pc S := by rw [hSS]; exact HM_V hm (by omega) _
      have eS : S = setM (vM st) S := by rw [hSS, setM_V (by omega)]
      have l1 := M_leaveNow hp6 (vM st) S
      rw [← eS] at l1
      have eS69 : S.1 69 p = st.1 69 p := by rw [hSS, setV_off (by omega)]
      refine ⟨st.1 69 p, S, setM (ouS (vM st) p) S, ?_, ?_, k, n, pc, ?_⟩
      · simp only [F_X7_leave, F_X7_leave_0, P_hasPerson_in hc hp, Option.bind_some, g6 hp6, c6 hp6, c, if_false, s1, ← hSS, e69]
        rw [if_neg (by decide), if_neg (by rw [← e69]; exact c)]
      · simp only [F_X8_leave, F_X8_leave_0, M_isPerson_in hmS hp, Option.bind_some, g6 hp6, c6 hp6, eS69, ← e69, hpm, c, not_false_eq_true, if_true, l1]
        rw [if_neg (by decide)]
      · rw [hSS]
        exact h.sc0 (by omega) (ScR.mono (hS.rpb (Ag_ou hA p hp) (VV_out hV hp) rfl (st_nw h0 p _ _)) (by omega))
  · refine ro h (-1000000001) ?_ ?_
    · simp only [F_X7_leave, F_X7_leave_0, P_hasPerson_out hc hx, Option.bind_some, if_true]
    · simp only [F_X8_leave, F_X8_leave_0, M_isPerson_out hm hx, Option.bind_some, if_true]

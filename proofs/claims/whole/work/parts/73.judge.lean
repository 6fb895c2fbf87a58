/-! PURE: the book judged -/
def jdS (lw : Nat) (fl K : Nat → Int32) (n : Nat) (pc : Nat → Nat) (bk : Nat → Nat × Nat × Nat) : Nat → Nat → Vw → Nat → Option Nat × Nat × Vw
  | 0, _, v, m => (none, m, v)
  | d + 1, j, v, m => if v.1 (bk j).1 = -1 ∧ freeS v (nI (bk j).2.1) (nI (bk j).2.2) n = true then
      jdS lw fl K n pc bk d (j + 1) (cmS lw fl K n (bk j).2.1 (pc (bk j).2.1) 43 (stS v (bk j).1 (nI (bk j).2.1) (nI (bk j).2.2)) 0).2 (m + (cmS lw fl K n (bk j).2.1 (pc (bk j).2.1) 43 (stS v (bk j).1 (nI (bk j).2.1) (nI (bk j).2.2)) 0).1)
    else (some j, m, v)
/-- a book as rows have it -/
def bkIs (k n : Nat) (pc : Nat → Nat) (bk : Nat → Nat × Nat × Nat) (m : Nat) (f g h : Nat → Int32) : Prop := ∀ j, j < m → (bk j).1 < n ∧ (bk j).2.1 < k ∧ (bk j).2.2 < pc (bk j).2.1 ∧ f j = nI (bk j).1 ∧ g j = nI (bk j).2.1 ∧ h j = nI (bk j).2.2
theorem P_judgeLoop {k n : Nat} {pc : Nat → Nat} {st : St} (h : HC k n pc st) {lw mb : Nat} (hl : st.1 16 5 = nI lw) (hlw : lw ≤ 1) (hmb : mb ≤ 20) (e41 : st.1 41 3 = nI mb) {bk : Nat → Nat × Nat × Nat} (hbk : bkIs k n pc bk mb (st.1 42) (st.1 43) (st.1 44)) (x : Int32) : ∀ N j, j ≤ mb → mb - j < N → ∀ v m, VV k n pc v → F_X7_judge_34 N x (nI m) (nI j) (setV 16 v st) = some (if x = 0 then oI (jdS lw (st.1 3) (st.1 6) n pc bk (mb - j) j v m).1 else nI (jdS lw (st.1 3) (st.1 6) n pc bk (mb - j) j v m).2.1, setV 16 (jdS lw (st.1 3) (st.1 6) n pc bk (mb - j) j v m).2.2 st) := by
  have hk := h.1
  have hn := h.2.1
  have hpc : ∀ r, r < k → pc r ≤ 6 := fun r hr => (h.2.2.2.2 r hr).2.2
  refine upn (n := mb) (P := fun N j => ∀ v m, VV k n pc v → F_X7_judge_34 N x (nI m) (nI j) (setV 16 v st) = some (if x = 0 then oI (jdS lw (st.1 3) (st.1 6) n pc bk (mb - j) j v m).1 else nI (jdS lw (st.1 3) (st.1 6) n pc bk (mb - j) j v m).2.1, setV 16 (jdS lw (st.1 3) (st.1 6) n pc bk (mb - j) j v m).2.2 st)) ?_ ?_
  · intro N v m hV
    rw [Nat.sub_self, jdS, F_X7_judge_34, setV_off (show 41 ≤ 16 ∨ 16 + 6 ≤ 41 by omega), e41, if_pos (by rw [leN (by omega) (by omega)]; omega), F_X7_judge_141]
    by_cases c : x = 0
    · rw [if_pos c, if_pos c]; rfl
    · rw [if_neg c, if_neg c]; rfl
  · intro N j hj ih v m hV
    obtain ⟨b1, b2, b3, b4, b5, b6⟩ := hbk j hj
    have e42 : (setV 16 v st).1 42 = st.1 42 := setV_off (by omega)
    have e43 : (setV 16 v st).1 43 = st.1 43 := setV_off (by omega)
    have e44 : (setV 16 v st).1 44 = st.1 44 := setV_off (by omega)
    have g20 : ∀ {α : Type} {a : Option α}, gi (nI j) 20 a = a := gi_in (by omega) (by decide)
    have cj : (nI j).toNatClampNeg = j := clN (by omega)
    rw [F_X7_judge_34, setV_off (show 41 ≤ 16 ∨ 16 + 6 ≤ 41 by omega), e41, if_neg (nI_ge hj (by omega)), if_neg (show ¬ (20 : Int32) ≤ nI j from nI_ge (b := 20) (by omega) (by omega))]
    simp only [g20, cj, e42, e43, e44, b4, b5, b6, P_canStandAt h hV b1 b2, Option.bind_some]
    rw [show mb - j = (mb - (j + 1)) + 1 by omega, jdS]
    by_cases c : v.1 (bk j).1 = -1 ∧ freeS v (nI (bk j).2.1) (nI (bk j).2.2) n = true
    · simp only [if_pos c, P_comesIn h (show 9 ≤ 16 by omega) hV hl hlw b2 b3 b1 c.2, Option.bind_some, nI_add, nI_1]
      rw [if_neg (by decide)]
      exact ih _ _ (VV_cm hk hn hpc b2 _ _ _ (VV_st hV hk b2 b3 (hpc _ b2) b1 c.2))
    · simp only [if_neg c, F_X7_judge_97, if_true]
      by_cases cx : x = 0
      · simp only [if_pos cx]; rfl
      · simp only [if_neg cx]
theorem jdS_ok {k n : Nat} {pc : Nat → Nat} {fl K : Nat → Int32} {lw mb : Nat} {bk : Nat → Nat × Nat × Nat} {f g h : Nat → Int32} (hk : k ≤ 3) (hn : n ≤ 6) (hpc : ∀ r, r < k → pc r ≤ 6) (hbk : bkIs k n pc bk mb f g h) : ∀ d j v m a, j + d ≤ mb → (jdS lw fl K n pc bk d j v m).1 = some a → a < mb := by
  intro d
  induction d with
  | zero => intro j v m a _ e; cases e
  | succ d ih =>
    intro j v m a hd e
    rw [jdS] at e
    split at e
    · exact ih _ _ _ a (by omega) e
    · cases e; omega
theorem M_judgeLoop {k n : Nat} {pc : Nat → Nat} {S : St} {fl K : Nat → Int32} (h : HM k n pc S) {lw mb : Nat} (hl : S.1 59 10 = nI lw) (hlw : lw ≤ 1) (hmb : mb ≤ 20) (e45 : S.1 59 45 = nI mb) {bk : Nat → Nat × Nat × Nat} (hbk : bkIs k n pc bk mb (S.1 89) (S.1 90) (S.1 91)) (hf : FlA k pc fl (S.1 61)) (hK : ∀ p, p < n → K p = S.1 64 p) (x : Int32) : ∀ N j, j ≤ mb → mb - j < N → mb - j + 2 ≤ N → ∀ v w t b m, VV k n pc v → Ag n v w → BdM k n pc (S.1 61) (S.1 64) w → ∃ w' t' b', F_X8_judge_44 N x (-1) (nI m) (nI j) (setM w (scr S t b)) = F_X8_judge_125 x (oI (jdS lw fl K n pc bk (mb - j) j v m).1) (nI (jdS lw fl K n pc bk (mb - j) j v m).2.1) (setM w' (scr S t' b')) := by
  have hk := h.1
  have hn := h.2.1
  have hpc : ∀ r, r < k → pc r ≤ 6 := fun r hr => (h.2.2.2.2 r hr).2.2
  refine upn (n := mb) (P := fun N j => mb - j + 2 ≤ N → ∀ v w t b m, VV k n pc v → Ag n v w → BdM k n pc (S.1 61) (S.1 64) w → ∃ w' t' b', F_X8_judge_44 N x (-1) (nI m) (nI j) (setM w (scr S t b)) = F_X8_judge_125 x (oI (jdS lw fl K n pc bk (mb - j) j v m).1) (nI (jdS lw fl K n pc bk (mb - j) j v m).2.1) (setM w' (scr S t' b'))) ?_ ?_
  · intro N _ v w t b m hV hA hB
    refine ⟨w, t, b, ?_⟩
    rw [Nat.sub_self, jdS, F_X8_judge_44, setM_off (show 59 ≤ 66 ∨ 72 ≤ 59 by omega), scr_off (show 59 ≠ 80 ∧ 59 ≠ 81 by omega), e45, if_pos (by rw [leN (by omega) (by omega)]; omega)]
    rfl
  · intro N j hj ih hN v w t b m hV hA hB
    obtain ⟨b1, b2, b3, b4, b5, b6⟩ := hbk j hj
    have e89 : (setM w (scr S t b)).1 89 = S.1 89 := by rw [setM_off (by omega), scr_off (by omega)]
    have e90 : (setM w (scr S t b)).1 90 = S.1 90 := by rw [setM_off (by omega), scr_off (by omega)]
    have e91 : (setM w (scr S t b)).1 91 = S.1 91 := by rw [setM_off (by omega), scr_off (by omega)]
    have g20 : ∀ {α : Type} {a : Option α}, gi (nI j) 20 a = a := gi_in (by omega) (by decide)
    have cj : (nI j).toNatClampNeg = j := clN (by omega)
    have m1 := M_mayCome (r := (bk j).2.1) (i := (bk j).2.2) (HM_scr h t b) (Ag.vv hA hV) b1
    rw [← free_ag (hA.x 0), ← (hA.1 _ b1).1] at m1
    rw [F_X8_judge_44, setM_off (show 59 ≤ 66 ∨ 72 ≤ 59 by omega), scr_off (show 59 ≠ 80 ∧ 59 ≠ 81 by omega), e45, if_neg (nI_ge hj (by omega)), if_neg (by decide)]
    simp only [g20, cj, e89, e90, e91, b4, b5, b6, m1, Option.bind_some]
    rw [show mb - j = (mb - (j + 1)) + 1 by omega, jdS]
    by_cases c : v.1 (bk j).1 = -1 ∧ freeS v (nI (bk j).2.1) (nI (bk j).2.2) n = true
    · obtain ⟨t', b', w', q1, q2, q3⟩ := M_comeNow (st := scr S t b) (fl := fl) (K := K) (lw := lw) (HM_scr h t b) (by rw [scr_off (by omega)]; exact hl) hlw (by rw [scr_off (by omega)]; exact hf) (fun p hp => by rw [scr_off (by omega)]; exact hK p hp) hV hA (by rw [scr_off (by omega), scr_off (by omega)]; exact hB) b2 b3 b1 c.2
      rw [scr_scr] at q1
      simp only [if_pos c, q1, Option.bind_some, F_X8_judge_119, nI_add, nI_1]
      rw [if_neg (by decide)]
      exact ih (by omega) _ _ _ _ _ (VV_cm hk hn hpc b2 _ _ _ (VV_st hV hk b2 b3 (hpc _ b2) b1 c.2)) q2 (BdM_I hB (by rw [q3]))
    · simp only [if_neg c, if_true, F_X8_judge_119, nI_1]
      refine ⟨w, t, b, ?_⟩
      obtain ⟨N', rfl⟩ : ∃ N', N = N' + 1 := ⟨N - 1, by omega⟩
      rw [F_X8_judge_44]
      split
      · rfl
      · rw [if_pos (nI_pos' (by omega))]; rfl
theorem EqV.trans {u v w : Vw} (h1 : EqV u v) (h2 : EqV v w) : EqV u w := fun p hp => ⟨(h2 p hp).1.trans (h1 p hp).1, (h2 p hp).2.1.trans (h1 p hp).2.1, (h2 p hp).2.2.1.trans (h1 p hp).2.2.1, (h2 p hp).2.2.2.1.trans (h1 p hp).2.2.2.1, (h2 p hp).2.2.2.2.trans (h1 p hp).2.2.2.2⟩
theorem M_judge20 (x : Int32) (w : Vw) (S : St) : F_X8_judge_20 fN x 0 (setM w S) = F_X8_judge_44 fN x (-1) 0 0 (setM (allOut 6 w) S) := by
  have q := upn (n := 6) (P := fun N j => F_X8_judge_20 N x (nI j) (setM (allOut j w) S) = F_X8_judge_44 fN x (-1) 0 0 (setM (allOut 6 w) S))
    (fun N => by simp only [F_X8_judge_20, t6, if_true])
    (fun N j hj ih => by
      rw [F_X8_judge_20, if_neg (by rw [f6 hj]; exact not_false), M_leaveNow hj, Option.bind_some, allOut_s, nI_1]
      exact ih) fN 0 (by omega) (fN0 (by omega))
  rw [allOut_0] at q
  exact q
theorem B_judge (x : Int32) : Bo (F_X7_judge x) (F_X8_judge x) := by
  intro k n pc b st hb h
  have hH := h.house
  obtain ⟨hc, hm, hF, -, hK, hG, -⟩ := h.house
  have hS := h.scene
  have hB := ScR.bd h.scene hH
  obtain ⟨hA, hV, -, -, -, ⟨lw, hlw, w1, w2⟩, -⟩ := h.scene
  have hk := hc.1
  have hn := hc.2.1
  by_cases c : x = 0 ∨ x = 1
  · have z1 : ¬ x < 0 ∧ x ≤ 1 := by rcases c with rfl | rfl <;> decide
    obtain ⟨mb, hmb, k1, k2, hbk0⟩ := h.book
    obtain ⟨bk, hbk⟩ : ∃ bk : Nat → Nat × Nat × Nat, ∀ j, j < mb → (bk j).1 < n ∧ (bk j).2.1 < k ∧ (bk j).2.2 < pc (bk j).2.1 ∧ st.1 42 j = nI (bk j).1 ∧ st.1 89 j = nI (bk j).1 ∧ st.1 43 j = nI (bk j).2.1 ∧ st.1 90 j = nI (bk j).2.1 ∧ st.1 44 j = nI (bk j).2.2 ∧ st.1 91 j = nI (bk j).2.2 := by
      have q : ∀ j, ∃ y : Nat × Nat × Nat, j < mb → y.1 < n ∧ y.2.1 < k ∧ y.2.2 < pc y.2.1 ∧ st.1 42 j = nI y.1 ∧ st.1 89 j = nI y.1 ∧ st.1 43 j = nI y.2.1 ∧ st.1 90 j = nI y.2.1 ∧ st.1 44 j = nI y.2.2 ∧ st.1 91 j = nI y.2.2 := by
        intro j
        by_cases cj : j < mb
        · obtain ⟨p, r, i, hh⟩ := hbk0 j cj
          exact ⟨(p, r, i), fun _ => hh⟩
        · exact ⟨(0, 0, 0), fun q => absurd q cj⟩
      exact ⟨fun j => Classical.choose (q j), fun j => Classical.choose_spec (q j)⟩
    obtain ⟨S, hSS⟩ : ∃ S, S = cpS 16 9 st := ⟨_, rfl⟩
    have eo : ∀ a, (a < 16 ∨ 21 < a) → S.1 a = st.1 a := fun a ha => by rw [hSS, cpS_off (by omega)]
    have hcS : HC k n pc S := hc.cg (eo 1 (by omega)) (eo 2 (by omega))
    obtain ⟨v, hv⟩ : ∃ v, v = mixV (vC 9 st) (vC 16 st) := ⟨_, rfl⟩
    have evC : vC 16 S = v := by rw [hSS, vC_cpS, hv]
    have hs : ScR k n pc b (st.1 4) v (vM st) (st.1 9 5) (st.1 59 10) (st.1 9 6) (st.1 59 16) := by rw [hv]; exact ScR.cgv hn hS (EqV_mix _ _) (EqV.refl _)
    have p1 := P_sendAllOut (sc := 16) (vC 16 S) S
    rw [setV_self, evC] at p1
    have q1 := P_judgeLoop hcS (lw := lw) (mb := mb) (bk := bk) (by rw [hSS, cpS_5]; exact w1) hlw hmb (by rw [eo 41 (by omega)]; exact k1) (by
      intro j hj
      rw [eo 42 (by omega), eo 43 (by omega), eo 44 (by omega)]
      obtain ⟨a1, a2, a3, a4, a5, a6, a7, a8, a9⟩ := hbk j hj
      exact ⟨a1, a2, a3, a4, a6, a8⟩) x fN 0 (by omega) (fN0 (by omega)) (allOut 6 v) 0 (VV_allOut hs.2.1 hn)
    rw [eo 3 (by omega), eo 6 (by omega), Nat.sub_zero] at q1
    obtain ⟨J, hJ⟩ : ∃ J, J = jdS lw (st.1 3) (st.1 6) n pc bk mb 0 (allOut 6 v) 0 := ⟨_, rfl⟩
    rw [← hJ] at q1
    obtain ⟨S1, hS1⟩ : ∃ S1, S1 = setV 16 J.2.2 S := ⟨_, rfl⟩
    rw [← hS1] at q1
    have eo1 : ∀ a, (a < 16 ∨ 21 < a) → S1.1 a = st.1 a := fun a ha => by rw [hS1, setV_off (by omega), eo a ha]
    obtain ⟨f, f1, f2, f3, f4, f5⟩ := M_save (i := 2) (by omega) S1
    have evM1 : vM S1 = vM st := vM_cg (fun a a1 a2 => eo1 a (by omega))
    rw [evM1] at f2
    rw [eo1 59 (by omega)] at f3 f4
    obtain ⟨S2, hS2⟩ : ∃ S2, S2 = sA S1 92 f := ⟨_, rfl⟩
    rw [← hS2] at f1
    have eo2 : ∀ a, (a < 16 ∨ 21 < a) → a ≠ 92 → S2.1 a = st.1 a := fun a ha h1 => by rw [hS2, sA_off h1, eo1 a ha]
    have e92 : S2.1 92 = f := by rw [hS2, sA_at]
    have evM2 : vM S2 = vM st := vM_cg (fun a a1 a2 => eo2 a (by omega) (by omega))
    have hm2 : HM k n pc S2 := hm.cg (by rw [eo2 59 (by omega) (by omega)]) (by rw [eo2 59 (by omega) (by omega)]) (eo2 60 (by omega) (by omega))
    have j20 := M_judge20 x (vM st) S2
    have eS2 : setM (vM st) S2 = S2 := by rw [← evM2, setM_self]
    rw [eS2] at j20
    have hlen : mb + 2 ≤ fN := by have := fN_big; omega
    obtain ⟨w', t', b', q2⟩ := M_judgeLoop (S := S2) (fl := st.1 3) (K := st.1 6) hm2 (lw := lw) (mb := mb) (bk := bk) (by rw [eo2 59 (by omega) (by omega)]; exact w2) hlw hmb (by rw [eo2 59 (by omega) (by omega)]; exact k2) (by
      intro j hj
      rw [eo2 89 (by omega) (by omega), eo2 90 (by omega) (by omega), eo2 91 (by omega) (by omega)]
      obtain ⟨a1, a2, a3, a4, a5, a6, a7, a8, a9⟩ := hbk j hj
      exact ⟨a1, a2, a3, a5, a7, a9⟩) (by rw [eo2 61 (by omega) (by omega)]; exact hF) (fun p hp => by rw [eo2 64 (by omega) (by omega)]; exact (hK p hp).1) x fN 0 (by omega) (fN0 (by omega)) (by omega) (allOut 6 v) (allOut 6 (vM st)) (S2.1 80) (S2.1 81) 0 (VV_allOut hs.2.1 hn) (Ag_allOut hs.1 hn) (by rw [eo2 61 (by omega) (by omega), eo2 64 (by omega) (by omega)]; exact BdM_I hB rfl)
    rw [Nat.sub_zero, ← hJ, scr_self] at q2
    obtain ⟨w3, g1, g2⟩ := M_load (i := 2) (by omega) w' (scr S2 t' b')
    rw [scr_off (show 92 ≠ 80 ∧ 92 ≠ 81 by omega), e92, f3, f4] at g1
    rw [scr_off (show 92 ≠ 80 ∧ 92 ≠ 81 by omega), e92] at g2
    obtain ⟨S3, hS3⟩ : ∃ S3, S3 = setM w3 (sV (sV (scr S2 t' b') 59 10 (st.1 59 10)) 59 16 (st.1 59 16)) := ⟨_, rfl⟩
    rw [← hS3] at g1
    have eo3 : ∀ a, (a < 16 ∨ 21 < a) → (a ≤ 66 ∨ 72 ≤ a) → a ≠ 80 → a ≠ 81 → a ≠ 59 → a ≠ 92 → S3.1 a = st.1 a := by
      intro a a1 a2 a3 a4 a5 a6
      rw [hS3, setM_off a2, sV_off a5, sV_off a5, scr_off ⟨a3, a4⟩, eo2 a a1 a6]
    have e59 : S3.1 59 = st.1 59 := by
      rw [hS3, setM_off (by omega), sV_at, sV_at, scr_off (by omega), eo2 59 (by omega) (by omega)]
      funext j
      by_cases c1 : j = 16
      · subst c1; rw [upd_at]
      · rw [upd_off c1]
        by_cases c2 : j = 10
        · subst c2; rw [upd_at]
        · rw [upd_off c2]
    refine ⟨if x = 0 then oI J.1 else nI J.2.1, S1, S3, ?_, ?_, k, n, pc, ?_⟩
    · simp only [F_X7_judge, F_X7_judge_0]
      rw [if_neg z1.1, if_pos z1.2, P_copyFrom sc_9 (by omega), Option.bind_some, ← hSS, p1, Option.bind_some]
      exact q1
    · have f1' : F_X8_save 2 S1 = some S2 := f1
      have g1' : F_X8_load 2 (setM w' (scr S2 t' b')) = some S3 := g1
      have q2' : F_X8_judge_44 fN x (-1) 0 0 (setM (allOut 6 (vM st)) S2) = F_X8_judge_125 x (oI J.1) (nI J.2.1) (setM w' (scr S2 t' b')) := q2
      rw [F_X8_judge, F_X8_judge_0, in01, if_pos c, Option.bind_some]
      dsimp only
      rw [if_neg (by decide), f1', Option.bind_some, j20, q2', F_X8_judge_125, g1', Option.bind_some]
      unfold F_X8_judge_139
      by_cases cx : x = 0
      · rw [if_pos cx, if_pos cx]
      · rw [if_neg cx, if_neg cx]
    · refine h.cg (by omega) (fun a ha => eo3 a (by omega) (by omega) (by omega) (by omega) (by omega) (by omega)) (fun j _ => by rw [e59]) (fun j hj => ?_) ?_
      · rw [hS3, setM_off (by omega), sV_off (by omega), sV_off (by omega), scr_off (by omega), e92, f5 j (by omega), eo1 92 (by omega)]
      · unfold SceneR
        rw [vC_cg (s := st) (fun a a1 a2 => eo3 a (by omega) (by omega) (by omega) (by omega) (by omega) (by omega)), show vM S3 = w3 by rw [hS3, vM_setM], e59, eo3 4 (by omega) (by omega) (by omega) (by omega) (by omega) (by omega), eo3 9 (by omega) (by omega) (by omega) (by omega) (by omega) (by omega)]
        exact (ScR.cgv hn hS (EqV.refl _) (f2.trans g2)).mono (by omega)
  · refine ro h (-1000000002) ?_ ?_
    · simp only [F_X7_judge, F_X7_judge_0, F_X7_judge_9]
      rcases c01 c with c | c
      · rw [if_pos c]
      · rw [if_neg c]; split <;> rfl
    · simp only [F_X8_judge, F_X8_judge_0, in01, if_neg c, Option.bind_some, if_true]

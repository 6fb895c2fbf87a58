/-! PURE: lawful till; the book judged -/
theorem HC.cg {k n : Nat} {pc : Nat → Nat} {st st' : St} (h : HC k n pc st) (e1 : st'.1 1 = st.1 1) (e2 : st'.1 2 = st.1 2) : HC k n pc st' := by
  unfold HC at h ⊢
  rw [e1, e2]; exact h
theorem HM.cg {k n : Nat} {pc : Nat → Nat} {st st' : St} (h : HM k n pc st) (e0 : st'.1 59 0 = st.1 59 0) (e3 : st'.1 59 3 = st.1 59 3) (e60 : st'.1 60 = st.1 60) : HM k n pc st' := by
  unfold HM at h ⊢
  rw [e0, e3, e60]; exact h
/-- the first of d from i on that is not 0 -/
def tS (f : Nat → Nat) : Nat → Nat → Nat
  | i, 0 => i
  | i, d + 1 => if f i = 0 then tS f (i + 1) d else i
theorem tS_congr {f g : Nat → Nat} : ∀ d i, (∀ j, i ≤ j → j < i + d → f j = g j) → tS f i d = tS g i d := by
  intro d
  induction d with
  | zero => intro i _; rfl
  | succ d ih =>
    intro i h
    rw [tS, tS, h i (by omega) (by omega), ih (i + 1) (fun j h1 h2 => h j (by omega) (by omega))]
theorem yrN_3 (n : Nat) (G : Nat → Int32) (v : Vw) : ∀ d, (yrN n G d v).1 = v.1 ∧ (yrN n G d v).2.1 = v.2.1 ∧ (yrN n G d v).2.2.1 = v.2.2.1 := by
  intro d
  induction d with
  | zero => exact ⟨rfl, rfl, rfl⟩
  | succ d ih => exact ih
theorem frS_lt {lw n k : Nat} {fl : Nat → Int32} {v : Vw} (hk : k ≤ 3) : frS lw n k fl v < 64 := mkS_lt _ _ (by omega)
theorem f60 {i : Nat} (h : i < 60) : ¬ (60 : Int32) ≤ nI i := nI_ge (b := 60) h (by omega)
theorem P_tillLoop {k n : Nat} {pc : Nat → Nat} {v : Vw} {st : St} (h : HC k n pc st) {lw : Nat} (hl : st.1 16 5 = nI lw) (hlw : lw ≤ 1) (hV : ∀ d, d ≤ 60 → VV k n pc (yrN n (st.1 7) d v)) : ∃ v', F_X7_till_13 fN 0 (setV 16 v st) = some (nI (tS (fun d => frS lw n k (st.1 3) (yrN n (st.1 7) d v)) 0 60), setV 16 v' st) := by
  have hk := h.1
  have q := upn (n := 60) (P := fun N i => i ≤ 60 → ∃ v', F_X7_till_13 N (nI i) (setV 16 (yrN n (st.1 7) i v) st) = some (nI (tS (fun d => frS lw n k (st.1 3) (yrN n (st.1 7) d v)) i (60 - i)), setV 16 v' st))
    (fun N _ => ⟨_, by rw [F_X7_till_13, if_pos (by decide)]; rfl⟩)
    (fun N i hi ih _ => by
      rw [F_X7_till_13, if_neg (f60 hi), P_frV h (by omega) (hV i (by omega)) hl hlw, Option.bind_some]
      rw [show 60 - i = (60 - (i + 1)) + 1 by omega, tS]
      by_cases c : frS lw n k (st.1 3) (yrN n (st.1 7) i v) = 0
      · rw [if_pos c]
        dsimp only
        rw [c, if_pos (by decide), P_passYearV h (by omega), Option.bind_some, nI_1]
        exact ih (by omega)
      · rw [if_neg c]
        dsimp only
        rw [if_neg (nI_ne0 (by omega) (by have := frS_lt (lw := lw) (n := n) (fl := st.1 3) (v := yrN n (st.1 7) i v) hk; omega))]
        exact ⟨_, rfl⟩) fN 0 (by omega) (fN0 (by omega)) (by omega)
  exact q
/-- the reference's scratch rows 87, 88 -/
def scr2 (st : St) (f g : Nat → Int32) : St := sA (sA st 87 f) 88 g
theorem scr2_87 (st : St) (f g : Nat → Int32) (j : Nat) (x : Int32) : sV (scr2 st f g) 87 j x = scr2 st (upd f j x) g := by
  unfold scr2 sV
  rw [sA_off (by omega), sA_at, sA_comm _ (show 88 ≠ 87 by omega), sA_sA]
theorem scr2_88 (st : St) (f g : Nat → Int32) (j : Nat) (x : Int32) : sV (scr2 st f g) 88 j x = scr2 st f (upd g j x) := by
  unfold scr2 sV
  rw [sA_at, sA_sA]
theorem scr2_off {st : St} {f g : Nat → Int32} {i : Nat} (h : i ≠ 87 ∧ i ≠ 88) : (scr2 st f g).1 i = st.1 i := by
  unfold scr2
  rw [sA_off h.2, sA_off h.1]
theorem scr2_at (st : St) (f g : Nat → Int32) : (scr2 st f g).1 87 = f ∧ (scr2 st f g).1 88 = g := by
  unfold scr2
  exact ⟨by rw [sA_off (by omega), sA_at], sA_at _ _ _⟩
theorem scr2_self (st : St) : scr2 st (st.1 87) (st.1 88) = st := by
  unfold scr2
  rw [sA_id, sA_id]
theorem M_till2 (st : St) : ∃ f g, (∀ p, p < 6 → f p = st.1 67 p ∧ g p = st.1 68 p) ∧ F_X8_till st = F_X8_till_40 fN 0 (scr2 st f g) := by
  have q := upn (n := 6) (P := fun N j => ∀ f g : Nat → Int32, (∀ p, p < j → f p = st.1 67 p ∧ g p = st.1 68 p) → ∃ f' g' : Nat → Int32, (∀ p, p < 6 → f' p = st.1 67 p ∧ g' p = st.1 68 p) ∧ F_X8_till_2 N (nI j) (scr2 st f g) = F_X8_till_40 fN 0 (scr2 st f' g'))
    (fun N f g h => ⟨f, g, h, by simp only [F_X8_till_2, t6, if_true]⟩)
    (fun N j hj ih f g h => by
      obtain ⟨f', g', h1, h2⟩ := ih (upd f j (st.1 67 j)) (upd g j (st.1 68 j)) (fun p hp => by
        by_cases c : p = j
        · subst c; exact ⟨upd_at _ _ _, upd_at _ _ _⟩
        · rw [upd_off c, upd_off c]; exact h p (by omega))
      refine ⟨f', g', h1, ?_⟩
      rw [← h2]
      simp only [F_X8_till_2, f6 hj, if_false, g6 hj, c6 hj, bs, scr2_87, scr2_88, scr2_off (show 67 ≠ 87 ∧ 67 ≠ 88 by omega), scr2_off (show 68 ≠ 87 ∧ 68 ≠ 88 by omega), nI_1]) fN 0 (by omega) (fN0 (by omega)) (st.1 87) (st.1 88) (fun p hp => by omega)
  rw [scr2_self] at q
  exact q
theorem M_till65 (w : Vw) (st : St) (a : Int32) : ∃ w', F_X8_till_63 a (setM w st) = some (a, setM w' st) ∧ w'.1 = w.1 ∧ w'.2.1 = w.2.1 ∧ w'.2.2.1 = w.2.2.1 ∧ ∀ p, p < 6 → w'.2.2.2.1 p = st.1 87 p ∧ w'.2.2.2.2 p = st.1 88 p := by
  have q := upn (n := 6) (P := fun N j => ∀ u : Vw, u.1 = w.1 → u.2.1 = w.2.1 → u.2.2.1 = w.2.2.1 → (∀ p, p < j → u.2.2.2.1 p = st.1 87 p ∧ u.2.2.2.2 p = st.1 88 p) → ∃ w', F_X8_till_65 N a (nI j) (setM u st) = some (a, setM w' st) ∧ w'.1 = w.1 ∧ w'.2.1 = w.2.1 ∧ w'.2.2.1 = w.2.2.1 ∧ ∀ p, p < 6 → w'.2.2.2.1 p = st.1 87 p ∧ w'.2.2.2.2 p = st.1 88 p)
    (fun N u a1 a2 a3 h => ⟨u, by simp only [F_X8_till_65, t6, if_true], a1, a2, a3, h⟩)
    (fun N j hj ih u a1 a2 a3 h => by
      obtain ⟨w', h1, h2⟩ := ih (u.1, u.2.1, u.2.2.1, upd u.2.2.2.1 j (st.1 87 j), upd u.2.2.2.2 j (st.1 88 j)) a1 a2 a3 (fun p hp => by
        by_cases c : p = j
        · subst c; exact ⟨upd_at _ _ _, upd_at _ _ _⟩
        · simp only [upd_off c]; exact h p (by omega))
      refine ⟨w', ?_, h2⟩
      rw [← h1]
      simp only [F_X8_till_65, f6 hj, if_false, g6 hj, c6 hj, bs, sV, setM_67, sA_M67, setM_68, sA_M68, setM_off (show 87 ≤ 66 ∨ 72 ≤ 87 by omega), setM_off (show 88 ≤ 66 ∨ 72 ≤ 88 by omega), nI_1]) fN 0 (by omega) (fN0 (by omega)) w rfl rfl rfl (fun p hp => by omega)
  exact q
theorem M_tillLoop {k n : Nat} {pc : Nat → Nat} {w : Vw} {st : St} (h : HM k n pc st) {lw : Nat} (hl : st.1 59 10 = nI lw) (hlw : lw ≤ 1) (hV : ∀ d, d ≤ 60 → VV k n pc (yrN n (st.1 65) d w) ∧ BdM k n pc (st.1 61) (st.1 64) (yrN n (st.1 65) d w)) (hG : ∀ p, p < n → 0 ≤ (st.1 65 p).toInt ∧ (st.1 65 p).toInt ≤ 9) : ∃ w', F_X8_till_40 fN 0 (setM w st) = some (nI (tS (fun d => frS lw n k (st.1 61) (yrN n (st.1 65) d w)) 0 60), setM w' st) ∧ w'.1 = w.1 ∧ w'.2.1 = w.2.1 ∧ w'.2.2.1 = w.2.2.1 ∧ ∀ p, p < 6 → w'.2.2.2.1 p = st.1 87 p ∧ w'.2.2.2.2 p = st.1 88 p := by
  have hk := h.1
  have fin : ∀ i (a : Int32), ∃ w', F_X8_till_63 a (setM (yrN n (st.1 65) i w) st) = some (a, setM w' st) ∧ w'.1 = w.1 ∧ w'.2.1 = w.2.1 ∧ w'.2.2.1 = w.2.2.1 ∧ ∀ p, p < 6 → w'.2.2.2.1 p = st.1 87 p ∧ w'.2.2.2.2 p = st.1 88 p := by
    intro i a
    obtain ⟨w', h1, h2, h3, h4, h5⟩ := M_till65 (yrN n (st.1 65) i w) st a
    obtain ⟨y1, y2, y3⟩ := yrN_3 n (st.1 65) w i
    exact ⟨w', h1, h2.trans y1, h3.trans y2, h4.trans y3, h5⟩
  have q := upn (n := 60) (P := fun N i => i ≤ 60 → ∃ w', F_X8_till_40 N (nI i) (setM (yrN n (st.1 65) i w) st) = some (nI (tS (fun d => frS lw n k (st.1 61) (yrN n (st.1 65) d w)) i (60 - i)), setM w' st) ∧ w'.1 = w.1 ∧ w'.2.1 = w.2.1 ∧ w'.2.2.1 = w.2.2.1 ∧ ∀ p, p < 6 → w'.2.2.2.1 p = st.1 87 p ∧ w'.2.2.2.2 p = st.1 88 p)
    (fun N _ => by rw [F_X8_till_40, if_pos (by decide)]; exact fin 60 (nI 60))
    (fun N i hi ih _ => by
      rw [F_X8_till_40, if_neg (f60 hi), M_frV h (hV i (by omega)).1 hl hlw, Option.bind_some]
      rw [show 60 - i = (60 - (i + 1)) + 1 by omega, tS]
      by_cases c : frS lw n k (st.1 61) (yrN n (st.1 65) i w) = 0
      · rw [if_pos c]
        dsimp only
        rw [c, if_pos (by decide), M_yearNowV h (hV i (by omega)).2 hG, Option.bind_some, nI_1]
        exact ih (by omega)
      · rw [if_neg c]
        dsimp only
        rw [if_neg (nI_ne0 (by omega) (by have := frS_lt (lw := lw) (n := n) (fl := st.1 61) (v := yrN n (st.1 65) i w) hk; omega))]
        exact fin i (nI i)) fN 0 (by omega) (fN0 (by omega)) (by omega)
  exact q
theorem B_till : Bo F_X7_till F_X8_till := by
  intro k n pc b st hb h
  have hH := h.house
  obtain ⟨hc, hm, hF, -, hK, hG, -⟩ := h.house
  have hS := h.scene
  obtain ⟨-, -, -, -, -, ⟨lw, hlw, w1, w2⟩, -⟩ := h.scene
  have hk := hc.1
  have hn := hc.2.1
  have hpc : ∀ r, r < k → pc r ≤ 6 := fun r hr => (hc.2.2.2.2 r hr).2.2
  obtain ⟨S, hSS⟩ : ∃ S, S = cpS 16 9 st := ⟨_, rfl⟩
  have eo : ∀ a, (a < 16 ∨ 21 < a) → S.1 a = st.1 a := fun a ha => by rw [hSS, cpS_off (by omega)]
  have hcS : HC k n pc S := hc.cg (eo 1 (by omega)) (eo 2 (by omega))
  obtain ⟨v, hv⟩ : ∃ v, v = mixV (vC 9 st) (vC 16 st) := ⟨_, rfl⟩
  have evC : vC 16 S = v := by rw [hSS, vC_cpS, hv]
  have hs : ∀ d, d ≤ 60 → ScR k n pc (b + d) (st.1 4) (yrN n (st.1 7) d v) (yrN n (st.1 65) d (vM st)) (st.1 9 5) (st.1 59 10) (st.1 9 6) (st.1 59 16) := fun d hd => ScR_yrs (by rw [hv]; exact ScR.cgv hn hS (EqV_mix _ _) (EqV.refl _)) hG d (by omega)
  obtain ⟨v', q1⟩ := P_tillLoop (v := v) hcS (lw := lw) (by rw [hSS, cpS_5]; exact w1) hlw (fun d hd => by rw [eo 7 (by omega)]; exact (hs d hd).2.1)
  rw [← evC, setV_self, evC, eo 3 (by omega), eo 7 (by omega)] at q1
  obtain ⟨S1, hS1⟩ : ∃ S1, S1 = setV 16 v' S := ⟨_, rfl⟩
  have eo1 : ∀ a, (a < 16 ∨ 21 < a) → S1.1 a = st.1 a := fun a ha => by rw [hS1, setV_off (by omega), eo a ha]
  obtain ⟨f, g, fg, q2⟩ := M_till2 S1
  obtain ⟨S2, hS2⟩ : ∃ S2, S2 = scr2 S1 f g := ⟨_, rfl⟩
  have eo2 : ∀ a, (a < 16 ∨ 21 < a) → a ≠ 87 → a ≠ 88 → S2.1 a = st.1 a := fun a ha h1 h2 => by rw [hS2, scr2_off ⟨h1, h2⟩, eo1 a ha]
  have hm2 : HM k n pc S2 := hm.cg (by rw [eo2 59 (by omega) (by omega) (by omega)]) (by rw [eo2 59 (by omega) (by omega) (by omega)]) (eo2 60 (by omega) (by omega) (by omega))
  have evM : vM S2 = vM st := vM_cg (fun a a1 a2 => eo2 a (by omega) (by omega) (by omega))
  obtain ⟨w', q3, q4, q5, q6, q7⟩ := M_tillLoop (w := vM st) hm2 (lw := lw) (by rw [eo2 59 (by omega) (by omega) (by omega)]; exact w2) hlw (fun d hd => by
      rw [eo2 65 (by omega) (by omega) (by omega), eo2 61 (by omega) (by omega) (by omega), eo2 64 (by omega) (by omega) (by omega)]
      exact ⟨Ag.vv (hs d hd).1 (hs d hd).2.1, ScR.bd (hs d hd) hH⟩) (by rw [eo2 65 (by omega) (by omega) (by omega)]; exact fun p hp => (hG p hp).2)
  rw [← evM, setM_self, evM, eo2 65 (by omega) (by omega) (by omega), eo2 61 (by omega) (by omega) (by omega)] at q3
  rw [tS_congr (g := fun d => frS lw n k (st.1 3) (yrN n (st.1 7) d v)) 60 0 (fun j _ hj => (fr_ag (lw := lw) hk hn hpc hF (hs j (by omega)).2.1 (hs j (by omega)).1).symm)] at q3
  refine ⟨nI (tS (fun d => frS lw n k (st.1 3) (yrN n (st.1 7) d v)) 0 60), S1, setM w' S2, ?_, ?_, k, n, pc, ?_⟩
  · rw [F_X7_till, F_X7_till_0, P_copyFrom sc_9 (by omega), Option.bind_some, ← hSS, q1, ← hS1]
  · rw [q2, ← hS2]; exact q3
  · refine h.cg (by omega) (fun a ha => by rw [setM_off (by omega), eo2 a (by omega) (by omega) (by omega)]) (fun j _ => by rw [setM_off (by omega), eo2 59 (by omega) (by omega) (by omega)]) (fun j _ => by rw [setM_off (by omega), eo2 92 (by omega) (by omega) (by omega)]) ?_
    unfold SceneR
    rw [vM_setM, vC_cg (s := st) (fun a a1 a2 => by rw [setM_off (by omega), eo2 a (by omega) (by omega) (by omega)]), setM_off (show 4 ≤ 66 ∨ 72 ≤ 4 by omega), setM_off (show 9 ≤ 66 ∨ 72 ≤ 9 by omega), setM_off (show 59 ≤ 66 ∨ 72 ≤ 59 by omega), eo2 4 (by omega) (by omega) (by omega), eo2 9 (by omega) (by omega) (by omega), eo2 59 (by omega) (by omega) (by omega)]
    refine (ScR.cgv hn hS (EqV.refl _) (fun p hp => ⟨?_, ?_, ?_, ?_, ?_⟩)).mono (by omega)
    · rw [q4]
    · rw [q5]
    · rw [q6]
    · rw [(q7 p hp).1, hS2, (scr2_at _ _ _).1, (fg p hp).1, eo1 67 (by omega)]; rfl
    · rw [(q7 p hp).2, hS2, (scr2_at _ _ _).2, (fg p hp).2, eo1 68 (by omega)]; rfl

/-! PURE: years, images, all out -/
theorem P_frV {k n : Nat} {pc : Nat → Nat} {v : Vw} {st : St} (h : HC k n pc st) {sc lw : Nat} (hsc : 9 ≤ sc) (hV : VV k n pc v) (hl : st.1 sc 5 = nI lw) (hlw : lw ≤ 1) : F_X1_roomsWithFault sc (setV sc v st) = some (nI (frS lw n k (st.1 3) v), setV sc v st) := by
  have e := P_roomsWithFault (st := setV sc v st) (sc := sc) (lw := lw) (HC_V h hsc v) (by rw [vC_setV]; exact hV) (by rw [setV_off (show sc ≤ sc ∨ sc + 6 ≤ sc by omega)]; exact hl) hlw
  rw [vC_setV, setV_off (show 3 ≤ sc ∨ sc + 6 ≤ 3 by omega)] at e
  exact e
theorem M_frV {k n : Nat} {pc : Nat → Nat} {w : Vw} {st : St} (h : HM k n pc st) {lw : Nat} (hV : VV k n pc w) (hl : st.1 59 10 = nI lw) (hlw : lw ≤ 1) : F_X8_faultRooms (setM w st) = some (nI (frS lw n k (st.1 61) w), setM w st) := by
  have e := M_faultRooms (st := setM w st) (lw := lw) (HM_M h w) (by rw [vM_setM]; exact hV) (by rw [setM_off (show 59 ≤ 66 ∨ 72 ≤ 59 by omega)]; exact hl) hlw
  rw [vM_setM, setM_off (show 61 ≤ 66 ∨ 72 ≤ 61 by omega)] at e
  exact e
theorem ScR.yr {k n : Nat} {pc : Nat → Nat} {b : Nat} {A0 : Nat → Int32} {v w : Vw} {lc lm sc sm : Int32} {G G' : Nat → Int32} (h : ScR k n pc b A0 v w lc lm sc sm) (hb : b < 2 ^ 29) (hG : ∀ p, p < n → G p = G' p ∧ 0 ≤ (G' p).toInt ∧ (G' p).toInt ≤ 9) : ScR k n pc (b + 1) A0 (yrV n G v) (yrV n G' w) lc lm sc sm := by
  obtain ⟨h1, h2, ⟨y, hy, h3⟩, h4, h5, h6⟩ := h
  refine ⟨Ag_yr h1 (fun p hp => (hG p hp).1), VV_yr (b := b + 100) h2 (by omega) (fun p hp => ?_), ⟨y + 1, by omega, fun p hp => ?_⟩, fun p hp => ?_, h5, h6⟩
  · obtain ⟨a, a1, a2, a3⟩ := h3 p hp
    exact ⟨a + y, by omega, a3⟩
  · obtain ⟨a, a1, a2, a3⟩ := h3 p hp
    refine ⟨a, a1, a2, ?_⟩
    show (if p < n then v.2.2.2.1 p + 1 else v.2.2.2.1 p) = _
    rw [if_pos hp, a3, nI_1, Nat.add_assoc]
  · exact (BdM_yr (k := 0) (pc := pc) (fl := fun _ => 0) (K := fun _ => 0) ⟨fun r hr => by omega, h4, fun p hp => by show 0 ≤ (0 : Int32).toInt ∧ (0 : Int32).toInt ≤ 40; decide⟩ (fun p hp => by rw [(hG p hp).1]; exact (hG p hp).2)).2.1 p hp
/-- d years -/
def yrN (n : Nat) (G : Nat → Int32) : Nat → Vw → Vw
  | 0, v => v
  | d + 1, v => yrV n G (yrN n G d v)
theorem ScR_yrs {k n : Nat} {pc : Nat → Nat} {b : Nat} {A0 : Nat → Int32} {v w : Vw} {lc lm sc sm : Int32} {G G' : Nat → Int32} (h : ScR k n pc b A0 v w lc lm sc sm) (hG : ∀ p, p < n → G p = G' p ∧ 0 ≤ (G' p).toInt ∧ (G' p).toInt ≤ 9) : ∀ d, b + d < 2 ^ 29 → ScR k n pc (b + d) A0 (yrN n G d v) (yrN n G' d w) lc lm sc sm := by
  intro d
  induction d with
  | zero => intro _; exact h
  | succ d ih => intro hd; exact (ih (by omega)).yr (by omega) hG
theorem in1 {h : Nat} (hh : h < 1000) {H : Int64} (eH : H.toInt = (h : Int)) (x : Int32) : (∃ m, 1 ≤ m ∧ m ≤ h ∧ x = nI m ∧ ¬ x < 1 ∧ x ≤ nI h ∧ ∀ st, F_X8_in x.toInt64 1 H st = some (1, st)) ∨ ((x < 1 ∨ ¬ x ≤ nI h) ∧ ∀ st, F_X8_in x.toInt64 1 H st = some (0, st)) := by
  have e1 : (1 : Int64).toInt = 1 := rfl
  have e2 : (1 : Int32).toInt = 1 := rfl
  by_cases c : 1 ≤ x.toInt ∧ x.toInt ≤ (h : Int)
  · left
    obtain ⟨j, hj, rfl⟩ := nat_of (x := x) (by rw [ile, t0]; omega)
    rw [nI_toInt hj] at c
    refine ⟨j, by omega, by omega, rfl, by rw [ilt, e2, nI_toInt hj]; omega, by rw [leN hj (by omega)]; omega, fun st => ?_⟩
    rw [M_in, wide, e1, eH, nI_toInt hj, if_pos (by omega)]
  · right
    refine ⟨?_, fun st => by rw [M_in, wide, e1, eH, if_neg c]⟩
    by_cases d : x < 1
    · exact Or.inl d
    · refine Or.inr (fun q => c ?_)
      rw [ilt, e2] at d
      rw [ile, nI_toInt (by omega)] at q
      omega
theorem B_year (x : Int32) : Bo (F_X7_year x) (F_X8_year x) := by
  intro k n pc b st hb h
  have hH := h.house
  obtain ⟨hc, hm, hF, -, hK, hG, -⟩ := h.house
  have hS := h.scene
  obtain ⟨-, -, -, -, -, ⟨lw, hlw, w1, w2⟩, -⟩ := h.scene
  have hk := hc.1
  have hn := hc.2.1
  have hpc : ∀ r, r < k → pc r ≤ 6 := fun r hr => (hc.2.2.2.2 r hr).2.2
  rcases in1 (h := 60) (by omega) (H := 60) rfl x with ⟨m, m1, m2, rfl, c1, c2, e1⟩ | ⟨c, e1⟩
  · have hs : ∀ d, d ≤ 60 → ScR k n pc (b + d) (st.1 4) (yrN n (st.1 7) d (vC 9 st)) (yrN n (st.1 65) d (vM st)) (st.1 9 5) (st.1 59 10) (st.1 9 6) (st.1 59 16) := fun d hd => ScR_yrs hS hG d (by omega)
    have s1 := upn (n := m) (P := fun N i => F_X7_year_16 N (nI m) (nI i) (setV 9 (yrN n (st.1 7) i (vC 9 st)) st) = some (nI (frS lw n k (st.1 3) (yrN n (st.1 7) m (vC 9 st))), setV 9 (yrN n (st.1 7) m (vC 9 st)) st))
      (fun N => by
        simp only [F_X7_year_16, tn m, if_true, P_frV hc (show 9 ≤ 9 by omega) (hs m m2).2.1 w1 hlw, Option.bind_some])
      (fun N i hi ih => by
        rw [F_X7_year_16, if_neg (nI_ge hi (by omega))]
        simp only [P_passYearV hc (show 9 ≤ 9 by omega), Option.bind_some, nI_1]
        exact ih) fN 0 (by omega) (fN0 (by omega))
    rw [show yrN n (st.1 7) 0 (vC 9 st) = vC 9 st from rfl, setV_self] at s1
    obtain ⟨S, hSS⟩ : ∃ S, S = setV 9 (yrN n (st.1 7) m (vC 9 st)) st := ⟨_, rfl⟩
    have hmS : HM k n pc S := by rw [hSS]; exact HM_V hm (by omega) _
    have eS : S = setM (vM st) S := by rw [hSS, setM_V (by omega)]
    have e61 : S.1 61 = st.1 61 := by rw [hSS, setV_off (by omega)]
    have e64 : S.1 64 = st.1 64 := by rw [hSS, setV_off (by omega)]
    have e65 : S.1 65 = st.1 65 := by rw [hSS, setV_off (by omega)]
    have e59 : S.1 59 = st.1 59 := by rw [hSS, setV_off (by omega)]
    have s2 := upn (n := m) (P := fun N i => F_X8_year_17 N (nI m) (nI i) (setM (yrN n (st.1 65) i (vM st)) S) = some (nI (frS lw n k (st.1 61) (yrN n (st.1 65) m (vM st))), setM (yrN n (st.1 65) m (vM st)) S))
      (fun N => by
        have q := M_frV (w := yrN n (st.1 65) m (vM st)) hmS (Ag.vv (hs m m2).1 (hs m m2).2.1) (by rw [e59]; exact w2) hlw
        rw [e61] at q
        simp only [F_X8_year_17, tn m, if_true, q, Option.bind_some])
      (fun N i hi ih => by
        have q := M_yearNowV (w := yrN n (st.1 65) i (vM st)) hmS (by rw [e61, e64]; exact ScR.bd (hs i (by omega)) hH) (by rw [e65]; exact fun p hp => (hG p hp).2)
        rw [e65] at q
        rw [F_X8_year_17, if_neg (nI_ge hi (by omega))]
        simp only [q, Option.bind_some, nI_1]
        exact ih) fN 0 (by omega) (fN0 (by omega))
    rw [show yrN n (st.1 65) 0 (vM st) = vM st from rfl, ← eS, ← fr_ag (lw := lw) hk hn hpc hF (hs m m2).2.1 (hs m m2).1] at s2
    refine ⟨nI (frS lw n k (st.1 3) (yrN n (st.1 7) m (vC 9 st))), S, setM (yrN n (st.1 65) m (vM st)) S, ?_, ?_, k, n, pc, ?_⟩
    · simp only [F_X7_year, F_X7_year_0]
      rw [if_neg c1, litN 60, if_pos c2, hSS]
      exact s1
    · simp only [F_X8_year, F_X8_year_0, e1, Option.bind_some]
      rw [if_neg (by decide)]
      exact s2
    · rw [hSS]
      exact h.sc0 (by omega) ((hs m m2).mono (by omega))
  · refine ro h (-1000000002) ?_ ?_
    · simp only [F_X7_year, F_X7_year_0, F_X7_year_11]
      rcases c with c | c
      · rw [if_pos c]
      · rw [litN 60, if_neg c]; split <;> rfl
    · simp only [F_X8_year, F_X8_year_0, e1, Option.bind_some, if_true]
/-! images -/
theorem imgE {i : Nat} (hi : i < 2) : imgId (nI i) = 46 + 6 * i := by
  rcases (show i = 0 ∨ i = 1 by omega) with rfl | rfl <;> decide
theorem imgS {i : Nat} (hi : i < 2) : Sc (46 + 6 * i) := by
  rcases (show i = 0 ∨ i = 1 by omega) with rfl | rfl
  · exact sc_46
  · exact sc_52
theorem isImg_in {i : Nat} (hi : i < 2) (st : St) : F_X7_isImage (nI i) st = some (1, st) := by
  have a1 : ¬ nI i < 0 := nI_pos (by omega)
  have a2 : ¬ (2 : Int32) ≤ nI i := nI_ge (b := 2) hi (by omega)
  simp only [F_X7_isImage, F_X7_isImage_0, F_X7_isImage_14, gb]
  rw [if_neg a1, if_neg a2, if_pos (by decide)]
theorem isImg_out {x : Int32} (c : ¬ (x = 0 ∨ x = 1)) (st : St) : F_X7_isImage x st = some (0, st) := by
  have gb0 : gb (0 : Int32) (some ((0 : Int32), st)) = some (0, st) := rfl
  simp only [F_X7_isImage, F_X7_isImage_0, F_X7_isImage_13, F_X7_isImage_14, gb0]
  rcases idx x (n := 2) (by omega) with ⟨j, hj, rfl⟩ | c1 | c1
  · exfalso
    rcases (show j = 0 ∨ j = 1 by omega) with rfl | rfl
    · exact c (Or.inl rfl)
    · exact c (Or.inr rfl)
  · rw [if_pos c1]
  · rw [if_pos (show (2 : Int32) ≤ x from c1)]
    split <;> rfl
theorem nb1 : vp_nar .boolean 1 = 1 := rfl
theorem vC_cg {sc : Nat} {s s' : St} (h : ∀ a, sc + 1 ≤ a → a ≤ sc + 5 → s'.1 a = s.1 a) : vC sc s' = vC sc s := by
  unfold vC
  rw [h (sc + 1) (by omega) (by omega), h (sc + 2) (by omega) (by omega), h (sc + 3) (by omega) (by omega), h (sc + 4) (by omega) (by omega), h (sc + 5) (by omega) (by omega)]
theorem vM_cg {s s' : St} (h : ∀ a, 67 ≤ a → a ≤ 71 → s'.1 a = s.1 a) : vM s' = vM s := by
  unfold vM
  rw [h 69 (by omega) (by omega), h 70 (by omega) (by omega), h 71 (by omega) (by omega), h 67 (by omega) (by omega), h 68 (by omega) (by omega)]
theorem cpS_off {sc sc0 a : Nat} {st : St} (h : a < sc ∨ sc + 5 < a) : (cpS sc sc0 st).1 a = st.1 a := by
  unfold cpS
  rw [sV_off (by omega), sV_off (by omega), setV_off (by omega)]
theorem vC_cpS (sc sc0 : Nat) (st : St) : vC sc (cpS sc sc0 st) = mixV (vC sc0 st) (vC sc st) := by
  have e : vC sc (cpS sc sc0 st) = vC sc (setV sc (mixV (vC sc0 st) (vC sc st)) st) := by
    refine vC_cg (fun a h1 h2 => ?_)
    unfold cpS
    rw [sV_off (by omega), sV_off (by omega)]
  rw [e, vC_setV]
theorem cpS_5 (sc sc0 : Nat) (st : St) : (cpS sc sc0 st).1 sc 5 = st.1 sc0 5 := by
  unfold cpS
  rw [sV_at, upd_off (by omega), sV_at, upd_at]
theorem cpS_6 (sc sc0 : Nat) (st : St) : (cpS sc sc0 st).1 sc 6 = st.1 sc0 6 := by
  unfold cpS
  rw [sV_at, upd_at]
theorem ImgR.cj {k n : Nat} {pc : Nat → Nat} {b : Nat} {st st' : St} {i : Nat} (hn : n ≤ 6) (h : ImgR k n pc b st i) (e58 : st'.1 58 i = st.1 58 i) (e93 : st'.1 93 i = st.1 93 i) (e4 : st'.1 4 = st.1 4) (e : ∀ a, 46 + 6 * i ≤ a → a ≤ 46 + 6 * i + 5 → st'.1 a = st.1 a) (e92 : ∀ x, 40 * i ≤ x → x < 40 * i + 32 → st'.1 92 x = st.1 92 x) : ImgR k n pc b st' i := by
  rcases h with h | ⟨h1, h2, h3⟩
  · exact Or.inl ⟨by rw [e58]; exact h.1, by rw [e93]; exact h.2⟩
  · refine Or.inr ⟨by rw [e58]; exact h1, by rw [e93]; exact h2, ?_⟩
    have ev : vC (46 + 6 * i) st' = vC (46 + 6 * i) st := vC_cg (fun a a1 a2 => e a (by omega) (by omega))
    rw [ev, e4, e (46 + 6 * i) (by omega) (by omega), e92 (40 * i + 30) (by omega) (by omega), e92 (40 * i + 31) (by omega) (by omega)]
    exact h3.cgv hn (EqV.refl _) (fun p hp => ⟨e92 _ (by omega) (by omega), e92 _ (by omega) (by omega), e92 _ (by omega) (by omega), e92 _ (by omega) (by omega), e92 _ (by omega) (by omega)⟩)
/-- only the images have changed -/
theorem R.im {k n : Nat} {pc : Nat → Nat} {b b' : Nat} {st st' : St} (h : R k n pc b st) (hb : b ≤ b') (e : ∀ a, a ≤ 45 ∨ (59 ≤ a ∧ a ≤ 91) → st'.1 a = st.1 a) (h0 : ∀ i, i < 2 → ImgR k n pc b' st' i) : R k n pc b' st' := by
  refine ⟨h.house.cg (fun a ha => e a (by omega)) (by rw [e 59 (by omega)]) (by rw [e 59 (by omega)]) (by rw [e 59 (by omega)]), ?_, ?_, ?_, ?_, ⟨h0 0 (by omega), h0 1 (by omega)⟩, ?_⟩
  · have := ScR.mono h.scene hb
    unfold SceneR
    rw [vC_cg (s := st) (fun a a1 a2 => e a (by omega)), vM_cg (s := st) (fun a a1 a2 => e a (by omega)), e 4 (by omega), e 9 (by omega), e 59 (by omega)]
    exact this
  · obtain ⟨len, t⟩ := h.text
    refine ⟨len, ?_⟩
    rw [e 23 (by omega), e 32 (by omega), e 72 (by omega), e 59 (by omega)]
    exact t
  · rw [e 0 (by omega), e 59 (by omega)]; exact h.fault
  · obtain ⟨m, t⟩ := h.book
    refine ⟨m, ?_⟩
    rw [e 41 (by omega), e 42 (by omega), e 43 (by omega), e 44 (by omega), e 89 (by omega), e 90 (by omega), e 91 (by omega), e 59 (by omega)]
    exact t
  · rw [e 3 (by omega), e 4 (by omega), e 6 (by omega), e 36 (by omega), e 37 (by omega)]
    exact h.cache
theorem R.img {k n : Nat} {pc : Nat → Nat} {b : Nat} {st : St} (h : R k n pc b st) {i : Nat} (hi : i < 2) : ImgR k n pc b st i := by
  rcases (show i = 0 ∨ i = 1 by omega) with rfl | rfl
  · exact h.imgs.1
  · exact h.imgs.2
theorem B_keep (x : Int32) : Bo (F_X7_keep x) (F_X8_keep x) := by
  intro k n pc b st hb h
  have hn : n ≤ 6 := h.1.1.2.1
  have hS := h.scene
  by_cases c : x = 0 ∨ x = 1
  · obtain ⟨i, hi, rfl⟩ : ∃ i, i < 2 ∧ x = nI i := by
      rcases c with rfl | rfl
      · exact ⟨0, by omega, rfl⟩
      · exact ⟨1, by omega, rfl⟩
    have g2 : ∀ {α : Type} {a : Option α}, gi (nI i) 2 a = a := gi_in hi (by decide)
    have ci : (nI i).toNatClampNeg = i := clN (by omega)
    obtain ⟨S, hSS⟩ : ∃ S, S = sV (cpS (46 + 6 * i) 9 st) 58 i 1 := ⟨_, rfl⟩
    obtain ⟨f, f1, f2, f3, f4, f5⟩ := M_save (i := i) (by omega) S
    have eo : ∀ a, (a < 46 + 6 * i ∨ 46 + 6 * i + 5 < a) → a ≠ 58 → S.1 a = st.1 a := by
      intro a h1 h2
      rw [hSS, sV_off h2, cpS_off h1]
    have evM : vM S = vM st := vM_cg (fun a a1 a2 => eo a (by omega) (by omega))
    rw [evM] at f2
    rw [eo 59 (by omega) (by omega)] at f3 f4
    obtain ⟨S', hS'⟩ : ∃ S', S' = sV (sA S 92 f) 93 i 1 := ⟨_, rfl⟩
    have eo' : ∀ a, a ≠ 92 → a ≠ 93 → S'.1 a = S.1 a := by
      intro a h1 h2
      rw [hS', sV_off h2, sA_off h1]
    have e92 : S'.1 92 = f := by rw [hS', sV_off (by omega), sA_at]
    refine ⟨1, S, S', ?_, ?_, k, n, pc, ?_⟩
    · simp only [F_X7_keep, F_X7_keep_0, isImg_in hi, Option.bind_some, g2, ci, imgE hi, P_copyFrom (sc := 46 + 6 * i) sc_9 (show 46 + 6 * i + 6 ≤ 9 ∨ 9 + 6 ≤ 46 + 6 * i by omega), bs, nb1, ← hSS]
      rw [if_neg (by decide)]
    · simp only [F_X8_keep, F_X8_keep_0, in01, if_pos c, Option.bind_some, f1, g2, ci, bs, nb1, ← hS']
      rw [if_neg (by decide)]
    · refine h.im (by omega) (fun a ha => by rw [eo' a (by omega) (by omega), eo a (by omega) (by omega)]) (fun j hj => ?_)
      by_cases cj : j = i
      · subst cj
        refine Or.inr ⟨?_, ?_, ?_⟩
        · rw [eo' 58 (by omega) (by omega), hSS, sV_at, upd_at]
        · rw [hS', sV_at, upd_at]
        · have ev : vC (46 + 6 * j) S' = mixV (vC 9 st) (vC (46 + 6 * j) st) := by
            rw [vC_cg (s := S) (fun a a1 a2 => eo' a (by omega) (by omega)), hSS, vC_cg (s := cpS (46 + 6 * j) 9 st) (fun a a1 a2 => sV_off (by omega)), vC_cpS]
          have e5 : S'.1 (46 + 6 * j) 5 = st.1 9 5 := by
            rw [eo' _ (by omega) (by omega), hSS, sV_off (by omega), cpS_5]
          have e6 : S'.1 (46 + 6 * j) 6 = st.1 9 6 := by
            rw [eo' _ (by omega) (by omega), hSS, sV_off (by omega), cpS_6]
          rw [ev, e5, e6, e92, f3, f4, eo' 4 (by omega) (by omega), eo 4 (by omega) (by omega)]
          exact (ScR.cgv hn hS (EqV_mix _ _) f2).mono (by omega)
      · refine ((h.img hj).cj hn ?_ ?_ ?_ (fun a a1 a2 => ?_) (fun y y1 y2 => ?_)).mono (by omega)
        · rw [eo' 58 (by omega) (by omega), hSS, sV_at, upd_off cj, cpS_off (by omega)]
        · rw [hS', sV_at, upd_off cj, sA_off (by omega), eo 93 (by omega) (by omega)]
        · rw [eo' 4 (by omega) (by omega), eo 4 (by omega) (by omega)]
        · rw [eo' a (by omega) (by omega), eo a (by omega) (by omega)]
        · rw [e92, f5 y (by omega), eo 92 (by omega) (by omega)]
  · refine ro h (-1000000001) ?_ ?_
    · simp only [F_X7_keep, F_X7_keep_0, isImg_out c, Option.bind_some, if_true]
    · simp only [F_X8_keep, F_X8_keep_0, in01, if_neg c, Option.bind_some, if_true]
theorem B_goBack (x : Int32) : Bo (F_X7_goBack x) (F_X8_goBack x) := by
  intro k n pc b st hb h
  have hn : n ≤ 6 := h.1.1.2.1
  by_cases c : x = 0 ∨ x = 1
  · obtain ⟨i, hi, rfl⟩ : ∃ i, i < 2 ∧ x = nI i := by
      rcases c with rfl | rfl
      · exact ⟨0, by omega, rfl⟩
      · exact ⟨1, by omega, rfl⟩
    have g2 : ∀ {α : Type} {a : Option α}, gi (nI i) 2 a = a := gi_in hi (by decide)
    have ci : (nI i).toNatClampNeg = i := clN (by omega)
    rcases h.img hi with ⟨i1, i2⟩ | ⟨i1, i2, i3⟩
    · refine ro h (-1000000003) ?_ ?_
      · simp only [F_X7_goBack, F_X7_goBack_0, isImg_in hi, Option.bind_some, g2, ci, i1, if_true]
        rw [if_neg (by decide)]
      · simp only [F_X8_goBack, F_X8_goBack_0, in01, if_pos c, Option.bind_some, g2, ci, i2, if_true]
        rw [if_neg (by decide)]
    · obtain ⟨S, hSS⟩ : ∃ S, S = cpS 9 (46 + 6 * i) st := ⟨_, rfl⟩
      have eo : ∀ a, (a < 9 ∨ 14 < a) → S.1 a = st.1 a := by
        intro a h1
        rw [hSS, cpS_off (by omega)]
      obtain ⟨w', f1, f2⟩ := M_load (i := i) (by omega) (vM S) S
      rw [setM_self] at f1
      rw [eo 92 (by omega)] at f1 f2
      obtain ⟨S', hS'⟩ : ∃ S', S' = setM w' (sV (sV S 59 10 (st.1 92 (40 * i + 30))) 59 16 (st.1 92 (40 * i + 31))) := ⟨_, rfl⟩
      have eo' : ∀ a, (a ≤ 66 ∨ 72 ≤ a) → a ≠ 59 → S'.1 a = S.1 a := by
        intro a h1 h2
        rw [hS', setM_off h1, sV_off h2, sV_off h2]
      refine ⟨1, S, S', ?_, ?_, k, n, pc, ?_⟩
      · simp only [F_X7_goBack, F_X7_goBack_0, isImg_in hi, Option.bind_some, g2, ci, i1, imgE hi, P_copyFrom (sc := 9) (imgS hi) (show 9 + 6 ≤ 46 + 6 * i ∨ 46 + 6 * i + 6 ≤ 9 by omega), ← hSS]
        rw [if_neg (by decide), if_neg (by decide)]
      · simp only [F_X8_goBack, F_X8_goBack_0, in01, if_pos c, Option.bind_some, g2, ci, eo 93 (show 93 < 9 ∨ 14 < 93 by omega), i2, f1, ← hS']
        rw [if_neg (by decide), if_neg (by decide)]
      · refine h.cg (by omega) (fun a ha => by rw [eo' a (by omega) (by omega), eo a (by omega)]) (fun j hj => ?_) (fun j hj => by rw [eo' 92 (by omega) (by omega), eo 92 (by omega)]) ?_
        · rw [hS', setM_off (by omega), sV_at, upd_off (by omega), sV_at, upd_off (by omega), eo 59 (by omega)]
        · have ev : vC 9 S' = mixV (vC (46 + 6 * i) st) (vC 9 st) := by
            rw [vC_cg (s := S) (fun a a1 a2 => eo' a (by omega) (by omega)), hSS, vC_cpS]
          have ew : vM S' = w' := by rw [hS', vM_setM]
          have e5 : S'.1 9 5 = st.1 (46 + 6 * i) 5 := by rw [eo' 9 (by omega) (by omega), hSS, cpS_5]
          have e6 : S'.1 9 6 = st.1 (46 + 6 * i) 6 := by rw [eo' 9 (by omega) (by omega), hSS, cpS_6]
          have e10 : S'.1 59 10 = st.1 92 (40 * i + 30) := by rw [hS', setM_off (by omega), sV_at, upd_off (by omega), sV_at, upd_at]
          have e16 : S'.1 59 16 = st.1 92 (40 * i + 31) := by rw [hS', setM_off (by omega), sV_at, upd_at]
          unfold SceneR
          rw [ev, ew, e5, e6, e10, e16, eo' 4 (by omega) (by omega), eo 4 (by omega)]
          exact (ScR.cgv hn i3 (EqV_mix _ _) f2).mono (by omega)
  · refine ro h (-1000000001) ?_ ?_
    · simp only [F_X7_goBack, F_X7_goBack_0, isImg_out c, Option.bind_some, if_true]
    · simp only [F_X8_goBack, F_X8_goBack_0, in01, if_neg c, Option.bind_some, if_true]
/-! how many -/
def bcX (v : Int32) : Int32 := match F_J6_bitCount_0f7a4 v (fun _ _ => 0, fun _ _ => 0) with
  | some q => q.1
  | none => 0
theorem bcX_pop : ∀ s, s < 64 → bcX (nI s) = nI (pop s) := by decide +kernel
theorem P_bitCount {s : Nat} (hs : s < 64) (st : St) : F_J6_bitCount_0f7a4 (nI s) st = some (nI (pop s), st) := by
  rw [← bcX_pop s hs]; rfl
theorem bit_val : ∀ s, s < 64 → ∀ j, j < 6 → (nI s >>> (nI j &&& 31)) &&& 1 = nI (s / 2 ^ j % 2) := by decide +kernel
theorem pop_step : ∀ s, s < 64 → ∀ j, j < 6 → pop (s / 2 ^ j) = s / 2 ^ j % 2 + pop (s / 2 ^ (j + 1)) := by decide +kernel
theorem pop_end : ∀ s, s < 64 → pop (s / 2 ^ 6) = 0 := by decide +kernel
theorem M_bits {s : Nat} (hs : s < 64) (st : St) : F_X8_bits (nI s) st = some (nI (pop s), st) := by
  have e := upn (n := 6) (P := fun N j => ∀ a, F_X8_bits_4 N (nI s) (nI a) (nI j) st = some (nI (a + pop (s / 2 ^ j)), st))
    (fun N a => by simp only [F_X8_bits_4, t6, if_true, pop_end s hs, Nat.add_zero])
    (fun N j hj ih a => by
      rw [F_X8_bits_4, if_neg (by rw [f6 hj]; exact not_false), bit_val s hs j hj, nI_add, nI_1, ih, pop_step s hs j hj, Nat.add_assoc]) fN 0 (by omega) (fN0 (by omega)) 0
  rw [Nat.pow_zero, Nat.div_one, Nat.zero_add] at e
  exact e
theorem M_emptyLoop (a : Int32) (w : Vw) (S : St) : F_X8_empty_10 fN a 0 (setM w S) = some (a, setM (allOut 6 w) S) := by
  have q := upn (n := 6) (P := fun N j => F_X8_empty_10 N a (nI j) (setM (allOut j w) S) = some (a, setM (allOut 6 w) S))
    (fun N => by simp only [F_X8_empty_10, t6, if_true])
    (fun N j hj ih => by
      rw [F_X8_empty_10, if_neg (by rw [f6 hj]; exact not_false), M_leaveNow hj, Option.bind_some, allOut_s, nI_1]
      exact ih) fN 0 (by omega) (fN0 (by omega))
  rw [allOut_0] at q
  exact q
theorem B_empty : Bo F_X7_empty F_X8_empty := by
  intro k n pc b st hb h
  obtain ⟨hc, hm, hF, -⟩ := h.house
  have hS := h.scene
  obtain ⟨hA, hV, -⟩ := h.scene
  have hn := hc.2.1
  have s1 := P_sendAllOut (sc := 9) (vC 9 st) st
  rw [setV_self] at s1
  obtain ⟨s, hs⟩ : ∃ s, s = mkS (fun p => decide ((vC 9 st).1 p ≠ -1)) 6 := ⟨_, rfl⟩
  have hs64 : s < 64 := by rw [hs]; exact mkS_lt _ 6 (by omega)
  have q1 : F_X6_somewhere 9 st = some (nI s, st) := by rw [hs]; exact P_somewhere 9 st
  obtain ⟨S, hSS⟩ : ∃ S, S = setV 9 (allOut 6 (vC 9 st)) st := ⟨_, rfl⟩
  have hmS : HM k n pc S := by rw [hSS]; exact HM_V hm (by omega) _
  have eS : S = setM (vM st) S := by rw [hSS, setM_V (by omega)]
  have evM : vM S = vM st := by rw [hSS, vM_V (by omega)]
  have q2 := M_somewhere hmS (by rw [evM]; exact SceneR.vw h.scene)
  have q3 : mkS (fun p => decide (S.1 69 p ≠ -1)) n = s := by
    rw [hs, some_eq hn hA hV]
    show mkS (fun p => decide ((vM S).1 p ≠ -1)) n = _
    rw [evM]
  rw [q3] at q2
  have q4 := M_emptyLoop (nI (pop s)) (vM st) S
  rw [← eS] at q4
  refine ⟨nI (pop s), S, setM (allOut 6 (vM st)) S, ?_, ?_, k, n, pc, ?_⟩
  · simp only [F_X7_empty, F_X7_empty_0, q1, Option.bind_some, P_bitCount hs64, s1, ← hSS]
  · have q5 := M_bits hs64 S
    rw [F_X8_empty, F_X8_empty_0, q2, Option.bind_some]
    dsimp only
    rw [q5, Option.bind_some]
    exact q4
  · rw [hSS]
    refine h.sc0 (by omega) (ScR.mono (hS.rpb (Ag_allOut hA hn) (VV_allOut hV hn) rfl (fun p hp _ => ?_)) (by omega))
    show (if p < 6 then (0 : Int32) else _) = 0
    rw [if_pos (by omega)]

/-! PURE: suspects, heels: the loops -/
theorem P_suspectsIn {k n : Nat} {pc : Nat → Nat} {v : Vw} {S : St} {lw r : Nat} {ag : Nat → Nat} (h : HC k n pc S) (hl : S.1 16 5 = nI lw) (hlw : lw ≤ 1) (hr : r < k) (hV : VV k n pc v) (hag : ∀ q, q < n → ag q < 2 ^ 30 ∧ v.2.2.2.1 q = nI (ag q)) (hf : ¬ ffS lw n (S.1 3) v (nI r) = none) {f : Nat → Bool} (hs : ∀ p, p < n → (f p = true ↔ v.1 p = nI r ∧ SusS lw n (S.1 3) v r p)) : F_X7_suspectsIn (nI r) (setV 16 v S) = some (nI (mkS f n), setV 16 v S) := by
  have hn := h.2.1
  have q := upn (n := n) (P := fun N j => F_X7_suspectsIn_4 N (nI r) (nI (mkS f j)) (nI j) (setV 16 v S) = some (nI (mkS f n), setV 16 v S))
    (fun N => by rw [F_X7_suspectsIn_4, setV_off (show 1 ≤ 16 ∨ 16 + 6 ≤ 1 by omega), h.2.2.2.1, if_pos (by rw [leN (by omega) (by omega)]; omega)])
    (fun N j hj ih => by
      have hj6 : j < 6 := by omega
      rw [F_X7_suspectsIn_4, setV_off (show 1 ≤ 16 ∨ 16 + 6 ≤ 1 by omega), h.2.2.2.1, if_neg (nI_ge hj (by omega)), g6 hj6, c6 hj6, show (setV 16 v S).1 17 = v.1 from setV_at1 16 _ _]
      by_cases c : v.1 j = nI r
      · obtain ⟨a, y, e, a1, a2⟩ := P_someAge h hl hlw hr hV hag hj c hf
        rw [if_pos c, g6 hj6, e, obs]
        dsimp only
        unfold F_X7_suspectsIn_54 F_X7_suspectsIn_65
        simp only [g6 hj6, c6 hj6, bs]
        rw [show (setV 16 v S).1 20 j = v.2.2.2.1 j from congrFun (setV_at4 16 _ _) j, agV_set, agV_agV, agV_self, nI_1]
        rcases a1 with rfl | rfl
        · have : f j = false := by
            cases hfj : f j with
            | false => rfl
            | true => exact absurd (a2.mpr ((hs j hj).mp hfj).2) (by decide)
          rw [mkS_f this] at ih
          rw [if_pos rfl]; exact ih
        · have : f j = true := (hs j hj).mpr ⟨c, a2.mp rfl⟩
          rw [mkS_t this] at ih
          rw [if_neg (by decide), orN (mkS_lt _ _ (by omega)) hj6]; exact ih
      · have : f j = false := by
          cases hfj : f j with
          | false => rfl
          | true => exact absurd ((hs j hj).mp hfj).1 c
        rw [mkS_f this] at ih
        rw [if_neg c, F_X7_suspectsIn_65, nI_1]; exact ih) fN 0 (by omega) (fN0 (by omega))
  exact q
def HeeS (lw n : Nat) (fl : Nat → Int32) (v : Vw) (r p : Nat) : Prop := ffS lw n fl (icV v p (v.2.2.2.2 p - 1)) (nI r) = none
theorem P_heelsIn {k n : Nat} {pc : Nat → Nat} {v : Vw} {S : St} {lw r : Nat} (h : HC k n pc S) (hl : S.1 16 5 = nI lw) (hlw : lw ≤ 1) (hr : r < k) (hV : VV k n pc v) {f : Nat → Bool} (hs : ∀ p, p < n → (f p = true ↔ v.1 p = nI r ∧ HeeS lw n (S.1 3) v r p)) : F_X7_heelsIn (nI r) (setV 16 v S) = some (nI (mkS f n), setV 16 v S) := by
  have hn := h.2.1
  have q := upn (n := n) (P := fun N j => F_X7_heelsIn_4 N (nI r) (nI (mkS f j)) (nI j) (setV 16 v S) = some (nI (mkS f n), setV 16 v S))
    (fun N => by rw [F_X7_heelsIn_4, setV_off (show 1 ≤ 16 ∨ 16 + 6 ≤ 1 by omega), h.2.2.2.1, if_pos (by rw [leN (by omega) (by omega)]; omega)])
    (fun N j hj ih => by
      have hj6 : j < 6 := by omega
      rw [F_X7_heelsIn_4, setV_off (show 1 ≤ 16 ∨ 16 + 6 ≤ 1 by omega), h.2.2.2.1, if_neg (nI_ge hj (by omega)), g6 hj6, c6 hj6, show (setV 16 v S).1 17 = v.1 from setV_at1 16 _ _]
      by_cases c : v.1 j = nI r
      · have e := PW_ffV h (u := icV v j (v.2.2.2.2 j - 1)) (show VW k n pc (icV v j (v.2.2.2.2 j - 1)) from ⟨hV.1, hV.2.2.1⟩) (fun a b ha hb _ _ e => hV.2.1 a b ha hb e) hl hlw hr
        rw [if_pos c, g6 hj6, g6 hj6, bs, show (setV 16 v S).1 21 j = v.2.2.2.2 j from congrFun (setV_at5 16 _ _) j, icV_set, e, obs]
        dsimp only
        unfold F_X7_heelsIn_59 F_X7_heelsIn_72
        simp only [g6 hj6, c6 hj6, bs]
        rw [show (setV 16 (icV v j (v.2.2.2.2 j - 1)) S).1 21 j = v.2.2.2.2 j - 1 from (congrFun (setV_at5 16 _ _) j).trans (upd_at _ _ _), icV_set, icV_icV, Int32.sub_add_cancel, icV_self, nI_1]
        by_cases d : ffS lw n (S.1 3) (icV v j (v.2.2.2.2 j - 1)) (nI r) = none
        · have : f j = true := (hs j hj).mpr ⟨c, d⟩
          rw [mkS_t this] at ih
          rw [if_pos (by rw [ffS_oI hn]; exact d), orN (mkS_lt _ _ (by omega)) hj6]; exact ih
        · have : f j = false := by
            cases hfj : f j with
            | false => rfl
            | true => exact absurd ((hs j hj).mp hfj).2 d
          rw [mkS_f this] at ih
          rw [if_neg (by rw [ffS_oI hn]; exact d)]; exact ih
      · have : f j = false := by
          cases hfj : f j with
          | false => rfl
          | true => exact absurd ((hs j hj).mp hfj).1 c
        rw [mkS_f this] at ih
        rw [if_neg c, F_X7_heelsIn_72, nI_1]; exact ih) fN 0 (by omega) (fN0 (by omega))
  exact q
/-! the reference -/
theorem M_isAged {k n : Nat} {pc : Nat → Nat} {w : Vw} {S : St} (h : HM k n pc S) (r x : Int32) : ∃ a, F_X8_isAged r x (setM w S) = some (a, setM w S) ∧ (a = 0 ∨ a = 1) ∧ (a = 1 ↔ ∃ q, q < n ∧ w.1 q = r ∧ w.2.2.2.1 q = x) := by
  have hn := h.2.1
  have n1 : (setM w S).1 59 3 = nI n := by rw [setM_off (by omega)]; exact h.2.2.2.1
  have q := upn (n := n) (P := fun N j => ∀ c : Int32, (c = 0 ∨ c = 1) → ∃ a, F_X8_isAged_5 N r x c (nI j) (setM w S) = some (a, setM w S) ∧ (a = 0 ∨ a = 1) ∧ (a = 1 ↔ c = 1 ∨ ∃ q, j ≤ q ∧ q < n ∧ (w.1 q = r ∧ w.2.2.2.1 q = x)))
    (fun N c hc => ⟨c, by rw [F_X8_isAged_5, n1, if_pos (by rw [leN (by omega) (by omega)]; omega), gb, if_pos hc], hc, ⟨Or.inl, fun x => by
      rcases x with x | ⟨q, h1, h2, _⟩
      · exact x
      · omega⟩⟩)
    (fun N j hj ih c hc => by
      have hj6 : j < 6 := by omega
      rw [F_X8_isAged_5, n1, if_neg (nI_ge hj (by omega))]
      rcases hc with rfl | rfl
      · rw [if_pos rfl, g6 hj6, c6 hj6, g6 hj6, setM_69, setM_67]
        by_cases d : w.1 j = r ∧ w.2.2.2.1 j = x
        · obtain ⟨a, e, a1, a2⟩ := ih 1 (Or.inr rfl)
          rw [if_pos d.1, if_pos d.2, F_X8_isAged_40, F_X8_isAged_45, nI_1]
          exact ⟨a, e, a1, a2.trans ⟨fun _ => Or.inr ⟨j, by omega, hj, d⟩, fun _ => Or.inl rfl⟩⟩
        · obtain ⟨a, e, a1, a2⟩ := ih 0 (Or.inl rfl)
          have e2 : F_X8_isAged_44 (F_X8_isAged_5 N) r x (nI j) (setM w S) = some (a, setM w S) := by
            rw [F_X8_isAged_44, F_X8_isAged_45, nI_1]; exact e
          refine ⟨a, ?_, a1, a2.trans (or_congr Iff.rfl (ex_shift d))⟩
          rw [e2]
          by_cases d1 : w.1 j = r
          · rw [if_pos d1, if_neg (fun y => d ⟨d1, y⟩)]
          · rw [if_neg d1]
      · obtain ⟨a, e, a1, a2⟩ := ih 1 (Or.inr rfl)
        rw [if_neg (by decide), F_X8_isAged_40, F_X8_isAged_45, nI_1]
        exact ⟨a, e, a1, a2.trans ⟨fun _ => Or.inl rfl, fun _ => Or.inl rfl⟩⟩) fN 0 (by omega) (fN0 (by omega)) 0 (Or.inl rfl)
  obtain ⟨a, e, a1, a2⟩ := q
  refine ⟨a, e, a1, a2.trans ⟨fun y => ?_, fun ⟨q, y⟩ => Or.inr ⟨q, by omega, y⟩⟩⟩
  rcases y with y | ⟨q, _, y⟩
  · exact absurd y (by decide)
  · exact ⟨q, y⟩
theorem M_isSuspect {k n : Nat} {pc : Nat → Nat} {w : Vw} {S : St} {lw r p : Nat} (h : HM k n pc S) (hl : S.1 59 10 = nI lw) (hlw : lw ≤ 1) (hr : r < k) (hV : VV k n pc w) (hp : p < n) : ∃ a, F_X8_isSuspect (nI p) (nI r) (setM w S) = some (a, setM w S) ∧ (a = 0 ∨ a = 1) ∧ (a = 1 ↔ SusS lw n (S.1 61) w r p) := by
  have hn := h.2.1
  have hp6 : p < 6 := by omega
  have q := upn (n := 100) (P := fun N j => ∀ c : Int32, (c = 0 ∨ c = 1) → ∃ a, F_X8_isSuspect_13 N (nI p) (nI r) (w.2.2.2.1 p) c (nI j) (setM w S) = some (a, setM w S) ∧ (a = 0 ∨ a = 1) ∧ (a = 1 ↔ c = 1 ∨ ∃ x, j ≤ x ∧ x < 100 ∧ ((∀ q, q < n → w.1 q = nI r → w.2.2.2.1 q ≠ nI x) ∧ ffS lw n (S.1 61) (agV w p (nI x)) (nI r) = none)))
    (fun N c hc => ⟨c, by rw [F_X8_isSuspect_13, if_pos (by decide), F_X8_isSuspect_71, gb, if_pos hc], hc, ⟨Or.inl, fun x => by
      rcases x with x | ⟨q, h1, h2, _⟩
      · exact x
      · omega⟩⟩)
    (fun N j hj ih c hc => by
      rw [F_X8_isSuspect_13, if_neg (show ¬ (100 : Int32) ≤ nI j from nI_ge (b := 100) hj (by omega))]
      rcases hc with rfl | rfl
      · obtain ⟨a, e, a1, a2⟩ := M_isAged (w := w) h (nI r) (nI j)
        rw [if_pos rfl, e, obs]
        dsimp only
        rcases a1 with rfl | rfl
        · have hno : ∀ q, q < n → w.1 q = nI r → w.2.2.2.1 q ≠ nI j := fun q h1 h2 h3 => absurd (a2.mpr ⟨q, h1, h2, h3⟩) (by decide)
          have e2 := MW_ffV h (u := agV w p (nI j)) (lw := lw) (show VW k n pc (agV w p (nI j)) from ⟨hV.1, hV.2.2.1⟩) hl hlw hr
          rw [if_pos rfl, g6 hp6, bs, c6 hp6, agV_setM, e2, obs]
          dsimp only
          unfold F_X8_isSuspect_56 F_X8_isSuspect_65
          simp only [g6 hp6, c6 hp6, bs, agV_setM, agV_agV, agV_self, nI_1]
          by_cases d : ffS lw n (S.1 61) (agV w p (nI j)) (nI r) = none
          · obtain ⟨a, e, a1, a2⟩ := ih 1 (Or.inr rfl)
            rw [if_neg (by rw [ffS_pos hn]; exact fun x => x d)]
            exact ⟨a, e, a1, a2.trans ⟨fun _ => Or.inr ⟨j, by omega, hj, hno, d⟩, fun _ => Or.inl rfl⟩⟩
          · obtain ⟨a, e, a1, a2⟩ := ih 0 (Or.inl rfl)
            rw [if_pos (by rw [ffS_pos hn]; exact d)]
            exact ⟨a, e, a1, a2.trans (or_congr Iff.rfl (ex_shift (fun x => d x.2)))⟩
        · obtain ⟨q, b1, b2, b3⟩ := a2.mp rfl
          obtain ⟨a, e, a1, a2⟩ := ih 0 (Or.inl rfl)
          rw [if_neg (by decide), F_X8_isSuspect_65, nI_1]
          exact ⟨a, e, a1, a2.trans (or_congr Iff.rfl (ex_shift (fun x => x.1 q b1 b2 b3)))⟩
      · rw [if_neg (by decide), F_X8_isSuspect_71, gb, if_pos (by decide)]
        exact ⟨1, rfl, Or.inr rfl, ⟨fun _ => Or.inl rfl, fun _ => rfl⟩⟩) fN 0 (by omega) (fN0 (by omega)) 0 (Or.inl rfl)
  obtain ⟨a, e, a1, a2⟩ := q
  refine ⟨a, ?_, a1, a2.trans ⟨fun y => ?_, fun ⟨q, y⟩ => Or.inr ⟨q, by omega, y⟩⟩⟩
  · rw [F_X8_isSuspect, F_X8_isSuspect_0, g6 hp6, c6 hp6, setM_67]; exact e
  · rcases y with y | ⟨q, _, y⟩
    · exact absurd y (by decide)
    · exact ⟨q, y⟩
theorem M_isHeeled {k n : Nat} {pc : Nat → Nat} {w : Vw} {S : St} {lw r p : Nat} (h : HM k n pc S) (hl : S.1 59 10 = nI lw) (hlw : lw ≤ 1) (hr : r < k) (hV : VV k n pc w) (hp : p < n) : ∃ a, F_X8_isHeeled (nI p) (nI r) (setM w S) = some (a, setM w S) ∧ (a = 0 ∨ a = 1) ∧ (a = 1 ↔ HeeS lw n (S.1 61) w r p) := by
  have hn := h.2.1
  have hp6 : p < 6 := by omega
  have e2 := MW_ffV h (u := icV w p (w.2.2.2.2 p - 1)) (lw := lw) (show VW k n pc (icV w p (w.2.2.2.2 p - 1)) from ⟨hV.1, hV.2.2.1⟩) hl hlw hr
  rw [F_X8_isHeeled, F_X8_isHeeled_0, g6 hp6, g6 hp6, bs, c6 hp6, setM_68, icV_setM, e2, obs]
  dsimp only
  unfold F_X8_isHeeled_23
  simp only [g6 hp6, c6 hp6, bs]
  rw [setM_68, show (icV w p (w.2.2.2.2 p - 1)).2.2.2.2 p = w.2.2.2.2 p - 1 from upd_at _ _ _, icV_setM, icV_icV, Int32.sub_add_cancel, icV_self]
  by_cases d : ffS lw n (S.1 61) (icV w p (w.2.2.2.2 p - 1)) (nI r) = none
  · rw [if_neg (by rw [ffS_pos hn]; exact fun x => x d), gb, if_pos (by decide)]
    exact ⟨1, rfl, Or.inr rfl, ⟨fun _ => d, fun _ => rfl⟩⟩
  · rw [if_pos (by rw [ffS_pos hn]; exact d), gb, if_pos (by decide)]
    exact ⟨0, rfl, Or.inl rfl, ⟨fun x => absurd x (by decide), fun x => absurd x d⟩⟩
theorem M_seenLoop {k n : Nat} {pc : Nat → Nat} {w : Vw} {S : St} {r : Nat} (h : HM k n pc S) {x : Int32} {f : Nat → Bool} (hs : ∀ p, p < n → w.1 p = nI r → ∃ a, (if x = 0 then F_X8_isSuspect (nI p) (nI r) (setM w S) else F_X8_isHeeled (nI p) (nI r) (setM w S)) = some (a, setM w S) ∧ (a = 0 ∨ a = 1) ∧ (a = 1 ↔ f p = true)) (hs0 : ∀ p, p < n → ¬ w.1 p = nI r → f p = false) : F_X8_seen_39 fN (nI r) x 0 0 (setM w S) = some (nI (mkS f n), setM w S) := by
  have hn := h.2.1
  have n1 : (setM w S).1 59 3 = nI n := by rw [setM_off (by omega)]; exact h.2.2.2.1
  have q := upn (n := n) (P := fun N j => F_X8_seen_39 N (nI r) x (nI (mkS f j)) (nI j) (setM w S) = some (nI (mkS f n), setM w S))
    (fun N => by rw [F_X8_seen_39, n1, if_pos (by rw [leN (by omega) (by omega)]; omega)])
    (fun N j hj ih => by
      have hj6 : j < 6 := by omega
      have t0 : f j = false → F_X8_seen_90 (F_X8_seen_39 N) (nI r) x (nI (mkS f j)) (nI j) (setM w S) = some (nI (mkS f n), setM w S) := by
        intro y
        rw [mkS_f y] at ih
        rw [F_X8_seen_90, F_X8_seen_91, if_pos rfl, F_X8_seen_107, or0, nI_1]; exact ih
      have t1 : f j = true → F_X8_seen_86 (F_X8_seen_39 N) (nI r) x (nI (mkS f j)) (nI j) (setM w S) = some (nI (mkS f n), setM w S) := by
        intro y
        rw [mkS_t y] at ih
        rw [F_X8_seen_86, F_X8_seen_91, if_neg (by decide), F_X8_seen_107, orN (mkS_lt _ _ (by omega)) hj6, nI_1]; exact ih
      rw [F_X8_seen_39, n1, if_neg (nI_ge hj (by omega)), g6 hj6, c6 hj6, setM_69]
      by_cases c : w.1 j = nI r
      · obtain ⟨a, e, a1, a2⟩ := hs j hj c
        rw [if_pos c]
        by_cases cx : x = 0
        · rw [if_pos cx] at e
          rw [if_pos cx, e, obs]
          dsimp only
          rcases a1 with rfl | rfl
          · rw [if_pos rfl]
            exact t0 (by cases hfj : f j with
              | false => rfl
              | true => exact absurd (a2.mpr hfj) (by decide))
          · rw [if_neg (by decide)]; exact t1 (a2.mp rfl)
        · rw [if_neg cx] at e
          rw [if_neg cx, e, obs]
          dsimp only
          rcases a1 with rfl | rfl
          · rw [if_pos rfl]
            exact t0 (by cases hfj : f j with
              | false => rfl
              | true => exact absurd (a2.mpr hfj) (by decide))
          · rw [if_neg (by decide)]; exact t1 (a2.mp rfl)
      · rw [if_neg c]; exact t0 (hs0 j hj c)) fN 0 (by omega) (fN0 (by omega))
  exact q
/-- only the trial's scene has changed -/
theorem R.tr {k n : Nat} {pc : Nat → Nat} {b b' : Nat} {st st' : St} (h : R k n pc b st) (hb : b ≤ b') (e : ∀ a, a < 16 ∨ 21 < a → st'.1 a = st.1 a) : R k n pc b' st' := by
  refine h.cg hb (fun a ha => e a (by omega)) (fun j _ => by rw [e 59 (by omega)]) (fun j _ => by rw [e 92 (by omega)]) ?_
  unfold SceneR
  rw [vC_cg (s := st) (fun a a1 a2 => e a (by omega)), vM_cg (s := st) (fun a a1 a2 => e a (by omega)), e 4 (by omega), e 9 (by omega), e 59 (by omega)]
  exact ScR.mono h.scene hb
theorem sus_ag {k n : Nat} {pc : Nat → Nat} {v w : Vw} {fl fl' : Nat → Int32} {lw r p : Nat} (hk : k ≤ 3) (hn : n ≤ 6) (hpc : ∀ r, r < k → pc r ≤ 6) (hf : FlA k pc fl fl') (hV : VV k n pc v) (h : Ag n v w) (hr : r < k) : SusS lw n fl v r p ↔ SusS lw n fl' w r p := by
  have key : ∀ x, ffS lw n fl (agV v p (nI x)) (nI r) = ffS lw n fl' (agV w p (nI x)) (nI r) := fun x => ffW_ag hk hn hpc hf (show VW k n pc (agV v p (nI x)) from ⟨hV.1, hV.2.2.1⟩) (Ag_agV h p (nI x)) hr
  constructor
  · rintro ⟨x, x1, x2, x3⟩
    refine ⟨x, x1, fun q hq e => ?_, by rw [← key]; exact x3⟩
    rw [← (h.1 q hq).2.2.1]
    exact x2 q hq ((h.1 q hq).1.trans e)
  · rintro ⟨x, x1, x2, x3⟩
    refine ⟨x, x1, fun q hq e => ?_, by rw [key]; exact x3⟩
    rw [(h.1 q hq).2.2.1]
    exact x2 q hq ((h.1 q hq).1.symm.trans e)
theorem hee_ag {k n : Nat} {pc : Nat → Nat} {v w : Vw} {fl fl' : Nat → Int32} {lw r p : Nat} (hk : k ≤ 3) (hn : n ≤ 6) (hpc : ∀ r, r < k → pc r ≤ 6) (hf : FlA k pc fl fl') (hV : VV k n pc v) (h : Ag n v w) (hr : r < k) (hp : p < n) : HeeS lw n fl v r p ↔ HeeS lw n fl' w r p := by
  unfold HeeS
  rw [(h.1 p hp).2.2.2.1, ffW_ag hk hn hpc hf (show VW k n pc (icV v p (w.2.2.2.2 p - 1)) from ⟨hV.1, hV.2.2.1⟩) (Ag_icV h p (w.2.2.2.2 p - 1)) hr]
theorem B_seen (x y : Int32) : Bo (F_X7_seen x y) (F_X8_seen x y) := by
  intro k n pc b st hb h
  have hH := h.house
  obtain ⟨hc, hm, hF, -⟩ := h.house
  have hS := h.scene
  have hVM := SceneR.vw h.scene
  obtain ⟨hA, hV, ⟨yr, hyr, hag0⟩, -, -, ⟨lw, hlw, w1, w2⟩, -⟩ := h.scene
  have hk := hc.1
  have hn := hc.2.1
  have hpc : ∀ r, r < k → pc r ≤ 6 := fun r hr => (hc.2.2.2.2 r hr).2.2
  rcases idx x (n := k) (by omega) with ⟨r, hr, rfl⟩ | hx
  · by_cases c : y = 0 ∨ y = 1
    · have z1 : ¬ y < 0 ∧ y ≤ 1 := by rcases c with rfl | rfl <;> decide
      have p1 := P_firstTooHigh (sc := 9) hc hV w1 hlw hr
      have m1 := M_firstFault hm hVM w2 hlw hr
      have eff := ff_ag (lw := lw) hk hn hpc hF hV hA hr
      by_cases cf : ffS lw n (st.1 3) (vC 9 st) (nI r) = none
      · refine ro h 0 ?_ ?_
        · rw [F_X7_seen, F_X7_seen_0, P_hasRoom_in hc hr, obs]
          dsimp only
          rw [if_neg (by decide), if_neg z1.1, if_pos z1.2, p1, obs]
          dsimp only
          rw [if_pos (by rw [ffS_oI hn]; exact cf)]
        · rw [F_X8_seen, F_X8_seen_0, M_isRoom_in hm hr, obs]
          dsimp only
          rw [if_neg (by decide), in01, if_pos c, obs]
          dsimp only
          rw [if_neg (by decide), m1, obs]
          dsimp only
          rw [if_neg (by rw [ffS_pos hn]; exact fun q => q (eff.symm.trans cf))]
      · obtain ⟨S, hSS⟩ : ∃ S, S = cpS 16 9 st := ⟨_, rfl⟩
        have eo : ∀ a, (a < 16 ∨ 21 < a) → S.1 a = st.1 a := fun a ha => by rw [hSS, cpS_off (by omega)]
        have hcS : HC k n pc S := hc.cg (eo 1 (by omega)) (eo 2 (by omega))
        have hmS : HM k n pc S := hm.cg (by rw [eo 59 (by omega)]) (by rw [eo 59 (by omega)]) (eo 60 (by omega))
        obtain ⟨v, hv⟩ : ∃ v, v = mixV (vC 9 st) (vC 16 st) := ⟨_, rfl⟩
        have evC : setV 16 v S = S := by rw [show v = vC 16 S by rw [hSS, vC_cpS, hv], setV_self]
        have evM : setM (vM st) S = S := by rw [show vM st = vM S from (vM_cg (fun a a1 a2 => eo a (by omega))).symm, setM_self]
        have hs : ScR k n pc b (st.1 4) v (vM st) (st.1 9 5) (st.1 59 10) (st.1 9 6) (st.1 59 16) := by rw [hv]; exact ScR.cgv hn hS (EqV_mix _ _) (EqV.refl _)
        have l16 : S.1 16 5 = nI lw := by rw [hSS, cpS_5]; exact w1
        have l59 : S.1 59 10 = nI lw := by rw [eo 59 (by omega)]; exact w2
        have hFS : FlA k pc (S.1 3) (S.1 61) := by rw [eo 3 (by omega), eo 61 (by omega)]; exact hF
        have hfv : ¬ ffS lw n (S.1 3) v (nI r) = none := by
          rw [eo 3 (by omega), ff_ag (lw := lw) hk hn hpc hF hs.2.1 hs.1 hr, ← eff]; exact cf
        have hag : ∃ ag : Nat → Nat, ∀ q, q < n → ag q < 2 ^ 30 ∧ v.2.2.2.1 q = nI (ag q) := by
          refine ⟨fun q => (v.2.2.2.1 q).toNatClampNeg, fun q hq => ?_⟩
          obtain ⟨a, a1, a2, a3⟩ := hs.2.2.1.choose_spec.2 q hq
          have hlt := hs.2.2.1.choose_spec.1
          show (v.2.2.2.1 q).toNatClampNeg < _ ∧ v.2.2.2.1 q = nI (v.2.2.2.1 q).toNatClampNeg
          rw [a3, clN (by omega)]
          exact ⟨by omega, rfl⟩
        obtain ⟨ag, hag⟩ := hag
        obtain ⟨f, hfs⟩ : ∃ f : Nat → Bool, ∀ p, (f p = true ↔ (v.1 p = nI r ∧ if y = 0 then SusS lw n (S.1 3) v r p else HeeS lw n (S.1 3) v r p)) := ⟨fun p => @decide (v.1 p = nI r ∧ if y = 0 then SusS lw n (S.1 3) v r p else HeeS lw n (S.1 3) v r p) (Classical.propDecidable _), fun p => @decide_eq_true_iff _ (Classical.propDecidable _)⟩
        have q2 : F_X8_seen_39 fN (nI r) y 0 0 S = some (nI (mkS f n), S) := by
          have := M_seenLoop (w := vM st) (S := S) (r := r) (x := y) (f := f) hmS (fun p hp e => ?_) (fun p hp e => ?_)
          · rw [evM] at this; exact this
          · have ev : v.1 p = nI r := (hs.1.1 p hp).1.trans e
            by_cases cy : y = 0
            · obtain ⟨a, a1, a2, a3⟩ := M_isSuspect (w := vM st) hmS l59 hlw hr hVM hp
              rw [if_pos cy]
              refine ⟨a, a1, a2, a3.trans ?_⟩
              rw [hfs p, if_pos cy, ← sus_ag hk hn hpc hFS hs.2.1 hs.1 hr]
              exact ⟨fun q => ⟨ev, q⟩, fun q => q.2⟩
            · obtain ⟨a, a1, a2, a3⟩ := M_isHeeled (w := vM st) hmS l59 hlw hr hVM hp
              rw [if_neg cy]
              refine ⟨a, a1, a2, a3.trans ?_⟩
              rw [hfs p, if_neg cy, ← hee_ag hk hn hpc hFS hs.2.1 hs.1 hr hp]
              exact ⟨fun q => ⟨ev, q⟩, fun q => q.2⟩
          · cases hfp : f p with
            | false => rfl
            | true => exact absurd ((hs.1.1 p hp).1.symm.trans ((hfs p).mp hfp).1) e
        refine ⟨nI (mkS f n), S, S, ?_, ?_, k, n, pc, h.tr (by omega) eo⟩
        · rw [F_X7_seen, F_X7_seen_0, P_hasRoom_in hc hr, obs]
          dsimp only
          rw [if_neg (by decide), if_neg z1.1, if_pos z1.2, p1, obs]
          dsimp only
          rw [if_neg (by rw [ffS_oI hn]; exact cf), P_copyFrom sc_9 (by omega), obs, ← hSS]
          by_cases cy : y = 0
          · have q1 := P_suspectsIn hcS l16 hlw hr hs.2.1 hag hfv (f := f) (fun p hp => by rw [hfs p, if_pos cy])
            rw [evC] at q1
            rw [if_pos cy, q1, obs]
            rfl
          · have q1 := P_heelsIn hcS l16 hlw hr hs.2.1 (f := f) (fun p hp => by rw [hfs p, if_neg cy])
            rw [evC] at q1
            rw [if_neg cy, q1, obs]
            rfl
        · have m1' : F_X8_firstFault (nI r) S = some (oI (ffS lw n (S.1 61) (vM st) (nI r)), S) := by
            have := MW_ffV (u := vM st) hmS (VV.w hVM) l59 hlw hr
            rw [evM] at this; exact this
          rw [F_X8_seen, F_X8_seen_0, M_isRoom_in hmS hr, obs]
          dsimp only
          rw [if_neg (by decide), in01, if_pos c, obs]
          dsimp only
          rw [if_neg (by decide), m1', obs]
          dsimp only
          rw [if_pos (by rw [ffS_pos hn, eo 61 (by omega), ← eff]; exact cf)]
          exact q2
    · refine ro h (-1000000002) ?_ ?_
      · rw [F_X7_seen, F_X7_seen_0, P_hasRoom_in hc hr, obs]
        dsimp only
        rw [if_neg (by decide)]
        rcases c01 c with c | c
        · rw [if_pos c]; rfl
        · rw [if_neg c]; split <;> rfl
      · rw [F_X8_seen, F_X8_seen_0, M_isRoom_in hm hr, obs]
        dsimp only
        rw [if_neg (by decide), in01, if_neg c, obs]
        dsimp only
        rw [if_pos rfl]
  · refine ro h (-1000000001) ?_ ?_
    · rw [F_X7_seen, F_X7_seen_0, P_hasRoom_out hc hx, obs]
      dsimp only
      rw [if_pos rfl]
    · rw [F_X8_seen, F_X8_seen_0, M_isRoom_out hm hx, obs]
      dsimp only
      rw [if_pos rfl]

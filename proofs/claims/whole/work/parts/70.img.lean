/-! PURE: law, seed, book, images -/
theorem B_law (x : Int32) : Bo (F_X7_law x) (F_X8_law x) := by
  intro k n pc b st hb h
  have hS := h.scene
  obtain ⟨hA, hV, h3, h4, h5, ⟨lw, hlw, w1, w2⟩, h7⟩ := h.scene
  by_cases c : x = 0 ∨ x = 1
  · have z1 : ¬ x < 0 ∧ x ≤ 1 := by rcases c with rfl | rfl <;> decide
    obtain ⟨l, hl, hxl⟩ : ∃ l, l ≤ 1 ∧ x = nI l := by
      rcases c with rfl | rfl
      · exact ⟨0, by omega, rfl⟩
      · exact ⟨1, by omega, rfl⟩
    refine ⟨nI lw, sV st 9 5 x, sV (sV st 9 5 x) 59 10 x, ?_, ?_, k, n, pc, ?_⟩
    · simp only [F_X7_law, F_X7_law_0, bs, w1]
      rw [if_neg z1.1, if_pos z1.2]
    · simp only [F_X8_law, F_X8_law_0, in01, if_pos c, Option.bind_some, bs]
      rw [if_neg (by decide), sV_off (show 59 ≠ 9 by omega), w2]
    · refine h.cg (by omega) (fun i hi => by rw [sV_off (by omega), sV_off (by omega)]) (fun j hj => by rw [sV_at, upd_off (by omega), sV_off (by omega)]) (fun j _ => by rw [sV_off (by omega), sV_off (by omega)]) ?_
      have ev : vC 9 (sV (sV st 9 5 x) 59 10 x) = vC 9 st := by
        unfold vC
        simp (disch := decide) only [sV_off]
      have ew : vM (sV (sV st 9 5 x) 59 10 x) = vM st := by
        unfold vM
        simp (disch := decide) only [sV_off]
      unfold SceneR
      rw [ev, ew]
      simp (disch := decide) only [sV_off, sV_at, upd_at, upd_off]
      exact ScR.mono ⟨hA, hV, h3, h4, h5, ⟨l, hl, hxl, hxl⟩, h7⟩ (by omega)
  · refine ro h (-1000000002) ?_ ?_
    · simp only [F_X7_law, F_X7_law_0, F_X7_law_9]
      rcases c01 c with c | c
      · rw [if_pos c]
      · rw [if_neg c]; split <;> rfl
    · simp only [F_X8_law, F_X8_law_0, in01, if_neg c, Option.bind_some, if_true]
theorem nat_of {x : Int32} (h : (0 : Int32) ≤ x) : ∃ j, j < 2 ^ 31 ∧ x = nI j := by
  rcases idx x (n := 2147483647) (by decide) with ⟨j, hj, e⟩ | c | c
  · exact ⟨j, by omega, e⟩
  · exact absurd h (Int32.not_le.mpr c)
  · refine ⟨2147483647, by omega, ?_⟩
    rw [ile, nI_toInt (by omega)] at c
    apply Int32.toInt_inj.mp
    rw [nI_toInt (by omega)]
    have := Int32.toInt_lt x
    omega
theorem B_seed (x : Int32) : Bo (F_X7_seed x) (F_X8_seed x) := by
  intro k n pc b st hb h
  obtain ⟨hA, hV, h3, h4, h5, h6, ⟨sd, hsd, w1, w2⟩⟩ := h.scene
  by_cases c : (0 : Int32) ≤ x
  · obtain ⟨j, hj, hx⟩ := nat_of c
    refine ⟨nI sd, sV st 9 6 x, sV (sV st 9 6 x) 59 16 x, ?_, ?_, k, n, pc, ?_⟩
    · simp only [F_X7_seed, F_X7_seed_0, bs, w1]
      rw [if_pos c]
    · simp only [F_X8_seed, F_X8_seed_0, bs]
      rw [if_pos c, sV_off (show 59 ≠ 9 by omega), w2]
    · refine h.cg (by omega) (fun i hi => by rw [sV_off (by omega), sV_off (by omega)]) (fun j hj => by rw [sV_at, upd_off (by omega), sV_off (by omega)]) (fun j _ => by rw [sV_off (by omega), sV_off (by omega)]) ?_
      have ev : vC 9 (sV (sV st 9 6 x) 59 16 x) = vC 9 st := by
        unfold vC
        simp (disch := decide) only [sV_off]
      have ew : vM (sV (sV st 9 6 x) 59 16 x) = vM st := by
        unfold vM
        simp (disch := decide) only [sV_off]
      unfold SceneR
      rw [ev, ew]
      simp (disch := decide) only [sV_off, sV_at, upd_at, upd_off]
      exact ScR.mono ⟨hA, hV, h3, h4, h5, h6, ⟨j, hj, hx, hx⟩⟩ (by omega)
  · exact ro h (-1000000002) (by simp only [F_X7_seed, F_X7_seed_0]; rw [if_neg c]) (by simp only [F_X8_seed, F_X8_seed_0]; rw [if_neg c])
/-- only the book has changed -/
theorem R.bk {k n : Nat} {pc : Nat → Nat} {b b' : Nat} {st st' : St} (h : R k n pc b st) (hb : b ≤ b') (e : ∀ i, i ≤ 40 ∨ (45 ≤ i ∧ i ≤ 58) ∨ (60 ≤ i ∧ i ≤ 88) ∨ 92 ≤ i → st'.1 i = st.1 i) (e59 : ∀ j, j ≠ 45 → st'.1 59 j = st.1 59 j) (hB : BookR k n pc st') : R k n pc b' st' := by
  have hn : n ≤ 6 := h.1.1.2.1
  refine ⟨h.house.cg (fun i hi => e i (by omega)) (e59 0 (by omega)) (e59 3 (by omega)) (e59 8 (by omega)), ?_, ?_, ?_, hB, ⟨((h.imgs.1).cg hn (by omega) (fun i hi => e i (by omega)) (fun j _ => by rw [e 92 (by omega)])).mono hb, ((h.imgs.2).cg hn (by omega) (fun i hi => e i (by omega)) (fun j _ => by rw [e 92 (by omega)])).mono hb⟩, ?_⟩
  · have := ScR.mono h.scene hb
    unfold SceneR
    have ev : vC 9 st' = vC 9 st := by
      unfold vC
      rw [e (9 + 1) (by omega), e (9 + 2) (by omega), e (9 + 3) (by omega), e (9 + 4) (by omega), e (9 + 5) (by omega)]
    have ew : vM st' = vM st := by
      unfold vM
      rw [e 69 (by omega), e 70 (by omega), e 71 (by omega), e 67 (by omega), e 68 (by omega)]
    rw [ev, ew, e 4 (by omega), e 9 (by omega), e59 10 (by omega), e59 16 (by omega)]
    exact this
  · obtain ⟨len, t⟩ := h.text
    refine ⟨len, ?_⟩
    rw [e 23 (by omega), e 32 (by omega), e 72 (by omega), e59 18 (by omega)]
    exact t
  · rw [e 0 (by omega), e59 19 (by omega)]; exact h.fault
  · rw [e 3 (by omega), e 4 (by omega), e 6 (by omega), e 36 (by omega), e 37 (by omega)]
    exact h.cache
theorem B_tear : Bo F_X7_tear F_X8_tear := by
  intro k n pc b st hb h
  obtain ⟨m, hm, w1, w2, -⟩ := h.book
  refine ⟨nI m, sV st 41 3 0, sV (sV st 41 3 0) 59 45 0, ?_, ?_, k, n, pc, ?_⟩
  · simp only [F_X7_tear, F_X7_tear_0, bs, w1]
  · simp only [F_X8_tear, F_X8_tear_0, bs]
    rw [sV_off (show 59 ≠ 41 by omega), w2]
  · refine h.bk (by omega) (fun i hi => by rw [sV_off (by omega), sV_off (by omega)]) (fun j hj => by rw [sV_at, upd_off (by omega), sV_off (by omega)]) ⟨0, by omega, ?_, ?_, fun j hj => by omega⟩
    · rw [sV_off (by omega), sV_at, upd_at]; rfl
    · rw [sV_at, upd_at]; rfl
theorem B_write (x y z : Int32) : Bo (F_X7_write x y z) (F_X8_write x y z) := by
  intro k n pc b st hb h
  obtain ⟨hc, hm, hF, -⟩ := h.house
  obtain ⟨m, hm20, w1, w2, hB⟩ := h.book
  rcases P_isComing hc x y z with ⟨e1, e2⟩ | ⟨p, r, i, hp, hr, hi, rfl, rfl, rfl, e1⟩
  · refine ro h (-1000000001) ?_ ?_
    · simp only [F_X7_write, F_X7_write_0, e1, Option.bind_some, if_true]
    · rcases e2 st hm with e | ⟨e, e'⟩
      · simp only [F_X8_write, F_X8_write_0, F_X8_write_17, e, Option.bind_some, if_true]
      · simp only [F_X8_write, F_X8_write_0, F_X8_write_17, e, e', Option.bind_some, if_true]
        rw [if_neg (by decide)]
  · by_cases c : m < 20
    · obtain ⟨S, hS⟩ : ∃ S, S = sV (sV (sV (sV st 42 m (nI p)) 43 m (nI r)) 44 m (nI i)) 41 3 (nI (m + 1)) := ⟨_, rfl⟩
      have e59 : S.1 59 = st.1 59 := by rw [hS]; simp (disch := decide) only [sV_off]
      have hmS : HM k n pc S := by
        obtain ⟨a1, a2, a3, a4, a5⟩ := hm
        refine ⟨a1, a2, by rw [e59]; exact a3, by rw [e59]; exact a4, fun r hr => ?_⟩
        rw [show S.1 60 = st.1 60 by rw [hS]; simp (disch := decide) only [sV_off]]
        exact a5 r hr
      have c1 : nI m < 20 := by rw [litN 20, ltN (by omega) (by omega)]; exact c
      have g20 : ∀ {α : Type} {a : Option α}, gi (nI m) 20 a = a := gi_in c (by decide)
      have cm : (nI m).toNatClampNeg = m := clN (by omega)
      refine ⟨nI (m + 1), S, sV (sV (sV (sV S 89 m (nI p)) 90 m (nI r)) 91 m (nI i)) 59 45 (nI (m + 1)), ?_, ?_, k, n, pc, ?_⟩
      · simp only [F_X7_write, F_X7_write_0, F_X0_append, F_X0_append_0, F_X0_append_49, e1, Option.bind_some, w1, bs]
        rw [if_neg (by decide), if_pos c1, if_neg (Int32.not_le.mpr c1)]
        simp (disch := decide) only [sV_off, w1, g20, cm, sV_at, nI_1, ← hS]
        simp only [Option.bind_some]
        rw [show S.1 41 3 = nI (m + 1) by rw [hS, sV_at, upd_at]]
      · simp only [F_X8_write, F_X8_write_0, M_isPerson_in hmS hp, M_isPlace_in hmS hr hi, Option.bind_some, e59, w2, bs]
        rw [if_neg (by decide), if_neg (by decide), if_neg (by rw [litN 20, eqN (by omega) (by omega)]; omega)]
        simp (disch := decide) only [sV_off, e59, w2, g20, cm, nI_1, sV_at, upd_at]
      · have e1 : ∀ i0 i, i ≠ 41 → i ≠ 42 → i ≠ 43 → i ≠ 44 → i ≠ 59 → i ≠ 89 → i ≠ 90 → i ≠ 91 → (sV (sV (sV (sV S 89 m (nI p)) 90 m (nI r)) 91 m (nI i0)) 59 45 (nI (m + 1))).1 i = st.1 i := by
          intro i0 i a1 a2 a3 a4 a5 a6 a7 a8
          rw [sV_off a5, sV_off a8, sV_off a7, sV_off a6, hS, sV_off a1, sV_off a4, sV_off a3, sV_off a2]
        refine h.bk (by omega) (fun j hj => e1 i j (by omega) (by omega) (by omega) (by omega) (by omega) (by omega) (by omega) (by omega)) (fun j hj => by rw [sV_at, upd_off hj, sV_off (by omega), sV_off (by omega), sV_off (by omega), e59]) ⟨m + 1, by omega, ?_, ?_, fun j hj => ?_⟩
        · simp (disch := decide) only [sV_off]
          rw [hS, sV_at, upd_at]
        · rw [sV_at, upd_at]
        · simp (disch := decide) only [sV_off, sV_at, hS]
          by_cases cj : j = m
          · subst cj
            exact ⟨p, r, i, hp, hr, hi, upd_at _ _ _, upd_at _ _ _, upd_at _ _ _, upd_at _ _ _, upd_at _ _ _, upd_at _ _ _⟩
          · simp only [upd_off cj]
            exact hB j (by omega)
    · have em : m = 20 := by omega
      subst em
      refine ro h (-1000000004) ?_ ?_
      · simp only [F_X7_write, F_X7_write_0, e1, Option.bind_some, w1]
        rw [if_neg (by decide), if_neg (by decide)]
      · simp only [F_X8_write, F_X8_write_0, M_isPerson_in hm hp, M_isPlace_in hm hr hi, Option.bind_some, w2]
        rw [if_neg (by decide), if_neg (by decide), if_pos (by decide)]
/-! images -/
def EqV (v v' : Vw) : Prop := ∀ p, p < 6 → v'.1 p = v.1 p ∧ v'.2.1 p = v.2.1 p ∧ v'.2.2.1 p = v.2.2.1 p ∧ v'.2.2.2.1 p = v.2.2.2.1 p ∧ v'.2.2.2.2 p = v.2.2.2.2 p
theorem EqV.refl (v : Vw) : EqV v v := fun _ _ => ⟨rfl, rfl, rfl, rfl, rfl⟩
theorem ScR.cgv {k n : Nat} {pc : Nat → Nat} {b : Nat} {A0 : Nat → Int32} {v w v' w' : Vw} {lc lm sc sm : Int32} (hn : n ≤ 6) (h : ScR k n pc b A0 v w lc lm sc sm) (ev : EqV v v') (ew : EqV w w') : ScR k n pc b A0 v' w' lc lm sc sm := by
  obtain ⟨h1, h2, ⟨y, hy, h3⟩, h4, h5, h6⟩ := h
  refine ⟨⟨fun p hp => ?_, fun p a1 a2 => ?_⟩, ⟨fun p hp => ?_, fun p q hp hq e => ?_, fun p a1 a2 => ?_, fun p q hp hq e1 e2 e3 => ?_⟩, ⟨y, hy, fun p hp => ?_⟩, fun p hp => ?_, fun p hp e => ?_, h6⟩
  · obtain ⟨a1, a2, a3, a4, a5⟩ := h1.1 p hp
    obtain ⟨b1, b2, b3, b4, b5⟩ := ev p (by omega)
    obtain ⟨c1, c2, c3, c4, c5⟩ := ew p (by omega)
    exact ⟨by rw [b1, c1]; exact a1, by rw [b2, c2]; exact a2, by rw [b4, c4]; exact a3, by rw [b5, c5]; exact a4, by rw [b3, c3]; exact a5⟩
  · rw [(ew p a2).1]; exact h1.2 p a1 a2
  · obtain ⟨b1, b2, b3, b4, b5⟩ := ev p (by omega)
    rcases h2.1 p hp with ⟨r, i, c1, c2, c3, c4⟩ | ⟨c1, c2⟩
    · exact Or.inl ⟨r, i, c1, c2, by rw [b1]; exact c3, by rw [b2]; exact c4⟩
    · exact Or.inr ⟨by rw [b1]; exact c1, by rw [b2]; exact c2⟩
  · rw [(ev p (by omega)).2.2.2.1, (ev q (by omega)).2.2.2.1] at e
    exact h2.2.1 p q hp hq e
  · rw [(ev p a2).1]; exact h2.2.2.1 p a1 a2
  · rw [(ev p (by omega)).1, (ev q (by omega)).1] at e1
    rw [(ev p (by omega)).2.1, (ev q (by omega)).2.1] at e2
    rw [(ev p (by omega)).1] at e3
    exact h2.2.2.2 p q hp hq e1 e2 e3
  · rw [(ev p (by omega)).2.2.2.1]; exact h3 p hp
  · rw [(ev p (by omega)).2.2.2.2]; exact h4 p hp
  · rw [(ev p (by omega)).1] at e
    rw [(ev p (by omega)).2.2.1]
    exact h5 p hp e
theorem EqV_mix (u v : Vw) : EqV u (mixV u v) := fun p hp => ⟨mix6_lt hp, mix6_lt hp, mix6_lt hp, mix6_lt hp, mix6_lt hp⟩
theorem M_save {i : Nat} (hi : i < 3) (st : St) : ∃ f, F_X8_save (nI i) st = some (sA st 92 f) ∧ EqV (vM st) (vI i f) ∧ f (40 * i + 30) = st.1 59 10 ∧ f (40 * i + 31) = st.1 59 16 ∧ ∀ j, j < 40 * i ∨ 40 * i + 32 ≤ j → f j = st.1 92 j := by
  have hL := upn (n := 6) (P := fun N j => ∀ f : Nat → Int32, (∀ p, p < j → f (40 * i + p) = st.1 69 p ∧ f (40 * i + 6 + p) = st.1 70 p ∧ f (40 * i + 12 + p) = st.1 71 p ∧ f (40 * i + 18 + p) = st.1 67 p ∧ f (40 * i + 24 + p) = st.1 68 p) → (∀ x, x < 40 * i ∨ 40 * i + 32 ≤ x → f x = st.1 92 x) → ∃ f', F_X8_save_7 N (nI (40 * i)) (nI j) (sA st 92 f) = some (sA st 92 f') ∧ EqV (vM st) (vI i f') ∧ f' (40 * i + 30) = st.1 59 10 ∧ f' (40 * i + 31) = st.1 59 16 ∧ ∀ j, j < 40 * i ∨ 40 * i + 32 ≤ j → f' j = st.1 92 j)
    (fun N f h1 h2 => by
      refine ⟨upd (upd f (40 * i + 30) (st.1 59 10)) (40 * i + 31) (st.1 59 16), ?_, fun p hp => ?_, ?_, ?_, fun x hx => ?_⟩
      · simp only [F_X8_save_7, t6, if_true, litN 30, litN 31, nI_add, gi_in (show 40 * i + 30 < 120 by omega) (show 120 < 2 ^ 31 by decide), gi_in (show 40 * i + 31 < 120 by omega) (show 120 < 2 ^ 31 by decide), clN (show 40 * i + 30 < 2 ^ 31 by omega), clN (show 40 * i + 31 < 2 ^ 31 by omega), bs, sV_sA, sA_off (show 59 ≠ 92 by omega)]
      · obtain ⟨a1, a2, a3, a4, a5⟩ := h1 p hp
        refine ⟨?_, ?_, ?_, ?_, ?_⟩ <;> (simp only [vI]; rw [upd_off (by omega), upd_off (by omega)]; assumption)
      · rw [upd_off (by omega), upd_at]
      · rw [upd_at]
      · rw [upd_off (by omega), upd_off (by omega)]; exact h2 x hx) (fun N j hj ih f h1 h2 => by
      obtain ⟨g, hg⟩ : ∃ g, g = upd (upd (upd (upd (upd f (40 * i + j) (st.1 69 j)) (40 * i + 6 + j) (st.1 70 j)) (40 * i + 12 + j) (st.1 71 j)) (40 * i + 18 + j) (st.1 67 j)) (40 * i + 24 + j) (st.1 68 j) := ⟨_, rfl⟩
      have e : F_X8_save_7 (N + 1) (nI (40 * i)) (nI j) (sA st 92 f) = F_X8_save_7 N (nI (40 * i)) (nI (j + 1)) (sA st 92 g) := by
        simp only [F_X8_save_7, f6 hj, if_false]
        simp only [litN 6, litN 12, litN 18, litN 24, nI_add, g6 hj, c6 hj, gi_in (show 40 * i + j < 120 by omega) (show 120 < 2 ^ 31 by decide), gi_in (show 40 * i + 6 + j < 120 by omega) (show 120 < 2 ^ 31 by decide), gi_in (show 40 * i + 12 + j < 120 by omega) (show 120 < 2 ^ 31 by decide), gi_in (show 40 * i + 18 + j < 120 by omega) (show 120 < 2 ^ 31 by decide), gi_in (show 40 * i + 24 + j < 120 by omega) (show 120 < 2 ^ 31 by decide), clN (show 40 * i + j < 2 ^ 31 by omega), clN (show 40 * i + 6 + j < 2 ^ 31 by omega), clN (show 40 * i + 12 + j < 2 ^ 31 by omega), clN (show 40 * i + 18 + j < 2 ^ 31 by omega), clN (show 40 * i + 24 + j < 2 ^ 31 by omega), bs, sV_sA, sA_off (show 69 ≠ 92 by omega), sA_off (show 70 ≠ 92 by omega), sA_off (show 71 ≠ 92 by omega), sA_off (show 67 ≠ 92 by omega), sA_off (show 68 ≠ 92 by omega), nI_1, ← hg]
      rw [e]
      refine ih g (fun p hp => ?_) (fun x hx => ?_)
      · rw [hg]
        by_cases c : p = j
        · subst c
          refine ⟨?_, ?_, ?_, ?_, ?_⟩
          · rw [upd_off (by omega), upd_off (by omega), upd_off (by omega), upd_off (by omega), upd_at]
          · rw [upd_off (by omega), upd_off (by omega), upd_off (by omega), upd_at]
          · rw [upd_off (by omega), upd_off (by omega), upd_at]
          · rw [upd_off (by omega), upd_at]
          · rw [upd_at]
        · obtain ⟨a1, a2, a3, a4, a5⟩ := h1 p (by omega)
          refine ⟨?_, ?_, ?_, ?_, ?_⟩ <;> (rw [upd_off (by omega), upd_off (by omega), upd_off (by omega), upd_off (by omega), upd_off (by omega)]; assumption)
      · rw [hg, upd_off (by omega), upd_off (by omega), upd_off (by omega), upd_off (by omega), upd_off (by omega)]
        exact h2 x hx) fN 0 (by omega) (fN0 (by omega))
  obtain ⟨f', h1, h2⟩ := hL (st.1 92) (fun p hp => by omega) (fun _ _ => rfl)
  rw [sA_id] at h1
  refine ⟨f', ?_, h2⟩
  rw [F_X8_save, F_X8_save_0, litN 40, pk_mul]
  exact h1
theorem M_load {i : Nat} (hi : i < 3) (w : Vw) (st : St) : ∃ w', F_X8_load (nI i) (setM w st) = some (setM w' (sV (sV st 59 10 (st.1 92 (40 * i + 30))) 59 16 (st.1 92 (40 * i + 31)))) ∧ EqV (vI i (st.1 92)) w' := by
  have hL := upn (n := 6) (P := fun N j => ∀ w : Vw, (∀ p, p < j → w.1 p = (vI i (st.1 92)).1 p ∧ w.2.1 p = (vI i (st.1 92)).2.1 p ∧ w.2.2.1 p = (vI i (st.1 92)).2.2.1 p ∧ w.2.2.2.1 p = (vI i (st.1 92)).2.2.2.1 p ∧ w.2.2.2.2 p = (vI i (st.1 92)).2.2.2.2 p) → ∃ w', F_X8_load_7 N (nI (40 * i)) (nI j) (setM w st) = some (setM w' (sV (sV st 59 10 (st.1 92 (40 * i + 30))) 59 16 (st.1 92 (40 * i + 31)))) ∧ EqV (vI i (st.1 92)) w')
    (fun N w h1 => by
      refine ⟨w, ?_, h1⟩
      have e1 : ∀ x, sV (setM w st) 59 10 x = setM w (sV st 59 10 x) := fun x => by unfold sV; rw [setM_off (by omega)]; exact sA_Moff (by omega) _ _ _
      have e2 : ∀ s x, sV (setM w s) 59 16 x = setM w (sV s 59 16 x) := fun s x => by unfold sV; rw [setM_off (by omega)]; exact sA_Moff (by omega) _ _ _
      simp only [F_X8_load_7, t6, if_true, litN 30, litN 31, nI_add, gi_in (show 40 * i + 30 < 120 by omega) (show 120 < 2 ^ 31 by decide), gi_in (show 40 * i + 31 < 120 by omega) (show 120 < 2 ^ 31 by decide), clN (show 40 * i + 30 < 2 ^ 31 by omega), clN (show 40 * i + 31 < 2 ^ 31 by omega), bs, e1, e2, setM_off (show 92 ≤ 66 ∨ 72 ≤ 92 by omega), sV_off (show 92 ≠ 59 by omega)]) (fun N j hj ih w h1 => by
      obtain ⟨w2, hw2⟩ : ∃ w2 : Vw, w2 = (upd w.1 j (st.1 92 (40 * i + j)), upd w.2.1 j (st.1 92 (40 * i + 6 + j)), upd w.2.2.1 j (st.1 92 (40 * i + 12 + j)), upd w.2.2.2.1 j (st.1 92 (40 * i + 18 + j)), upd w.2.2.2.2 j (st.1 92 (40 * i + 24 + j))) := ⟨_, rfl⟩
      have e : F_X8_load_7 (N + 1) (nI (40 * i)) (nI j) (setM w st) = F_X8_load_7 N (nI (40 * i)) (nI (j + 1)) (setM w2 st) := by
        simp only [F_X8_load_7, f6 hj, if_false]
        simp only [litN 6, litN 12, litN 18, litN 24, nI_add, g6 hj, c6 hj, gi_in (show 40 * i + j < 120 by omega) (show 120 < 2 ^ 31 by decide), gi_in (show 40 * i + 6 + j < 120 by omega) (show 120 < 2 ^ 31 by decide), gi_in (show 40 * i + 12 + j < 120 by omega) (show 120 < 2 ^ 31 by decide), gi_in (show 40 * i + 18 + j < 120 by omega) (show 120 < 2 ^ 31 by decide), gi_in (show 40 * i + 24 + j < 120 by omega) (show 120 < 2 ^ 31 by decide), clN (show 40 * i + j < 2 ^ 31 by omega), clN (show 40 * i + 6 + j < 2 ^ 31 by omega), clN (show 40 * i + 12 + j < 2 ^ 31 by omega), clN (show 40 * i + 18 + j < 2 ^ 31 by omega), clN (show 40 * i + 24 + j < 2 ^ 31 by omega), bs, sV, setM_off (show 92 ≤ 66 ∨ 72 ≤ 92 by omega), setM_69, sA_M69, setM_70, sA_M70, setM_71, sA_M71, setM_67, sA_M67, setM_68, sA_M68, nI_1, ← hw2]
      rw [e]
      refine ih w2 (fun p hp => ?_)
      rw [hw2]
      by_cases c : p = j
      · subst c
        exact ⟨upd_at _ _ _, upd_at _ _ _, upd_at _ _ _, upd_at _ _ _, upd_at _ _ _⟩
      · obtain ⟨a1, a2, a3, a4, a5⟩ := h1 p (by omega)
        exact ⟨(upd_off c).trans a1, (upd_off c).trans a2, (upd_off c).trans a3, (upd_off c).trans a4, (upd_off c).trans a5⟩) fN 0 (by omega) (fN0 (by omega))
  obtain ⟨w', h1, h2⟩ := hL w (fun p hp => by omega)
  refine ⟨w', ?_, h2⟩
  rw [F_X8_load, F_X8_load_0, litN 40, pk_mul]
  exact h1

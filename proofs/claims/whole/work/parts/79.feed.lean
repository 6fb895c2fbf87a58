/-! PURE: feed -/
def byC (c : Nat) : Int32 := if c < 128 then nI c else nI c - 256
theorem by8 : ∀ c, c < 256 → (nI c).toInt8.toInt32 = byC c := by decide +kernel
theorem byte_c (y : Int64) : ∃ c, c < 256 ∧ (y &&& 255).toInt32 = nI c ∧ vp_nar .byte (y.toInt32.toInt8.toInt32) = byC c := by
  refine ⟨y.toBitVec.toNat % 2 ^ 8, Nat.mod_lt _ (by decide), ?_, ?_⟩
  · have e : y &&& 255 = lN (y.toBitVec.toNat % 2 ^ 8) := by
      apply Int64.toBitVec_inj.mp
      apply BitVec.eq_of_toNat_eq
      rw [Int64.toBitVec_and, BitVec.toNat_and, show (255 : Int64).toBitVec.toNat = 2 ^ 8 - 1 from rfl, Nat.and_two_pow_sub_one_eq_mod]
      show _ = (BitVec.ofNat 64 _).toNat
      rw [BitVec.toNat_ofNat]
      omega
    rw [e, lN_i]
  · rw [pk_vb, ← by8 _ (Nat.mod_lt _ (by decide))]
    have e : y.toInt32.toInt8 = (nI (y.toBitVec.toNat % 2 ^ 8)).toInt8 := by
      apply Int8.toBitVec_inj.mp
      apply BitVec.eq_of_toNat_eq
      show ((y.toBitVec.signExtend 32).signExtend 8).toNat = ((BitVec.ofNat 32 (y.toBitVec.toNat % 2 ^ 8)).signExtend 8).toNat
      rw [BitVec.signExtend_eq_setWidth_of_le _ (by decide), BitVec.signExtend_eq_setWidth_of_le _ (by decide), BitVec.signExtend_eq_setWidth_of_le _ (by decide)]
      simp only [BitVec.toNat_setWidth, BitVec.toNat_ofNat]
      omega
    rw [e]
def bysh (y : Int64) (j : Nat) : Int64 := y >>> ((8 * nI j).toInt64 &&& 63)
/-- a state with so many bytes of text -/
def txC (st : St) (f : Nat → Int32) (l : Nat) : St := sV (sA st 32 f) 23 1 (nI l)
def txM (st : St) (f : Nat → Int32) (l : Nat) : St := sV (sA st 72 f) 59 18 (nI l)
theorem txC_1 (st : St) (f : Nat → Int32) (l : Nat) : (txC st f l).1 23 1 = nI l := by rw [txC, sV_at, upd_at]
theorem txM_1 (st : St) (f : Nat → Int32) (l : Nat) : (txM st f l).1 59 18 = nI l := by rw [txM, sV_at, upd_at]
theorem txC_up (st : St) (f : Nat → Int32) (l : Nat) (x : Int32) : sV (sV (txC st f l) 32 l x) 23 1 (nI (l + 1)) = txC st (upd f l x) (l + 1) := by
  unfold txC sV
  rw [sA_off (show 32 ≠ 23 by omega), sA_at, sA_off (show 23 ≠ 32 by omega), sA_off (show 23 ≠ 32 by omega), sA_at, upd_upd, sA_comm _ (show 23 ≠ 32 by omega), sA_sA, sA_sA, sA_off (show 23 ≠ 32 by omega)]
theorem txM_up (st : St) (f : Nat → Int32) (l : Nat) (x : Int32) : sV (sV (txM st f l) 72 l x) 59 18 (nI (l + 1)) = txM st (upd f l x) (l + 1) := by
  unfold txM sV
  rw [sA_off (show 72 ≠ 59 by omega), sA_at, sA_off (show 59 ≠ 72 by omega), sA_off (show 59 ≠ 72 by omega), sA_at, upd_upd, sA_comm _ (show 59 ≠ 72 by omega), sA_sA, sA_sA, sA_off (show 59 ≠ 72 by omega)]
theorem P_takeBytes (st : St) (y : Int64) (m l0 : Nat) (h : l0 + m ≤ 500) : ∃ f, F_X5_takeBytes (nI m) y (txC st (st.1 32) l0) = some (txC st f (l0 + m)) ∧ (∀ x, x < l0 → f x = st.1 32 x) ∧ ∀ x, x < m → f (l0 + x) = vp_nar .byte ((bysh y (m - 1 - x)).toInt32.toInt8.toInt32) := by
  have q := downn (n := m) (P := fun N j => ∀ l f, l + j ≤ 500 → ∃ f', F_X5_takeBytes_5 N y (nI j - 1) (txC st f l) = some (txC st f' (l + j)) ∧ (∀ x, x < l → f' x = f x) ∧ ∀ x, x < j → f' (l + x) = vp_nar .byte ((bysh y (j - 1 - x)).toInt32.toInt8.toInt32))
    (fun N l f _ => ⟨f, by rw [F_X5_takeBytes_5, if_pos (by decide), F_X5_takeBytes_54, Nat.add_zero], fun _ _ => rfl, fun x hx => by omega⟩)
    (fun N j hj ih l f hl => by
      obtain ⟨f', e1, e2, e3⟩ := ih (l + 1) (upd f l (vp_nar .byte ((bysh y j).toInt32.toInt8.toInt32))) (by omega)
      refine ⟨f', ?_, fun x hx => ?_, fun x hx => ?_⟩
      · rw [nI_pred, F_X5_takeBytes_5, if_neg (nI_pos (by omega)), txC_1, if_neg (show ¬ (500 : Int32) ≤ nI l from nI_ge (b := 500) (by omega) (by omega)), gi_in (show l < 500 by omega) (by decide), clN (by omega)]
        simp only [bs]
        rw [sV_off (show 23 ≠ 32 by omega), txC_1, nI_1, txC_up, show nI j + (-1) = nI j - 1 by rw [Int32.sub_eq_add_neg]]
        refine Eq.trans e1 ?_
        rw [show l + 1 + j = l + (j + 1) by omega]
      · rw [e2 x (by omega), upd_off (by omega)]
      · by_cases c : x = 0
        · subst c
          rw [Nat.add_zero, e2 l (by omega), upd_at, Nat.add_sub_cancel, Nat.sub_zero]
        · have := e3 (x - 1) (by omega)
          rw [show l + 1 + (x - 1) = l + x by omega, show j - 1 - (x - 1) = j + 1 - 1 - x by omega] at this
          exact this) fN m (Nat.le_refl _) (by have := fN_big; omega) l0 (st.1 32) h
  exact q
theorem M_feedLoop (st : St) (y : Int64) (m l0 : Nat) (h : l0 + m ≤ 500) : ∃ f, F_X8_feed_35 fN y (nI m - 1) (txM st (st.1 72) l0) = some (nI (l0 + m), txM st f (l0 + m)) ∧ (∀ x, x < l0 → f x = st.1 72 x) ∧ ∀ x, x < m → f (l0 + x) = (bysh y (m - 1 - x) &&& 255).toInt32 := by
  have q := downn (n := m) (P := fun N j => ∀ l f, l + j ≤ 500 → ∃ f', F_X8_feed_35 N y (nI j - 1) (txM st f l) = some (nI (l + j), txM st f' (l + j)) ∧ (∀ x, x < l → f' x = f x) ∧ ∀ x, x < j → f' (l + x) = (bysh y (j - 1 - x) &&& 255).toInt32)
    (fun N l f _ => ⟨f, by rw [F_X8_feed_35, if_pos (by decide), txM_1, Nat.add_zero], fun _ _ => rfl, fun x hx => by omega⟩)
    (fun N j hj ih l f hl => by
      obtain ⟨f', e1, e2, e3⟩ := ih (l + 1) (upd f l ((bysh y j &&& 255).toInt32)) (by omega)
      refine ⟨f', ?_, fun x hx => ?_, fun x hx => ?_⟩
      · rw [nI_pred, F_X8_feed_35, if_neg (nI_pos (by omega)), txM_1, gi_in (show l < 500 by omega) (by decide), clN (by omega)]
        simp only [bs]
        rw [sV_off (show 59 ≠ 72 by omega), txM_1, nI_1, txM_up, show nI j + (-1) = nI j - 1 by rw [Int32.sub_eq_add_neg]]
        refine Eq.trans e1 ?_
        rw [show l + 1 + j = l + (j + 1) by omega]
      · rw [e2 x (by omega), upd_off (by omega)]
      · by_cases c : x = 0
        · subst c
          rw [Nat.add_zero, e2 l (by omega), upd_at, Nat.add_sub_cancel, Nat.sub_zero]
        · have := e3 (x - 1) (by omega)
          rw [show l + 1 + (x - 1) = l + x by omega, show j - 1 - (x - 1) = j + 1 - 1 - x by omega] at this
          exact this) fN m (Nat.le_refl _) (by have := fN_big; omega) l0 (st.1 72) h
  exact q
/-- only the text has changed -/
theorem R.tx {k n : Nat} {pc : Nat → Nat} {b b' : Nat} {st st' : St} (h : R k n pc b st) (hb : b ≤ b') (e : ∀ a, a ≠ 23 → a ≠ 32 → a ≠ 59 → a ≠ 72 → st'.1 a = st.1 a) (e59 : ∀ j, j ≠ 18 → st'.1 59 j = st.1 59 j) (ht : TextR st') : R k n pc b' st' := by
  have hn : n ≤ 6 := h.1.1.2.1
  refine ⟨h.house.cg (fun i hi => e i (by omega) (by omega) (by omega) (by omega)) (e59 0 (by omega)) (e59 3 (by omega)) (e59 8 (by omega)), ?_, ht, ?_, ?_, ⟨((h.imgs.1).cg hn (by omega) (fun i hi => e i (by omega) (by omega) (by omega) (by omega)) (fun j _ => by rw [e 92 (by omega) (by omega) (by omega) (by omega)])).mono hb, ((h.imgs.2).cg hn (by omega) (fun i hi => e i (by omega) (by omega) (by omega) (by omega)) (fun j _ => by rw [e 92 (by omega) (by omega) (by omega) (by omega)])).mono hb⟩, ?_⟩
  · have := ScR.mono h.scene hb
    unfold SceneR
    rw [vC_cg (s := st) (fun a a1 a2 => e a (by omega) (by omega) (by omega) (by omega)), vM_cg (s := st) (fun a a1 a2 => e a (by omega) (by omega) (by omega) (by omega)), e 4 (by omega) (by omega) (by omega) (by omega), e 9 (by omega) (by omega) (by omega) (by omega), e59 10 (by omega), e59 16 (by omega)]
    exact this
  · rw [e 0 (by omega) (by omega) (by omega) (by omega), e59 19 (by omega)]; exact h.fault
  · obtain ⟨m, t⟩ := h.book
    refine ⟨m, ?_⟩
    rw [e 41 (by omega) (by omega) (by omega) (by omega), e 42 (by omega) (by omega) (by omega) (by omega), e 43 (by omega) (by omega) (by omega) (by omega), e 44 (by omega) (by omega) (by omega) (by omega), e 89 (by omega) (by omega) (by omega) (by omega), e 90 (by omega) (by omega) (by omega) (by omega), e 91 (by omega) (by omega) (by omega) (by omega), e59 45 (by omega)]
    exact t
  · rw [e 3 (by omega) (by omega) (by omega) (by omega), e 4 (by omega) (by omega) (by omega) (by omega), e 6 (by omega) (by omega) (by omega) (by omega), e 36 (by omega) (by omega) (by omega) (by omega), e 37 (by omega) (by omega) (by omega) (by omega)]
    exact h.cache
theorem B_feed (x : Int32) (y : Int64) : Bo (F_X7_feed x y) (F_X8_feed x y) := by
  intro k n pc b st hb h
  obtain ⟨l, hl, t1, t2, t3⟩ := h.text
  rcases in1 (h := 8) (by omega) (H := 8) rfl x with ⟨m, m1, m2, rfl, c1, c2, e1⟩ | ⟨c, e1⟩
  · by_cases c : l + m ≤ 500
    · have cc : nI l + nI m ≤ 500 := by rw [nI_add, litN 500, leN (by omega) (by omega)]; exact c
      have eC : txC st (st.1 32) l = st := by
        unfold txC sV
        rw [sA_id, ← t1, upd_self, sA_id]
      obtain ⟨f, f1, f2, f3⟩ := P_takeBytes st y m l c
      rw [eC] at f1
      obtain ⟨S, hS⟩ : ∃ S, S = txC st f (l + m) := ⟨_, rfl⟩
      rw [← hS] at f1
      have eo : ∀ a, a ≠ 23 → a ≠ 32 → S.1 a = st.1 a := fun a h1 h2 => by rw [hS, txC, sV_off h1, sA_off h2]
      have eM : txM S (S.1 72) l = S := by
        unfold txM sV
        rw [sA_id, ← t2, eo 59 (by omega) (by omega), upd_self, ← eo 59 (by omega) (by omega), sA_id]
      obtain ⟨g, g1, g2, g3⟩ := M_feedLoop S y m l c
      rw [eM] at g1
      obtain ⟨S', hS'⟩ : ∃ S', S' = txM S g (l + m) := ⟨_, rfl⟩
      rw [← hS'] at g1
      have eo' : ∀ a, a ≠ 59 → a ≠ 72 → S'.1 a = S.1 a := fun a h1 h2 => by rw [hS', txM, sV_off h1, sA_off h2]
      refine ⟨nI (l + m), S, S', ?_, ?_, k, n, pc, ?_⟩
      · rw [F_X7_feed, F_X7_feed_0, if_neg c1, litN 8, if_pos c2, t1, if_pos cc, f1, obs, hS, txC_1]
      · rw [F_X8_feed, F_X8_feed_0, e1, obs]
        dsimp only
        rw [if_neg (by decide), eo 59 (by omega) (by omega), t2, if_pos cc]
        exact g1
      · refine h.tx (by omega) (fun a a1 a2 a3 a4 => by rw [eo' a a3 a4, eo a a1 a2]) (fun j hj => by rw [hS', txM, sV_at, upd_off hj, sA_off (by omega), eo 59 (by omega) (by omega)]) ⟨l + m, c, ?_, ?_, fun j hj => ?_⟩
        · rw [eo' 23 (by omega) (by omega), hS, txC_1]
        · rw [hS', txM_1]
        · rw [show S'.1 72 j = g j by rw [hS', txM, sV_off (by omega), sA_at], show S'.1 32 j = f j by rw [eo' 32 (by omega) (by omega), hS, txC, sV_off (by omega), sA_at]]
          by_cases d : j < l
          · rw [f2 j d, g2 j d, eo 72 (by omega) (by omega)]
            exact t3 j d
          · have a1 := f3 (j - l) (by omega)
            have a2 := g3 (j - l) (by omega)
            rw [show l + (j - l) = j by omega] at a1 a2
            obtain ⟨cc, b1, b2, b3⟩ := byte_c (bysh y (m - 1 - (j - l)))
            exact ⟨cc, b1, a2.trans b2, a1.trans b3⟩
    · have cc : ¬ nI l + nI m ≤ 500 := by rw [nI_add, litN 500, leN (by omega) (by omega)]; exact c
      refine ro h (-1000000004) ?_ ?_
      · rw [F_X7_feed, F_X7_feed_0, if_neg c1, litN 8, if_pos c2, t1, if_neg cc]
      · rw [F_X8_feed, F_X8_feed_0, e1, obs]
        dsimp only
        rw [if_neg (by decide), t2, if_neg cc]
  · refine ro h (-1000000002) ?_ ?_
    · rw [F_X7_feed, F_X7_feed_0, F_X7_feed_11]
      rcases c with c | c
      · rw [if_pos c]
      · rw [litN 8, if_neg c]; split <;> rfl
    · rw [F_X8_feed, F_X8_feed_0, e1, obs]
      dsimp only
      rw [if_pos rfl]

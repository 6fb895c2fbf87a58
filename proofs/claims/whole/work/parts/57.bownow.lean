/-! PURE: bowing of a room in the reference; years; rooms with a fault -/
theorem sA_comm (st : St) {i j : Nat} (h : i ≠ j) (f g : Nat → Int32) : sA (sA st i f) j g = sA (sA st j g) i f := by
  unfold sA
  congr 1
  funext a
  by_cases c : a = i
  · subst c; simp [h]
  · by_cases c2 : a = j
    · subst c2; simp [c]
    · simp [c, c2]
/-- the bends behind a bowing: those of the set as they come out, the others as they were -/
def mixB (n s : Nat) (B' B : Nat → Int32) : Nat → Int32 := fun p => if p < n then (if s.testBit p then B' p else B p) else B p
theorem M_bowNow {k n : Nat} {pc : Nat → Nat} {st : St} (h : HM k n pc st) {r lw : Nat} (hV : VV k n pc (vM st)) (hl : st.1 59 10 = nI lw) (hlw : lw ≤ 1) (hr : r < k) (hT : ∀ p, p < n → st.1 69 p = nI r → 0 ≤ (tl (st.1 61) (vM st) p).toInt ∧ (tl (st.1 61) (vM st) p).toInt ≤ 10000) (hK : ∀ p, p < n → 0 ≤ (st.1 64 p).toInt ∧ (st.1 64 p).toInt ≤ 10000) :
    ∃ t b, F_X8_bowNow (nI r) st = some (nI (bwS lw (st.1 67) (tl (st.1 61) (vM st)) (st.1 64) n 6 (mkS (fun p => decide (st.1 69 p = nI r)) n) none (st.1 71) 0).1,
      sA (sA (sA st 80 t) 81 b) 71 (mixB n (mkS (fun p => decide (st.1 69 p = nI r)) n) (bwS lw (st.1 67) (tl (st.1 61) (vM st)) (st.1 64) n 6 (mkS (fun p => decide (st.1 69 p = nI r)) n) none (st.1 71) 0).2 (st.1 71))) := by
  have hn : n ≤ 6 := h.2.1
  have hk : k ≤ 3 := h.1
  obtain ⟨s, hs⟩ : ∃ s, s = mkS (fun p => decide (st.1 69 p = nI r)) n := ⟨_, rfl⟩
  have hs64 : s < 64 := by rw [hs]; exact mkS_lt _ n hn
  have hsbit : ∀ q, q < 6 → s.testBit q = (decide (q < n) && decide (st.1 69 q = nI r)) := fun q hq => by rw [hs]; exact mkS_bit _ n hn q hq
  have hsR : ∀ q, q < n → s.testBit q = true → st.1 69 q = nI r := fun q hq hb => by rw [hsbit q (by omega)] at hb; simp [hq] at hb; exact hb
  have hsout : ∀ q, n ≤ q → q < 6 → s.testBit q = false := by
    intro q h1 h2
    rw [hsbit q h2]
    have : ¬ q < n := by omega
    simp [this]
  rw [← hs]
  obtain ⟨t, ht⟩ : ∃ t : Nat → Int32, t = fun p => if p < n then (if s.testBit p then tl (st.1 61) (vM st) p else 0) else st.1 80 p := ⟨_, rfl⟩
  have htp : ∀ q, q < n → s.testBit q = true → t q = tl (st.1 61) (vM st) q := fun q hq hb => by rw [ht]; simp [hq, hb]
  have hTT := M_takeTall h hs64 (fun p hp hb => (hV.at hk hn (by omega) hr (hsR p hp hb)).2)
  rw [← ht] at hTT
  have hH := HM_sA h (show 61 ≤ 80 by omega) t
  have hBA := M_bowAll (s := s) (lw := lw) hH (by rw [sA_off (by omega)]; exact hl) hlw hs64 hsout (fun p hp hb => by rw [sA_at, htp p hp hb]; exact hT p hp (hsR p hp hb)) (fun p hp => by rw [sA_off (by omega)]; exact hK p hp)
  rw [sA_at, sA_off (show 67 ≠ 80 by omega), sA_off (show 64 ≠ 80 by omega), sA_off (show 81 ≠ 80 by omega)] at hBA
  rw [bwS_congr (A' := st.1 67) (T' := tl (st.1 61) (vM st)) (K' := st.1 64) (fun _ _ => rfl) (fun _ _ => rfl) 6 s none (st.1 81) 0 htp hs64 hn] at hBA
  have hsb6 : ∀ q, n ≤ q → s.testBit q = false := fun q hq => by
    by_cases c : q < 6
    · exact hsout q hq c
    · exact Nat.testBit_lt_two_pow (Nat.lt_of_lt_of_le hs64 (by rw [show (64 : Nat) = 2 ^ 6 from rfl]; exact Nat.pow_le_pow_right (by decide) (by omega)))
  obtain ⟨q1, q2⟩ := bwS_B (lw := lw) (A := st.1 67) (T := tl (st.1 61) (vM st)) (K := st.1 64) hn 6 s none (st.1 81) (st.1 71) 0 hs64 pop_le hsb6
  obtain ⟨b, hbb⟩ : ∃ b, b = (bwS lw (st.1 67) (tl (st.1 61) (vM st)) (st.1 64) n 6 s none (st.1 81) 0).2 := ⟨_, rfl⟩
  rw [q1, ← hbb] at hBA
  obtain ⟨res, hres⟩ : ∃ res, res = bwS lw (st.1 67) (tl (st.1 61) (vM st)) (st.1 64) n 6 s none (st.1 71) 0 := ⟨_, rfl⟩
  rw [← hres] at hBA ⊢
  have hbp : ∀ q, s.testBit q = true → b q = res.2 q := fun q hq => by rw [hbb, hres]; exact (q2 q).1 hq
  refine ⟨t, b, ?_⟩
  simp only [F_X8_bowNow, F_X8_bowNow_0, M_isIn h, Option.bind_some, ← hs, hTT, hBA]
  -- the bends
  obtain ⟨S, hS⟩ : ∃ S, S = sA (sA st 80 t) 81 b := ⟨_, rfl⟩
  have hHS : HM k n pc S := by rw [hS]; exact HM_sA hH (by omega) b
  have hS71 : S.1 71 = st.1 71 := by rw [hS, sA_off (by omega), sA_off (by omega)]
  have hS81 : S.1 81 = b := by rw [hS, sA_at]
  rw [← hS]
  obtain ⟨g, hg⟩ : ∃ g : Nat → Nat → Int32, g = fun j => mixB j s res.2 (st.1 71) := ⟨_, rfl⟩
  have hstep : ∀ j, j < n → upd (g j) j (if s.testBit j then res.2 j else st.1 71 j) = g (j + 1) := by
    intro j _
    funext p
    rw [hg]
    unfold upd mixB
    by_cases c : p = j
    · subst c; simp
    · have : (p < j + 1) = (p < j) := propext (by omega)
      simp only [c, if_false, this]
  have hgj : ∀ j, g j j = st.1 71 j := fun j => by rw [hg]; simp [mixB]
  have hL := upn (n := n) (P := fun N j => F_X8_bowNow_20 N (nI s) (nI res.1) (nI j) (sA S 71 (g j)) = some (nI res.1, sA S 71 (g n)))
    (fun N => by simp only [F_X8_bowNow_20, (HM_sA hHS (show 61 ≤ 71 by omega) (g n)).2.2.2.1, tn, if_true]) (fun N j hj ih => by
      have hj6 : j < 6 := by omega
      have hH2 := HM_sA hHS (show 61 ≤ 71 by omega) (g j)
      simp only [F_X8_bowNow_20, hH2.2.2.2.1, fn hn hj, if_false, M_has hs64 hj6, Option.bind_some, F_X8_bowNow_61, g6 hj6, c6 hj6, bs, sV_sA, nI_1, sA_at, sA_off (show 81 ≠ 71 by omega), hS81, hgj]
      have hst := hstep j hj
      by_cases c : s.testBit j = true
      · rw [if_pos c] at hst
        rw [if_pos c, if_neg (by decide), hbp j c, hst]; exact ih
      · rw [if_neg c] at hst
        rw [if_neg c, if_pos rfl, hst]; exact ih) fN 0 (by omega) (fN0 (by omega))
  have e0 : sA S 71 (g 0) = S := by
    have : g 0 = S.1 71 := by rw [hg, hS71]; funext p; simp [mixB]
    rw [this, sA_id]
  rw [e0, hg] at hL
  exact hL
/-! rooms with a fault -/
def frS (lw n k : Nat) (fl : Nat → Int32) (v : Vw) : Nat := mkS (fun r => (ffS lw n fl v (nI r)).isSome) k
theorem P_roomsWithFault {k n : Nat} {pc : Nat → Nat} {st : St} (h : HC k n pc st) {sc lw : Nat} (hV : VV k n pc (vC sc st)) (hl : st.1 sc 5 = nI lw) (hlw : lw ≤ 1) : F_X1_roomsWithFault sc st = some (nI (frS lw n k (st.1 3) (vC sc st)), st) := by
  have hk : k ≤ 3 := h.1
  have hL := upn (n := k) (P := fun N j => F_X1_roomsWithFault_4 sc N (nI (mkS (fun r => (ffS lw n (st.1 3) (vC sc st) (nI r)).isSome) j)) (nI j) st = some (nI (frS lw n k (st.1 3) (vC sc st)), st))
    (fun N => by simp only [F_X1_roomsWithFault_4, h.2.2.1, tn, if_true, frS]) (fun N j hj ih => by
      have hm := mkS_lt (fun r => (ffS lw n (st.1 3) (vC sc st) (nI r)).isSome) j (by omega)
      simp only [F_X1_roomsWithFault_4, h.2.2.1, fn (show k ≤ 6 by omega) hj, if_false, P_firstTooHigh h hV hl hlw hj, Option.bind_some, F_X1_roomsWithFault_30, nI_1]
      cases hf : ffS lw n (st.1 3) (vC sc st) (nI j) with
      | none => rw [if_pos oI_none]; rw [mkS_f (by simp [hf])] at ih; exact ih
      | some p =>
        have hp := (ffS_lt hf).1
        have hn := h.2.1
        rw [if_neg (show ¬ oI (some p) = -1 from nI_ne1 (by omega)), orN hm (by omega)]
        rw [mkS_t (by simp [hf])] at ih; exact ih) fN 0 (by omega) (fN0 (by omega))
  exact hL
theorem M_faultRooms {k n : Nat} {pc : Nat → Nat} {st : St} (h : HM k n pc st) {lw : Nat} (hV : VV k n pc (vM st)) (hl : st.1 59 10 = nI lw) (hlw : lw ≤ 1) : F_X8_faultRooms st = some (nI (frS lw n k (st.1 61) (vM st)), st) := by
  have hk : k ≤ 3 := h.1
  have hL := upn (n := k) (P := fun N j => F_X8_faultRooms_4 N (nI (mkS (fun r => (ffS lw n (st.1 61) (vM st) (nI r)).isSome) j)) (nI j) st = some (nI (frS lw n k (st.1 61) (vM st)), st))
    (fun N => by simp only [F_X8_faultRooms_4, h.2.2.1, tn, if_true, frS]) (fun N j hj ih => by
      have hm := mkS_lt (fun r => (ffS lw n (st.1 61) (vM st) (nI r)).isSome) j (by omega)
      simp only [F_X8_faultRooms_4, h.2.2.1, fn (show k ≤ 6 by omega) hj, if_false, M_firstFault h hV hl hlw hj, Option.bind_some, F_X8_faultRooms_28, nI_1]
      cases hf : ffS lw n (st.1 61) (vM st) (nI j) with
      | none => rw [if_pos (by decide), or0]; rw [mkS_f (by simp [hf])] at ih; exact ih
      | some p =>
        have hp := (ffS_lt hf).1
        have hn := h.2.1
        rw [if_neg (show ¬ oI (some p) < 0 from nI_pos (by omega)), orN hm (by omega)]
        rw [mkS_t (by simp [hf])] at ih; exact ih) fN 0 (by omega) (fN0 (by omega))
  exact hL
/-! a year -/
def yrA (n : Nat) (A : Nat → Int32) : Nat → Int32 := fun p => if p < n then A p + 1 else A p
def yrI (n : Nat) (A I G : Nat → Int32) : Nat → Int32 := fun p => if p < n then (if 20 ≤ A p then I p else imn 90 (I p + G p)) else I p
theorem yrA_s {n : Nat} {A : Nat → Int32} : upd (yrA n A) n (A n + 1) = yrA (n + 1) A := by
  funext p
  unfold upd yrA
  by_cases c : p = n
  · subst c; simp
  · have : (p < n + 1) = (p < n) := propext (by omega)
    simp only [c, if_false, this]
theorem yrI_s {n : Nat} {A I G : Nat → Int32} : upd (yrI n A I G) n (if 20 ≤ A n then I n else imn 90 (I n + G n)) = yrI (n + 1) A I G := by
  funext p
  unfold upd yrI
  by_cases c : p = n
  · subst c; simp
  · have : (p < n + 1) = (p < n) := propext (by omega)
    simp only [c, if_false, this]
theorem yrA_n (n : Nat) (A : Nat → Int32) : yrA n A n = A n := by simp [yrA]
theorem yrI_n (n : Nat) (A I G : Nat → Int32) : yrI n A I G n = I n := by simp [yrI]
theorem upd_self (f : Nat → Int32) (k : Nat) : upd f k (f k) = f := by
  funext p
  unfold upd
  by_cases c : p = k
  · subst c; simp
  · simp [c]
theorem P_passYear {k n : Nat} {pc : Nat → Nat} {st : St} (h : HC k n pc st) {sc : Nat} (hsc : 9 ≤ sc) : F_X1_passYear sc st = some (sA (sA st (sc + 5) (yrI n (st.1 (sc + 4)) (st.1 (sc + 5)) (st.1 7))) (sc + 4) (yrA n (st.1 (sc + 4)))) := by
  have hn : n ≤ 6 := h.2.1
  have hL := upn (n := n) (P := fun N j => F_X1_passYear_2 sc N (nI j) (sA (sA st (sc + 5) (yrI j (st.1 (sc + 4)) (st.1 (sc + 5)) (st.1 7))) (sc + 4) (yrA j (st.1 (sc + 4)))) = some (sA (sA st (sc + 5) (yrI n (st.1 (sc + 4)) (st.1 (sc + 5)) (st.1 7))) (sc + 4) (yrA n (st.1 (sc + 4)))))
    (fun N => by simp only [F_X1_passYear_2, (HC_sA (HC_sA h (show 9 ≤ sc + 5 by omega) _) (show 9 ≤ sc + 4 by omega) _).2.2.2.1, tn, if_true]) (fun N j hj ih => by
      have hj6 : j < 6 := by omega
      obtain ⟨I', hI'⟩ : ∃ I', I' = yrI j (st.1 (sc + 4)) (st.1 (sc + 5)) (st.1 7) := ⟨_, rfl⟩
      obtain ⟨A', hA'⟩ : ∃ A', A' = yrA j (st.1 (sc + 4)) := ⟨_, rfl⟩
      have hIj : I' j = st.1 (sc + 5) j := by rw [hI']; exact yrI_n _ _ _ _
      have hAj : A' j = st.1 (sc + 4) j := by rw [hA']; exact yrA_n _ _
      have hIs := yrI_s (n := j) (A := st.1 (sc + 4)) (I := st.1 (sc + 5)) (G := st.1 7)
      have hAs := yrA_s (n := j) (A := st.1 (sc + 4))
      rw [← hI'] at hIs ⊢
      rw [← hA'] at hAs ⊢
      rw [← hIs, ← hAs] at ih
      have hp : ((sA (sA st (sc + 5) I') (sc + 4) A').1 1 1) = nI n := (HC_sA (HC_sA h (show 9 ≤ sc + 5 by omega) _) (show 9 ≤ sc + 4 by omega) _).2.2.2.1
      have e7 : (sA (sA st (sc + 5) I') (sc + 4) A').1 7 = st.1 7 := by rw [sA_off (by omega), sA_off (by omega)]
      have e5 : (sA (sA st (sc + 5) I') (sc + 4) A').1 (sc + 5) = I' := by rw [sA_off (by omega), sA_at]
      have ew : ∀ x, sV (sA (sA st (sc + 5) I') (sc + 4) A') (sc + 5) j x = sA (sA st (sc + 5) (upd I' j x)) (sc + 4) A' := by
        intro x
        rw [sA_comm st (show sc + 5 ≠ sc + 4 by omega), sV_sA, sA_comm _ (show sc + 4 ≠ sc + 5 by omega)]
      simp only [F_X1_passYear_2, hp, fn hn hj, if_false, g6 hj6, c6 hj6, sA_at, hAj, F_X1_passYear_60, bs, sV_sA, nI_1, e5, hIj, e7, ew]
      by_cases c : (20 : Int32) ≤ st.1 (sc + 4) j
      · rw [if_pos c]
        rw [if_pos c] at ih
        rw [show upd I' j (st.1 (sc + 5) j) = I' by rw [← hIj]; exact upd_self _ _] at ih
        exact ih
      · rw [if_neg c]
        rw [if_neg c] at ih
        exact ih) fN 0 (by omega) (fN0 (by omega))
  have e0 : sA (sA st (sc + 5) (yrI 0 (st.1 (sc + 4)) (st.1 (sc + 5)) (st.1 7))) (sc + 4) (yrA 0 (st.1 (sc + 4))) = st := by
    have a1 : yrI 0 (st.1 (sc + 4)) (st.1 (sc + 5)) (st.1 7) = st.1 (sc + 5) := by funext p; simp [yrI]
    have a2 : yrA 0 (st.1 (sc + 4)) = st.1 (sc + 4) := by funext p; simp [yrA]
    rw [a1, a2, sA_id, sA_id]
  rw [e0] at hL
  exact hL

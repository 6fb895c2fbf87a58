/-! PURE: feast, both sides -/
theorem R.c2 {k n : Nat} {pc : Nat → Nat} {b b' : Nat} {st st' : St} (h : R k n pc b st) (hb : b ≤ b') (e : ∀ a, a ≤ 32 ∨ 41 ≤ a → st'.1 a = st.1 a) (hC : CacheR k n pc (st.1 3) (st.1 4) (st.1 6) (st'.1 36) (st'.1 37)) : R k n pc b' st' := by
  have hn : n ≤ 6 := h.1.1.2.1
  refine ⟨h.house.cg (fun i hi => e i (by omega)) (by rw [e 59 (by omega)]) (by rw [e 59 (by omega)]) (by rw [e 59 (by omega)]), ?_, ?_, ?_, ?_, ⟨((h.imgs.1).cg hn (by omega) (fun i hi => e i (by omega)) (fun j _ => by rw [e 92 (by omega)])).mono hb, ((h.imgs.2).cg hn (by omega) (fun i hi => e i (by omega)) (fun j _ => by rw [e 92 (by omega)])).mono hb⟩, ?_⟩
  · have := ScR.mono h.scene hb
    unfold SceneR
    rw [vC_cg (s := st) (fun a a1 a2 => e a (by omega)), vM_cg (s := st) (fun a a1 a2 => e a (by omega)), e 4 (by omega), e 9 (by omega), e 59 (by omega)]
    exact this
  · obtain ⟨len, t⟩ := h.text
    refine ⟨len, ?_⟩
    rw [e 23 (by omega), e 32 (by omega), e 72 (by omega), e 59 (by omega)]
    exact t
  · rw [e 0 (by omega), e 59 (by omega)]; exact h.fault
  · obtain ⟨m, t⟩ := h.book
    refine ⟨m, ?_⟩
    rw [e 41 (by omega), e 42 (by omega), e 43 (by omega), e 44 (by omega), e 89 (by omega), e 90 (by omega), e 91 (by omega), e 59 (by omega)]
    exact t
  · rw [e 3 (by omega), e 4 (by omega), e 6 (by omega)]; exact hC
theorem P_forgetIfGrown (st : St) : ∃ S, F_X4_forgetIfGrown st = some S ∧ (∀ x, x ≠ 36 → x ≠ 37 → S.1 x = st.1 x) ∧ (∀ p, p < 6 → S.1 37 p = st.1 14 p) ∧ ((S.1 36 = st.1 36 ∧ S.1 37 = st.1 37) ∨ ∀ x, x < 384 → S.1 36 x = -2) := by
  have q := upn (n := 6) (P := fun N j => (∀ p, p < j → st.1 14 p = st.1 37 p) → ∃ S, F_X4_forgetIfGrown_2 N (nI j) st = some S ∧ (∀ x, x ≠ 36 → x ≠ 37 → S.1 x = st.1 x) ∧ (∀ p, p < 6 → S.1 37 p = st.1 14 p) ∧ ((S.1 36 = st.1 36 ∧ S.1 37 = st.1 37) ∨ ∀ x, x < 384 → S.1 36 x = -2))
    (fun N hp => ⟨st, by rw [F_X4_forgetIfGrown_2, if_pos (by decide)], fun _ _ _ => rfl, fun p h6 => (hp p h6).symm, Or.inl ⟨rfl, rfl⟩⟩)
    (fun N j hj ih hp => by
      rw [F_X4_forgetIfGrown_2, if_neg (by rw [f6 hj]; exact not_false), g6 hj, g6 hj, c6 hj]
      by_cases c : st.1 14 j = st.1 37 j
      · rw [if_pos c, nI_1]
        exact ih (fun p h1 => by
          by_cases d : p = j
          · subst d; exact c
          · exact hp p (by omega))
      · obtain ⟨g, g1, g2⟩ := P_forget st
        rw [if_neg c, g2, obs]
        refine ⟨_, rfl, fun x h1 h2 => by rw [crow_off h2, sA_off h1], fun p h6 => by rw [crow_at (n := 6) rfl h6, sA_off (by omega)], Or.inr (fun x hx => by rw [crow_off (by omega), sA_at]; exact g1 x hx)⟩) fN 0 (by omega) (fN0 (by omega)) (fun p hp => by omega)
  exact q
def svx (x : Int32) : Option Nat := if x = -1 then none else some x.toNatClampNeg
theorem mv_eq {k n : Nat} {pc : Nat → Nat} {b : Nat} {st : St} (hb : b < 2 ^ 20) (h : R k n pc b st) {lw r P : Nat} (hr : r < k) (hP : P < 2 ^ n) (h37 : ∀ p, p < n → st.1 37 p = st.1 14 p) {x : Int32} (hS : SumIs lw n (st.1 4) (fun i => (st.1 3 (r * 6 + i)).toInt) (fun p => (st.1 37 p).toInt) (fun p => (st.1 6 p).toInt) (pc r) P x) : (match svx x with | none => (-1 : Int32) | some m => nI m) = x ∧ (∀ m, svx x = some m → m < 1000) ∧ ∀ (v : Int32) (f83 : Nat → Int32), ((v = 1000000 ∧ pc r < pop P) ∨ (pop P ≤ pc r ∧ JcI lw n (st.1 67) (FFm st r) (IIm st) (KKm st) P (pc r) (pc r ^ pop P) v f83)) → v = nI (match svx x with | none => 1000000 | some m => m) := by
  obtain ⟨hc, hm, hF, hFb, hK, -⟩ := h.house
  have hn := hc.2.1
  have hpc := hc.2.2.2.2 r hr
  have cg : ∀ d s L tk c, Att lw n (st.1 67) (FFm st r) (IIm st) (KKm st) (pc r) w0 d s L tk c ↔ Att lw n (st.1 4) (fun i => (st.1 3 (r * 6 + i)).toInt) (fun p => (st.1 37 p).toInt) (fun p => (st.1 6 p).toInt) (pc r) w0 d s L tk c := fun d s L tk c => (h.att hr d s L tk c).symm.trans ⟨Att_cg (R.eld hb h.scene) (fun _ _ => rfl) (fun p hp => ⟨by unfold II; rw [h37 p hp], rfl⟩) d s L tk c, Att_cg (fun s => (R.eld hb h.scene s).symm) (fun _ _ => rfl) (fun p hp => ⟨by unfold II; rw [h37 p hp], rfl⟩) d s L tk c⟩
  rcases hS with ⟨rfl, h1⟩ | ⟨h0, c, hc1, rfl, h2, h3⟩
  · have e : svx (-1) = none := rfl
    rw [e]
    refine ⟨rfl, fun m hm => (by cases hm), fun v f83 hJ => ?_⟩
    rcases hJ with ⟨hJ, -⟩ | ⟨hp, ⟨hJ, -⟩ | ⟨c0, m, -, -, hV, -⟩⟩
    · exact hJ
    · exact hJ
    · exfalso
      rcases h1 with h1 | h1
      · omega
      · exact h1 _ ((cg _ _ _ _ _).mp (V_att w0 hn hP (by omega) hV))
  · have e : svx (nI c) = some c := by
      unfold svx
      rw [if_neg (nI_ne1 (by omega)), clN (by omega)]
    rw [e]
    refine ⟨rfl, fun m hm => (by cases hm; exact hc1), fun v f83 hJ => ?_⟩
    rcases hJ with ⟨-, hJ⟩ | ⟨hp, ⟨-, hJ⟩ | ⟨c0, m, k1, k2, hV, rfl, -, hbest⟩⟩
    · omega
    · exfalso
      obtain ⟨c', m', q1, q2, -⟩ := att_V hn hP (by omega) ((cg _ _ _ _ _).mpr h2)
      exact hJ c' m' q1 q2
    · dsimp only
      congr 1
      have a1 := h3 _ ((cg _ _ _ _ _).mp (V_att w0 hn hP (by omega) hV))
      rw [sumW_0, Nat.add_zero] at a1
      obtain ⟨c', m', q1, q2, q3⟩ := att_V hn hP (by omega) ((cg _ _ _ _ _).mpr h2)
      rw [sumW_0, Nat.add_zero] at q3
      have e1 : c = m' := Nat.eq_of_mul_eq_mul_right (by decide) q3
      have e2 : c ≤ m := Nat.le_of_mul_le_mul_right a1 (by decide)
      have := hbest c' m' q1 q2
      omega
theorem one_sh : ∀ n, n ≤ 6 → ((1 : Int32) <<< (nI n &&& 31)) = nI (2 ^ n) := by decide +kernel
theorem M_sums {k n : Nat} {pc : Nat → Nat} {S : St} (h : HM k n pc S) {s : Nat} (hs : s < 2 ^ n) {sv : Nat → Nat → Option Nat} (v2 : Int32) (hpv : ∀ r P (S' : St), r < k → P < 2 ^ n → (∀ j, j < 6 → P.testBit j = true → s.testBit j = true) → (∀ x, x < 80 ∨ 84 < x → S'.1 x = S.1 x) → ∃ S'', F_X8_partyOf (nI r) (nI P) S' = some (nI (mvN sv r P), S'') ∧ ∀ x, x < 80 ∨ 83 < x → S''.1 x = S'.1 x) : ∃ S', F_X8_findFeast_39 fN (nI s) v2 0 S = F_X8_findFeast_119 fN (nI s) v2 1000000 0 (sV S' 59 42 (-1)) ∧ (∀ x, x < 80 ∨ 84 < x → S'.1 x = S.1 x) ∧ ∀ r P, r < k → P < 2 ^ n → (∀ j, j < 6 → P.testBit j = true → s.testBit j = true) → S'.1 84 (64 * r + P) = nI (mvN sv r P) := by
  have hn := h.2.1
  have hk := h.1
  have hs64 := (bits_n n hn s hs).1
  have h2n := (one_n n hn).2.1
  have inner : ∀ r, r < k → ∀ (k39 : Int32 → Int32 → Int32 → St → Option (Int32 × St)) N P, P ≤ 2 ^ n → 2 ^ n - P < N → ∀ st, (∀ x, x < 80 ∨ 84 < x → st.1 x = S.1 x) → (∀ r' P', r' < k → P' < 2 ^ n → (∀ j, j < 6 → P'.testBit j = true → s.testBit j = true) → (r' < r ∨ (r' = r ∧ P' < P)) → st.1 84 (64 * r' + P') = nI (mvN sv r' P')) → ∃ st', F_X8_findFeast_50 k39 N (nI s) v2 (nI r) (nI P) st = k39 (nI s) v2 (nI (r + 1)) st' ∧ (∀ x, x < 80 ∨ 84 < x → st'.1 x = S.1 x) ∧ ∀ r' P', r' < k → P' < 2 ^ n → (∀ j, j < 6 → P'.testBit j = true → s.testBit j = true) → r' < r + 1 → st'.1 84 (64 * r' + P') = nI (mvN sv r' P') := by
    intro r hr k39
    refine upn (n := 2 ^ n) (P := fun N P => ∀ st, (∀ x, x < 80 ∨ 84 < x → st.1 x = S.1 x) → (∀ r' P', r' < k → P' < 2 ^ n → (∀ j, j < 6 → P'.testBit j = true → s.testBit j = true) → (r' < r ∨ (r' = r ∧ P' < P)) → st.1 84 (64 * r' + P') = nI (mvN sv r' P')) → ∃ st', F_X8_findFeast_50 k39 N (nI s) v2 (nI r) (nI P) st = k39 (nI s) v2 (nI (r + 1)) st' ∧ (∀ x, x < 80 ∨ 84 < x → st'.1 x = S.1 x) ∧ ∀ r' P', r' < k → P' < 2 ^ n → (∀ j, j < 6 → P'.testBit j = true → s.testBit j = true) → r' < r + 1 → st'.1 84 (64 * r' + P') = nI (mvN sv r' P')) ?_ ?_
    · intro N st hf hv
      rw [F_X8_findFeast_50, hf 59 (by omega), h.2.2.2.1, one_sh n hn, if_pos (by rw [leN (by omega) (by omega)]; omega), nI_1]
      exact ⟨st, rfl, hf, fun r' P' h1 h2 h3 h4 => hv r' P' h1 h2 h3 (by omega)⟩
    · intro N P hP ih st hf hv
      have hidx : 64 * r + P < 192 := by omega
      have eix : 64 * nI r + nI P = nI (64 * r + P) := by rw [litN 64, pk_mul, nI_add]
      rw [F_X8_findFeast_50, hf 59 (by omega), h.2.2.2.1, one_sh n hn, if_neg (nI_ge hP (by omega)), eix]
      have go : ∀ (t0 : Int32) (st1 : St), (∀ x, x < 80 ∨ 83 < x → st1.1 x = st.1 x) → ((∀ j, j < 6 → P.testBit j = true → s.testBit j = true) → t0 = nI (mvN sv r P)) → ∃ st', F_X8_findFeast_94 k39 (F_X8_findFeast_50 k39 N) (nI s) v2 (nI r) (nI P) t0 (nI (64 * r + P)) st1 = k39 (nI s) v2 (nI (r + 1)) st' ∧ (∀ x, x < 80 ∨ 84 < x → st'.1 x = S.1 x) ∧ ∀ r' P', r' < k → P' < 2 ^ n → (∀ j, j < 6 → P'.testBit j = true → s.testBit j = true) → r' < r + 1 → st'.1 84 (64 * r' + P') = nI (mvN sv r' P') := by
        intro t0 st1 hf1 ht
        rw [F_X8_findFeast_94, gi_in hidx (by decide), clN (by omega), bse, nI_1]
        refine ih _ (fun x hx => by rw [sV_off (by omega), hf1 x (by omega), hf x hx]) (fun r' P' h1 h2 h3 h4 => ?_)
        by_cases d : 64 * r' + P' = 64 * r + P
        · have e1 : r' = r := by omega
          have e2 : P' = P := by omega
          subst e1 e2
          rw [sV_g, ht h3]
        · rw [sV_f d, hf1 84 (by omega)]
          exact hv r' P' h1 h2 h3 (by omega)
      by_cases cs : ∀ j, j < 6 → P.testBit j = true → s.testBit j = true
      · rw [if_pos ((le_sub P (by omega) s hs64).mpr cs)]
        obtain ⟨S2, z1, z2⟩ := hpv r P st hr hP cs hf
        rw [z1, obs]
        exact go _ S2 z2 (fun _ => rfl)
      · rw [if_neg (fun q => cs ((le_sub P (by omega) s hs64).mp q))]
        exact go _ st (fun _ _ => rfl) (fun z => absurd z cs)
  have outer := upn (n := k) (P := fun N r => ∀ st, (∀ x, x < 80 ∨ 84 < x → st.1 x = S.1 x) → (∀ r' P', r' < k → P' < 2 ^ n → (∀ j, j < 6 → P'.testBit j = true → s.testBit j = true) → r' < r → st.1 84 (64 * r' + P') = nI (mvN sv r' P')) → ∃ S', F_X8_findFeast_39 N (nI s) v2 (nI r) st = F_X8_findFeast_119 fN (nI s) v2 1000000 0 (sV S' 59 42 (-1)) ∧ (∀ x, x < 80 ∨ 84 < x → S'.1 x = S.1 x) ∧ ∀ r P, r < k → P < 2 ^ n → (∀ j, j < 6 → P.testBit j = true → s.testBit j = true) → S'.1 84 (64 * r + P) = nI (mvN sv r P))
    (fun N st hf hv => ⟨st, by rw [F_X8_findFeast_39, hf 59 (by omega), h.2.2.1, if_pos (by rw [leN (by omega) (by omega)]; omega), bse], hf, fun r P h1 h2 h3 => hv r P h1 h2 h3 h1⟩)
    (fun N r hr ih st hf hv => by
      rw [F_X8_findFeast_39, hf 59 (by omega), h.2.2.1, if_neg (nI_ge hr (by omega))]
      obtain ⟨S1, z1, z2, z3⟩ := inner r hr (F_X8_findFeast_39 N) fN 0 (by omega) (by have := fN_big; omega) st hf (fun r' P' h1 h2 h3 h4 => hv r' P' h1 h2 h3 (by omega))
      rw [show F_X8_findFeast_50 (F_X8_findFeast_39 N) fN (nI s) v2 (nI r) 0 st = _ from z1]
      exact ih S1 z2 z3) fN 0 (by omega) (by have := fN_big; omega) S (fun _ _ => rfl) (fun r' P' _ _ _ h4 => by omega)
  exact outer
theorem crF_pop : ∀ n, n ≤ 6 → ∀ s, s < 2 ^ n → crF s n 0 = pop s := by decide +kernel
theorem P_zero39 (st : St) : ∃ f : Nat → Int32, (∀ r, r < 3 → f r = 0) ∧ ∀ v1, F_X2_findDeal_7 fN v1 0 st = (F_X4_findSums v1 (sA st 39 f)).bind (fun q3 => (F_X2_dealFrom 10 0 v1 0 q3).bind (fun q4 => gb (q4.1 38 4) (some (q4.1 38 4, q4)))) := by
  have q := upn (n := 3) (P := fun N j => ∀ f : Nat → Int32, (∀ r, r < j → f r = 0) → ∃ f' : Nat → Int32, (∀ r, r < 3 → f' r = 0) ∧ ∀ v1, F_X2_findDeal_7 N v1 (nI j) (sA st 39 f) = (F_X4_findSums v1 (sA st 39 f')).bind (fun q3 => (F_X2_dealFrom 10 0 v1 0 q3).bind (fun q4 => gb (q4.1 38 4) (some (q4.1 38 4, q4)))))
    (fun N f hf => ⟨f, hf, fun v1 => by rw [F_X2_findDeal_7, if_pos (by decide)]⟩)
    (fun N j hj ih f hf => by
      obtain ⟨f', h1, h2⟩ := ih (upd f j 0) (fun r hr => by
        by_cases c : r = j
        · subst c; exact upd_at _ _ _
        · rw [upd_off c]; exact hf r (by omega))
      refine ⟨f', h1, fun v1 => ?_⟩
      rw [← h2, F_X2_findDeal_7, if_neg (show ¬ (3 : Int32) ≤ nI j from nI_ge (b := 3) hj (by omega)), gi_in hj (by decide), clN (by omega), bse, nI_1, sV_sA]) fN 0 (by omega) (fN0 (by omega)) (st.1 39) (fun r hr => by omega)
  rw [sA_id] at q
  exact q
theorem P_roomFor {k n : Nat} {pc : Nat → Nat} {S : St} (h : HC k n pc S) {s c0 p : Nat} (hp : p < n) (h40 : ∀ r, r < k → S.1 40 r = nI (ptF s k n c0 r)) : F_X2_roomFor (nI p) S = some ((if s.testBit p = true ∧ digF s k n c0 p < k then nI (digF s k n c0 p) else -1), S) := by
  have hn := h.2.1
  have hk := h.1
  have hp6 : p < 6 := by omega
  have q := upn (n := k) (P := fun N r => (∀ r', r' < r → ¬ (s.testBit p = true ∧ digF s k n c0 p = r')) → F_X2_roomFor_2 N (nI p) (nI r) S = some ((if s.testBit p = true ∧ digF s k n c0 p < k then nI (digF s k n c0 p) else -1), S))
    (fun N hr => by
      rw [F_X2_roomFor_2, h.2.2.1, if_pos (by rw [leN (by omega) (by omega)]; omega), if_neg (fun z => hr _ z.2 ⟨z.1, rfl⟩)])
    (fun N r hr ih hno => by
      rw [F_X2_roomFor_2, h.2.2.1, if_neg (nI_ge hr (by omega)), gi_in (show r < 3 by omega) (by decide), clN (by omega), h40 r hr]
      have hb := ptF_bit (s := s) (k := k) (c := c0) (r := r) hn hp6
      by_cases d : s.testBit p = true ∧ digF s k n c0 p = r
      · rw [if_neg (by rw [bitN (ptF_lt hn) hp6, hb]; simp [hp, d.1, d.2]), if_pos ⟨d.1, by omega⟩, d.2]
      · rw [if_pos (by rw [bitN (ptF_lt hn) hp6, hb]; simp [hp]; exact fun z1 z2 => d ⟨z1, z2⟩), nI_1]
        exact ih (fun r' h1 => by
          by_cases e : r' = r
          · subst e; exact d
          · exact hno r' (by omega))) fN 0 (by omega) (fN0 (by omega)) (fun r' h1 => by omega)
  exact q
theorem B_feast (x y : Int32) : Bo (F_X7_feast x y) (F_X8_feast x y) := by
  intro k n pc b st hb h
  obtain ⟨hc, hm, hF, hFb, hK, hG, hfr, hwt⟩ := h.house
  have hBM := ScR.bd h.scene h.house
  obtain ⟨hA, hV, -, -, -, ⟨lw, hlw, w1, w2⟩, -⟩ := h.scene
  have hk := hc.1
  have hn := hc.2.1
  rcases setIx x hn with ⟨s, hs, rfl, s1, s2⟩ | ⟨s1, s2⟩
  · have hs64 := (bits_n n hn s hs).1
    by_cases hy : y = -1 ∨ y = -2 ∨ ∃ p, p < n ∧ y = nI p
    · -- the class
      obtain ⟨f, f0, fd⟩ := P_zero39 (sV st 38 4 0)
      obtain ⟨Z, hZ⟩ : ∃ Z, Z = sA (sV st 38 4 0) 39 f := ⟨_, rfl⟩
      have eZ : ∀ a, a ≠ 38 → a ≠ 39 → Z.1 a = st.1 a := fun a h1 h2 => by rw [hZ, sA_off h2, sV_off h1]
      obtain ⟨Sf, g1, g2, g3, g4⟩ := P_forgetIfGrown Z
      obtain ⟨G, hGd⟩ : ∃ G, G = sV Sf 33 9 0 := ⟨_, rfl⟩
      have eG : ∀ a, a ≤ 32 ∨ 41 ≤ a → G.1 a = st.1 a := fun a ha => by rw [hGd, sV_off (by omega), g2 a (by omega) (by omega), eZ a (by omega) (by omega)]
      have G36 : G.1 36 = Sf.1 36 := by rw [hGd, sV_off (by omega)]
      have G37 : G.1 37 = Sf.1 37 := by rw [hGd, sV_off (by omega)]
      have hRG : R k n pc b G := by
        refine h.c2 (Nat.le_refl _) eG ?_
        rw [G36, G37]
        rcases g4 with ⟨q1, q2⟩ | q
        · rw [q1, q2, eZ 36 (by omega) (by omega), eZ 37 (by omega) (by omega)]; exact h.cache
        · intro lw' hlw' r hr P hP
          have := (one_n n hn).2.1
          exact Or.inl (q _ (by omega))
      have h37 : ∀ p, p < n → G.1 37 p = G.1 14 p := fun p hp => by rw [G37, g3 p (by omega), eZ 14 (by omega) (by omega), eG 14 (by omega)]
      obtain ⟨B, b1, b2, b3, b4⟩ := P_findSums hb hRG (s := s) hlw (by rw [eG 9 (by omega)]; exact w1) h37 (by rw [hGd, sV_g]) hs
      have eB : ∀ a, a ≠ 33 → a ≠ 34 → a ≠ 35 → a ≠ 36 → B.1 a = G.1 a := b2.1
      have eBs : ∀ a, a ≤ 32 ∨ 41 ≤ a → B.1 a = st.1 a := fun a ha => by rw [eB a (by omega) (by omega) (by omega) (by omega), eG a ha]
      have hRB : R k n pc b B := hRG.c2 (Nat.le_refl _) (fun a ha => eB a (by omega) (by omega) (by omega) (by omega)) (by rw [eB 37 (by omega) (by omega) (by omega) (by omega)]; exact b3)
      obtain ⟨sv, hsv⟩ : ∃ sv : Nat → Nat → Option Nat, ∀ r P, sv r P = if r < k ∧ P < 2 ^ n ∧ (∀ j, j < 6 → P.testBit j = true → s.testBit j = true) then svx (B.1 36 ((lw * 3 + r) * 64 + P)) else none := ⟨fun r P => @ite _ (r < k ∧ P < 2 ^ n ∧ (∀ j, j < 6 → P.testBit j = true → s.testBit j = true)) (Classical.propDecidable _) (svx (B.1 36 ((lw * 3 + r) * 64 + P))) none, fun r P => by
        by_cases c : r < k ∧ P < 2 ^ n ∧ (∀ j, j < 6 → P.testBit j = true → s.testBit j = true)
        · rw [if_pos c]; exact @if_pos _ (Classical.propDecidable _) c _ _ _
        · rw [if_neg c]; exact @if_neg _ (Classical.propDecidable _) c _ _ _⟩
      have sums : ∀ r P, r < k → P < 2 ^ n → (∀ j, j < 6 → P.testBit j = true → s.testBit j = true) → _ := fun r P h1 h2 h3 => mv_eq hb hRG h1 h2 h37 (b4 r P h1 h2 h3 (Or.inl h1))
      have hv : ∀ r P m, sv r P = some m → m < 1000 := by
        intro r P m hm'
        rw [hsv] at hm'
        by_cases c : r < k ∧ P < 2 ^ n ∧ (∀ j, j < 6 → P.testBit j = true → s.testBit j = true)
        · rw [if_pos c] at hm'; exact (sums r P c.1 c.2.1 c.2.2).2.1 m hm'
        · rw [if_neg c] at hm'; cases hm'
      obtain ⟨wt, hwtd⟩ : ∃ wt : Nat → Nat → Nat, ∀ p q, wt p q = if p < n ∧ q < n then (st.1 8 (p * 6 + q)).toNatClampNeg else 0 := ⟨fun p q => if p < n ∧ q < n then (st.1 8 (p * 6 + q)).toNatClampNeg else 0, fun _ _ => rfl⟩
      have hw8 : ∀ p q, p < n → q < n → st.1 8 (p * 6 + q) = nI (wt p q) ∧ st.1 66 (p * 6 + q) = nI (wt p q) := by
        intro p q hp hq
        obtain ⟨z, z1, z2, z3, -⟩ := hwt p q hp hq
        rw [hwtd, if_pos ⟨hp, hq⟩, z2, z3, clN (by omega)]
        exact ⟨rfl, rfl⟩
      have hw99 : ∀ p q, p < 6 → q < 6 → wt p q ≤ 99 := by
        intro p q _ _
        rw [hwtd]
        by_cases c : p < n ∧ q < n
        · obtain ⟨z, z1, z2, -⟩ := hwt p q c.1 c.2
          rw [if_pos c, z2, clN (by omega)]; exact z1
        · rw [if_neg c]; omega
      have hFs : FsI k n pc lw s sv wt B := by
        refine ⟨hRB.house.1, hlw, by rw [eBs 9 (by omega)]; exact w1, hs, fun r P h1 h2 h3 => ?_, hv, fun p q hp hq => by rw [eBs 8 (by omega)]; exact (hw8 p q hp hq).1, hw99⟩
        rw [hsv, if_pos ⟨h1, h2, h3⟩]
        exact (sums r P h1 h2 h3).1.symm
      obtain ⟨C, c1, c2, c3⟩ := P_dealFrom hFs n 0 0 10 none B (by omega) (by omega) ⟨fun _ _ _ _ => rfl, fun r hr => by rw [eB 39 (by omega) (by omega) (by omega) (by omega), hGd, sV_off (by omega), g2 39 (by omega) (by omega), hZ, sA_at, f0 r (by omega)]; rfl⟩ (show B.1 38 4 = 0 by rw [eB 38 (by omega) (by omega) (by omega) (by omega), hGd, sV_off (by omega), g2 38 (by omega) (by omega), hZ, sA_off (by omega), sV_g])
      rw [crF_pop n hn s hs, Nat.zero_mul] at c3
      have eC : ∀ a, a ≠ 38 → a ≠ 39 → a ≠ 40 → C.1 a = B.1 a := c2.1
      have hfd : F_X2_findDeal (nI s) st = gb (C.1 38 4) (some (C.1 38 4, C)) := by
        have c1' : F_X2_dealFrom 10 0 (nI s) 0 B = some C := c1
        have b1' : F_X4_findSums (nI s) Z = some B := by rw [F_X4_findSums, F_X4_findSums_0, g1, obs, bse, ← hGd]; exact b1
        rw [F_X2_findDeal, F_X2_findDeal_0, bse, fd, ← hZ, b1', obs, c1', obs]
      -- the reference
      have eCs : ∀ a, a ≤ 32 ∨ 41 ≤ a → C.1 a = st.1 a := fun a ha => by rw [eC a (by omega) (by omega) (by omega), eBs a ha]
      have hmC : HM k n pc C := hm.cg (by rw [eCs 59 (by omega)]) (by rw [eCs 59 (by omega)]) (eCs 60 (by omega))
      have hk0 : k ^ pop s < 100000 := pow66 k (by omega) (pop s) (@pop_le s)
      have codes : F_X8_findFeast (nI s) C = F_X8_findFeast_39 fN (nI s) (nI (k ^ pop s)) 0 C := by
        have q := upn (n := n) (P := fun N j => F_X8_findFeast_4 N (nI s) (nI (k ^ cntS (fun q => s.testBit q) j)) (nI j) C = F_X8_findFeast_39 fN (nI s) (nI (k ^ cntS (fun q => s.testBit q) n)) 0 C)
          (fun N => by rw [F_X8_findFeast_4, hmC.2.2.2.1, if_pos (by rw [leN (by omega) (by omega)]; omega)])
          (fun N j hj ih => by
            have hj6 : j < 6 := by omega
            rw [F_X8_findFeast_4, hmC.2.2.2.1, if_neg (nI_ge hj (by omega)), M_has hs64 hj6, obs]
            dsimp only
            cases hbj : s.testBit j with
            | false =>
              rw [if_neg (show ¬ (false = true) by decide), if_pos rfl, F_X8_findFeast_29, Int32.mul_one, nI_1]
              rw [cntS_f (c := fun q => s.testBit q) hbj] at ih
              exact ih
            | true =>
              rw [if_pos (show true = true from rfl), if_neg (by decide), hmC.2.2.1, F_X8_findFeast_29, pk_mul, nI_1, ← Nat.pow_succ]
              rw [cntS_t (c := fun q => s.testBit q) hbj] at ih
              exact ih) fN 0 (by omega) (fN0 (by omega))
        rw [cnt_n n hn s hs] at q
        rw [F_X8_findFeast, F_X8_findFeast_0]
        exact q
      obtain ⟨M, m1, m2, m3⟩ := M_sums hmC hs (sv := sv) (nI (k ^ pop s)) (fun r P S' h1 h2 h3 h4 => by
        have hmS' : HM k n pc S' := hmC.cg (by rw [h4 59 (by omega)]) (by rw [h4 59 (by omega)]) (h4 60 (by omega))
        have es : ∀ a, 41 ≤ a → (a < 80 ∨ 84 < a) → S'.1 a = st.1 a := fun a h5 h6 => by rw [h4 a h6, eCs a (by omega)]
        have evM : vM S' = vM st := vM_cg (fun a a1 a2 => es a (by omega) (by omega))
        obtain ⟨S'', v, q1, q2, q3⟩ := M_partyOf hmS' (lw := lw) h1 h2 (by rw [es 59 (by omega) (by omega)]; exact w2) hlw (by rw [evM, es 61 (by omega) (by omega), es 64 (by omega) (by omega)]; exact hBM)
        have eF : FFm S' = FFm G := by unfold FFm; rw [es 61 (by omega) (by omega), eG 61 (by omega)]
        have eI : IIm S' = IIm G := by unfold IIm; rw [es 68 (by omega) (by omega), eG 68 (by omega)]
        have eK : KKm S' = KKm G := by unfold KKm; rw [es 64 (by omega) (by omega), eG 64 (by omega)]
        rw [eF, eI, eK, show S'.1 67 = G.1 67 by rw [es 67 (by omega) (by omega), eG 67 (by omega)]] at q3
        have ev := (sums r P h1 h2 h3).2.2 v _ q3
        refine ⟨S'', ?_, q2⟩
        rw [q1, ev]
        unfold mvN
        rw [hsv, if_pos ⟨h1, h2, h3⟩]
        all_goals rfl)
      have hmM : HM k n pc (sV M 59 42 (-1)) := hmC.cg (by rw [sV_f (by omega), m2 59 (by omega)]) (by rw [sV_f (by omega), m2 59 (by omega)]) (by rw [sV_off (by omega), m2 60 (by omega)])
      have kz : ¬ (∀ q, s.testBit q = true → 0 < k) → k ^ pop s = 0 := by
        intro hno
        have hex : ∃ q, s.testBit q = true ∧ ¬ 0 < k := Classical.byContradiction (fun hn2 => hno (fun q hq => Classical.byContradiction (fun h3 => hn2 ⟨q, hq, h3⟩)))
        obtain ⟨q, hq, h3⟩ := hex
        have k00 : k = 0 := by omega
        have hpp : 0 < pop s := by
          by_cases c0 : pop s = 0
          · have := pop_0 hs64 c0
            rw [this] at hq
            simp at hq
          · omega
        rw [k00]
        exact Nat.zero_pow hpp
      obtain ⟨E, v, e1, e2, e3, e4⟩ : ∃ E v, F_X8_findFeast_119 fN (nI s) (nI (k ^ pop s)) 1000000 0 (sV M 59 42 (-1)) = some (v, E) ∧ (∀ x, x ≠ 85 → x ≠ 86 → x ≠ 59 → E.1 x = (sV M 59 42 (-1)).1 x) ∧ (∀ j, j ≠ 42 → E.1 59 j = (sV M 59 42 (-1)).1 59 j) ∧ RpM s k n (fun c => smF sv (ptF s k n c) k) (fun c => wtF s (digF s k n c) wt n) (goF (fun c => smF sv (ptF s k n c) k) (fun c => wtF s (digF s k n c) wt n) (k ^ pop s) 0 none) v E := by
        by_cases hk1 : ∀ q, s.testBit q = true → 0 < k
        · exact M_feastLoop hmM hs hv (by rw [sV_off (by omega)]; exact m3) (by
            rw [sV_off (by omega), m2 66 (by omega), eCs 66 (by omega)]
            exact fun p q hp hq => (hw8 p q hp hq).2) hw99 hk0 hk1
        · rw [kz hk1]
          obtain ⟨N0, hN0, -⟩ := fN_succ
          refine ⟨sV M 59 42 (-1), 1000000, ?_, fun _ _ _ _ => rfl, fun _ _ => rfl, rfl⟩
          rw [hN0, F_X8_findFeast_119, if_pos (by decide)]
      have hRE : R k n pc (b + 60) E := by
        refine hRB.sr (by omega) (fun a ha h59 => ?_) (fun j hj => ?_)
        · rw [e2 a (by omega) (by omega) h59, sV_off h59, m2 a (by omega), eC a (by omega) (by omega) (by omega)]
        · rw [e3 j hj, sV_f hj, m2 59 (by omega), eC 59 (by omega) (by omega) (by omega)]
      have fin : ∀ ans, F_X7_feast_36 (nI s) y st = some (ans, C) → F_X8_feast_30 (nI s) y C = some (ans, E) → ∃ a s1 s2, F_X7_feast (nI s) y st = some (a, s1) ∧ F_X8_feast (nI s) y s1 = some (a, s2) ∧ ∃ k n pc, R k n pc (b + 60) s2 := by
        intro ans q1 q2
        refine ⟨ans, C, E, ?_, ?_, k, n, pc, hRE⟩
        · rw [F_X7_feast, F_X7_feast_0, s1 k pc st hc, obs]
          dsimp only
          rw [if_neg (by decide)]
          rcases hy with rfl | rfl | ⟨p, hp, rfl⟩
          · rw [if_pos rfl]; exact q1
          · rw [if_neg (by decide), if_pos rfl]; exact q1
          · rw [if_neg (nI_ne1 (by omega)), if_neg (fun z => by have := congrArg Int32.toInt z; rw [nI_toInt (by omega)] at this; have h2 : (-2 : Int32).toInt = -2 := rfl; omega), P_hasPerson_in hc hp, obs]
            dsimp only
            rw [if_neg (by decide)]; exact q1
        · rw [F_X8_feast, F_X8_feast_0, s2 k pc C hmC, obs]
          dsimp only
          rw [if_neg (by decide)]
          rcases hy with rfl | rfl | ⟨p, hp, rfl⟩
          · rw [if_pos rfl]; exact q2
          · rw [if_neg (by decide), if_pos rfl]; exact q2
          · rw [if_neg (nI_ne1 (by omega)), if_neg (fun z => by have := congrArg Int32.toInt z; rw [nI_toInt (by omega)] at this; have h2 : (-2 : Int32).toInt = -2 := rfl; omega), M_isPerson_in hmC hp, obs]
            dsimp only
            rw [if_neg (by decide)]; exact q2
      have ff : F_X8_findFeast (nI s) C = some (v, E) := by rw [codes, m1, e1]
      rw [F_X7_feast_36, hfd, F_X8_feast_30, ff, obs] at fin
      dsimp only at fin
      cases hbest : goF (fun c => smF sv (ptF s k n c) k) (fun c => wtF s (digF s k n c) wt n) (k ^ pop s) 0 none with
      | none =>
        rw [hbest] at c3 e4
        have h4 : C.1 38 4 = 0 := c3
        have hv6 : v = 1000000 := e4
        rw [h4, gb0', obs, if_pos (show (0 : Int32) = 0 from rfl), hv6, if_neg (show ¬ (1000000 : Int32) < 1000000 by decide)] at fin
        exact fin _ rfl rfl
      | some c0 =>
        rw [hbest] at c3 e4
        obtain ⟨h4, m, hmm, h5, h6, h40⟩ := c3
        obtain ⟨m', hmm', hv', h42, h86⟩ := e4
        have em : m = m' := Option.some.inj (hmm.symm.trans hmm')
        have hm3 := smF_le hv k m hmm
        rw [h4, gb1', obs, if_neg (show ¬ (1 : Int32) = 0 by decide), hv', ← em, if_pos (show nI m < 1000000 by rw [litN 1000000, ltN (by omega) (by omega)]; omega)] at fin
        rcases hy with rfl | rfl | ⟨p, hp, rfl⟩
        · rw [if_pos (show (-1 : Int32) = -1 from rfl), if_pos (show (-1 : Int32) = -1 from rfl), h5] at fin
          exact fin _ rfl rfl
        · rw [if_neg (show ¬ (-2 : Int32) = -1 by decide), if_neg (show ¬ (-2 : Int32) = -1 by decide), if_pos (show (-2 : Int32) = -2 from rfl), if_pos (show (-2 : Int32) = -2 from rfl), h6, h42] at fin
          exact fin _ rfl rfl
        · have hp6 : p < 6 := by omega
          have n2 : ¬ nI p = -2 := fun z => by have := congrArg Int32.toInt z; rw [nI_toInt (by omega)] at this; have h2 : (-2 : Int32).toInt = -2 := rfl; omega
          have hcC : HC k n pc C := hc.cg (eCs 1 (by omega)) (eCs 2 (by omega))
          have rf := P_roomFor hcC (s := s) (c0 := c0) hp h40
          rw [if_neg (nI_ne1 (show p < 2 ^ 31 by omega)), if_neg (nI_ne1 (show p < 2 ^ 31 by omega)), if_neg n2, if_neg n2, M_has hs64 hp6, rf, obs, obs] at fin
          dsimp only at fin
          cases hbp : s.testBit p with
          | false =>
            rw [hbp, if_neg (fun z : false = true ∧ _ => absurd z.1 (by decide)), if_neg (show ¬ (false = true) by decide), if_pos (show (0 : Int32) = 0 from rfl)] at fin
            exact fin _ rfl rfl
          | true =>
            have hk1 : ∀ q, s.testBit q = true → 0 < k := Classical.byContradiction (fun hno => by
              rw [kz hno] at hbest
              cases hbest)
            rw [hbp, if_pos ⟨rfl, digF_lt (hk1 p hbp) _ _ _⟩, if_pos (show true = true from rfl), if_neg (show ¬ (1 : Int32) = 0 by decide), g6 hp6, c6 hp6, h86 p hp hbp] at fin
            exact fin _ rfl rfl
    · have y1 : ¬ y = -1 := fun e => hy (Or.inl e)
      have y2 : ¬ y = -2 := fun e => hy (Or.inr (Or.inl e))
      have y3 : y < 0 ∨ nI n ≤ y := by
        rcases idx y (n := n) (by omega) with ⟨p, hp, e⟩ | e
        · exact absurd (Or.inr (Or.inr ⟨p, hp, e⟩)) hy
        · exact e
      refine ro h (-1000000001) ?_ ?_
      · rw [F_X7_feast, F_X7_feast_0, s1 k pc st hc, obs]
        dsimp only
        rw [if_neg (by decide), if_neg y1, if_neg y2, P_hasPerson_out hc y3, obs]
        dsimp only
        rw [if_pos rfl]; rfl
      · rw [F_X8_feast, F_X8_feast_0, s2 k pc st hm, obs]
        dsimp only
        rw [if_neg (by decide), if_neg y1, if_neg y2, M_isPerson_out hm y3, obs]
        dsimp only
        rw [if_pos rfl]; rfl
  · refine ro h (-1000000001) ?_ ?_
    · rw [F_X7_feast, F_X7_feast_0, s1 k pc st hc, obs]
      dsimp only
      rw [if_pos rfl]; rfl
    · rw [F_X8_feast, F_X8_feast_0, s2 k pc st hm, obs]
      dsimp only
      rw [if_pos rfl]; rfl

/-! PURE: friends; a clause; all clauses -/
theorem np_hi {n : Nat} (hn : n ≤ 6) : (nI n - 1).toInt = (n : Int) - 1 := by
  rw [tsub (by rw [nI_toInt (by omega)]; omega) (by decide), nI_toInt (by omega)]
  rfl
theorem friends_both {T : Nat → Nat} {len nr np nf : Nat} {pcs : Nat → Nat} {a a0 : Nat} {c m c0 m0 : St} (hf : nf < 15) (h : RDR T len nr nr np nf pcs a c m) (ha0 : a0 ≤ a) (wc : WC c0 c) (wm : WM m0 m) : OKR T len a0 c0 m0 (F_X5_readFriends c) ((F_X8_takeFriends m).bind (fun q => F_X8_takeClause_201 q.1 q.2)) := by
  have hDR := h.2.1
  have hnp := hDR.1.2.1
  have t36 : ∀ (v : Int32) {e : Nat} (s : St), 1 ≤ e → e ≤ 4 → F_X8_takeFriends_36 v (nI e) s = some (nI e, s) := fun v e s h1 h2 => by
    rw [F_X8_takeFriends_36, if_neg (nI_nle (by omega) (by omega))]
  rw [F_X5_readFriends, F_X5_readFriends_0, hDR.2.1.2.1, F_X8_takeFriends, F_X8_takeFriends_0, hDR.2.2.1.2.1]
  rcases num_both h.1 h.2.2.1 h.2.2.2.1 h.2.2.2.2.1 0 (nI np - 1) with ⟨c1, m1, b1, x1, p1, p2, p3, p4, kc1, km1, p5, p6, p7, p8, p9, p10, p11, p12⟩ | ⟨c1, m1, e, p3, p4, w1, w2, fl⟩
  · have hR1 := h.k kc1 km1 p2 p5 p6
    rw [np_hi hnp] at p11
    rw [p3, obs, p4, obs]
    dsimp only
    rw [if_neg (by decide), if_pos (show (0 : Int32) ≤ 0 by decide), hR1.2.1.2.1.2.1, hR1.2.1.2.2.1.2.1, p8, p9]
    rcases num_both hR1.1 hR1.2.2.1 hR1.2.2.2.1 hR1.2.2.2.2.1 0 (nI np - 1) with ⟨c2, m2, b2, x2, q1, q2, q3, q4, kc2, km2, q5, q6, q7, q8, q9, q10, q11, q12⟩ | ⟨c2, m2, e, q3, q4, w1, w2, fl⟩
    · have hR2 := hR1.k kc2 km2 q2 q5 q6
      rw [np_hi hnp] at q11
      have hx1 : x1 < np := by omega
      have hx2 : x2 < np := by omega
      have wc2 : WC c0 c2 := (wc.trans kc1.w).trans kc2.w
      have wm2 : WM m0 m2 := (wm.trans km1.w).trans km2.w
      rw [q3, obs, q4, obs]
      dsimp only
      rw [if_neg (by decide), F_X8_takeFriends_36, if_pos (show (0 : Int32) ≤ 0 by decide), q8, q9]
      have f4 : OKR T len a0 c0 m0 (F_X5_readFriends_65 c2) ((F_X8_takeFriends_67 m2).bind (fun q => F_X8_takeClause_201 q.1 q.2)) := by
        rw [F_X5_readFriends_65, P_isFault, obs, F_X8_takeFriends_67, M_fails, obs, obs]
        dsimp only
        rw [gb0', q12]
        exact OKR_f (e := 4) (FL_mk (by omega) (by omega) _ _ _) (wc2.trans ((WC_sV _ _ _).trans (WC_sV _ _ _))) (wm2.trans (WM_sV _ (by omega) _))
      by_cases ex : x1 = x2
      · rw [if_pos (by rw [ex]), if_pos (by rw [ex])]
        exact f4
      · have ne : ¬ nI x1 = nI x2 := by rw [eqN (by omega) (by omega)]; exact ex
        have g36 : ∀ {α : Type} {x : Option α}, gi (nI (x1 * 6 + x2)) 36 x = x := gi_in (by omega) (by decide)
        have c36 : (nI (x1 * 6 + x2)).toNatClampNeg = x1 * 6 + x2 := clN (by omega)
        have g36' : ∀ {α : Type} {x : Option α}, gi (nI (x2 * 6 + x1)) 36 x = x := gi_in (by omega) (by decide)
        have c36' : (nI (x2 * 6 + x1)).toNatClampNeg = x2 * 6 + x1 := clN (by omega)
        have i1 : nI x1 * 6 + nI x2 = nI (x1 * 6 + x2) := by rw [litN 6, pk_mul, nI_add]
        have i2 : nI x2 * 6 + nI x1 = nI (x2 * 6 + x1) := by rw [litN 6, pk_mul, nI_add]
        have i3 : 6 * nI x1 + nI x2 = nI (x1 * 6 + x2) := by rw [litN 6, pk_mul, nI_add, Nat.mul_comm]
        have i4 : 6 * nI x2 + nI x1 = nI (x2 * 6 + x1) := by rw [litN 6, pk_mul, nI_add, Nat.mul_comm]
        obtain ⟨y, y1, y2, y3, y4⟩ := hR2.2.1.2.2.2.2.2.2 x1 x2 (by omega) (by omega)
        have hp : ∀ x, x < np → F_X3_hasPerson 24 (nI x) c2 = some (1, c2) := by
          intro x hx
          rw [F_X3_hasPerson, F_X3_hasPerson_0, hR2.2.1.2.1.2.1, if_neg (nI_pos (by omega)), if_neg (nI_ge hx (by omega)), F_X3_hasPerson_17, gb1']
        have fr : F_X3_friendship 24 (nI x1) (nI x2) c2 = some (nI y, c2) := by
          rw [F_X3_friendship, F_X3_friendship_0, hp x1 hx1, obs]
          dsimp only
          rw [if_neg (by decide), hp x2 hx2, obs]
          dsimp only
          rw [if_neg (by decide), i1, g36, c36, F_X3_friendship_31, show c2.1 (24 + 7) (x1 * 6 + x2) = nI y from y2]
        rw [if_neg ne, if_neg ne, fr, obs, i3, g36, c36, y3]
        dsimp only
        by_cases cy : y = 0
        · rw [if_pos (by rw [cy]; rfl), if_pos (show nI y ≤ 0 by rw [cy]; decide), i4]
          rcases num_both hR2.1 hR2.2.2.1 hR2.2.2.2.1 hR2.2.2.2.2.1 1 99 with ⟨c3, m3, b3, x3, r1, r2, r3, r4, kc3, km3, r5, r6, r7, r8, r9, r10, r11, r12⟩ | ⟨c3, m3, e, r3, r4, w1, w2, fl⟩
          · have hR3 := hR2.k kc3 km3 r2 r5 r6
            have hx3 : x3 ≤ 99 := by rw [show (99 : Int32).toInt = 99 from rfl] at r11; omega
            rw [r3, obs, F_X8_into, F_X8_into_0, r4, obs, show lenOf 79 = 36 from rfl]
            dsimp only
            rw [if_neg (by decide), i1, g36, c36, r8, g36, r9]
            simp only [bs, obs, i2, g36', c36']
            rw [sV_off (show 23 ≠ 31 by omega), r8, sV_off (show 59 ≠ 79 by omega), r9, sV_off (show 24 ≠ 31 by omega), sV_off (show 24 ≠ 31 by omega), hR3.2.1.2.1.2.2, sV_off (show 59 ≠ 79 by omega), sV_off (show 59 ≠ 79 by omega), hR3.2.1.2.2.1.2.2, nI_1]
            obtain ⟨c4, hc4⟩ : ∃ c4, c4 = sV (sV (sV c3 31 (x1 * 6 + x2) (nI x3)) 31 (x2 * 6 + x1) (nI x3)) 24 2 (nI (nf + 1)) := ⟨_, rfl⟩
            obtain ⟨m4, hm4⟩ : ∃ m4, m4 = sV (sV (sV m3 79 (x1 * 6 + x2) (nI x3)) 79 (x2 * 6 + x1) (nI x3)) 59 33 (nI (nf + 1)) := ⟨_, rfl⟩
            rw [← hc4, ← hm4]
            have wc4 : WC c3 c4 := by rw [hc4]; exact (WC_sD _ (by omega) _ _).trans ((WC_sD _ (by omega) _ _).trans (WC_sD _ (by omega) _ _))
            have wm4 : WM m3 m4 := by rw [hm4]; exact (WM_sD _ (by omega) _ _).trans ((WM_sD _ (by omega) _ _).trans (WM_sV _ (by omega) _))
            have eC : ∀ i, i ≠ 24 → i ≠ 31 → c4.1 i = c3.1 i := fun i h1 h2 => by rw [hc4, sV_off h1, sV_off h2, sV_off h2]
            have eM : ∀ i, i ≠ 59 → i ≠ 79 → m4.1 i = m3.1 i := fun i h1 h2 => by rw [hm4, sV_off h1, sV_off h2, sV_off h2]
            have e24 : ∀ j, j ≠ 2 → c4.1 24 j = c3.1 24 j := fun j hj => by rw [hc4, sV_f hj, sV_off (by omega), sV_off (by omega)]
            have e59 : ∀ j, j ≠ 33 → m4.1 59 j = m3.1 59 j := fun j hj => by rw [hm4, sV_f hj, sV_off (by omega), sV_off (by omega)]
            have z31 : ∀ i, c4.1 31 i = if i = x2 * 6 + x1 then nI x3 else if i = x1 * 6 + x2 then nI x3 else c3.1 31 i := by
              intro i
              rw [hc4, sV_off (by omega), sV_at]
              by_cases d1 : i = x2 * 6 + x1
              · rw [if_pos d1, d1, upd_at]
              · rw [if_neg d1, upd_off d1, sV_at]
                by_cases d2 : i = x1 * 6 + x2
                · rw [if_pos d2, d2, upd_at]
                · rw [if_neg d2, upd_off d2]
            have z79 : ∀ i, m4.1 79 i = if i = x2 * 6 + x1 then nI x3 else if i = x1 * 6 + x2 then nI x3 else m3.1 79 i := by
              intro i
              rw [hm4, sV_off (by omega), sV_at]
              by_cases d1 : i = x2 * 6 + x1
              · rw [if_pos d1, d1, upd_at]
              · rw [if_neg d1, upd_off d1, sV_at]
                by_cases d2 : i = x1 * 6 + x2
                · rw [if_pos d2, d2, upd_at]
                · rw [if_neg d2, upd_off d2]
            have hR4 : RDR T len nr nr np (nf + 1) pcs b3 c4 m4 := by
              obtain ⟨h1, ⟨⟨d1, d2, d3⟩, ⟨d4, d5, d6⟩, ⟨d7, d8, d9⟩, d10, d11, d12, d13⟩, h3, h4, h5, h6, h7, h8⟩ := hR3
              refine ⟨h1.w wc4 (by rw [eC 23 (by omega) (by omega)]) wm4, ⟨⟨d1, d2, by omega⟩, ⟨by rw [e24 0 (by omega)]; exact d4, by rw [e24 1 (by omega)]; exact d5, by rw [hc4, sV_g]⟩, ⟨by rw [e59 25 (by omega)]; exact d7, by rw [e59 28 (by omega)]; exact d8, by rw [hm4, sV_g]⟩, ?_, ?_, ?_, fun p q hp hq => ?_⟩, h3, by rw [eC 23 (by omega) (by omega)]; exact h4, by rw [e59 20 (by omega)]; exact h5, by rw [eC 23 (by omega) (by omega)]; exact h6, by rw [eC 23 (by omega) (by omega)]; exact h7, by rw [e59 19 (by omega)]; exact h8⟩
              · rw [eC 25 (by omega) (by omega), eC 26 (by omega) (by omega), eM 73 (by omega) (by omega), eM 74 (by omega) (by omega)]; exact d10
              · rw [eC 27 (by omega) (by omega), eC 28 (by omega) (by omega), eC 29 (by omega) (by omega), eC 30 (by omega) (by omega), eM 75 (by omega) (by omega), eM 76 (by omega) (by omega), eM 77 (by omega) (by omega), eM 78 (by omega) (by omega)]; exact d11
              · rw [eC 27 (by omega) (by omega)]; exact d12
              · rw [z31, z79, z79]
                by_cases t1 : p = x1 ∧ q = x2
                · obtain ⟨rfl, rfl⟩ := t1
                  refine ⟨x3, hx3, ?_, ?_, ?_⟩
                  · split
                    · rfl
                    · rw [if_pos rfl]
                  · split
                    · rfl
                    · rw [if_pos rfl]
                  · rw [if_pos rfl]
                · by_cases t2 : p = x2 ∧ q = x1
                  · obtain ⟨rfl, rfl⟩ := t2
                    refine ⟨x3, hx3, ?_, ?_, ?_⟩
                    · rw [if_pos rfl]
                    · rw [if_pos rfl]
                    · split
                      · rfl
                      · rw [if_pos rfl]
                  · rw [if_neg (by omega), if_neg (by omega), if_neg (by omega), if_neg (by omega), if_neg (by omega), if_neg (by omega)]
                    exact d13 p q hp hq
            have q := end_both hR4 (a0 := a0) (c0 := c0) (m0 := m0) (by omega) ((wc2.trans kc3.w).trans wc4) ((wm2.trans km3.w).trans wm4)
            have eg : (F_X5_readEnd c4).bind (fun q14 => gb q14.1 (some (q14.1, q14.2))) = F_X5_readEnd c4 := by
              rcases q with ⟨c3, m3, _, _, _, _, _, z1, _⟩ | ⟨c3, m3, _, z1, _⟩
              · rw [z1, obs]; exact gb1' _
              · rw [z1, obs]; exact gb0' _
            rw [eg]
            exact q
          · rw [r3, obs, F_X8_into, F_X8_into_0, r4, obs, show lenOf 79 = 36 from rfl]
            dsimp only
            rw [if_pos rfl, g36, c36]
            simp only [bs, obs, g36', c36']
            exact OKR_f (fl.m (by rw [sV_f (by omega), sV_off (by omega), sV_off (by omega)])) (wc2.trans w1) ((wm2.trans w2).trans ((WM_sD _ (by omega) _ _).trans ((WM_sD _ (by omega) _ _).trans (WM_sV _ (by omega) _))))
        · rw [if_neg (nI_ne0 (by omega) (by omega)), if_neg (nI_nle (by omega) (by omega))]
          exact f4
    · rw [q3, obs, q4, obs]
      dsimp only
      rw [if_pos rfl, t36 _ _ fl.1 fl.2.1, obs]
      exact OKR_f fl ((wc.trans kc1.w).trans w1) ((wm.trans km1.w).trans w2)
  · rw [p3, obs, p4, obs]
    dsimp only
    rw [if_pos rfl, if_neg (nI_nle (by have := fl.1; omega) (by have := fl.2.1; omega)), t36 _ _ fl.1 fl.2.1, obs]
    exact OKR_f fl (wc.trans w1) (wm.trans w2)
def lg4 (a b c d : Int64) : Int64 := ((27 * (((27 * (((27 * (a - 96)) + b) - 96)) + c) - 96)) + d) - 96
def lg2 (v a b : Int64) : Int64 := ((27 * (((27 * v) + a) - 96)) + b) - 96
theorem M_code (a b c d : Int32) (m : St) : F_X8_code a b c d m = some (lg4 a.toInt64 b.toInt64 c.toInt64 d.toInt64, m) := rfl
theorem M_longer (v : Int64) (a b : Int32) (m : St) : F_X8_longer v a b m = some (lg2 v a.toInt64 b.toInt64, m) := rfl
theorem cdk0 : lg4 (114 : Int32).toInt64 (111 : Int32).toInt64 (111 : Int32).toInt64 (109 : Int32).toInt64 = lN (cdW 0) := by decide +kernel
theorem cdk1 : lg2 (lg4 (112 : Int32).toInt64 (101 : Int32).toInt64 (114 : Int32).toInt64 (115 : Int32).toInt64) (111 : Int32).toInt64 (110 : Int32).toInt64 = lN (cdW 1) := by decide +kernel
theorem cdk2 : ((27 * lg2 (lg4 (102 : Int32).toInt64 (114 : Int32).toInt64 (105 : Int32).toInt64 (101 : Int32).toInt64) (110 : Int32).toInt64 (100 : Int32).toInt64) + 115) - 96 = lN (cdW 2) := by decide +kernel
theorem cd0 (m : St) : F_X8_code 114 111 111 109 m = some (lN (cdW 0), m) := by rw [M_code, cdk0]
theorem cd1 (m : St) : ∃ z, F_X8_code 112 101 114 115 m = some (z, m) ∧ F_X8_longer z 111 110 m = some (lN (cdW 1), m) := ⟨_, M_code _ _ _ _ _, by rw [M_longer, cdk1]⟩
theorem cd2 (m : St) : ∃ z z2, F_X8_code 102 114 105 101 m = some (z, m) ∧ F_X8_longer z 110 100 m = some (z2, m) ∧ ((27 * z2) + 115) - 96 = lN (cdW 2) := ⟨_, _, M_code _ _ _ _ _, M_longer _ _ _ _, cdk2⟩
theorem OKR_gb {T : Nat → Nat} {len a0 : Nat} {c0 m0 : St} {x y : Option (Int32 × St)} (h : OKR T len a0 c0 m0 x y) : x.bind (fun q => gb q.1 (some (q.1, q.2))) = x := by
  rcases h with ⟨c3, m3, _, _, _, _, _, z1, _⟩ | ⟨c3, m3, _, z1, _⟩
  · rw [z1, obs]; exact gb1' _
  · rw [z1, obs]; exact gb0' _
theorem clause_both {T : Nat → Nat} {len nr np nf : Nat} {pcs : Nat → Nat} {b : Nat} {c m : St} (h : RDR T len nr nr np nf pcs b c m) (hb : b < len) (hT : T b ≠ 32) : OKR T len b c m (F_X5_readClause c) (F_X8_takeClause m) := by
  have hl := h.1.1
  have hR := h
  obtain ⟨h1, h2, h3, h4, h5, h6, h7, h8⟩ := h
  obtain ⟨e, m1, w1, w2, w3, w4, w5⟩ := word_both h1 hb hT h5
  obtain ⟨c1, hc1⟩ : ∃ c1, c1 = sV c 23 6 (nI b) := ⟨_, rfl⟩
  have kc1 : KC c c1 := by rw [hc1]; exact KC_sV c (by omega) _
  have hR1 : RDR T len nr nr np nf pcs b c1 m1 := hR.k kc1 w2 h3 (by rw [hc1, sV_f (by omega)]; exact h4) w3
  have e6 : c1.1 23 6 = nI b := by rw [hc1, sV_g]
  have hD1 := hR1.2.1
  rw [F_X5_readClause, F_X5_readClause_0, F_X8_takeClause, F_X8_takeClause_0, w1, obs, cd0, obs, h4]
  simp only [bs]
  rw [← hc1]
  have f3 : ∀ ee, OKR T len b c m (some (0, sV (sV (sV c1 23 5 (nI ee)) 23 2 (nI 3)) 23 3 (nI b))) (F_X8_takeClause_156 m1) := by
    intro ee
    right
    rw [F_X8_takeClause_156, M_fails, obs, w3]
    exact ⟨_, _, 3, rfl, rfl, FL_mk (by omega) (by omega) _ _ _, kc1.w.trans ((WC_sV _ _ _).trans ((WC_sV _ _ _).trans (WC_sV _ _ _))), w2.w.trans (WM_sV _ (by omega) _)⟩
  have st : ∀ w, w < 3 → WdT T len b w → RDR T len nr nr np nf pcs e (sV c1 23 5 (nI (b + wLn w))) (sV m1 59 20 (m1.1 59 22)) ∧ b ≤ e := by
    intro w hw hwd
    have ee := (w5 w hw).2 hwd
    refine ⟨hR1.k (KC_sV _ (by omega) _) (KM_sV _ (by omega) _) (by have := hwd.1; omega) (by rw [sV_g, ee]) (by rw [sV_g, w4]), by omega⟩
  have wc1 : ∀ x, WC c (sV c1 23 5 x) := fun x => kc1.w.trans (WC_sV _ _ _)
  have wm1 : ∀ x, WM m (sV m1 59 20 x) := fun x => w2.w.trans (WM_sV _ (by omega) _)
  rcases P_isWord hR1.1 (show 0 < 3 by omega) h3 hR1.2.2.2.1 with ⟨d0, q0⟩ | ⟨d0, q0⟩
  · rw [q0, obs]
    dsimp only
    rw [if_neg (by decide), if_pos (show lg_cmp (m1.2 59 21) (lN (cdW 0)) = 0 by rw [cmp_eq]; exact (w5 0 (by omega)).1.mpr d0), F_X8_takeClause_100, if_pos (show (0 : Int32) ≤ 0 by decide), if_pos (show (0 : Int32) = 0 from rfl), hD1.2.2.1.1, sV_off (show 24 ≠ 23 by omega), hD1.2.1.1]
    by_cases cn : nr = 3
    · rw [if_pos (show (3 : Int32) ≤ nI nr by rw [cn]; decide), if_pos (show nI nr = 3 by rw [cn]; rfl), P_isFault, obs, sV_f (show 6 ≠ 5 by omega), e6, F_X5_readClause_44, gb0']
      exact f3 _
    · have hn3 := hD1.1.1
      rw [if_neg (show ¬ (3 : Int32) ≤ nI nr from nI_ge (b := 3) (by omega) (by omega)), if_neg (show ¬ nI nr = 3 by rw [litN 3, eqN (by omega) (by omega)]; exact cn), F_X8_takeClause_166, bs, if_pos rfl]
      obtain ⟨s1, s2⟩ := st 0 (by omega) d0
      have q := room_both (show nr < 3 by omega) s1 s2 (wc1 _) (wm1 _)
      rw [show (fun q18 : Int32 × St => F_X5_readClause_44 q18.1 q18.2) = (fun q => gb q.1 (some (q.1, q.2))) from rfl, OKR_gb q]
      exact q
  · rw [q0, obs]
    dsimp only
    rw [if_pos rfl, if_neg (show ¬ lg_cmp (m1.2 59 21) (lN (cdW 0)) = 0 by rw [cmp_eq]; exact fun z => d0 ((w5 0 (by omega)).1.mp z))]
    obtain ⟨z1, y1, y2⟩ := cd1 m1
    rw [y1, obs]
    dsimp only
    rw [y2, obs]
    dsimp only
    rcases P_isWord hR1.1 (show 1 < 3 by omega) h3 hR1.2.2.2.1 with ⟨d1, q1⟩ | ⟨d1, q1⟩
    · rw [q1, obs]
      dsimp only
      rw [if_neg (by decide), if_pos (show lg_cmp (m1.2 59 21) (lN (cdW 1)) = 0 by rw [cmp_eq]; exact (w5 1 (by omega)).1.mpr d1), F_X8_takeClause_100, if_pos (show (0 : Int32) ≤ 1 by decide), if_neg (show ¬ (1 : Int32) = 0 by decide), if_pos (show (1 : Int32) = 1 from rfl), hD1.2.2.1.2.1, sV_off (show 24 ≠ 23 by omega), hD1.2.1.2.1]
      by_cases cn : np = 6
      · rw [if_pos (show (6 : Int32) ≤ nI np by rw [cn]; decide), if_pos (show nI np = 6 by rw [cn]; rfl), P_isFault, obs, sV_f (show 6 ≠ 5 by omega), e6, F_X5_readClause_82, gb0']
        exact f3 _
      · have hn3 := hD1.1.2.1
        rw [if_neg (show ¬ (6 : Int32) ≤ nI np from nI_ge (b := 6) (by omega) (by omega)), if_neg (show ¬ nI np = 6 by rw [litN 6, eqN (by omega) (by omega)]; exact cn), F_X8_takeClause_166, bs, if_neg (by decide), if_pos rfl]
        obtain ⟨s1, s2⟩ := st 1 (by omega) d1
        have q := person_both (show np < 6 by omega) s1 s2 (wc1 _) (wm1 _)
        rw [show (fun q18 : Int32 × St => F_X5_readClause_82 q18.1 q18.2) = (fun q => gb q.1 (some (q.1, q.2))) from rfl, OKR_gb q]
        exact q
    · rw [q1, obs]
      dsimp only
      rw [if_pos rfl, if_neg (show ¬ lg_cmp (m1.2 59 21) (lN (cdW 1)) = 0 by rw [cmp_eq]; exact fun z => d1 ((w5 1 (by omega)).1.mp z))]
      obtain ⟨z2, z3, y3, y4, y5⟩ := cd2 m1
      rw [y3, obs]
      dsimp only
      rw [y4, obs]
      dsimp only
      rw [y5]
      rcases P_isWord hR1.1 (show 2 < 3 by omega) h3 hR1.2.2.2.1 with ⟨d2, q2⟩ | ⟨d2, q2⟩
      · rw [q2, obs]
        dsimp only
        rw [if_neg (by decide), if_pos (show lg_cmp (m1.2 59 21) (lN (cdW 2)) = 0 by rw [cmp_eq]; exact (w5 2 (by omega)).1.mpr d2), F_X8_takeClause_100, if_pos (show (0 : Int32) ≤ 2 by decide), if_neg (show ¬ (2 : Int32) = 0 by decide), if_neg (show ¬ (2 : Int32) = 1 by decide), hD1.2.2.1.2.2, sV_off (show 24 ≠ 23 by omega), hD1.2.1.2.2]
        by_cases cn : nf = 15
        · rw [if_pos (show (15 : Int32) ≤ nI nf by rw [cn]; decide), if_pos (show nI nf = 15 by rw [cn]; rfl), P_isFault, obs, sV_f (show 6 ≠ 5 by omega), e6, F_X5_readClause_120, gb0']
          exact f3 _
        · have hn3 := hD1.1.2.2
          rw [if_neg (show ¬ (15 : Int32) ≤ nI nf from nI_ge (b := 15) (by omega) (by omega)), if_neg (show ¬ nI nf = 15 by rw [litN 15, eqN (by omega) (by omega)]; exact cn), F_X8_takeClause_166, bs, if_neg (by decide), if_neg (by decide)]
          obtain ⟨s1, s2⟩ := st 2 (by omega) d2
          have q := friends_both (show nf < 15 by omega) s1 s2 (wc1 _) (wm1 _)
          rw [show (fun q18 : Int32 × St => F_X5_readClause_120 q18.1 q18.2) = (fun q => gb q.1 (some (q.1, q.2))) from rfl, OKR_gb q]
          exact q
      · rw [q2, obs]
        dsimp only
        rw [if_pos rfl, if_neg (show ¬ lg_cmp (m1.2 59 21) (lN (cdW 2)) = 0 by rw [cmp_eq]; exact fun z => d2 ((w5 2 (by omega)).1.mp z)), P_isFault, obs, e6, F_X8_takeClause_100, if_neg (show ¬ (0 : Int32) ≤ -1 by decide), M_fails, obs, w3]
        dsimp only
        rw [gb0']
        right
        exact ⟨_, _, 1, rfl, rfl, FL_mk (by omega) (by omega) _ _ _, kc1.w.trans ((WC_sV _ _ _).trans (WC_sV _ _ _)), w2.w.trans (WM_sV _ (by omega) _)⟩

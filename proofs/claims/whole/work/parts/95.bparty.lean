/-! PURE: party, both sides -/
/-- only what lies about has changed -/
theorem R.sr {k n : Nat} {pc : Nat → Nat} {b b' : Nat} {st st' : St} (h : R k n pc b st) (hb : b ≤ b') (e : ∀ a, (a ≤ 32 ∨ (36 ≤ a ∧ a ≤ 37) ∨ (41 ≤ a ∧ a ≤ 79) ∨ 87 ≤ a) → a ≠ 59 → st'.1 a = st.1 a) (e59 : ∀ j, j ≠ 42 → st'.1 59 j = st.1 59 j) : R k n pc b' st' := by
  refine h.cg hb (fun a ha => e a (by omega) (by omega)) (fun j hj => e59 j (by omega)) (fun j _ => by rw [e 92 (by omega) (by omega)]) ?_
  unfold SceneR
  rw [vC_cg (s := st) (fun a a1 a2 => e a (by omega) (by omega)), vM_cg (s := st) (fun a a1 a2 => e a (by omega) (by omega)), e 4 (by omega) (by omega), e 9 (by omega) (by omega), e59 10 (by omega), e59 16 (by omega)]
  exact ScR.mono h.scene hb
theorem B_party (x y z : Int32) : Bo (F_X7_party x y z) (F_X8_party x y z) := by
  intro k n pc b st hb h
  have hH := h.house
  obtain ⟨hc, hm, hF, hFb, hK, -⟩ := h.house
  have hB3 := h.bd3
  have hBM := ScR.bd h.scene hH
  obtain ⟨hA, hV, -, -, -, ⟨lw, hlw, w1, w2⟩, -⟩ := h.scene
  have hk := hc.1
  have hn := hc.2.1
  rcases idx x (n := k) (by omega) with ⟨r, hr, rfl⟩ | hx
  · have hpc := hc.2.2.2.2 r hr
    rcases setIx y hn with ⟨s, hs, rfl, s1, s2⟩ | ⟨s1, s2⟩
    · have hs64 := (bits_n n hn s hs).1
      by_cases hz : z = -1 ∨ ∃ p, p < n ∧ z = nI p
      · obtain ⟨S0, hS0⟩ : ∃ S0, S0 = sV st 33 9 1 := ⟨_, rfl⟩
        have e0 : ∀ a, a ≠ 33 → S0.1 a = st.1 a := fun a ha => by rw [hS0, sV_off ha]
        have eF0 : FF S0 = FF st := by unfold FF; rw [e0 3 (by omega)]
        have eI0 : II S0 = II st := by unfold II; rw [e0 14 (by omega)]
        have eK0 : KK S0 = KK st := by unfold KK; rw [e0 6 (by omega)]
        obtain ⟨S1, a, f1, f2, f3, f4⟩ := P_findBest (pm := true) (lw := lw) (s := s) (hc.cg (e0 1 (by omega)) (e0 2 (by omega)) : HC k n pc S0) hr hlw (by rw [e0 9 (by omega)]; exact w1) (by unfold Bd3; rw [eF0, eI0, eK0]; exact hB3) (by rw [hS0, sV_g]; rfl) hs
        rw [eF0, eI0, eK0, e0 13 (by omega)] at f4
        have eo : ∀ a, a ≠ 33 → a ≠ 34 → a ≠ 35 → S1.1 a = st.1 a := fun a h1 h2 h3 => by rw [f2 a h1 h2 h3, e0 a h1]
        have hm1 : HM k n pc S1 := hm.cg (by rw [eo 59 (by omega) (by omega) (by omega)]) (by rw [eo 59 (by omega) (by omega) (by omega)]) (eo 60 (by omega) (by omega) (by omega))
        have evM : vM S1 = vM st := vM_cg (fun a a1 a2 => eo a (by omega) (by omega) (by omega))
        have eF1 : FFm S1 = FFm st := by unfold FFm; rw [eo 61 (by omega) (by omega) (by omega)]
        have eI1 : IIm S1 = IIm st := by unfold IIm; rw [eo 68 (by omega) (by omega) (by omega)]
        have eK1 : KKm S1 = KKm st := by unfold KKm; rw [eo 64 (by omega) (by omega) (by omega)]
        obtain ⟨S2, v, g1, g2, g3⟩ := M_partyOf hm1 (lw := lw) hr hs (by rw [eo 59 (by omega) (by omega) (by omega)]; exact w2) hlw (by rw [evM, eo 61 (by omega) (by omega) (by omega), eo 64 (by omega) (by omega) (by omega)]; exact hBM)
        rw [eF1, eI1, eK1, eo 67 (by omega) (by omega) (by omega)] at g3
        have cls : F_X7_party (nI r) (nI s) z st = F_X7_party_41 (nI r) (nI s) z st := by
          rw [F_X7_party, F_X7_party_0, P_hasRoom_in hc hr, obs]
          dsimp only
          rw [if_neg (by decide), s1 k pc st hc, obs]
          dsimp only
          rw [if_neg (by decide)]
          rcases hz with rfl | ⟨p, hp, rfl⟩
          · rw [if_pos rfl]
          · rw [if_neg (nI_ne1 (by omega)), P_hasPerson_in hc hp, obs]
            dsimp only
            rw [if_neg (by decide)]
        have mls : F_X8_party (nI r) (nI s) z S1 = F_X8_party_32 (nI r) (nI s) z S1 := by
          rw [F_X8_party, F_X8_party_0, M_isRoom_in hm1 hr, obs]
          dsimp only
          rw [if_neg (by decide), s2 k pc S1 hm1, obs]
          dsimp only
          rw [if_neg (by decide)]
          rcases hz with rfl | ⟨p, hp, rfl⟩
          · rw [if_pos rfl]
          · rw [if_neg (nI_ne1 (by omega)), M_isPerson_in hm1 hp, obs]
            dsimp only
            rw [if_neg (by decide)]
        have hfp : F_X4_findPlaces (nI r) (nI s) st = some (a, S1) := by
          rw [F_X4_findPlaces, F_X4_findPlaces_0, bse, ← hS0, f1, obs]
          dsimp only
          rcases f4 with ⟨rfl, -⟩ | ⟨rfl, -⟩
          · exact gb0' _
          · exact gb1' _
        have fin : ∀ ans, F_X7_party_41 (nI r) (nI s) z st = some (ans, S1) → F_X8_party_32 (nI r) (nI s) z S1 = some (ans, S2) → ∃ a s1 s2, F_X7_party (nI r) (nI s) z st = some (a, s1) ∧ F_X8_party (nI r) (nI s) z s1 = some (a, s2) ∧ ∃ k n pc, R k n pc (b + 60) s2 := by
          intro ans q1 q2
          refine ⟨ans, S1, S2, by rw [cls, q1], by rw [mls, q2], k, n, pc, h.sr (by omega) (fun a ha h59 => by rw [g2 a (by omega), eo a (by omega) (by omega) (by omega)]) (fun j _ => by rw [g2 59 (by omega), eo 59 (by omega) (by omega) (by omega)])⟩
        rw [F_X7_party_41, hfp, F_X8_party_32, g1, obs, obs] at fin
        dsimp only at fin
        rcases f4 with ⟨rfl, f5⟩ | ⟨rfl, f5, x0, x1, x2, x3, x4⟩
        · have hv : v = 1000000 := by
            rcases g3 with ⟨g3, -⟩ | ⟨g4, ⟨g3, -⟩ | ⟨c0, m, g5, gm6, g7, -⟩⟩
            · exact g3
            · exact g3
            · exfalso
              rcases f5 with f5 | f5
              · omega
              · exact f5 _ ((h.att hr _ _ _ _ _).mpr (V_att (wP true) hn hs (by omega) g7))
          rw [hv, if_pos (show (0 : Int32) = 0 from rfl), if_pos (show (1000000 : Int32) ≤ 1000000 from Int32.le_refl _), F_X8_party_53, if_neg (by decide)] at fin
          exact fin _ rfl rfl
        · have x3' := (h.att hr _ _ _ _ _).mp x3
          have hmin : ∀ y, Att lw n (st.1 67) (FFm st r) (IIm st) (KKm st) (pc r) (wP true) 6 s none 0 y → x0 ≤ y := fun y hy => x4 y ((h.att hr _ _ _ _ _).mpr hy)
          rcases g3 with ⟨-, g3⟩ | ⟨g4, ⟨-, g5⟩ | ⟨c0, m, g5, gm6, g7, g8, g9, g10⟩⟩
          · omega
          · exfalso
            obtain ⟨c, m, k1, k2, -⟩ := att_V hn hs (by omega) x3'
            exact g5 c m k1 k2
          · have ex := best_eq hn hs (by omega) (by omega) x3' hmin g7 g5 g10
            have hnum := num_dig (s := s) (n := n) (c := c0) (show 0 < pc r by omega) (by omega)
            rw [if_neg (show ¬ (1 : Int32) = 0 by decide), g8, if_neg (show ¬ (1000000 : Int32) ≤ nI m by rw [litN 1000000, leN (by omega) (by omega)]; omega)] at fin
            rcases hz with rfl | ⟨p, hp, rfl⟩
            · rw [if_pos (show (-1 : Int32) = -1 from rfl), if_pos (show (-1 : Int32) = -1 from rfl), P_leastSum (by omega) x2, obs, F_X8_party_53, if_pos (show nI m < 1000000 by rw [litN 1000000, ltN (by omega) (by omega)]; omega)] at fin
              have : x0 / 262144 = m := by rw [ex]; omega
              rw [this] at fin
              exact fin _ rfl rfl
            · have hp6 : p < 6 := by omega
              rw [if_neg (nI_ne1 (show p < 2 ^ 31 by omega)), if_neg (nI_ne1 (show p < 2 ^ 31 by omega)), M_has hs64 hp6, obs] at fin
              dsimp only at fin
              cases hbp : s.testBit p with
              | false =>
                rw [if_pos (show ((nI s >>> (nI p &&& 31)) &&& 1) = 0 by rw [bitN hs64 hp6]; exact hbp), hbp, if_neg (show ¬ (false = true) by decide), if_pos (show (0 : Int32) = 0 from rfl)] at fin
                exact fin _ rfl rfl
              | true =>
                rw [if_neg (show ¬ ((nI s >>> (nI p &&& 31)) &&& 1) = 0 by rw [bitN hs64 hp6, hbp]; decide), hbp, if_pos (show true = true from rfl), if_neg (show ¬ (1 : Int32) = 0 by decide), P_placeOf (by omega) hp6 x2, obs, g6 hp6, c6 hp6, g9 p hp hbp, dig_of (a := digF s (pc r) n c0) (fun q _ _ => by have := digF_lt (s := s) (show 0 < pc r by omega) n c0 q; omega) hp6 hbp ex] at fin
                exact fin _ rfl rfl
      · have hz1 : ¬ z = -1 := fun e => hz (Or.inl e)
        have hz2 : z < 0 ∨ nI n ≤ z := by
          rcases idx z (n := n) (by omega) with ⟨p, hp, e⟩ | e
          · exact absurd (Or.inr ⟨p, hp, e⟩) hz
          · exact e
        refine ro h (-1000000001) ?_ ?_
        · rw [F_X7_party, F_X7_party_0, P_hasRoom_in hc hr, obs]
          dsimp only
          rw [if_neg (by decide), s1 k pc st hc, obs]
          dsimp only
          rw [if_neg (by decide), if_neg hz1, P_hasPerson_out hc hz2, obs]
          dsimp only
          rw [if_pos rfl]; rfl
        · rw [F_X8_party, F_X8_party_0, M_isRoom_in hm hr, obs]
          dsimp only
          rw [if_neg (by decide), s2 k pc st hm, obs]
          dsimp only
          rw [if_neg (by decide), if_neg hz1, M_isPerson_out hm hz2, obs]
          dsimp only
          rw [if_pos rfl]; rfl
    · refine ro h (-1000000001) ?_ ?_
      · rw [F_X7_party, F_X7_party_0, P_hasRoom_in hc hr, obs]
        dsimp only
        rw [if_neg (by decide), s1 k pc st hc, obs]
        dsimp only
        rw [if_pos rfl]; rfl
      · rw [F_X8_party, F_X8_party_0, M_isRoom_in hm hr, obs]
        dsimp only
        rw [if_neg (by decide), s2 k pc st hm, obs]
        dsimp only
        rw [if_pos rfl]; rfl
  · refine ro h (-1000000001) ?_ ?_
    · rw [F_X7_party, F_X7_party_0, P_hasRoom_out hc hx, obs]
      dsimp only
      rw [if_pos rfl]; rfl
    · rw [F_X8_party, F_X8_party_0, M_isRoom_out hm hx, obs]
      dsimp only
      rw [if_pos rfl]; rfl

/-! PURE: persons and friends read -/
theorem FL.m {e : Nat} {c m m' : St} (h : FL e c m) (e19 : m'.1 59 19 = m.1 59 19) : FL e c m' := ⟨h.1, h.2.1, h.2.2.1, h.2.2.2.trans e19.symm⟩
theorem M_104f {e : Nat} (h1 : 1 ≤ e) (h2 : e ≤ 4) (v : Int32) (m : St) : F_X8_takePerson_104 v (nI e) m = some (nI e, sV m 59 28 (m.1 59 28 + 1)) := by
  rw [F_X8_takePerson_104, if_neg (nI_nle (by omega) (by omega))]
  rfl
theorem M_83f {e : Nat} (h1 : 1 ≤ e) (h2 : e ≤ 4) (v : Int32) (m : St) : F_X8_takePerson_83 v (nI e) m = some (nI e, sV m 59 28 (m.1 59 28 + 1)) := by
  rw [F_X8_takePerson_83, if_neg (nI_nle (by omega) (by omega)), M_104f h1 h2]
theorem M_62f {e : Nat} (h1 : 1 ≤ e) (h2 : e ≤ 4) (v : Int32) (m : St) : F_X8_takePerson_62 v (nI e) m = some (nI e, sV m 59 28 (m.1 59 28 + 1)) := by
  rw [F_X8_takePerson_62, if_neg (nI_nle (by omega) (by omega)), M_83f h1 h2]
/-- a fault within a person goes through -/
theorem OKR_p {T : Nat → Nat} {len a0 : Nat} {c0 m0 c m : St} {e : Nat} (h : FL e c m) (wc : WC c0 c) (wm : WM m0 m) : OKR T len a0 c0 m0 (some (0, c)) ((some (nI e, sV m 59 28 (m.1 59 28 + 1))).bind (fun q => F_X8_takeClause_201 q.1 q.2)) := by
  rw [obs]
  exact OKR_f (h.m (sV_f (by omega))) wc (wm.trans (WM_sV _ (by omega) _))
theorem into_both {T : Nat → Nat} {len nr np nf : Nat} {pcs : Nat → Nat} {a : Nat} {c m : St} (h : RDR T len nr nr np nf pcs a c m) (hp : np < 6) (lo hi : Int32) {ac am : Nat} (hac : 27 ≤ ac ∧ ac ≤ 30) (ham : 75 ≤ am ∧ am ≤ 78) (hlen : lenOf am = 6) :
    (∃ c' m' b x, a < b ∧ F_X5_readNumber lo hi c = some (1, c') ∧ F_X8_into am (nI np) lo hi m = some (0, m') ∧ c'.1 23 7 = nI x ∧ m'.1 59 23 = nI x ∧ x < 1000 ∧ lo.toInt ≤ (x : Int) ∧ (x : Int) ≤ hi.toInt ∧ c'.1 23 6 = m'.1 59 24 ∧ RDR T len nr nr np nf pcs b (sV c' ac np (nI x)) m' ∧ KC c c' ∧ m'.1 am np = nI x ∧ (∀ i, i ≠ am → i ≠ 59 → m'.1 i = m.1 i) ∧ WM m m')
    ∨ (∃ c' m' e, F_X5_readNumber lo hi c = some (0, c') ∧ F_X8_into am (nI np) lo hi m = some (nI e, m') ∧ WC c c' ∧ WM m m' ∧ FL e c' m') := by
  have g6' : ∀ {α : Type} {x : Option α}, gi (nI np) (lenOf am) x = x := by rw [hlen]; exact g6 hp
  have c6' : (nI np).toNatClampNeg = np := c6 hp
  rw [F_X8_into, F_X8_into_0]
  rcases num_both h.1 h.2.2.1 h.2.2.2.1 h.2.2.2.2.1 lo hi with ⟨c', m', b, x, b1, b2, b3, b4, kc, km, b5, b6, b7, b8, b9, b10, b11, b12⟩ | ⟨c', m', e, b3, b4, w1, w2, fl⟩
  · left
    have hR := h.k kc km b2 b5 b6
    rw [b4, obs]
    simp only [g6', c6', bs, b9]
    have eC : ∀ i, i ≠ ac → (sV c' ac np (nI x)).1 i = c'.1 i := fun i hi => sV_off hi
    have eM : ∀ i, i ≠ am → (sV m' am np (nI x)).1 i = m'.1 i := fun i hi => sV_off hi
    refine ⟨c', _, b, x, b1, b3, rfl, b8, by rw [eM 59 (by omega)]; exact b9, b7, b10, b11, by rw [eM 59 (by omega)]; exact b12, ?_, kc, sV_g _ _ _ _, fun i h1 h2 => by rw [eM i h1, km.1 i h2], km.w.trans (WM_sD _ (by omega) _ _)⟩
    obtain ⟨h1, h2, h3, h4, h5, h6, h7, h8⟩ := hR
    refine ⟨h1.w (WC_sD _ (by omega) _ _) (by rw [eC 23 (by omega)]) (WM_sD _ (by omega) _ _), h2.cg (eC 24 (by omega)) (fun j _ => by rw [eM 59 (by omega)]) (fun r _ => by rw [eC 25 (by omega)]) (fun r _ => by rw [eM 73 (by omega)]) (fun i _ => by rw [eC 26 (by omega)]) (fun i _ => by rw [eM 74 (by omega)]) (fun i i1 i2 p hp' => ?_) (fun i i1 i2 p hp' => ?_) (eC 31 (by omega)) (eM 79 (by omega)), h3, by rw [eC 23 (by omega)]; exact h4, by rw [eM 59 (by omega)]; exact h5, by rw [eC 23 (by omega)]; exact h6, by rw [eC 23 (by omega)]; exact h7, by rw [eM 59 (by omega)]; exact h8⟩
    · by_cases ci : i = ac
      · subst ci; exact sV_f (by omega)
      · rw [eC i ci]
    · by_cases ci : i = am
      · subst ci; exact sV_f (by omega)
      · rw [eM i ci]
  · right
    rw [b4, obs]
    simp only [g6', c6', bs]
    exact ⟨c', _, e, b3, rfl, w1, w2.trans (WM_sD _ (by omega) _ _), fl.m (by rw [sV_off (by omega)])⟩
theorem dup_both {np x : Nat} {c m : St} (hn : np < 6) (e7 : c.1 23 7 = nI x) (e23 : m.1 59 23 = nI x) (hag : ∀ p, p < np → c.1 27 p = m.1 75 p) : ∀ N j, j ≤ np → np - j < N → np - j + 2 ≤ N →
    ((∃ q, j ≤ q ∧ q < np ∧ c.1 27 q = nI x) → F_X5_readPerson_22 N (nI np) (nI j) c = some (0, sV (sV c 23 2 (nI 4)) 23 3 (c.1 23 6)) ∧ F_X8_takePerson_20 N (nI np) 0 (nI j) m = F_X8_takePerson_62 (nI np) (nI 4) (sV m 59 19 (m.1 59 24))) ∧
    (¬ (∃ q, j ≤ q ∧ q < np ∧ c.1 27 q = nI x) → (∃ M, F_X5_readPerson_22 N (nI np) (nI j) c = F_X5_readPerson_22 (M + 1) (nI np) (nI np) c) ∧ F_X8_takePerson_20 N (nI np) 0 (nI j) m = F_X8_takePerson_62 (nI np) 0 m) := by
  refine upn (n := np) (P := fun N j => np - j + 2 ≤ N → ((∃ q, j ≤ q ∧ q < np ∧ c.1 27 q = nI x) → F_X5_readPerson_22 N (nI np) (nI j) c = some (0, sV (sV c 23 2 (nI 4)) 23 3 (c.1 23 6)) ∧ F_X8_takePerson_20 N (nI np) 0 (nI j) m = F_X8_takePerson_62 (nI np) (nI 4) (sV m 59 19 (m.1 59 24))) ∧ (¬ (∃ q, j ≤ q ∧ q < np ∧ c.1 27 q = nI x) → (∃ M, F_X5_readPerson_22 N (nI np) (nI j) c = F_X5_readPerson_22 (M + 1) (nI np) (nI np) c) ∧ F_X8_takePerson_20 N (nI np) 0 (nI j) m = F_X8_takePerson_62 (nI np) 0 m)) ?_ ?_
  · intro N _
    refine ⟨fun ⟨q, h1, h2, _⟩ => by omega, fun _ => ⟨⟨N, rfl⟩, ?_⟩⟩
    rw [F_X8_takePerson_20, if_pos (by rw [leN (by omega) (by omega)]; omega)]
  · intro N j hj ih hN
    have hj6 : j < 6 := by omega
    obtain ⟨ih1, ih2⟩ := ih (by omega)
    have nle : ¬ nI np ≤ nI j := nI_ge hj (by omega)
    by_cases d : c.1 27 j = nI x
    · refine ⟨fun _ => ⟨?_, ?_⟩, fun q => absurd ⟨j, by omega, hj, d⟩ q⟩
      · rw [F_X5_readPerson_22, if_neg nle, g6 hj6, c6 hj6, d, e7, if_pos rfl, P_isFault, obs]
        exact gb0' _
      · rw [F_X8_takePerson_20, if_neg nle, if_pos rfl, g6 hj6, c6 hj6, ← hag j hj, d, e23, if_pos rfl, M_fails, obs, F_X8_takePerson_55]
        dsimp only
        obtain ⟨N, rfl⟩ : ∃ M, N = M + 1 := ⟨N - 1, by omega⟩
        rw [F_X8_takePerson_20]
        split
        · rfl
        · rw [if_neg (by decide)]; rfl
    · have sc : F_X5_readPerson_22 (N + 1) (nI np) (nI j) c = F_X5_readPerson_22 N (nI np) (nI (j + 1)) c := by
        rw [F_X5_readPerson_22, if_neg nle, g6 hj6, c6 hj6, e7, if_neg d, nI_1]
      have sm : F_X8_takePerson_20 (N + 1) (nI np) 0 (nI j) m = F_X8_takePerson_20 N (nI np) 0 (nI (j + 1)) m := by
        rw [F_X8_takePerson_20, if_neg nle, if_pos rfl, g6 hj6, c6 hj6, ← hag j hj, e23, if_neg d, F_X8_takePerson_55, nI_1]
      rw [sc, sm]
      refine ⟨fun ⟨q, h1, h2, h3⟩ => ih1 ⟨q, ?_, h2, h3⟩, fun z => ih2 (fun ⟨q, h1, h2, h3⟩ => z ⟨q, by omega, h2, h3⟩)⟩
      by_cases cq : q = j
      · subst cq; exact absurd h3 d
      · omega
theorem person_both {T : Nat → Nat} {len nr np nf : Nat} {pcs : Nat → Nat} {a a0 : Nat} {c m c0 m0 : St} (hp : np < 6) (h : RDR T len nr nr np nf pcs a c m) (ha0 : a0 ≤ a) (wc : WC c0 c) (wm : WM m0 m) : OKR T len a0 c0 m0 (F_X5_readPerson c) ((F_X8_takePerson m).bind (fun q => F_X8_takeClause_201 q.1 q.2)) := by
  have g : ∀ {α : Type} {x : Option α}, gi (nI np) 6 x = x := g6 hp
  have cl : (nI np).toNatClampNeg = np := c6 hp
  have hDR := h.2.1
  rw [F_X5_readPerson, F_X5_readPerson_0, hDR.2.1.2.1, F_X8_takePerson, F_X8_takePerson_0, hDR.2.2.1.2.1]
  rcases into_both h hp 0 99 (ac := 27) (am := 75) (by omega) (by omega) rfl with ⟨c1, m1, b1, x1, p1, p2, p3, p4, p5, p6, p7, p8, p9, p10, p11, p12, p13, p14⟩ | ⟨c1, m1, e, p2, p3, w1, w2, fl⟩
  · rw [p2, obs, p3, obs]
    dsimp only
    rw [if_neg (by decide)]
    have hx1 : x1 ≤ 99 := by rw [show (99 : Int32).toInt = 99 from rfl] at p8; omega
    obtain ⟨D1, D2⟩ := dup_both (np := np) (x := x1) (c := c1) (m := m1) hp p4 p5 (fun p hp' => by
      obtain ⟨y, y1, y2, y3⟩ := (p10.2.1.2.2.2.2.1 p hp').1
      rw [sV_f (by omega)] at y2
      rw [y2, y3]) fN 0 (by omega) (by have := fN_big; omega) (by have := fN_big; omega)
    by_cases dup : ∃ q, 0 ≤ q ∧ q < np ∧ c1.1 27 q = nI x1
    · obtain ⟨d1, d2⟩ := D1 dup
      rw [show F_X5_readPerson_22 fN (nI np) 0 c1 = _ from d1, show F_X8_takePerson_20 fN (nI np) 0 0 m1 = _ from d2, M_62f (by omega) (by omega), p9]
      exact OKR_p (FL_mk (by omega) (by omega) _ _ _) ((wc.trans p11.w).trans ((WC_sV _ _ _).trans (WC_sV _ _ _))) ((wm.trans p14).trans (WM_sV _ (by omega) _))
    · obtain ⟨⟨M, d1⟩, d2⟩ := D2 dup
      rw [show F_X5_readPerson_22 fN (nI np) 0 c1 = F_X5_readPerson_22 (M + 1) (nI np) (nI np) c1 from d1, show F_X8_takePerson_20 fN (nI np) 0 0 m1 = F_X8_takePerson_62 (nI np) 0 m1 from d2]
      rw [F_X5_readPerson_22, if_pos (show nI np ≤ nI np by rw [leN (by omega) (by omega)]; omega), g, cl, p4, F_X8_takePerson_62, if_pos (show (0 : Int32) ≤ 0 by decide)]
      simp only [bs]
      have k1 : WC c (sV c1 27 np (nI x1)) := p11.w.trans (WC_sD _ (by omega) _ _)
      rcases into_both p10 hp 20 90 (ac := 28) (am := 76) (by omega) (by omega) rfl with ⟨c2, m2, b2, x2, q1, q2, q3, q4, q5, q6, q7, q8, q9, q10, q11, q12, q13, q14⟩ | ⟨c2, m2, e, q2, q3, w1, w2, fl⟩
      · rw [q2, obs, q3, obs]
        dsimp only
        rw [if_neg (by decide), g, q4, F_X8_takePerson_83, if_pos (show (0 : Int32) ≤ 0 by decide)]
        have k2 : WC c (sV c2 28 np (nI x2)) := k1.trans (q11.w.trans (WC_sD _ (by omega) _ _))
        have l2 := p14.trans q14
        rcases into_both q10 hp 0 40 (ac := 29) (am := 77) (by omega) (by omega) rfl with ⟨c3, m3, b3, x3, r1, r2, r3, r4, r5, r6, r7, r8, r9, r10, r11, r12, r13, r14⟩ | ⟨c3, m3, e, r2, r3, w1, w2, fl⟩
        · rw [r2, obs, r3, obs]
          dsimp only
          rw [if_neg (by decide), g, r4, F_X8_takePerson_104, if_pos (show (0 : Int32) ≤ 0 by decide)]
          have k3 : WC c (sV c3 29 np (nI x3)) := k2.trans (r11.w.trans (WC_sD _ (by omega) _ _))
          have l3 := l2.trans r14
          rcases into_both r10 hp 0 9 (ac := 30) (am := 78) (by omega) (by omega) rfl with ⟨c4, m4, b4, x4, t1, t2, t3, t4, t5, t6, t7, t8, t9, t10, t11, t12, t13, t14⟩ | ⟨c4, m4, e, t2, t3, w1, w2, fl⟩
          · rw [t2, obs, t3, obs]
            dsimp only
            rw [if_neg (by decide), g, t4, F_X8_takePerson_125]
            simp only [bs]
            have hD4 := t10.2.1
            rw [hD4.2.1.2.1, hD4.2.2.1.2.1, nI_1, obs]
            dsimp only
            obtain ⟨c5, hc5⟩ : ∃ c5, c5 = sV c4 30 np (nI x4) := ⟨_, rfl⟩
            rw [← hc5] at t10 hD4 ⊢
            have k5 : WC c c5 := by rw [hc5]; exact k3.trans (t11.w.trans (WC_sD _ (by omega) _ _))
            have l5 := l3.trans t14
            have z30 : c5.1 30 np = nI x4 := by rw [hc5, sV_g]
            have z29 : c5.1 29 np = nI x3 := by rw [hc5, sV_off (by omega), t11.1 29 (by omega), sV_g]
            have z28 : c5.1 28 np = nI x2 := by rw [hc5, sV_off (by omega), t11.1 28 (by omega), sV_off (by omega), r11.1 28 (by omega), sV_g]
            have z27 : c5.1 27 = (sV c1 27 np (nI x1)).1 27 := by rw [hc5, sV_off (by omega), t11.1 27 (by omega), sV_off (by omega), r11.1 27 (by omega), sV_off (by omega), q11.1 27 (by omega)]
            have y78 : m4.1 78 np = nI x4 := t12
            have y77 : m4.1 77 np = nI x3 := by rw [t13 77 (by omega) (by omega)]; exact r12
            have y76 : m4.1 76 np = nI x2 := by rw [t13 76 (by omega) (by omega), r13 76 (by omega) (by omega)]; exact q12
            have y75 : m4.1 75 np = nI x1 := by rw [t13 75 (by omega) (by omega), r13 75 (by omega) (by omega), q13 75 (by omega) (by omega)]; exact p12
            have hR5 : RDR T len nr nr (np + 1) nf pcs b4 (sV c5 24 1 (nI (np + 1))) (sV m4 59 28 (nI (np + 1))) := by
              obtain ⟨h1, ⟨⟨d1, d2, d3⟩, ⟨d4, d5, d6⟩, ⟨d7, d8, d9⟩, d10, d11, d12, d13⟩, h3, h4, h5, h6, h7, h8⟩ := t10
              have eC : ∀ i, i ≠ 24 → (sV c5 24 1 (nI (np + 1))).1 i = c5.1 i := fun i hi => sV_off hi
              have eM : ∀ i, i ≠ 59 → (sV m4 59 28 (nI (np + 1))).1 i = m4.1 i := fun i hi => sV_off hi
              refine ⟨h1.w (WC_sD _ (by omega) _ _) (by rw [eC 23 (by omega)]) (WM_sV _ (by omega) _), ⟨⟨d1, by omega, d3⟩, ⟨by rw [sV_f (by omega)]; exact d4, sV_g _ _ _ _, by rw [sV_f (by omega)]; exact d6⟩, ⟨by rw [sV_f (by omega)]; exact d7, sV_g _ _ _ _, by rw [sV_f (by omega)]; exact d9⟩, ?_, fun p hp' => ?_, fun p q hp' hq' e => ?_, ?_⟩, h3, by rw [eC 23 (by omega)]; exact h4, by rw [sV_f (by omega)]; exact h5, by rw [eC 23 (by omega)]; exact h6, by rw [eC 23 (by omega)]; exact h7, by rw [sV_f (by omega)]; exact h8⟩
              · rw [eC 25 (by omega), eC 26 (by omega), eM 73 (by omega), eM 74 (by omega)]; exact d10
              · rw [eC 27 (by omega), eC 28 (by omega), eC 29 (by omega), eC 30 (by omega), eM 75 (by omega), eM 76 (by omega), eM 77 (by omega), eM 78 (by omega)]
                by_cases cp : p = np
                · subst cp
                  rw [show (90 : Int32).toInt = 90 from rfl] at q8
                  rw [show (20 : Int32).toInt = 20 from rfl] at q7
                  rw [show (40 : Int32).toInt = 40 from rfl] at r8
                  rw [show (9 : Int32).toInt = 9 from rfl] at t8
                  exact ⟨⟨x1, hx1, by rw [z27, sV_g], y75⟩, ⟨x2, by omega, by omega, z28, y76⟩, ⟨x3, by omega, z29, y77⟩, ⟨x4, by omega, z30, y78⟩⟩
                · exact d11 p (by omega)
              · rw [eC 27 (by omega)] at e
                by_cases cp : p = np
                · by_cases cq : q = np
                  · rw [cp, cq]
                  · exfalso
                    rw [cp, z27, sV_g, sV_f cq] at e
                    exact dup ⟨q, by omega, by omega, e.symm⟩
                · by_cases cq : q = np
                  · exfalso
                    rw [cq, z27, sV_g, sV_f cp] at e
                    exact dup ⟨p, by omega, by omega, e⟩
                  · exact d12 p q (by omega) (by omega) e
              · rw [eC 31 (by omega), eM 79 (by omega)]; exact d13
            have q := end_both hR5 (a0 := a0) (c0 := c0) (m0 := m0) (by omega) ((wc.trans k5).trans (WC_sD _ (by omega) _ _)) ((wm.trans l5).trans (WM_sV _ (by omega) _))
            have eg : (F_X5_readEnd (sV c5 24 1 (nI (np + 1)))).bind (fun q14 => gb q14.1 (some (q14.1, q14.2))) = F_X5_readEnd (sV c5 24 1 (nI (np + 1))) := by
              rcases q with ⟨c3, m3, _, _, _, _, _, z1, _⟩ | ⟨c3, m3, _, z1, _⟩
              · rw [z1, obs]; exact gb1' _
              · rw [z1, obs]; exact gb0' _
            rw [eg]
            exact q
          · rw [t2, obs, t3, obs]
            dsimp only
            rw [if_pos rfl, F_X8_takePerson_125]
            simp only [bs]
            exact OKR_p fl ((wc.trans k3).trans w1) ((wm.trans l3).trans w2)
        · rw [r2, obs, r3, obs]
          dsimp only
          rw [if_pos rfl, M_104f fl.1 fl.2.1]
          exact OKR_p fl ((wc.trans k2).trans w1) ((wm.trans l2).trans w2)
      · rw [q2, obs, q3, obs]
        dsimp only
        rw [if_pos rfl, M_83f fl.1 fl.2.1]
        exact OKR_p fl ((wc.trans k1).trans w1) ((wm.trans p14).trans w2)
  · rw [p2, obs, p3, obs]
    dsimp only
    rw [if_pos rfl]
    obtain ⟨M, hM, -⟩ := fN_succ
    have : F_X8_takePerson_20 fN (nI np) (nI e) 0 m1 = F_X8_takePerson_62 (nI np) (nI e) m1 := by
      rw [hM, F_X8_takePerson_20]
      split
      · rfl
      · rw [if_neg (nI_ne0 (by have := fl.1; omega) (by have := fl.2.1; omega))]
    rw [this, M_62f fl.1 fl.2.1]
    exact OKR_p fl (wc.trans w1) (wm.trans w2)

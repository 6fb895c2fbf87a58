/-! PURE: house, both sides -/
theorem R.ft {k n : Nat} {pc : Nat → Nat} {b b' : Nat} {st st' : St} (h : R k n pc b st) (hb : b ≤ b') (e : ∀ a, (1 ≤ a ∧ a ≤ 22) ∨ (32 ≤ a ∧ a ≤ 58) ∨ (60 ≤ a ∧ a ≤ 72) ∨ 80 ≤ a → st'.1 a = st.1 a) (e59 : ∀ j, j < 18 ∨ 34 ≤ j → st'.1 59 j = st.1 59 j) (ht : TextR st') (hf : st'.1 0 11 = st'.1 59 19) : R k n pc b' st' := by
  have hn : n ≤ 6 := h.1.1.2.1
  refine ⟨h.house.cg (fun i hi => e i (by omega)) (e59 0 (by omega)) (e59 3 (by omega)) (e59 8 (by omega)), ?_, ht, hf, ?_, ⟨((h.imgs.1).cg hn (by omega) (fun i hi => e i (by omega)) (fun j _ => by rw [e 92 (by omega)])).mono hb, ((h.imgs.2).cg hn (by omega) (fun i hi => e i (by omega)) (fun j _ => by rw [e 92 (by omega)])).mono hb⟩, ?_⟩
  · have := ScR.mono h.scene hb
    unfold SceneR
    rw [vC_cg (s := st) (fun a a1 a2 => e a (by omega)), vM_cg (s := st) (fun a a1 a2 => e a (by omega)), e 4 (by omega), e 9 (by omega), e59 10 (by omega), e59 16 (by omega)]
    exact this
  · obtain ⟨m, t⟩ := h.book
    refine ⟨m, ?_⟩
    rw [e 41 (by omega), e 42 (by omega), e 43 (by omega), e 44 (by omega), e 89 (by omega), e 90 (by omega), e 91 (by omega), e59 45 (by omega)]
    exact t
  · rw [e 3 (by omega), e 4 (by omega), e 6 (by omega), e 36 (by omega), e 37 (by omega)]
    exact h.cache
theorem B_house : Bo F_X7_house F_X8_house := by
  intro k n pc b st hb h
  obtain ⟨g, g0, e1⟩ := P_readAll st
  have big := fN_big
  obtain ⟨T, len, hR⟩ := RDR_start (s := st) (t := st) (f := g) (g := fun _ => 0) h.text g0 (fun _ _ => rfl) ⟨rfl, rfl⟩ ⟨rfl, rfl⟩
  have hlen := hR.1.1
  obtain ⟨c, m0, f0, r1, -, wc, -, -⟩ := read_loop (len + 1) 0 _ _ 0 0 0 (fun _ => 0) 0 fN fN hR (by omega) (by omega) (by omega) (by omega)
  have rd : F_X5_readAll st = some c := by rw [e1]; exact r1
  have ec : ∀ a, a ≠ 23 → (a < 24 ∨ 31 < a) → c.1 a = st.1 a := fun a h1 h2 => by rw [wc a h1 h2, cst_off (by omega)]
  have key : ∀ s1 : St, s1.1 59 18 = st.1 59 18 → s1.1 72 = st.1 72 → ∃ g2 m' f, F_X8_house s1 = F_X8_house_67 f m' ∧ WM (mst s1 g2) m' ∧ ((f = 0 ∧ c.1 23 2 = 0 ∧ c.1 23 3 = -1 ∧ m'.1 59 19 = -1 ∧ ∃ nr np nf pcs, DR nr nr np nf pcs c m') ∨ (∃ e, f = nI e ∧ FL e c m')) := by
    intro s1 t1 t2
    obtain ⟨g2, g20, e2⟩ := M_houseStart s1
    obtain ⟨T, len, hR⟩ := RDR_start (s := st) (t := s1) (f := g) (g := g2) h.text g0 g20 ⟨rfl, rfl⟩ ⟨t1, t2⟩
    have hlen := hR.1.1
    obtain ⟨c', m', f, y1, y2, y3, y4, y5⟩ := read_loop (len + 1) 0 _ _ 0 0 0 (fun _ => 0) 0 fN fN hR (by omega) (by omega) (by omega) (by omega)
    have : c' = c := Option.some.inj (y1.symm.trans r1)
    subst this
    exact ⟨g2, m', f, by rw [e2, y2], y4, y5⟩
  obtain ⟨S, hS⟩ : ∃ S, S = sV (sV c 23 1 0) 0 11 (c.1 23 3) := ⟨_, rfl⟩
  have eS : ∀ a, a ≠ 0 → a ≠ 23 → S.1 a = c.1 a := fun a h1 h2 => by rw [hS, sV_off h1, sV_off h2]
  have eS0 : S.1 0 11 = c.1 23 3 := by rw [hS, sV_g]
  have eS1 : S.1 23 1 = 0 := by rw [hS, sV_off (by omega), sV_g]
  by_cases z : c.1 23 2 = 0
  · obtain ⟨s1, p1, p2, p3, ⟨p4, p5, p6⟩, p7, p8, p9, p10, p11, p12, p13⟩ := P_houseEnd S
    obtain ⟨g2, m', f, q1, q2, q3⟩ := key s1 (by rw [p2 59 (by omega) (by omega) (by omega) (by omega) (by omega), eS 59 (by omega) (by omega), ec 59 (by omega) (by omega)]) (by rw [p2 72 (by omega) (by omega) (by omega) (by omega) (by omega), eS 72 (by omega) (by omega), ec 72 (by omega) (by omega)])
    rcases q3 with ⟨rfl, -, f3, f19, nr, np, nf, pcs, ⟨d1, d2, d3⟩, ⟨d4, d5, d6⟩, ⟨d7, d8, d9⟩, d10, d11, d12, d13⟩ | ⟨e, -, fl⟩
    · obtain ⟨s2, t1, t2, ⟨t3, t4, t5, t6, t7⟩, t8, t9, t10, t11, t12, t13⟩ := M_houseEnd m'
      have es : ∀ i, i < 59 → s2.1 i = s1.1 i := fun i hi => by rw [t2 i (by omega) (by omega) (by omega), q2.1 i (by omega) (by omega), mst_off (by omega)]
      have e5 : ∀ j, j = 10 ∨ j = 16 → s2.1 59 j = st.1 59 j := fun j hj => by rw [t8 j (by omega) (by omega) (by omega) (by omega) (by omega), q2.2 j (by omega), mst_59 (by omega), p2 59 (by omega) (by omega) (by omega) (by omega) (by omega), eS 59 (by omega) (by omega), ec 59 (by omega) (by omega)]
      have eS' : ∀ a, 24 ≤ a → S.1 a = c.1 a := fun a ha => eS a (by omega) (by omega)
      refine ⟨nI np, s1, s2, ?_, ?_, nr, np, pcs, ?_⟩
      · rw [F_X7_house, F_X7_house_0, rd, obs, bse, bse, sV_f (show 3 ≠ 1 by omega), ← hS, if_pos (by rw [hS, sV_off (by omega), sV_f (by omega)]; exact z), p1, eS' 24 (by omega), d5]
      · rw [q1, t1, d8]
      · have hHC : HC nr np pcs s2 := by
          refine ⟨d1, d2, ?_, ?_, fun r hr => ⟨?_, (d10 r hr).2.2.1, (d10 r hr).2.2.2.1⟩⟩
          · rw [es 1 (by omega), p4, eS' 24 (by omega)]; exact d4
          · rw [es 1 (by omega), p5, eS' 24 (by omega)]; exact d5
          · rw [es 2 (by omega), p7 r (by omega), eS' 25 (by omega)]; exact (d10 r hr).1
        have hHM : HM nr np pcs s2 := by
          refine ⟨d1, d2, ?_, ?_, fun r hr => ⟨?_, (d10 r hr).2.2.1, (d10 r hr).2.2.2.1⟩⟩
          · rw [t3]; exact d7
          · rw [t4]; exact d8
          · rw [t9 r (by omega)]; exact (d10 r hr).2.1
        have fl3 : ∀ r, r < nr → ∀ i, i < pcs r → ∃ x, x ≤ 40 ∧ s2.1 3 (r * 6 + i) = nI x ∧ s2.1 61 (r * 6 + i) = nI x := by
          intro r hr i hi
          obtain ⟨x, x1, x2, x3⟩ := (d10 r hr).2.2.2.2 i hi
          have := (d10 r hr).2.2.2.1
          refine ⟨x, x1, ?_, ?_⟩
          · rw [es 3 (by omega), p8 _ (by omega), eS' 26 (by omega)]; exact x2
          · rw [t10 _ (by omega)]; exact x3
        have pv : ∀ p, p < 6 → s2.1 10 p = -1 ∧ s2.1 11 p = -1 ∧ s2.1 12 p = 0 ∧ s2.1 13 p = c.1 27 p ∧ s2.1 14 p = c.1 28 p ∧ s2.1 4 p = c.1 27 p := by
          intro p hp
          obtain ⟨a1, a2, a3, a4, a5, a6, a7, a8⟩ := p9 p hp
          rw [es 10 (by omega), es 11 (by omega), es 12 (by omega), es 13 (by omega), es 14 (by omega), es 4 (by omega), a4, a5, a6, a7, a8, a1, eS' 27 (by omega), eS' 28 (by omega)]
          exact ⟨rfl, rfl, rfl, rfl, rfl, rfl⟩
        refine ⟨⟨hHC, hHM, fun r hr i hi => ?_, fun r hr i hi => ?_, fun p hp => ?_, fun p hp => ?_, ⟨nf, d3, ?_, ?_⟩, fun p q hp hq => ?_⟩, ⟨⟨fun p hp => ?_, fun p h1 h2 => (t11 p h2).2.2.2.2.1⟩, ⟨fun p hp => Or.inr ⟨(pv p (by omega)).1, (pv p (by omega)).2.1⟩, fun p q hp hq e => ?_, fun p h1 h2 => (pv p h2).1, fun p q hp hq _ _ ne => absurd (pv p (by omega)).1 ne⟩, ⟨0, by omega, fun p hp => ?_⟩, fun p hp => ?_, fun p hp _ => (pv p (by omega)).2.2.1, ?_, ?_⟩, ⟨0, by omega, ?_, ?_, fun j hj => by omega⟩, ?_, ⟨0, by omega, ?_, ?_, fun j hj => by omega⟩, ⟨Or.inl ⟨?_, ?_⟩, Or.inl ⟨?_, ?_⟩⟩, fun lw hlw r hr s hs => Or.inl ?_⟩
        · obtain ⟨x, x1, x2, x3⟩ := fl3 r hr i hi
          rw [x2, x3]
        · obtain ⟨x, x1, x2, x3⟩ := fl3 r hr i hi
          rw [x3, nI_toInt (by omega)]; omega
        · obtain ⟨x, x1, x2, x3⟩ := (d11 p hp).2.2.1
          rw [es 6 (by omega), (p9 p (by omega)).2.1, eS' 29 (by omega), (t11 p (by omega)).1, x2, x3, nI_toInt (by omega)]
          exact ⟨rfl, by omega, by omega⟩
        · obtain ⟨x, x1, x2, x3⟩ := (d11 p hp).2.2.2
          rw [es 7 (by omega), (p9 p (by omega)).2.2.1, eS' 30 (by omega), (t11 p (by omega)).2.1, x2, x3, nI_toInt (by omega)]
          exact ⟨rfl, by omega, by omega⟩
        · rw [es 1 (by omega), p6, eS' 24 (by omega)]; exact d6
        · rw [t5]; exact d9
        · obtain ⟨x, x1, x2, x3, x4⟩ := d13 p q (by omega) (by omega)
          refine ⟨x, x1, ?_, ?_, ?_⟩
          · rw [es 8 (by omega), p10 _ (by omega), eS' 31 (by omega)]; exact x2
          · rw [t12 _ (by omega)]; exact x3
          · rw [t12 _ (by omega)]; exact x4
        · obtain ⟨a1, a2, a3, a4, a5, a6⟩ := pv p (by omega)
          obtain ⟨b1, b2, b3, b4, b5, b6, b7⟩ := t11 p (by omega)
          obtain ⟨⟨x, x1, x2, x3⟩, ⟨y, y1, y2, y3, y4⟩, -⟩ := d11 p hp
          show s2.1 10 p = s2.1 69 p ∧ s2.1 11 p = s2.1 70 p ∧ s2.1 13 p = s2.1 67 p ∧ s2.1 14 p = s2.1 68 p ∧ s2.1 12 p = s2.1 71 p
          rw [a1, a2, a3, a4, a5, b3, b4, b5, b6, b7, x2, x3, y3, y4]
          exact ⟨rfl, rfl, rfl, rfl, rfl⟩
        · change s2.1 13 p = s2.1 13 q at e
          rw [(pv p (by omega)).2.2.2.1, (pv q (by omega)).2.2.2.1] at e
          exact d12 p q hp hq e
        · obtain ⟨⟨x, x1, x2, x3⟩, -⟩ := d11 p hp
          refine ⟨x, x1, ?_, ?_⟩
          · rw [(pv p (by omega)).2.2.2.2.2]; exact x2
          · show s2.1 13 p = _
            rw [(pv p (by omega)).2.2.2.1]; exact x2
        · obtain ⟨-, ⟨y, y1, y2, y3, y4⟩, -⟩ := d11 p hp
          show 20 ≤ (s2.1 14 p).toInt ∧ (s2.1 14 p).toInt ≤ 90
          rw [(pv p (by omega)).2.2.2.2.1, y3, nI_toInt (by omega)]; omega
        · obtain ⟨lw, l1, l2, l3⟩ := h.scene.2.2.2.2.2.1
          refine ⟨lw, l1, ?_, ?_⟩
          · rw [es 9 (by omega), p3, eS 9 (by omega) (by omega), ec 9 (by omega) (by omega)]; exact l2
          · rw [e5 10 (by omega)]; exact l3
        · obtain ⟨sd, l1, l2, l3⟩ := h.scene.2.2.2.2.2.2
          refine ⟨sd, l1, ?_, ?_⟩
          · rw [es 9 (by omega), p3, eS 9 (by omega) (by omega), ec 9 (by omega) (by omega)]; exact l2
          · rw [e5 16 (by omega)]; exact l3
        · rw [es 23 (by omega), p2 23 (by omega) (by omega) (by omega) (by omega) (by omega), eS1]; rfl
        · rw [t6]; rfl
        · rw [es 0 (by omega), p2 0 (by omega) (by omega) (by omega) (by omega) (by omega), eS0, f3, t8 19 (by omega) (by omega) (by omega) (by omega) (by omega), f19]
        · rw [es 41 (by omega), p12]; rfl
        · rw [t7]; rfl
        · rw [es 58 (by omega), p13 0 (by omega)]
        · rw [t13 0 (by omega)]
        · rw [es 58 (by omega), p13 1 (by omega)]
        · rw [t13 1 (by omega)]
        · have h64 := (one_n np d2).2.1
          rw [es 36 (by omega), p11 _ (by omega)]
    · exact absurd (fl.2.2.1.symm.trans z) (nI_ne0 (by have := fl.1; omega) (by have := fl.2.1; omega))
  · obtain ⟨g2, m', f, q1, q2, q3⟩ := key S (by rw [eS 59 (by omega) (by omega), ec 59 (by omega) (by omega)]) (by rw [eS 72 (by omega) (by omega), ec 72 (by omega) (by omega)])
    rcases q3 with ⟨-, q4, -⟩ | ⟨e, rfl, fl⟩
    · exact absurd q4 z
    · refine ⟨-10 - nI e, S, sV m' 59 18 0, ?_, ?_, k, n, pc, ?_⟩
      · rw [F_X7_house, F_X7_house_0, rd, obs, bse, bse, sV_f (show 3 ≠ 1 by omega), ← hS, if_neg (by rw [hS, sV_off (by omega), sV_f (by omega)]; exact z), show S.1 23 2 = nI e by rw [hS, sV_off (by omega), sV_f (by omega)]; exact fl.2.2.1]
      · rw [q1, F_X8_house_67, bse, if_neg (nI_nle (by have := fl.1; omega) (by have := fl.2.1; omega))]
      · have up : ∀ i, i ≠ 59 → (i < 73 ∨ 79 < i) → (sV m' 59 18 0).1 i = S.1 i := fun i h1 h2 => by rw [sV_off h1, q2.1 i h1 h2, mst_off (by omega)]
        refine h.ft (by omega) (fun a ha => ?_) (fun j hj => ?_) ⟨0, by omega, ?_, by rw [sV_g]; rfl, fun j hj => by omega⟩ ?_
        · rw [up a (by omega) (by omega), eS a (by omega) (by omega), ec a (by omega) (by omega)]
        · rw [sV_f (by omega), q2.2 j (by omega), mst_59 (by omega), eS 59 (by omega) (by omega), ec 59 (by omega) (by omega)]
        · rw [up 23 (by omega) (by omega), eS1]; rfl
        · rw [up 0 (by omega) (by omega), eS0, sV_f (by omega)]
          exact fl.2.2.2

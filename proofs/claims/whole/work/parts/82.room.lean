/-! PURE: the draft of a house of both; ends of clauses; rooms -/
def DR (nr nrm np nf : Nat) (pcs : Nat → Nat) (c m : St) : Prop :=
  (nr ≤ 3 ∧ np ≤ 6 ∧ nf ≤ 15) ∧ (c.1 24 0 = nI nr ∧ c.1 24 1 = nI np ∧ c.1 24 2 = nI nf) ∧ (m.1 59 25 = nI nrm ∧ m.1 59 28 = nI np ∧ m.1 59 33 = nI nf) ∧
  (∀ r, r < nr → c.1 25 r = nI (pcs r) ∧ m.1 73 r = nI (pcs r) ∧ 1 ≤ pcs r ∧ pcs r ≤ 6 ∧ ∀ i, i < pcs r → ∃ x, x ≤ 40 ∧ c.1 26 (r * 6 + i) = nI x ∧ m.1 74 (r * 6 + i) = nI x) ∧
  (∀ p, p < np → (∃ x, x ≤ 99 ∧ c.1 27 p = nI x ∧ m.1 75 p = nI x) ∧ (∃ x, 20 ≤ x ∧ x ≤ 90 ∧ c.1 28 p = nI x ∧ m.1 76 p = nI x) ∧ (∃ x, x ≤ 40 ∧ c.1 29 p = nI x ∧ m.1 77 p = nI x) ∧ (∃ x, x ≤ 9 ∧ c.1 30 p = nI x ∧ m.1 78 p = nI x)) ∧
  (∀ p q, p < np → q < np → c.1 27 p = c.1 27 q → p = q) ∧
  (∀ p q, p < 6 → q < 6 → ∃ x, x ≤ 99 ∧ c.1 31 (p * 6 + q) = nI x ∧ m.1 79 (p * 6 + q) = nI x ∧ m.1 79 (q * 6 + p) = nI x)
theorem DR.cg {nr nrm np nf : Nat} {pcs : Nat → Nat} {c m c' m' : St} (h : DR nr nrm np nf pcs c m) (e24 : c'.1 24 = c.1 24) (e59 : ∀ j, j = 25 ∨ j = 28 ∨ j = 33 → m'.1 59 j = m.1 59 j) (e25 : ∀ r, r < nr → c'.1 25 r = c.1 25 r) (e73 : ∀ r, r < nr → m'.1 73 r = m.1 73 r) (e26 : ∀ i, i < nr * 6 → c'.1 26 i = c.1 26 i) (e74 : ∀ i, i < nr * 6 → m'.1 74 i = m.1 74 i) (eC : ∀ a, 27 ≤ a → a ≤ 30 → ∀ p, p < np → c'.1 a p = c.1 a p) (eM : ∀ a, 75 ≤ a → a ≤ 78 → ∀ p, p < np → m'.1 a p = m.1 a p) (e31 : c'.1 31 = c.1 31) (e79 : m'.1 79 = m.1 79) : DR nr nrm np nf pcs c' m' := by
  obtain ⟨h1, h2, h3, h4, h5, h6, h7⟩ := h
  refine ⟨h1, ?_, ?_, fun r hr => ?_, fun p hp => ?_, fun p q hp hq e => ?_, ?_⟩
  · rw [e24]; exact h2
  · rw [e59 25 (by omega), e59 28 (by omega), e59 33 (by omega)]; exact h3
  · obtain ⟨a1, a2, a3, a4, a5⟩ := h4 r hr
    refine ⟨by rw [e25 r hr]; exact a1, by rw [e73 r hr]; exact a2, a3, a4, fun i hi => ?_⟩
    rw [e26 _ (by omega), e74 _ (by omega)]
    exact a5 i hi
  · rw [eC 27 (by omega) (by omega) p hp, eC 28 (by omega) (by omega) p hp, eC 29 (by omega) (by omega) p hp, eC 30 (by omega) (by omega) p hp, eM 75 (by omega) (by omega) p hp, eM 76 (by omega) (by omega) p hp, eM 77 (by omega) (by omega) p hp, eM 78 (by omega) (by omega) p hp]
    exact h5 p hp
  · rw [eC 27 (by omega) (by omega) p hp, eC 27 (by omega) (by omega) q hq] at e
    exact h6 p q hp hq e
  · rw [e31, e79]; exact h7
theorem DR.k {nr nrm np nf : Nat} {pcs : Nat → Nat} {c m c' m' : St} (h : DR nr nrm np nf pcs c m) (hc : KC c c') (hm : KM m m') : DR nr nrm np nf pcs c' m' :=
  h.cg (hc.1 24 (by omega)) (fun j hj => hm.2 j (by omega) (by omega) (by omega) (by omega)) (fun r _ => by rw [hc.1 25 (by omega)]) (fun r _ => by rw [hm.1 73 (by omega)]) (fun r _ => by rw [hc.1 26 (by omega)]) (fun r _ => by rw [hm.1 74 (by omega)]) (fun a a1 a2 p _ => by rw [hc.1 a (by omega)]) (fun a a1 a2 p _ => by rw [hm.1 a (by omega)]) (hc.1 31 (by omega)) (hm.1 79 (by omega))
/-- both have read without fault, up to a -/
def RDR (T : Nat → Nat) (len nr nrm np nf : Nat) (pcs : Nat → Nat) (a : Nat) (c m : St) : Prop := TX T len c m ∧ DR nr nrm np nf pcs c m ∧ a ≤ len ∧ c.1 23 5 = nI a ∧ m.1 59 20 = nI a ∧ c.1 23 2 = 0 ∧ c.1 23 3 = -1 ∧ m.1 59 19 = -1
/-- both went on, or both have one fault -/
def OKR (T : Nat → Nat) (len a0 : Nat) (c0 m0 : St) (x y : Option (Int32 × St)) : Prop := (∃ c m nr np nf pcs b, x = some (1, c) ∧ y = some (0, m) ∧ RDR T len nr nr np nf pcs b c m ∧ a0 < b ∧ WC c0 c ∧ WM m0 m) ∨ (∃ c m e, x = some (0, c) ∧ y = some (nI e, m) ∧ FL e c m ∧ WC c0 c ∧ WM m0 m)
theorem RDR.k {T : Nat → Nat} {len nr nrm np nf : Nat} {pcs : Nat → Nat} {a b : Nat} {c m c' m' : St} (h : RDR T len nr nrm np nf pcs a c m) (hc : KC c c') (hm : KM m m') (hb : b ≤ len) (e5 : c'.1 23 5 = nI b) (e20 : m'.1 59 20 = nI b) : RDR T len nr nrm np nf pcs b c' m' := by
  obtain ⟨h1, h2, h3, h4, h5, h6, h7, h8⟩ := h
  refine ⟨h1.k hc hm, h2.k hc hm, hb, e5, e20, ?_, ?_, ?_⟩
  · rw [hc.2 2 (by omega) (by omega) (by omega)]; exact h6
  · rw [hc.2 3 (by omega) (by omega) (by omega)]; exact h7
  · rw [hm.2 19 (by omega) (by omega) (by omega) (by omega)]; exact h8
theorem end_both {T : Nat → Nat} {len nr np nf : Nat} {pcs : Nat → Nat} {a a0 : Nat} {c m c0 m0 : St} (h : RDR T len nr nr np nf pcs a c m) (ha0 : a0 ≤ a) (wc : WC c0 c) (wm : WM m0 m) : OKR T len a0 c0 m0 (F_X5_readEnd c) (F_X8_takeClause_201 0 m) := by
  have hR := h
  obtain ⟨h1, h2, h3, h4, h5, h6, h7, h8⟩ := h
  have hl := h1.1
  obtain ⟨b, hv, b1, b2, b3, b4⟩ := sign_both h1 h3 h4 h5 (ch := 59) (by omega)
  rw [F_X5_readEnd, F_X5_readEnd_0, show (59 : Int32) = nI 59 from rfl, F_X8_takeClause_201, if_pos rfl, b3, obs]
  dsimp only
  rcases b4 with ⟨q1, q2, q3⟩ | ⟨q2, q3⟩
  · left
    rw [q3, obs]
    dsimp only
    rw [if_neg (by decide), if_pos (show hv = 59 from q2), F_X5_readEnd_21, F_X5_readEnd_26, gb1', F_X8_takeClause_225]
    simp only [bs]
    rw [sV_g, sV_sV, nI_1]
    exact ⟨_, _, nr, np, nf, pcs, b + 1, rfl, rfl, hR.k (KC_sV c (by omega) _) (KM_sV m (by omega) _) (by omega) (sV_g _ _ _ _) (sV_g _ _ _ _), by omega, wc.trans (WC_sV _ _ _), wm.trans (WM_sV _ (by omega) _)⟩
  · right
    rw [q3, obs]
    dsimp only
    rw [if_pos rfl, P_isFault, obs, if_neg (show ¬ hv = 59 from q2), M_fails, obs, sV_g, sV_g]
    dsimp only
    rw [if_pos rfl, F_X5_readEnd_26, gb0']
    exact ⟨_, _, 1, rfl, rfl, FL_mk (by omega) (by omega) _ _ _, wc.trans ((WC_sV _ _ _).trans ((WC_sV _ _ _).trans (WC_sV _ _ _))), wm.trans ((WM_sV _ (by omega) _).trans (WM_sV _ (by omega) _))⟩
theorem M_201f {e : Nat} (h1 : 1 ≤ e) (h2 : e ≤ 4) (m : St) : F_X8_takeClause_201 (nI e) m = some (nI e, sV m 59 20 (m.1 59 20 + 1)) := by
  rw [F_X8_takeClause_201, if_neg (nI_ne0 (by omega) (by omega))]
  rfl
/-- a fault goes through -/
theorem OKR_f {T : Nat → Nat} {len a0 : Nat} {c0 m0 c m : St} {e : Nat} (h : FL e c m) (wc : WC c0 c) (wm : WM m0 m) : OKR T len a0 c0 m0 (some (0, c)) (F_X8_takeClause_201 (nI e) m) := by
  right
  rw [M_201f h.1 h.2.1]
  refine ⟨_, _, e, rfl, rfl, ⟨h.1, h.2.1, h.2.2.1, ?_⟩, wc, wm.trans (WM_sV _ (by omega) _)⟩
  rw [sV_f (by omega)]
  exact h.2.2.2
theorem room_loop {T : Nat → Nat} {len nr np nf : Nat} {pcs : Nat → Nat} {a0 : Nat} {c0 m0 : St} (hr : nr < 3) : ∀ d j N N' a c m, j + d = 7 → d < N → d < N' → RDR T len nr (nr + 1) np nf pcs a c m → m.1 73 nr = nI j → (∀ i, i < j → ∃ x, x ≤ 40 ∧ c.1 26 (nr * 6 + i) = nI x ∧ m.1 74 (nr * 6 + i) = nI x) → a0 ≤ a → WC c0 c → WM m0 m → 1 ≤ d → OKR T len a0 c0 m0 (F_X5_readRoom_15 N (nI nr) (nI j) 1 (nI j) c) ((F_X8_takeRoom_24 N' (nI nr) 1 m).bind (fun q => F_X8_takeClause_201 q.1 q.2)) := by
  intro d
  induction d with
  | zero => intro j N N' a c m _ _ _ _ _ _ _ _ _ h; omega
  | succ d ih =>
    intro j N N' a c m hj hN hN' h h73 hfl ha0 wc wm _
    obtain ⟨N, rfl⟩ : ∃ M, N = M + 1 := ⟨N - 1, by omega⟩
    obtain ⟨N', rfl⟩ : ∃ M, N' = M + 1 := ⟨N' - 1, by omega⟩
    have g3 : ∀ {α : Type} {x : Option α}, gi (nI nr) 3 x = x := gi_in hr (by decide)
    have c3 : (nI nr).toNatClampNeg = nr := clN (by omega)
    have hl := h.1.1
    rw [F_X5_readRoom_15, if_neg (show ¬ (6 : Int32) < nI j by rw [litN 6, ltN (by omega) (by omega)]; omega), if_neg (by decide), F_X8_takeRoom_24, if_neg (by decide)]
    rcases num_both h.1 h.2.2.1 h.2.2.2.1 h.2.2.2.2.1 0 40 with ⟨c', m', b, x, b1, b2, b3, b4, kc, km, b5, b6, b7, b8, b9, b10, b11, b12⟩ | ⟨c', m', e, b3, b4, w1, w2, fl⟩
    · have hR := h.k kc km b2 b5 b6
      have hx : x ≤ 40 := by rw [show (40 : Int32).toInt = 40 from rfl] at b11; omega
      have h73' : m'.1 73 nr = nI j := by rw [km.1 73 (by omega)]; exact h73
      have hfl' : ∀ i, i < j → ∃ x, x ≤ 40 ∧ c'.1 26 (nr * 6 + i) = nI x ∧ m'.1 74 (nr * 6 + i) = nI x := by rw [kc.1 26 (by omega), km.1 74 (by omega)]; exact hfl
      rw [b3, obs, b4, obs]
      dsimp only
      rw [if_neg (by decide), if_pos (show (0 : Int32) ≤ 0 by decide), g3, c3, h73']
      by_cases c6 : j < 6
      · have g18 : ∀ {α : Type} {x : Option α}, gi (nI (nr * 6 + j)) 18 x = x := gi_in (by omega) (by decide)
        have c18 : (nI (nr * 6 + j)).toNatClampNeg = nr * 6 + j := clN (by omega)
        rw [if_pos (show nI j < 6 by rw [litN 6, ltN (by omega) (by omega)]; exact c6), if_neg (show ¬ nI j = 6 by rw [litN 6, eqN (by omega) (by omega)]; omega), show nI nr * 6 + nI j = nI (nr * 6 + j) by rw [litN 6, pk_mul, nI_add], show 6 * nI nr + nI j = nI (nr * 6 + j) by rw [litN 6, pk_mul, nI_add, Nat.mul_comm], g18, c18, g3, g18, b8, b9]
        simp only [bs, g3]
        rw [sV_off (show 73 ≠ 74 by omega), h73', nI_1]
        obtain ⟨c1, hc1⟩ : ∃ c1, c1 = sV c' 26 (nr * 6 + j) (nI x) := ⟨_, rfl⟩
        obtain ⟨m1, hm1⟩ : ∃ m1, m1 = sV (sV m' 74 (nr * 6 + j) (nI x)) 73 nr (nI (j + 1)) := ⟨_, rfl⟩
        rw [← hc1, ← hm1]
        have wc1 : WC c' c1 := by rw [hc1]; exact WC_sD _ (by omega) _ _
        have wm1 : WM m' m1 := by rw [hm1]; exact (WM_sD _ (by omega) _ _).trans (WM_sD _ (by omega) _ _)
        have eC : ∀ a, a ≠ 26 → c1.1 a = c'.1 a := fun a ha => by rw [hc1, sV_off ha]
        have eM : ∀ a, a ≠ 73 → a ≠ 74 → m1.1 a = m'.1 a := fun a ha hb => by rw [hm1, sV_off ha, sV_off hb]
        have hR1 : RDR T len nr (nr + 1) np nf pcs b c1 m1 := by
          obtain ⟨h1, h2, h3, h4, h5, h6, h7, h8⟩ := hR
          refine ⟨h1.w wc1 (by rw [eC 23 (by omega)]) wm1, h2.cg (eC 24 (by omega)) (fun j _ => by rw [eM 59 (by omega) (by omega)]) (fun r _ => by rw [eC 25 (by omega)]) (fun r hr => ?_) (fun i hi => ?_) (fun i hi => ?_) (fun a a1 a2 p _ => by rw [eC a (by omega)]) (fun a a1 a2 p _ => by rw [eM a (by omega) (by omega)]) (eC 31 (by omega)) (eM 79 (by omega) (by omega)), h3, by rw [eC 23 (by omega)]; exact h4, by rw [eM 59 (by omega) (by omega)]; exact h5, by rw [eC 23 (by omega)]; exact h6, by rw [eC 23 (by omega)]; exact h7, by rw [eM 59 (by omega) (by omega)]; exact h8⟩
          · rw [hm1, sV_f (by omega), sV_off (by omega)]
          · rw [hc1, sV_f (by omega)]
          · rw [hm1, sV_off (by omega), sV_f (by omega)]
        have h731 : m1.1 73 nr = nI (j + 1) := by rw [hm1, sV_g]
        have hfl1 : ∀ i, i < j + 1 → ∃ x, x ≤ 40 ∧ c1.1 26 (nr * 6 + i) = nI x ∧ m1.1 74 (nr * 6 + i) = nI x := by
          intro i hi
          by_cases ci : i = j
          · subst ci
            exact ⟨x, hx, by rw [hc1, sV_g], by rw [hm1, sV_off (by omega), sV_g]⟩
          · obtain ⟨y, y1, y2, y3⟩ := hfl' i (by omega)
            exact ⟨y, y1, by rw [hc1, sV_f (by omega)]; exact y2, by rw [hm1, sV_off (by omega), sV_f (by omega)]; exact y3⟩
        obtain ⟨b', hv, s1, s2, s3, s4⟩ := sign_both hR1.1 hR1.2.2.1 hR1.2.2.2.1 hR1.2.2.2.2.1 (ch := 44) (by omega)
        rw [show (44 : Int32) = nI 44 from rfl, s3, obs]
        dsimp only
        rcases s4 with ⟨t1, t2, t3⟩ | ⟨t2, t3⟩
        · rw [t3, obs, if_pos t2, F_X8_takeRoom_107, if_neg (by decide), F_X8_takeRoom_122]
          simp only [bs]
          rw [sV_g, sV_sV, nI_1]
          refine ih (j + 1) N N' (b' + 1) _ _ (by omega) (by omega) (by omega) (hR1.k (KC_sV c1 (by omega) _) (KM_sV m1 (by omega) _) (by omega) (sV_g _ _ _ _) (sV_g _ _ _ _)) (by rw [sV_off (by omega)]; exact h731) (by rw [sV_off (by omega), sV_off (by omega)]; exact hfl1) (by omega) ((wc.trans kc.w).trans (wc1.trans (WC_sV _ _ _))) ((wm.trans km.w).trans (wm1.trans (WM_sV _ (by omega) _))) (by omega)
        · obtain ⟨N, rfl⟩ : ∃ M, N = M + 1 := ⟨N - 1, by omega⟩
          obtain ⟨N', rfl⟩ : ∃ M, N' = M + 1 := ⟨N' - 1, by omega⟩
          rw [t3, obs, if_neg t2, F_X8_takeRoom_107, if_pos rfl, F_X8_takeRoom_122]
          simp only [bs]
          rw [sV_g, sV_sV, Int32.add_zero, F_X8_takeRoom_24, if_pos rfl, obs, F_X5_readRoom_15]
          have e88 : ∀ z : Option (Int32 × St), (if (6 : Int32) < nI (j + 1) then z else if (0 : Int32) = 0 then z else (F_X5_readNumber 0 40 (sV c1 23 5 (nI b'))).bind (fun q3 => if q3.1 = 0 then some (0, q3.2) else if nI (j + 1) < 6 then gi ((nI nr * 6) + nI (j + 1)) 18 (bs (sV q3.2 26 ((nI nr * 6) + nI (j + 1)).toNatClampNeg (q3.2.1 23 7)) (fun st7 => (F_X5_takeSign 44 st7).bind (fun q8 => F_X5_readRoom_15 N (nI nr) (nI (j + 1) + 1) q8.1 (nI (j + 1) + 1) q8.2))) else (F_X5_isFault 4 (q3.2.1 23 6) q3.2).bind (fun q9 => gb q9.1 (some (q9.1, q9.2))))) = z := by
            intro z
            rw [if_pos rfl]
            split <;> rfl
          rw [e88, F_X5_readRoom_88, g3, c3]
          simp only [bs]
          obtain ⟨c2, hc2⟩ : ∃ c2, c2 = sV (sV (sV c1 23 5 (nI b')) 25 nr (nI (j + 1))) 24 0 (nI (nr + 1)) := ⟨_, rfl⟩
          have e240 : (sV (sV c1 23 5 (nI b')) 25 nr (nI (j + 1))).1 24 0 = nI nr := by
            rw [sV_off (by omega), sV_off (by omega)]
            exact hR1.2.1.2.1.1
          rw [e240, nI_1, ← hc2]
          have eC2 : ∀ a, a ≠ 23 → a ≠ 24 → a ≠ 25 → c2.1 a = c1.1 a := fun a h1 h2 h3 => by rw [hc2, sV_off h2, sV_off h3, sV_off h1]
          have e23 : c2.1 23 = (sV c1 23 5 (nI b')).1 23 := by rw [hc2, sV_off (by omega), sV_off (by omega)]
          have wc2 : WC c1 c2 := by rw [hc2]; exact (WC_sV _ _ _).trans ((WC_sD _ (by omega) _ _).trans (WC_sD _ (by omega) _ _))
          have hR2 : RDR T len (nr + 1) (nr + 1) np nf (fun r => if r = nr then j + 1 else pcs r) b' c2 (sV m1 59 20 (nI b')) := by
            obtain ⟨h1, ⟨⟨d1, d2, d3⟩, ⟨d4, d5, d6⟩, ⟨d7, d8, d9⟩, d10, d11, d12, d13⟩, h3, h4, h5, h6, h7, h8⟩ := hR1
            refine ⟨h1.w wc2 (by rw [e23, sV_f (by omega)]) (WM_sV _ (by omega) _), ⟨⟨by omega, d2, d3⟩, ⟨by rw [hc2, sV_g], ?_, ?_⟩, ⟨by rw [sV_f (by omega)]; exact d7, by rw [sV_f (by omega)]; exact d8, by rw [sV_f (by omega)]; exact d9⟩, fun r hr => ?_, fun p hp => ?_, fun p q hp hq e => ?_, ?_⟩, s2, by rw [e23, sV_g], sV_g _ _ _ _, by rw [e23, sV_f (by omega)]; exact h6, by rw [e23, sV_f (by omega)]; exact h7, by rw [sV_f (by omega)]; exact h8⟩
            · rw [hc2, sV_f (by omega), sV_off (by omega), sV_off (by omega)]; exact d5
            · rw [hc2, sV_f (by omega), sV_off (by omega), sV_off (by omega)]; exact d6
            · rw [eC2 26 (by omega) (by omega) (by omega), sV_off (show 73 ≠ 59 by omega), sV_off (show 74 ≠ 59 by omega), show c2.1 25 r = upd (c1.1 25) nr (nI (j + 1)) r by rw [hc2, sV_off (by omega), sV_at, sV_off (by omega)]]
              dsimp only
              by_cases cr : r = nr
              · subst cr
                rw [if_pos rfl, upd_at]
                exact ⟨rfl, h731, by omega, by omega, hfl1⟩
              · rw [if_neg cr, upd_off cr]
                exact d10 r (by omega)
            · rw [eC2 27 (by omega) (by omega) (by omega), eC2 28 (by omega) (by omega) (by omega), eC2 29 (by omega) (by omega) (by omega), eC2 30 (by omega) (by omega) (by omega), sV_off (show 75 ≠ 59 by omega), sV_off (show 76 ≠ 59 by omega), sV_off (show 77 ≠ 59 by omega), sV_off (show 78 ≠ 59 by omega)]
              exact d11 p hp
            · rw [eC2 27 (by omega) (by omega) (by omega)] at e
              exact d12 p q hp hq e
            · rw [eC2 31 (by omega) (by omega) (by omega), sV_off (show 79 ≠ 59 by omega)]
              exact d13
          have q := end_both hR2 (a0 := a0) (c0 := c0) (m0 := m0) (by omega) ((wc.trans kc.w).trans (wc1.trans wc2)) ((wm.trans km.w).trans (wm1.trans (WM_sV _ (by omega) _)))
          have eg : (F_X5_readEnd c2).bind (fun q14 => gb q14.1 (some (q14.1, q14.2))) = F_X5_readEnd c2 := by
            rcases q with ⟨c3, m3, _, _, _, _, _, z1, _⟩ | ⟨c3, m3, _, z1, _⟩
            · rw [z1, obs]; exact gb1' _
            · rw [z1, obs]; exact gb0' _
          rw [eg]
          exact q
      · have ej : j = 6 := by omega
        subst ej
        rw [if_neg (by decide), if_pos (show nI 6 = 6 from rfl), P_isFault, obs, M_fails, obs, obs]
        dsimp only
        rw [gb0', b12]
        exact OKR_f (e := 4) (FL_mk (by omega) (by omega) _ _ _) ((wc.trans kc.w).trans ((WC_sV _ _ _).trans (WC_sV _ _ _))) ((wm.trans km.w).trans (WM_sV _ (by omega) _))
    · rw [b3, obs, b4, obs]
      dsimp only
      rw [if_pos rfl, if_neg (nI_nle (by have := fl.1; omega) (by have := fl.2.1; omega)), obs]
      exact OKR_f fl (wc.trans w1) (wm.trans w2)
theorem room_both {T : Nat → Nat} {len nr np nf : Nat} {pcs : Nat → Nat} {a a0 : Nat} {c m c0 m0 : St} (hr : nr < 3) (h : RDR T len nr nr np nf pcs a c m) (ha0 : a0 ≤ a) (wc : WC c0 c) (wm : WM m0 m) : OKR T len a0 c0 m0 (F_X5_readRoom c) ((F_X8_takeRoom m).bind (fun q => F_X8_takeClause_201 q.1 q.2)) := by
  obtain ⟨h1, h2, h3, h4, h5, h6, h7, h8⟩ := h
  have g3 : ∀ {α : Type} {x : Option α}, gi (nI nr) 3 x = x := gi_in hr (by decide)
  have c3 : (nI nr).toNatClampNeg = nr := clN (by omega)
  rw [F_X5_readRoom, F_X5_readRoom_0, h2.2.1.1, F_X8_takeRoom, F_X8_takeRoom_0, h2.2.2.1.1]
  simp only [bs, g3, c3]
  rw [nI_1]
  obtain ⟨m1, hm1⟩ : ∃ m1, m1 = sV (sV m 59 25 (nI (nr + 1))) 73 nr 0 := ⟨_, rfl⟩
  rw [← hm1]
  have wm1 : WM m m1 := by rw [hm1]; exact (WM_sV _ (by omega) _).trans (WM_sD _ (by omega) _ _)
  have eM : ∀ a, a ≠ 73 → a ≠ 59 → m1.1 a = m.1 a := fun a ha hb => by rw [hm1, sV_off ha, sV_off hb]
  have e59 : ∀ j, j ≠ 25 → m1.1 59 j = m.1 59 j := fun j hj => by rw [hm1, sV_off (by omega), sV_f hj]
  have hR : RDR T len nr (nr + 1) np nf pcs a c m1 := by
    obtain ⟨d1, d2, ⟨d7, d8, d9⟩, d10, d11, d12, d13⟩ := h2
    refine ⟨h1.w (WC.refl c) rfl wm1, ⟨d1, d2, ⟨by rw [hm1, sV_off (by omega), sV_g], by rw [e59 28 (by omega)]; exact d8, by rw [e59 33 (by omega)]; exact d9⟩, fun r hr' => ?_, ?_, d12, ?_⟩, h3, h4, by rw [e59 20 (by omega)]; exact h5, h6, h7, by rw [e59 19 (by omega)]; exact h8⟩
    · rw [eM 74 (by omega) (by omega), show m1.1 73 r = m.1 73 r by rw [hm1, sV_f (by omega), sV_off (by omega)]]
      exact d10 r hr'
    · rw [eM 75 (by omega) (by omega), eM 76 (by omega) (by omega), eM 77 (by omega) (by omega), eM 78 (by omega) (by omega)]
      exact d11
    · rw [eM 79 (by omega) (by omega)]; exact d13
  exact room_loop hr 7 0 fN fN a c m1 (by omega) (by have := fN_big; omega) (by have := fN_big; omega) hR (by rw [hm1, sV_g]; rfl) (fun i hi => by omega) ha0 wc (wm.trans wm1) (by omega)

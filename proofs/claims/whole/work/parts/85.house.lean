/-! PURE: house -/
theorem read_loop {T : Nat → Nat} {len : Nat} : ∀ d a c m nr np nf pcs k N N', RDR T len nr nr np nf pcs a c m → len - a < d → d < N → d < N' → k ≤ a → ∃ c' m' f, F_X5_readAll_26 N 1 (nI k) c = some c' ∧ F_X8_house_48 N' 0 m = F_X8_house_67 f m' ∧ WC c c' ∧ WM m m' ∧ ((f = 0 ∧ c'.1 23 2 = 0 ∧ c'.1 23 3 = -1 ∧ m'.1 59 19 = -1 ∧ ∃ nr np nf pcs, DR nr nr np nf pcs c' m') ∨ (∃ e, f = nI e ∧ FL e c' m')) := by
  intro d
  induction d with
  | zero => intro a c m nr np nf pcs k N N' _ h; omega
  | succ d ih =>
    intro a c m nr np nf pcs k N N' h hd hN hN' hk
    have hR := h
    obtain ⟨h1, h2, h3, h4, h5, h6, h7, h8⟩ := h
    have hl := h1.1
    obtain ⟨N, rfl⟩ : ∃ M, N = M + 1 := ⟨N - 1, by omega⟩
    obtain ⟨N', rfl⟩ : ∃ M, N' = M + 1 := ⟨N' - 1, by omega⟩
    obtain ⟨b, b1, b2, b3, b4, b5⟩ := skip_both h1 h3 h4 h5
    have stop : ∀ cc (y : Nat), F_X5_readAll_26 N 0 (nI y) cc = some cc := by
      intro cc y
      obtain ⟨N, rfl⟩ : ∃ M, N = M + 1 := ⟨N - 1, by omega⟩
      rw [F_X5_readAll_26, F_X5_readAll_71]
      split
      · rfl
      · rw [if_pos rfl]
    rw [F_X8_house_48, if_pos rfl, b5, obs]
    dsimp only
    by_cases k5 : k = 500
    · have hbl : ¬ b < len := by omega
      have ebl : a = b := by omega
      refine ⟨c, sV m 59 20 (nI b), 0, ?_, ?_, WC.refl c, WM_sV _ (by omega) _, Or.inl ⟨rfl, h6, h7, by rw [sV_f (by omega)]; exact h8, nr, np, nf, pcs, h2.k (KC.refl c) (KM_sV m (by omega) _)⟩⟩
      · rw [F_X5_readAll_26, k5, if_pos (by decide), F_X5_readAll_71]
      · rw [if_neg hbl, if_pos (by decide)]
    · rw [F_X5_readAll_26, if_neg (show ¬ (500 : Int32) ≤ nI k from nI_ge (b := 500) (by omega) (by omega)), if_neg (by decide), b4, obs, sV_f (show 1 ≠ 5 by omega), h1.2.1, sV_g]
      by_cases hbl : b < len
      · have ht := (h1.2.2.2 b hbl).1
        have hR1 := hR.k (KC_sV c (by omega) (nI b)) (KM_sV m (by omega) (nI b)) b2 (sV_g _ _ _ _) (sV_g _ _ _ _)
        rw [if_neg (nI_ge hbl (by omega)), if_pos hbl, if_neg (nI_pos (by omega))]
        rcases clause_both hR1 hbl (b3 hbl) with ⟨c1, m1, nr1, np1, nf1, pcs1, b', z1, z2, z3, z4, z5, z6⟩ | ⟨c1, m1, e, z1, z2, z3, z5, z6⟩
        · rw [z1, obs, z2, obs]
          dsimp only
          rw [if_neg (by decide), F_X5_readAll_64, nI_1]
          obtain ⟨c', m', f, y1, y2, y3, y4, y5⟩ := ih b' c1 m1 nr1 np1 nf1 pcs1 (k + 1) N N' z3 (by omega) (by omega) (by omega) (by omega)
          exact ⟨c', m', f, y1, y2, (WC_sV _ _ _).trans (z5.trans y3), (WM_sV _ (by omega) _).trans (z6.trans y4), y5⟩
        · rw [z1, obs, z2, obs]
          dsimp only
          rw [if_pos rfl, F_X5_readAll_63, F_X5_readAll_64, nI_1, stop]
          obtain ⟨N', rfl⟩ : ∃ M, N' = M + 1 := ⟨N' - 1, by omega⟩
          refine ⟨c1, m1, nI e, rfl, ?_, (WC_sV _ _ _).trans z5, (WM_sV _ (by omega) _).trans z6, Or.inr ⟨e, rfl, z3⟩⟩
          rw [F_X8_house_48, if_neg (nI_ne0 (by have := z3.1; omega) (by have := z3.2.1; omega))]
      · rw [if_pos (show nI len ≤ nI b by rw [leN (by omega) (by omega)]; omega), F_X5_readAll_63, F_X5_readAll_64, nI_1, stop, if_neg hbl, if_pos (by decide)]
        exact ⟨_, _, 0, rfl, rfl, WC_sV _ _ _, WM_sV _ (by omega) _, Or.inl ⟨rfl, by rw [sV_f (by omega)]; exact h6, by rw [sV_f (by omega)]; exact h7, by rw [sV_f (by omega)]; exact h8, nr, np, nf, pcs, h2.k (KC_sV c (by omega) _) (KM_sV m (by omega) _)⟩⟩
/-! the start of both -/
/-- as bs, but no matter of computing -/
theorem bse {α β : Type} (a : β) (f : β → Option α) : bs a f = f a := by
  have h : ∀ g : β → Option α, g = f → bs a g = f a := by
    intro g e
    subst e
    rfl
  exact h _ rfl
theorem P_clearLoop (ho : Nat) (S : St) : ∃ g : Nat → Int32, (∀ x, x < 36 → g x = 0) ∧ F_X3_clearAll_17 ho fN 0 S = some (sA S (ho + 7) g) := by
  have q := upn (n := 36) (P := fun N j => ∀ g : Nat → Int32, (∀ x, x < j → g x = 0) → ∃ g' : Nat → Int32, (∀ x, x < 36 → g' x = 0) ∧ F_X3_clearAll_17 ho N (nI j) (sA S (ho + 7) g) = some (sA S (ho + 7) g'))
    (fun N g h => ⟨g, h, by rw [F_X3_clearAll_17, if_pos (by decide)]⟩)
    (fun N j hj ih g h => by
      obtain ⟨g', h1, h2⟩ := ih (upd g j 0) (fun x hx => by
        by_cases c : x = j
        · subst c; exact upd_at _ _ _
        · rw [upd_off c]; exact h x (by omega))
      refine ⟨g', h1, ?_⟩
      rw [← h2, F_X3_clearAll_17, if_neg (show ¬ (36 : Int32) ≤ nI j from nI_ge (b := 36) hj (by omega)), gi_in hj (by decide), clN (by omega), nI_1, ← sV_sA]
      rfl) fN 0 (by omega) (fN0 (by omega)) (S.1 (ho + 7)) (fun x hx => by omega)
  rw [sA_id] at q
  exact q
def cst (s : St) (g : Nat → Int32) : St := sV (sV (sV (sA (sV (sV (sV s 24 0 0) 24 1 0) 24 2 0) 31 g) 23 2 0) 23 3 (-1)) 23 5 0
def mst (s : St) (g : Nat → Int32) : St := sA (sV (sV (sV (sV (sV s 59 19 (-1)) 59 20 0) 59 25 0) 59 28 0) 59 33 0) 79 g
theorem P_readAll (s : St) : ∃ g : Nat → Int32, (∀ x, x < 36 → g x = 0) ∧ F_X5_readAll s = F_X5_readAll_26 fN 1 0 (cst s g) := by
  obtain ⟨g, g1, g2⟩ := P_clearLoop 24 (sV (sV (sV s 24 0 0) 24 1 0) 24 2 0)
  refine ⟨g, g1, ?_⟩
  rw [F_X5_readAll, F_X5_readAll_0, F_X3_clearAll, F_X3_clearAll_0]
  simp only [bse]
  rw [g2, obs]
  rfl
theorem M_houseStart (s : St) : ∃ g : Nat → Int32, (∀ x, x < 36 → g x = 0) ∧ F_X8_house s = F_X8_house_48 fN 0 (mst s g) := by
  obtain ⟨S, hS⟩ : ∃ S, S = sV (sV (sV (sV (sV s 59 19 (-1)) 59 20 0) 59 25 0) 59 28 0) 59 33 0 := ⟨_, rfl⟩
  have q := upn (n := 36) (P := fun N j => ∀ g : Nat → Int32, (∀ x, x < j → g x = 0) → ∃ g' : Nat → Int32, (∀ x, x < 36 → g' x = 0) ∧ F_X8_house_27 N (nI j) (sA S 79 g) = F_X8_house_48 fN 0 (sA S 79 g'))
    (fun N g h => ⟨g, h, by rw [F_X8_house_27, if_pos (by decide)]⟩)
    (fun N j hj ih g h => by
      obtain ⟨g', h1, h2⟩ := ih (upd g j 0) (fun x hx => by
        by_cases c : x = j
        · subst c; exact upd_at _ _ _
        · rw [upd_off c]; exact h x (by omega))
      refine ⟨g', h1, ?_⟩
      rw [← h2, F_X8_house_27, if_neg (show ¬ (36 : Int32) ≤ nI j from nI_ge (b := 36) hj (by omega)), gi_in hj (by decide), clN (by omega), nI_1, ← sV_sA]
      rfl) fN 0 (by omega) (fN0 (by omega)) (S.1 79) (fun x hx => by omega)
  rw [sA_id] at q
  obtain ⟨g, g1, g2⟩ := q
  refine ⟨g, g1, ?_⟩
  rw [mst, ← hS, ← g2, F_X8_house, F_X8_house_0]
  simp only [bse]
  rw [← hS]
  rfl
theorem cst_off {s : St} {g : Nat → Int32} {a : Nat} (h : a ≠ 23 ∧ a ≠ 24 ∧ a ≠ 31) : (cst s g).1 a = s.1 a := by
  unfold cst
  rw [sV_off h.1, sV_off h.1, sV_off h.1, sA_off h.2.2, sV_off h.2.1, sV_off h.2.1, sV_off h.2.1]
theorem mst_off {s : St} {g : Nat → Int32} {a : Nat} (h : a ≠ 59 ∧ a ≠ 79) : (mst s g).1 a = s.1 a := by
  unfold mst
  rw [sA_off h.2, sV_off h.1, sV_off h.1, sV_off h.1, sV_off h.1, sV_off h.1]
theorem mst_59 {s : St} {g : Nat → Int32} {j : Nat} (h : j ≠ 19 ∧ j ≠ 20 ∧ j ≠ 25 ∧ j ≠ 28 ∧ j ≠ 33) : (mst s g).1 59 j = s.1 59 j := by
  unfold mst
  rw [sA_off (by omega), sV_f (by omega), sV_f (by omega), sV_f (by omega), sV_f (by omega), sV_f (by omega)]
theorem RDR_start {st s t : St} {f g : Nat → Int32} (h : TextR st) (f0 : ∀ x, x < 36 → f x = 0) (g0 : ∀ x, x < 36 → g x = 0) (hs : s.1 23 1 = st.1 23 1 ∧ s.1 32 = st.1 32) (ht : t.1 59 18 = st.1 59 18 ∧ t.1 72 = st.1 72) : ∃ T len, RDR T len 0 0 0 0 (fun _ => 0) 0 (cst s f) (mst t g) := by
  obtain ⟨len, l1, l2, l3, l4⟩ := h
  refine ⟨fun j => (st.1 72 j).toNatClampNeg, len, ⟨l1, ?_, ?_, fun j hj => ?_⟩, ⟨⟨by omega, by omega, by omega⟩, ⟨?_, ?_, ?_⟩, ⟨?_, ?_, ?_⟩, fun r hr => by omega, fun p hp => by omega, fun p q hp => by omega, fun p q hp hq => ⟨0, by omega, ?_, ?_, ?_⟩⟩, by omega, ?_, ?_, ?_, ?_, ?_⟩
  · rw [← l2, ← hs.1]; unfold cst; rw [sV_f (by omega), sV_f (by omega), sV_f (by omega), sA_off (by omega), sV_off (by omega), sV_off (by omega), sV_off (by omega)]
  · rw [mst_59 (by omega), ht.1]; exact l3
  · obtain ⟨c, c1, c2, c3⟩ := l4 j hj
    have : (st.1 72 j).toNatClampNeg = c := by rw [c2, clN (by omega)]
    dsimp only
    rw [this, mst_off (by omega), ht.2, cst_off (by omega), hs.2]
    exact ⟨c1, c2, c3⟩
  · unfold cst; rw [sV_off (by omega), sV_off (by omega), sV_off (by omega), sA_off (by omega), sV_f (by omega), sV_f (by omega), sV_g]; rfl
  · unfold cst; rw [sV_off (by omega), sV_off (by omega), sV_off (by omega), sA_off (by omega), sV_f (by omega), sV_g]; rfl
  · unfold cst; rw [sV_off (by omega), sV_off (by omega), sV_off (by omega), sA_off (by omega), sV_g]; rfl
  · unfold mst; rw [sA_off (by omega), sV_f (by omega), sV_f (by omega), sV_g]; rfl
  · unfold mst; rw [sA_off (by omega), sV_f (by omega), sV_g]; rfl
  · unfold mst; rw [sA_off (by omega), sV_g]; rfl
  · unfold cst; rw [sV_off (by omega), sV_off (by omega), sV_off (by omega), sA_at, f0 _ (by omega)]; rfl
  · unfold mst; rw [sA_at, g0 _ (by omega)]; rfl
  · unfold mst; rw [sA_at, g0 _ (by omega)]; rfl
  · unfold cst; rw [sV_g]; rfl
  · unfold mst; rw [sA_off (by omega), sV_f (by omega), sV_f (by omega), sV_f (by omega), sV_g]; rfl
  · unfold cst; rw [sV_f (by omega), sV_f (by omega), sV_g]
  · unfold cst; rw [sV_f (by omega), sV_g]
  · unfold mst; rw [sA_off (by omega), sV_f (by omega), sV_f (by omega), sV_f (by omega), sV_f (by omega), sV_g]
/-! rows copied -/
def crow (a b : Nat) (s : St) : St := sA s b (va_cpy (s.1 a) (s.1 b) 0 0 (lenOf a))
theorem crow_F (a b : Nat) (s : St) : F_X7_copyRow a b s = some (crow a b s) := rfl
theorem crow_off {a b i : Nat} {s : St} (h : i ≠ b) : (crow a b s).1 i = s.1 i := sA_off h
theorem crow_at {a b j n : Nat} {s : St} (hn : lenOf a = n) (h : j < n) : (crow a b s).1 b j = s.1 a j := by
  unfold crow
  rw [sA_at, hn, pk_cpy_in (by omega) (by omega), Nat.zero_add, Nat.sub_zero]
def cpH (s : St) : St := crow 31 8 (crow 30 7 (crow 29 6 (crow 28 5 (crow 27 4 (crow 26 3 (crow 25 2 (sV (sV (sV s 1 0 (s.1 24 0)) 1 1 (s.1 24 1)) 1 2 (s.1 24 2))))))))
theorem P_copyHouse (s : St) : F_X3_copyFrom 1 24 s = some (cpH s) := by
  rw [F_X3_copyFrom, F_X3_copyFrom_0]
  simp only [bs, crow_F, obs]
  rw [sV_off (show 24 ≠ 1 by omega), sV_off (show 24 ≠ 1 by omega), sV_off (show 24 ≠ 1 by omega)]
  rfl
theorem P_forget (s : St) : ∃ g : Nat → Int32, (∀ x, x < 384 → g x = -2) ∧ F_X4_forget s = some (crow 14 37 (sA s 36 g)) := by
  have q := upn (n := 384) (P := fun N j => ∀ g : Nat → Int32, (∀ x, x < j → g x = -2) → ∃ g' : Nat → Int32, (∀ x, x < 384 → g' x = -2) ∧ F_X4_forget_2 N (nI j) (sA s 36 g) = some (crow 14 37 (sA s 36 g')))
    (fun N g h => ⟨g, h, by rw [F_X4_forget_2, if_pos (by decide), crow_F, obs]⟩)
    (fun N j hj ih g h => by
      obtain ⟨g', h1, h2⟩ := ih (upd g j (-2)) (fun x hx => by
        by_cases c : x = j
        · subst c; exact upd_at _ _ _
        · rw [upd_off c]; exact h x (by omega))
      refine ⟨g', h1, ?_⟩
      rw [← h2, F_X4_forget_2, if_neg (show ¬ (384 : Int32) ≤ nI j from nI_ge (b := 384) hj (by omega)), gi_in hj (by decide), clN (by omega), nI_1, ← sV_sA]
      rfl) fN 0 (by omega) (fN0 (by omega)) (s.1 36) (fun x hx => by omega)
  rw [sA_id] at q
  exact q
theorem P_house89 (s : St) : F_X7_house_89 fN 0 s = some (s.1 1 1, sV (sV s 58 0 0) 58 1 0) := by
  obtain ⟨M, hM, hM2⟩ := fN_succ
  obtain ⟨M2, rfl⟩ : ∃ M2, M = M2 + 1 + 1 := ⟨M - 2, by omega⟩
  have nb0 : vp_nar .boolean 0 = 0 := rfl
  rw [hM, F_X7_house_89, if_neg (by decide), show (0 : Int32) = nI 0 from rfl, gi_in (show 0 < 2 by omega) (by decide), bs, clN (by omega), nI_1, F_X7_house_89, if_neg (by decide), gi_in (show 0 + 1 < 2 by omega) (by decide), bs, clN (by omega), nI_1, F_X7_house_89, if_pos (by decide), show nI 0 = (0 : Int32) from rfl, nb0, sV_off (show 1 ≠ 58 by omega), sV_off (show 1 ≠ 58 by omega)]

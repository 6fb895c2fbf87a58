/-! PURE: house: what is told becomes the house -/
theorem loop_gen {X : Type} {F : Nat → Int32 → St → Option X} {E : St → Option X} {n : Nat} (hn : n < 100000) (I : Nat → St → Prop) (h0 : ∀ N s, F (N + 1) (nI n) s = E s) (hs : ∀ N j s, j < n → I j s → ∃ s', F (N + 1) (nI j) s = F N (nI (j + 1)) s' ∧ I (j + 1) s') (s : St) (hI : I 0 s) : ∃ s', F fN 0 s = E s' ∧ I n s' := by
  have q := upn (n := n) (P := fun N j => ∀ s, I j s → ∃ s', F N (nI j) s = E s' ∧ I n s')
    (fun N s h => ⟨s, h0 N s, h⟩)
    (fun N j hj ih s h => by
      obtain ⟨s1, e1, h1⟩ := hs N j s hj h
      obtain ⟨s2, e2, h2⟩ := ih s1 h1
      exact ⟨s2, e1.trans e2, h2⟩) fN 0 (by omega) (fN0 hn) s hI
  exact q
/-- one row copied -/
def CpI (M : St) (a b j : Nat) (s : St) : Prop := (∀ i, i ≠ b → s.1 i = M.1 i) ∧ ∀ x, x < j → s.1 b x = M.1 a x
theorem CpI_0 (M : St) (a b : Nat) : CpI M a b 0 M := ⟨fun _ _ => rfl, fun x hx => by omega⟩
theorem CpI_s {M s : St} {a b j : Nat} (hab : a ≠ b) (h : CpI M a b j s) : CpI M a b (j + 1) (sV s b j (s.1 a j)) := by
  refine ⟨fun i hi => by rw [sV_off hi]; exact h.1 i hi, fun x hx => ?_⟩
  by_cases c : x = j
  · subst c; rw [sV_g, h.1 a hab]
  · rw [sV_f c]; exact h.2 x (by omega)
theorem M_107 (M : St) : ∃ s, F_X8_house_107 fN 0 M = F_X8_house_132 fN 0 s ∧ CpI M 73 60 3 s := by
  refine loop_gen (F := F_X8_house_107) (E := F_X8_house_132 fN 0) (by omega) (CpI M 73 60) (fun N s => by rw [F_X8_house_107, if_pos (by decide)]) (fun N j s hj h => ⟨_, ?_, CpI_s (by omega) h⟩) M (CpI_0 _ _ _)
  rw [F_X8_house_107, if_neg (show ¬ (3 : Int32) ≤ nI j from nI_ge (b := 3) hj (by omega)), gi_in hj (by decide), gi_in hj (by decide), clN (by omega), bse, nI_1]
theorem M_132 (M : St) : ∃ s, F_X8_house_132 fN 0 M = F_X8_house_158 fN 0 s ∧ CpI M 74 61 18 s := by
  refine loop_gen (F := F_X8_house_132) (E := F_X8_house_158 fN 0) (by omega) (CpI M 74 61) (fun N s => by rw [F_X8_house_132, if_pos (by decide)]) (fun N j s hj h => ⟨_, ?_, CpI_s (by omega) h⟩) M (CpI_0 _ _ _)
  rw [F_X8_house_132, if_neg (show ¬ (18 : Int32) ≤ nI j from nI_ge (b := 18) hj (by omega)), gi_in hj (by decide), gi_in hj (by decide), clN (by omega), bse, nI_1]
def Cp4 (M : St) (j : Nat) (s : St) : Prop := (∀ i, i < 62 ∨ 65 < i → s.1 i = M.1 i) ∧ ∀ x, x < j → s.1 62 x = M.1 75 x ∧ s.1 63 x = M.1 76 x ∧ s.1 64 x = M.1 77 x ∧ s.1 65 x = M.1 78 x
theorem M_158 (M : St) : ∃ s, F_X8_house_158 fN 0 M = F_X8_house_220 fN 0 s ∧ Cp4 M 6 s := by
  refine loop_gen (F := F_X8_house_158) (E := F_X8_house_220 fN 0) (by omega) (Cp4 M) (fun N s => by rw [F_X8_house_158, if_pos (by decide)]) (fun N j s hj h => ?_) M ⟨fun _ _ => rfl, fun x hx => by omega⟩
  refine ⟨sV (sV (sV (sV s 62 j (M.1 75 j)) 63 j (M.1 76 j)) 64 j (M.1 77 j)) 65 j (M.1 78 j), ?_, fun i hi => ?_, fun x hx => ?_⟩
  · rw [F_X8_house_158, if_neg (show ¬ (6 : Int32) ≤ nI j from nI_ge (b := 6) hj (by omega))]
    simp only [g6 hj, c6 hj, bse, nI_1]
    simp (disch := decide) only [sV_off]
    rw [h.1 75 (by omega), h.1 76 (by omega), h.1 77 (by omega), h.1 78 (by omega)]
  · rw [sV_off (by omega), sV_off (by omega), sV_off (by omega), sV_off (by omega)]; exact h.1 i hi
  · by_cases c : x = j
    · subst c
      refine ⟨?_, ?_, ?_, ?_⟩
      · rw [sV_off (by omega), sV_off (by omega), sV_off (by omega), sV_g]
      · rw [sV_off (by omega), sV_off (by omega), sV_g]
      · rw [sV_off (by omega), sV_g]
      · rw [sV_g]
    · obtain ⟨h1, h2, h3, h4⟩ := h.2 x (by omega)
      refine ⟨?_, ?_, ?_, ?_⟩
      · rw [sV_off (by omega), sV_off (by omega), sV_off (by omega), sV_f c]; exact h1
      · rw [sV_off (by omega), sV_off (by omega), sV_f c, sV_off (by omega)]; exact h2
      · rw [sV_off (by omega), sV_f c, sV_off (by omega), sV_off (by omega)]; exact h3
      · rw [sV_f c, sV_off (by omega), sV_off (by omega), sV_off (by omega)]; exact h4
def Bg (M : St) (j : Nat) (s : St) : Prop := (∀ i, i < 67 ∨ 71 < i → s.1 i = M.1 i) ∧ ∀ x, x < j → s.1 67 x = M.1 62 x ∧ s.1 68 x = M.1 63 x ∧ s.1 69 x = -1 ∧ s.1 70 x = -1 ∧ s.1 71 x = 0
theorem M_begin (M : St) : ∃ s, F_X8_begin M = some s ∧ Bg M 6 s := by
  have q := loop_gen (F := F_X8_begin_2) (E := some) (n := 6) (by omega) (Bg M) (fun N s => by rw [F_X8_begin_2, if_pos (by decide)]) (fun N j s hj h => by
    refine ⟨sV (sV (sV (sV (sV s 67 j (M.1 62 j)) 68 j (M.1 63 j)) 69 j (-1)) 70 j (-1)) 71 j 0, ?_, fun i hi => ?_, fun x hx => ?_⟩
    · rw [F_X8_begin_2, if_neg (show ¬ (6 : Int32) ≤ nI j from nI_ge (b := 6) hj (by omega))]
      simp only [g6 hj, c6 hj, bse, nI_1]
      simp (disch := decide) only [sV_off]
      rw [h.1 62 (by omega), h.1 63 (by omega)]
    · rw [sV_off (by omega), sV_off (by omega), sV_off (by omega), sV_off (by omega), sV_off (by omega)]; exact h.1 i hi
    · by_cases c : x = j
      · subst c
        refine ⟨?_, ?_, ?_, ?_, ?_⟩
        · rw [sV_off (by omega), sV_off (by omega), sV_off (by omega), sV_off (by omega), sV_g]
        · rw [sV_off (by omega), sV_off (by omega), sV_off (by omega), sV_g]
        · rw [sV_off (by omega), sV_off (by omega), sV_g]
        · rw [sV_off (by omega), sV_g]
        · rw [sV_g]
      · obtain ⟨h1, h2, h3, h4, h5⟩ := h.2 x (by omega)
        refine ⟨?_, ?_, ?_, ?_, ?_⟩
        · rw [sV_off (by omega), sV_off (by omega), sV_off (by omega), sV_off (by omega), sV_f c]; exact h1
        · rw [sV_off (by omega), sV_off (by omega), sV_off (by omega), sV_f c, sV_off (by omega)]; exact h2
        · rw [sV_off (by omega), sV_off (by omega), sV_f c, sV_off (by omega), sV_off (by omega)]; exact h3
        · rw [sV_off (by omega), sV_f c, sV_off (by omega), sV_off (by omega), sV_off (by omega)]; exact h4
        · rw [sV_f c, sV_off (by omega), sV_off (by omega), sV_off (by omega), sV_off (by omega)]; exact h5) M ⟨fun _ _ => rfl, fun x hx => by omega⟩
  exact q
theorem M_220 (M : St) : ∃ s, F_X8_house_220 fN 0 M = some (M.1 59 3, s) ∧ (∀ i, i ≠ 59 → (i < 66 ∨ 71 < i) → i ≠ 93 → s.1 i = M.1 i) ∧ (∀ j, j ≠ 45 → s.1 59 j = M.1 59 j) ∧ s.1 59 45 = 0 ∧ (∀ x, x < 36 → s.1 66 x = M.1 79 x) ∧ (∀ x, x < 2 → s.1 93 x = 0) ∧ (∀ x, x < 6 → s.1 67 x = M.1 62 x ∧ s.1 68 x = M.1 63 x ∧ s.1 69 x = -1 ∧ s.1 70 x = -1 ∧ s.1 71 x = 0) := by
  obtain ⟨s1, e1, i1⟩ := loop_gen (F := F_X8_house_220) (E := fun s => bs (sV s 59 45 0) (fun st40 => gi 0 2 (bs (sV st40 93 (0 : Int32).toNatClampNeg (vp_nar .boolean 0)) (fun st42 => gi 1 2 (bs (sV st42 93 (1 : Int32).toNatClampNeg (vp_nar .boolean 0)) (fun st44 => (F_X8_begin st44).bind (fun q45 => some (q45.1 59 3, q45)))))))) (n := 36) (by omega) (CpI M 79 66) (fun N s => by rw [F_X8_house_220, if_pos (by decide)]) (fun N j s hj h => ⟨_, by rw [F_X8_house_220, if_neg (show ¬ (36 : Int32) ≤ nI j from nI_ge (b := 36) hj (by omega)), gi_in hj (by decide), gi_in hj (by decide), clN (by omega), bse, nI_1], CpI_s (by omega) h⟩) M (CpI_0 _ _ _)
  have nb0 : vp_nar .boolean 0 = 0 := rfl
  have k0 : (0 : Int32).toNatClampNeg = 0 := rfl
  have k1 : (1 : Int32).toNatClampNeg = 1 := rfl
  have g0 : ∀ {α : Type} {x : Option α}, gi 0 2 x = x := gi_in (i := 0) (n := 2) (by omega) (by decide)
  have g1 : ∀ {α : Type} {x : Option α}, gi 1 2 x = x := gi_in (i := 1) (n := 2) (by omega) (by decide)
  obtain ⟨S, hS⟩ : ∃ S, S = sV (sV (sV s1 59 45 0) 93 0 0) 93 1 0 := ⟨_, rfl⟩
  obtain ⟨s, b1, b2, b3⟩ := M_begin S
  have eS : ∀ i, i ≠ 59 → i ≠ 93 → S.1 i = s1.1 i := fun i h1 h2 => by rw [hS, sV_off h2, sV_off h2, sV_off h1]
  have e59 : ∀ j, j ≠ 45 → S.1 59 j = s1.1 59 j := fun j hj => by rw [hS, sV_off (by omega), sV_off (by omega), sV_f hj]
  refine ⟨s, ?_, fun i h1 h2 h3 => ?_, fun j hj => ?_, ?_, fun x hx => ?_, fun x hx => ?_, fun x hx => ?_⟩
  · rw [e1]
    rw [bse, g0, bse, k0, nb0, g1, bse, k1, ← hS, b1, obs, b2 59 (by omega), e59 3 (by omega), i1.1 59 (by omega)]
  · rw [b2 i (by omega), eS i h1 h3, i1.1 i (by omega)]
  · rw [b2 59 (by omega), e59 j hj, i1.1 59 (by omega)]
  · rw [b2 59 (by omega), hS, sV_off (by omega), sV_off (by omega), sV_g]
  · rw [b2 66 (by omega), eS 66 (by omega) (by omega), i1.2 x hx]
  · rw [b2 93 (by omega), hS]
    rcases (show x = 0 ∨ x = 1 by omega) with rfl | rfl
    · rw [sV_f (by omega), sV_g]
    · rw [sV_g]
  · obtain ⟨h1, h2, h3, h4, h5⟩ := b3 x hx
    refine ⟨by rw [h1, eS 62 (by omega) (by omega), i1.1 62 (by omega)], by rw [h2, eS 63 (by omega) (by omega), i1.1 63 (by omega)], h3, h4, h5⟩
theorem M_houseEnd (m : St) : ∃ s, F_X8_house_67 0 m = some (m.1 59 28, s) ∧ (∀ i, i ≠ 59 → (i < 60 ∨ 71 < i) → i ≠ 93 → s.1 i = m.1 i) ∧ (s.1 59 0 = m.1 59 25 ∧ s.1 59 3 = m.1 59 28 ∧ s.1 59 8 = m.1 59 33 ∧ s.1 59 18 = 0 ∧ s.1 59 45 = 0) ∧ (∀ j, j ≠ 0 → j ≠ 3 → j ≠ 8 → j ≠ 18 → j ≠ 45 → s.1 59 j = m.1 59 j) ∧ (∀ x, x < 3 → s.1 60 x = m.1 73 x) ∧ (∀ x, x < 18 → s.1 61 x = m.1 74 x) ∧ (∀ x, x < 6 → s.1 64 x = m.1 77 x ∧ s.1 65 x = m.1 78 x ∧ s.1 67 x = m.1 75 x ∧ s.1 68 x = m.1 76 x ∧ s.1 69 x = -1 ∧ s.1 70 x = -1 ∧ s.1 71 x = 0) ∧ (∀ x, x < 36 → s.1 66 x = m.1 79 x) ∧ (∀ x, x < 2 → s.1 93 x = 0) := by
  obtain ⟨M, hM⟩ : ∃ M, M = sV (sV (sV (sV m 59 18 0) 59 0 (m.1 59 25)) 59 3 (m.1 59 28)) 59 8 (m.1 59 33) := ⟨_, rfl⟩
  have eM : ∀ i, i ≠ 59 → M.1 i = m.1 i := fun i hi => by rw [hM, sV_off hi, sV_off hi, sV_off hi, sV_off hi]
  have e59 : ∀ j, j ≠ 0 → j ≠ 3 → j ≠ 8 → j ≠ 18 → M.1 59 j = m.1 59 j := fun j h1 h2 h3 h4 => by rw [hM, sV_f h3, sV_f h2, sV_f h1, sV_f h4]
  obtain ⟨s1, a1, a2, a3⟩ := M_107 M
  obtain ⟨s2, b1, b2, b3⟩ := M_132 s1
  obtain ⟨s3, c1, c2, c3⟩ := M_158 s2
  obtain ⟨s, d1, d2, d3, d4, d5, d6, d7⟩ := M_220 s3
  have up : ∀ i, i ≠ 60 → i ≠ 61 → (i < 62 ∨ 65 < i) → s3.1 i = M.1 i := fun i h1 h2 h3 => by rw [c2 i h3, b2 i h2, a2 i h1]
  refine ⟨s, ?_, fun i h1 h2 h3 => ?_, ⟨?_, ?_, ?_, ?_, d4⟩, fun j h1 h2 h3 h4 h5 => ?_, fun x hx => ?_, fun x hx => ?_, fun x hx => ?_, fun x hx => ?_, d6⟩
  · rw [F_X8_house_67, bse, if_pos (by decide), bse, bse, bse, sV_f (show 25 ≠ 18 by omega), sV_f (show 28 ≠ 0 by omega), sV_f (show 28 ≠ 18 by omega), sV_f (show 33 ≠ 3 by omega), sV_f (show 33 ≠ 0 by omega), sV_f (show 33 ≠ 18 by omega), ← hM, a1, b1, c1, d1, up 59 (by omega) (by omega) (by omega), hM, sV_f (by omega), sV_g]
  · rw [d2 i h1 (by omega) h3, up i (by omega) (by omega) (by omega), eM i h1]
  · rw [d3 0 (by omega), up 59 (by omega) (by omega) (by omega), hM, sV_f (by omega), sV_f (by omega), sV_g]
  · rw [d3 3 (by omega), up 59 (by omega) (by omega) (by omega), hM, sV_f (by omega), sV_g]
  · rw [d3 8 (by omega), up 59 (by omega) (by omega) (by omega), hM, sV_g]
  · rw [d3 18 (by omega), up 59 (by omega) (by omega) (by omega), hM, sV_f (by omega), sV_f (by omega), sV_f (by omega), sV_g]
  · rw [d3 j h5, up 59 (by omega) (by omega) (by omega), e59 j h1 h2 h3 h4]
  · rw [d2 60 (by omega) (by omega) (by omega), c2 60 (by omega), b2 60 (by omega), a3 x hx, eM 73 (by omega)]
  · rw [d2 61 (by omega) (by omega) (by omega), c2 61 (by omega), b3 x hx, a2 74 (by omega), eM 74 (by omega)]
  · obtain ⟨y1, y2, y3, y4⟩ := c3 x hx
    obtain ⟨z1, z2, z3, z4, z5⟩ := d7 x hx
    refine ⟨?_, ?_, ?_, ?_, z3, z4, z5⟩
    · rw [d2 64 (by omega) (by omega) (by omega), y3, b2 77 (by omega), a2 77 (by omega), eM 77 (by omega)]
    · rw [d2 65 (by omega) (by omega) (by omega), y4, b2 78 (by omega), a2 78 (by omega), eM 78 (by omega)]
    · rw [z1, y1, b2 75 (by omega), a2 75 (by omega), eM 75 (by omega)]
    · rw [z2, y2, b2 76 (by omega), a2 76 (by omega), eM 76 (by omega)]
  · rw [d5 x hx, up 79 (by omega) (by omega) (by omega), eM 79 (by omega)]
/-! the class -/
theorem cpH_off {s : St} {i : Nat} (h : i = 0 ∨ 8 < i) : (cpH s).1 i = s.1 i := by
  unfold cpH
  rw [crow_off (by omega), crow_off (by omega), crow_off (by omega), crow_off (by omega), crow_off (by omega), crow_off (by omega), crow_off (by omega), sV_off (by omega), sV_off (by omega), sV_off (by omega)]
theorem P_houseEnd (S : St) : ∃ s, (F_X3_copyFrom 1 24 S).bind (fun q5 => (F_X6_begin 9 1 q5).bind (fun q6 => (F_X4_forget q6).bind (fun q7 => bs (sV q7 41 3 0) (fun st8 => F_X7_house_89 fN 0 st8)))) = some (S.1 24 1, s) ∧ (∀ i, (i = 0 ∨ 14 < i) → i ≠ 36 → i ≠ 37 → i ≠ 41 → i ≠ 58 → s.1 i = S.1 i) ∧ s.1 9 = S.1 9 ∧ (s.1 1 0 = S.1 24 0 ∧ s.1 1 1 = S.1 24 1 ∧ s.1 1 2 = S.1 24 2) ∧ (∀ x, x < 3 → s.1 2 x = S.1 25 x) ∧ (∀ x, x < 18 → s.1 3 x = S.1 26 x) ∧ (∀ x, x < 6 → s.1 4 x = S.1 27 x ∧ s.1 6 x = S.1 29 x ∧ s.1 7 x = S.1 30 x ∧ s.1 10 x = -1 ∧ s.1 11 x = -1 ∧ s.1 12 x = 0 ∧ s.1 13 x = S.1 27 x ∧ s.1 14 x = S.1 28 x) ∧ (∀ x, x < 36 → s.1 8 x = S.1 31 x) ∧ (∀ x, x < 384 → s.1 36 x = -2) ∧ s.1 41 3 = 0 ∧ (∀ x, x < 2 → s.1 58 x = 0) := by
  obtain ⟨A, hA⟩ : ∃ A, A = cpH S := ⟨_, rfl⟩
  obtain ⟨B, hB⟩ : ∃ B, B = crow 5 14 (crow 4 13 (setV 9 (allOut 6 (vC 9 A)) A)) := ⟨_, rfl⟩
  have q2 : F_X6_begin 9 1 A = some B := by
    have p := P_sendAllOut (sc := 9) (vC 9 A) A
    rw [setV_self] at p
    rw [F_X6_begin, F_X6_begin_0, p, obs, crow_F, obs, crow_F, obs, hB]
  obtain ⟨g, g1, g2⟩ := P_forget B
  obtain ⟨C, hC⟩ : ∃ C, C = sV (crow 14 37 (sA B 36 g)) 41 3 0 := ⟨_, rfl⟩
  have eC : ∀ i, i ≠ 36 → i ≠ 37 → i ≠ 41 → C.1 i = B.1 i := fun i h1 h2 h3 => by rw [hC, sV_off h3, crow_off h2, sA_off h1]
  have eB : ∀ i, i ≤ 9 ∨ 14 < i → B.1 i = A.1 i := fun i hi => by rw [hB, crow_off (by omega), crow_off (by omega), setV_off (by omega)]
  have fin : ∀ i, i ≠ 58 → (sV (sV C 58 0 0) 58 1 0).1 i = C.1 i := fun i hi => by rw [sV_off hi, sV_off hi]
  have e1 : A.1 1 0 = S.1 24 0 ∧ A.1 1 1 = S.1 24 1 ∧ A.1 1 2 = S.1 24 2 := by
    have : A.1 1 = (sV (sV (sV S 1 0 (S.1 24 0)) 1 1 (S.1 24 1)) 1 2 (S.1 24 2)).1 1 := by
      rw [hA]; unfold cpH
      rw [crow_off (by omega), crow_off (by omega), crow_off (by omega), crow_off (by omega), crow_off (by omega), crow_off (by omega), crow_off (by omega)]
    rw [this]
    exact ⟨by rw [sV_f (by omega), sV_f (by omega), sV_g], by rw [sV_f (by omega), sV_g], by rw [sV_g]⟩
  have e4 : ∀ x, x < 6 → A.1 4 x = S.1 27 x := fun x hx => by
    rw [hA]; unfold cpH
    rw [crow_off (by omega), crow_off (by omega), crow_off (by omega), crow_off (by omega), crow_at (n := 6) rfl hx, crow_off (by omega), crow_off (by omega), sV_off (by omega), sV_off (by omega), sV_off (by omega)]
  have e5 : ∀ x, x < 6 → A.1 5 x = S.1 28 x := fun x hx => by
    rw [hA]; unfold cpH
    rw [crow_off (by omega), crow_off (by omega), crow_off (by omega), crow_at (n := 6) rfl hx, crow_off (by omega), crow_off (by omega), crow_off (by omega), sV_off (by omega), sV_off (by omega), sV_off (by omega)]
  refine ⟨sV (sV C 58 0 0) 58 1 0, ?_, fun i h1 h2 h3 h4 h5 => ?_, ?_, ⟨?_, ?_, ?_⟩, fun x hx => ?_, fun x hx => ?_, fun x hx => ⟨?_, ?_, ?_, ?_, ?_, ?_, ?_, ?_⟩, fun x hx => ?_, fun x hx => ?_, ?_, fun x hx => ?_⟩
  · rw [P_copyHouse, obs, ← hA, q2, obs, g2, obs, bse, ← hC, P_house89, eC 1 (by omega) (by omega) (by omega), eB 1 (by omega), e1.2.1]
  · rw [fin i h5, eC i h2 h3 h4, eB i (by omega), hA, cpH_off (by omega)]
  · rw [fin 9 (by omega), eC 9 (by omega) (by omega) (by omega), eB 9 (by omega), hA, cpH_off (by omega)]
  · rw [fin 1 (by omega), eC 1 (by omega) (by omega) (by omega), eB 1 (by omega)]; exact e1.1
  · rw [fin 1 (by omega), eC 1 (by omega) (by omega) (by omega), eB 1 (by omega)]; exact e1.2.1
  · rw [fin 1 (by omega), eC 1 (by omega) (by omega) (by omega), eB 1 (by omega)]; exact e1.2.2
  · rw [fin 2 (by omega), eC 2 (by omega) (by omega) (by omega), eB 2 (by omega), hA]; unfold cpH
    rw [crow_off (by omega), crow_off (by omega), crow_off (by omega), crow_off (by omega), crow_off (by omega), crow_off (by omega), crow_at (n := 3) rfl hx, sV_off (by omega), sV_off (by omega), sV_off (by omega)]
  · rw [fin 3 (by omega), eC 3 (by omega) (by omega) (by omega), eB 3 (by omega), hA]; unfold cpH
    rw [crow_off (by omega), crow_off (by omega), crow_off (by omega), crow_off (by omega), crow_off (by omega), crow_at (n := 18) rfl hx, crow_off (by omega), sV_off (by omega), sV_off (by omega), sV_off (by omega)]
  · rw [fin 4 (by omega), eC 4 (by omega) (by omega) (by omega), eB 4 (by omega)]; exact e4 x hx
  · rw [fin 6 (by omega), eC 6 (by omega) (by omega) (by omega), eB 6 (by omega), hA]; unfold cpH
    rw [crow_off (by omega), crow_off (by omega), crow_at (n := 6) rfl hx, crow_off (by omega), crow_off (by omega), crow_off (by omega), crow_off (by omega), sV_off (by omega), sV_off (by omega), sV_off (by omega)]
  · rw [fin 7 (by omega), eC 7 (by omega) (by omega) (by omega), eB 7 (by omega), hA]; unfold cpH
    rw [crow_off (by omega), crow_at (n := 6) rfl hx, crow_off (by omega), crow_off (by omega), crow_off (by omega), crow_off (by omega), crow_off (by omega), sV_off (by omega), sV_off (by omega), sV_off (by omega)]
  · rw [fin 10 (by omega), eC 10 (by omega) (by omega) (by omega), hB, crow_off (by omega), crow_off (by omega), show (setV 9 (allOut 6 (vC 9 A)) A).1 10 = (allOut 6 (vC 9 A)).1 from setV_at1 9 _ _]
    exact if_pos hx
  · rw [fin 11 (by omega), eC 11 (by omega) (by omega) (by omega), hB, crow_off (by omega), crow_off (by omega), show (setV 9 (allOut 6 (vC 9 A)) A).1 11 = (allOut 6 (vC 9 A)).2.1 from setV_at2 9 _ _]
    exact if_pos hx
  · rw [fin 12 (by omega), eC 12 (by omega) (by omega) (by omega), hB, crow_off (by omega), crow_off (by omega), show (setV 9 (allOut 6 (vC 9 A)) A).1 12 = (allOut 6 (vC 9 A)).2.2.1 from setV_at3 9 _ _]
    exact if_pos hx
  · rw [fin 13 (by omega), eC 13 (by omega) (by omega) (by omega), hB, crow_off (by omega), crow_at (n := 6) rfl hx, setV_off (by omega)]; exact e4 x hx
  · rw [fin 14 (by omega), eC 14 (by omega) (by omega) (by omega), hB, crow_at (n := 6) rfl hx, crow_off (by omega), setV_off (by omega)]; exact e5 x hx
  · rw [fin 8 (by omega), eC 8 (by omega) (by omega) (by omega), eB 8 (by omega), hA]; unfold cpH
    rw [crow_at (n := 36) rfl hx, crow_off (by omega), crow_off (by omega), crow_off (by omega), crow_off (by omega), crow_off (by omega), crow_off (by omega), sV_off (by omega), sV_off (by omega), sV_off (by omega)]
  · rw [fin 36 (by omega), hC, sV_off (by omega), crow_off (by omega), sA_at]; exact g1 x hx
  · rw [fin 41 (by omega), hC, sV_g]
  · rcases (show x = 0 ∨ x = 1 by omega) with rfl | rfl
    · rw [sV_f (by omega), sV_g]
    · rw [sV_g]

/-! PURE: two readers side by side: blanks, numbers, signs -/
theorem byC_toInt : ∀ t, t < 256 → (byC t).toInt = if t < 128 then (t : Int) else (t : Int) - 256 := by decide +kernel
theorem byC_eq {t x : Nat} (ht : t < 256) (hx : x < 128) : (byC t = nI x) = (t = x) := by
  refine propext ⟨fun e => ?_, fun e => by subst e; rw [byC, if_pos hx]⟩
  have h := congrArg Int32.toInt e
  rw [byC_toInt t ht, nI_toInt (by omega)] at h
  split at h <;> omega
theorem byC_lt {t x : Nat} (ht : t < 256) (hx : x ≤ 128) : (byC t < nI x) = (t < x ∨ 128 ≤ t) := by
  rw [ilt, byC_toInt t ht, nI_toInt (by omega)]
  refine propext ?_
  split <;> omega
theorem byC_gt {t x : Nat} (ht : t < 256) (hx : x ≤ 128) : (nI x < byC t) = (t < 128 ∧ x < t) := by
  rw [ilt, byC_toInt t ht, nI_toInt (by omega)]
  refine propext ?_
  split <;> omega
theorem sV_self {c : St} {i k : Nat} {x : Int32} (h : c.1 i k = x) : sV c i k x = c := by
  unfold sV
  rw [← h, upd_self, sA_id]
theorem sV_sV (c : St) (i k : Nat) (x y : Int32) : sV (sV c i k x) i k y = sV c i k y := by
  unfold sV
  rw [sA_at, upd_upd, sA_sA]
theorem sV_f {c : St} {i k j : Nat} {x : Int32} (h : j ≠ k) : (sV c i k x).1 i j = c.1 i j := by rw [sV_at, upd_off h]
theorem sV_g (c : St) (i k : Nat) (x : Int32) : (sV c i k x).1 i k = x := by rw [sV_at, upd_at]
/-- one text of both -/
def TX (T : Nat → Nat) (len : Nat) (c m : St) : Prop := len ≤ 500 ∧ c.1 23 1 = nI len ∧ m.1 59 18 = nI len ∧ ∀ j, j < len → T j < 256 ∧ m.1 72 j = nI (T j) ∧ c.1 32 j = byC (T j)
/-- what a reading may change -/
def KC (c c' : St) : Prop := (∀ a, a ≠ 23 → c'.1 a = c.1 a) ∧ ∀ j, j ≠ 5 → j ≠ 6 → j ≠ 7 → c'.1 23 j = c.1 23 j
def KM (m m' : St) : Prop := (∀ a, a ≠ 59 → m'.1 a = m.1 a) ∧ ∀ j, j ≠ 20 → j ≠ 22 → j ≠ 23 → j ≠ 24 → m'.1 59 j = m.1 59 j
def WC (c c' : St) : Prop := ∀ a, a ≠ 23 → (a < 24 ∨ 31 < a) → c'.1 a = c.1 a
def WM (m m' : St) : Prop := (∀ a, a ≠ 59 → (a < 73 ∨ 79 < a) → m'.1 a = m.1 a) ∧ ∀ j, (j < 19 ∨ 34 ≤ j) → m'.1 59 j = m.1 59 j
theorem KC.refl (c : St) : KC c c := ⟨fun _ _ => rfl, fun _ _ _ _ => rfl⟩
theorem KM.refl (c : St) : KM c c := ⟨fun _ _ => rfl, fun _ _ _ _ _ => rfl⟩
theorem WC.refl (c : St) : WC c c := fun _ _ _ => rfl
theorem WM.refl (c : St) : WM c c := ⟨fun _ _ _ => rfl, fun _ _ => rfl⟩
theorem KC.trans {a b c : St} (h1 : KC a b) (h2 : KC b c) : KC a c := ⟨fun x hx => (h2.1 x hx).trans (h1.1 x hx), fun j a b c => (h2.2 j a b c).trans (h1.2 j a b c)⟩
theorem KM.trans {a b c : St} (h1 : KM a b) (h2 : KM b c) : KM a c := ⟨fun x hx => (h2.1 x hx).trans (h1.1 x hx), fun j a b c d => (h2.2 j a b c d).trans (h1.2 j a b c d)⟩
theorem WC.trans {a b c : St} (h1 : WC a b) (h2 : WC b c) : WC a c := fun x hx hy => (h2 x hx hy).trans (h1 x hx hy)
theorem WM.trans {a b c : St} (h1 : WM a b) (h2 : WM b c) : WM a c := ⟨fun x hx hy => (h2.1 x hx hy).trans (h1.1 x hx hy), fun j hj => (h2.2 j hj).trans (h1.2 j hj)⟩
theorem KC.w {a b : St} (h : KC a b) : WC a b := fun x hx _ => h.1 x hx
theorem KM.w {a b : St} (h : KM a b) : WM a b := ⟨fun x hx _ => h.1 x hx, fun j hj => h.2 j (by omega) (by omega) (by omega) (by omega)⟩
theorem KC_sV (c : St) {j : Nat} (hj : j = 5 ∨ j = 6 ∨ j = 7) (x : Int32) : KC c (sV c 23 j x) := ⟨fun a ha => sV_off ha, fun i h1 h2 h3 => sV_f (by omega)⟩
theorem KM_sV (c : St) {j : Nat} (hj : j = 20 ∨ j = 22 ∨ j = 23 ∨ j = 24) (x : Int32) : KM c (sV c 59 j x) := ⟨fun a ha => sV_off ha, fun i h1 h2 h3 h4 => sV_f (by omega)⟩
theorem WC_sV (c : St) (j : Nat) (x : Int32) : WC c (sV c 23 j x) := fun a ha _ => sV_off ha
theorem WC_sD (c : St) {i : Nat} (hi : 24 ≤ i ∧ i ≤ 31) (j : Nat) (x : Int32) : WC c (sV c i j x) := fun a ha hb => sV_off (by omega)
theorem WM_sV (c : St) {j : Nat} (hj : 19 ≤ j ∧ j ≤ 33) (x : Int32) : WM c (sV c 59 j x) := ⟨fun a ha _ => sV_off ha, fun i h1 => sV_f (by omega)⟩
theorem WM_sD (c : St) {i : Nat} (hi : 73 ≤ i ∧ i ≤ 79) (j : Nat) (x : Int32) : WM c (sV c i j x) := ⟨fun a ha hb => sV_off (by omega), fun i h1 => by rw [sV_off (by omega)]⟩
theorem TX.k {T : Nat → Nat} {len : Nat} {c m c' m' : St} (h : TX T len c m) (hc : KC c c') (hm : KM m m') : TX T len c' m' := by
  obtain ⟨h1, h2, h3, h4⟩ := h
  refine ⟨h1, ?_, ?_, ?_⟩
  · rw [hc.2 1 (by omega) (by omega) (by omega)]; exact h2
  · rw [hm.2 18 (by omega) (by omega) (by omega) (by omega)]; exact h3
  · rw [hc.1 32 (by omega), hm.1 72 (by omega)]; exact h4
theorem TX.w {T : Nat → Nat} {len : Nat} {c m c' m' : St} (h : TX T len c m) (hc : WC c c') (h1' : c'.1 23 1 = c.1 23 1) (hm : WM m m') : TX T len c' m' := by
  obtain ⟨h1, h2, h3, h4⟩ := h
  refine ⟨h1, h1'.trans h2, ?_, ?_⟩
  · rw [hm.2 18 (by omega)]; exact h3
  · rw [hc 32 (by omega) (by omega), hm.1 72 (by omega) (by omega)]; exact h4
theorem skip_loop {T : Nat → Nat} {len : Nat} : ∀ N a c m, TX T len c m → a ≤ len → len - a < N → c.1 23 5 = nI a → m.1 59 20 = nI a → ∃ b, a ≤ b ∧ b ≤ len ∧ (b < len → T b ≠ 32) ∧ F_X5_skipBlanks_0 N c = some (sV c 23 5 (nI b)) ∧ F_X8_here_0 N m = some (if b < len then nI (T b) else -1, sV m 59 20 (nI b)) := by
  intro N
  induction N with
  | zero => intro a c m _ _ h; omega
  | succ N ih =>
    intro a c m h ha hN e5 e20
    obtain ⟨h1, h2, h3, h4⟩ := h
    by_cases ce : a = len
    · subst ce
      refine ⟨a, by omega, by omega, fun q => by omega, ?_, ?_⟩
      · rw [F_X5_skipBlanks_0, h2, e5, if_pos (by rw [leN (by omega) (by omega)]; omega), F_X5_skipBlanks_38, sV_self e5]
      · rw [F_X8_here_0, h3, e20, if_pos (by rw [leN (by omega) (by omega)]; omega), F_X8_here_38, h3, e20, if_pos (by rw [leN (by omega) (by omega)]; omega), F_X8_here_62, sV_self e20, if_neg (by omega)]
    · have hal : a < len := by omega
      obtain ⟨t1, t2, t3⟩ := h4 a hal
      have nle : ¬ nI len ≤ nI a := nI_ge hal (by omega)
      have g5 : ∀ {α : Type} {x : Option α}, gi (nI a) 500 x = x := gi_in (by omega) (by decide)
      have cl : (nI a).toNatClampNeg = a := clN (by omega)
      by_cases c32 : T a = 32
      · obtain ⟨b, b1, b2, b3, b4, b5⟩ := ih (a + 1) (sV c 23 5 (nI (a + 1))) (sV m 59 20 (nI (a + 1))) (TX.k ⟨h1, h2, h3, h4⟩ (KC_sV c (by omega) _) (KM_sV m (by omega) _)) (by omega) (by omega) (sV_g _ _ _ _) (sV_g _ _ _ _)
        rw [sV_sV] at b4 b5
        refine ⟨b, by omega, b2, b3, ?_, ?_⟩
        · rw [F_X5_skipBlanks_0, h2, e5, if_neg nle, g5, cl, t3, if_pos (by rw [litN 32, byC_eq t1 (by omega)]; exact c32)]
          simp only [bs, nI_1]
          exact b4
        · rw [F_X8_here_0, h3, e20, if_neg nle, g5, cl, t2, if_pos (by rw [litN 32, eqN (by omega) (by omega)]; exact c32)]
          simp only [bs, nI_1]
          exact b5
      · refine ⟨a, by omega, by omega, fun _ => c32, ?_, ?_⟩
        · rw [F_X5_skipBlanks_0, h2, e5, if_neg nle, g5, cl, t3, if_neg (by rw [litN 32, byC_eq t1 (by omega)]; exact c32), F_X5_skipBlanks_38, sV_self e5]
        · rw [F_X8_here_0, h3, e20, if_neg nle, g5, cl, t2, if_neg (by rw [litN 32, eqN (by omega) (by omega)]; exact c32), F_X8_here_38, h3, e20, if_neg nle, g5, cl, t2, F_X8_here_62, sV_self e20, if_pos hal]
theorem skip_both {T : Nat → Nat} {len a : Nat} {c m : St} (h : TX T len c m) (ha : a ≤ len) (e5 : c.1 23 5 = nI a) (e20 : m.1 59 20 = nI a) : ∃ b, a ≤ b ∧ b ≤ len ∧ (b < len → T b ≠ 32) ∧ F_X5_skipBlanks c = some (sV c 23 5 (nI b)) ∧ F_X8_here m = some (if b < len then nI (T b) else -1, sV m 59 20 (nI b)) := by
  have h5 := h.1
  exact skip_loop fN a c m h ha (by have := fN_big; omega) e5 e20
/-- figures -/
theorem dig_both {T : Nat → Nat} {len s0 : Nat} (lo hi : Int32) : ∀ N a c m, TX T len c m → s0 ≤ a → a ≤ len → len - a < N → c.1 23 5 = nI a → m.1 59 20 = nI a → c.1 23 6 = nI s0 → m.1 59 24 = nI s0 → (a - s0 ≤ 3 → ∃ x, x < 10 ^ (a - s0) ∧ c.1 23 7 = nI x ∧ m.1 59 23 = nI x) → ∃ b c' m', a ≤ b ∧ b ≤ len ∧ (a < len → 48 ≤ T a → T a ≤ 57 → a < b) ∧ (¬ (a < len ∧ 48 ≤ T a ∧ T a ≤ 57) → b = a) ∧ F_X5_readNumber_17 N lo hi c = F_X5_readNumber_106 lo hi c' ∧ F_X8_takeNumber_42 N lo hi m = F_X8_takeNumber_129 lo hi m' ∧ KC c c' ∧ KM m m' ∧ c'.1 23 5 = nI b ∧ m'.1 59 20 = nI b ∧ c'.1 23 6 = nI s0 ∧ m'.1 59 24 = nI s0 ∧ (b - s0 ≤ 3 → ∃ x, x < 10 ^ (b - s0) ∧ c'.1 23 7 = nI x ∧ m'.1 59 23 = nI x) := by
  intro N
  induction N with
  | zero => intro a c m _ _ _ h; omega
  | succ N ih =>
    intro a c m h hs ha hN e5 e20 e6 e24 hv
    have hTX := h
    obtain ⟨h1, h2, h3, h4⟩ := h
    by_cases ce : a = len
    · subst ce
      refine ⟨a, c, m, by omega, by omega, fun q => by omega, fun _ => rfl, ?_, ?_, KC.refl c, KM.refl m, e5, e20, e6, e24, hv⟩
      · rw [F_X5_readNumber_17, h2, e5, if_pos (by rw [leN (by omega) (by omega)]; omega)]
      · rw [F_X8_takeNumber_42, h3, e20, if_pos (by rw [leN (by omega) (by omega)]; omega)]
    · have hal : a < len := by omega
      obtain ⟨t1, t2, t3⟩ := h4 a hal
      have nle : ¬ nI len ≤ nI a := nI_ge hal (by omega)
      have g5 : ∀ {α : Type} {x : Option α}, gi (nI a) 500 x = x := gi_in (by omega) (by decide)
      have cl : (nI a).toNatClampNeg = a := clN (by omega)
      have hin : F_X8_in ((nI (T a)).toInt64) 48 57 m = some (if 48 ≤ T a ∧ T a ≤ 57 then 1 else 0, m) := by
        rw [M_in, wide, nI_toInt (by omega), show (48 : Int64).toInt = 48 from rfl, show (57 : Int64).toInt = 57 from rfl]
        by_cases d : 48 ≤ T a ∧ T a ≤ 57
        · rw [if_pos d, if_pos (by omega)]
        · rw [if_neg d, if_neg (by omega)]
      by_cases d : 48 ≤ T a ∧ T a ≤ 57
      · have n1 : ¬ byC (T a) < 48 := by rw [litN 48, byC_lt t1 (by omega)]; omega
        have n2 : ¬ (57 : Int32) < byC (T a) := by rw [litN 57, byC_gt t1 (by omega)]; omega
        have esub : nI a - nI s0 = nI (a - s0) := pk_sub hs
        by_cases c3 : a - s0 < 3
        · obtain ⟨x, x1, x2, x3⟩ := hv (by omega)
          have hx : x < 100 := by
            have : 10 ^ (a - s0) ≤ 10 ^ 2 := Nat.pow_le_pow_right (by omega) (by omega)
            omega
          have ex : x * 10 + T a - 48 < 10 ^ (a + 1 - s0) := by
            rw [show a + 1 - s0 = (a - s0) + 1 by omega, Nat.pow_succ]
            omega
          obtain ⟨b, c', m', b1, b2, b3, b4, b5, b6, b7, b8, b9⟩ := ih (a + 1) (sV (sV c 23 7 (nI (x * 10 + T a - 48))) 23 5 (nI (a + 1))) (sV (sV m 59 23 (nI (x * 10 + T a - 48))) 59 20 (nI (a + 1)))
            (hTX.k ((KC_sV c (by omega) _).trans (KC_sV _ (by omega) _)) ((KM_sV m (by omega) _).trans (KM_sV _ (by omega) _))) (by omega) (by omega) (by omega) (sV_g _ _ _ _) (sV_g _ _ _ _) (by rw [sV_f (by omega), sV_f (by omega)]; exact e6) (by rw [sV_f (by omega), sV_f (by omega)]; exact e24) (fun _ => ⟨_, ex, by rw [sV_f (by omega), sV_g], by rw [sV_f (by omega), sV_g]⟩)
          refine ⟨b, c', m', by omega, b2, fun _ _ _ => by omega, fun q => absurd ⟨hal, d⟩ q, ?_, ?_, ((KC_sV c (by omega) _).trans (KC_sV _ (by omega) _)).trans b7, ((KM_sV m (by omega) _).trans (KM_sV _ (by omega) _)).trans b8, b9⟩
          · rw [F_X5_readNumber_17, h2, e5, if_neg nle, g5, cl, t3, if_neg n1, g5, if_neg n2, e6, esub, if_neg (show ¬ (3 : Int32) ≤ nI (a - s0) from nI_ge (b := 3) c3 (by omega)), g5, x2]
            simp only [bs, F_X5_readNumber_93]
            rw [sV_f (show 5 ≠ 7 by omega), e5, nI_1, show nI x * 10 + byC (T a) - 48 = nI (x * 10 + T a - 48) by
              rw [litN 10, pk_mul, byC, if_pos (by omega), nI_add, litN 48, pk_sub (by omega)]]
            exact b5
          · rw [F_X8_takeNumber_42, h3, e20, if_neg nle, g5, cl, t2, hin, if_pos d, obs]
            dsimp only
            rw [if_neg (by decide), x3, if_pos (show nI x ≤ 10000 by rw [litN 10000, leN (by omega) (by omega)]; omega), e20, g5, cl, t2]
            simp only [bs, F_X8_takeNumber_113]
            rw [sV_f (show 20 ≠ 23 by omega), e20, nI_1, show 10 * nI x + nI (T a) - 48 = nI (x * 10 + T a - 48) by
              rw [litN 10, pk_mul, nI_add, litN 48, pk_sub (by omega), Nat.mul_comm 10 x]]
            exact b6
        · obtain ⟨y, ey⟩ : ∃ y, F_X8_takeNumber_42 (N + 1) lo hi m = F_X8_takeNumber_42 N lo hi (sV (sV m 59 23 y) 59 20 (nI (a + 1))) := by
            rw [F_X8_takeNumber_42, h3, e20, if_neg nle, g5, cl, t2, hin, if_pos d, obs]
            dsimp only
            rw [if_neg (by decide), e20, g5]
            unfold F_X8_takeNumber_113
            simp only [bs, sV_f (show 20 ≠ 23 by omega), e20, nI_1]
            split
            · exact ⟨_, rfl⟩
            · exact ⟨_, rfl⟩
          obtain ⟨b, c', m', b1, b2, b3, b4, b5, b6, b7, b8, b9⟩ := ih (a + 1) (sV c 23 5 (nI (a + 1))) (sV (sV m 59 23 y) 59 20 (nI (a + 1)))
            (hTX.k (KC_sV c (by omega) _) ((KM_sV m (by omega) _).trans (KM_sV _ (by omega) _))) (by omega) (by omega) (by omega) (sV_g _ _ _ _) (sV_g _ _ _ _) (by rw [sV_f (by omega)]; exact e6) (by rw [sV_f (by omega), sV_f (by omega)]; exact e24) (fun q => by omega)
          refine ⟨b, c', m', by omega, b2, fun _ _ _ => by omega, fun q => absurd ⟨hal, d⟩ q, ?_, ?_, (KC_sV c (by omega) _).trans b7, ((KM_sV m (by omega) _).trans (KM_sV _ (by omega) _)).trans b8, b9⟩
          · rw [F_X5_readNumber_17, h2, e5, if_neg nle, g5, cl, t3, if_neg n1, g5, if_neg n2, e6, esub, if_pos (show (3 : Int32) ≤ nI (a - s0) by rw [litN 3, leN (by omega) (by omega)]; omega)]
            simp only [bs, F_X5_readNumber_93]
            rw [e5, nI_1]
            exact b5
          · rw [ey]; exact b6
      · refine ⟨a, c, m, by omega, by omega, fun _ q1 q2 => absurd ⟨q1, q2⟩ d, fun _ => rfl, ?_, ?_, KC.refl c, KM.refl m, e5, e20, e6, e24, hv⟩
        · rw [F_X5_readNumber_17, h2, e5, if_neg nle, g5, cl, t3]
          by_cases n1 : byC (T a) < 48
          · rw [if_pos n1]
          · rw [if_neg n1, g5, if_pos (by
              rw [litN 48, byC_lt t1 (by omega)] at n1
              rw [litN 57, byC_gt t1 (by omega)]; omega)]
        · rw [F_X8_takeNumber_42, h3, e20, if_neg nle, g5, cl, t2, hin, if_neg d, obs]
          dsimp only
          rw [if_pos rfl]
/-- a fault of both -/
def FL (e : Nat) (c m : St) : Prop := 1 ≤ e ∧ e ≤ 4 ∧ c.1 23 2 = nI e ∧ c.1 23 3 = m.1 59 19
theorem P_isFault (e w : Int32) (c : St) : F_X5_isFault e w c = some (0, sV (sV c 23 2 e) 23 3 w) := rfl
theorem M_fails (e w : Int32) (m : St) : F_X8_fails e w m = some (e, sV m 59 19 w) := rfl
theorem FL_mk {e : Nat} (h1 : 1 ≤ e) (h2 : e ≤ 4) (c m : St) (w : Int32) : FL e (sV (sV c 23 2 (nI e)) 23 3 w) (sV m 59 19 w) := ⟨h1, h2, by rw [sV_f (by omega), sV_g], by rw [sV_g, sV_g]⟩
theorem gb0' {α : Type} (x : Option α) : gb 0 x = x := by rw [gb, if_pos (by decide)]
theorem gb1' {α : Type} (x : Option α) : gb 1 x = x := by rw [gb, if_pos (by decide)]
theorem num_both {T : Nat → Nat} {len a : Nat} {c m : St} (h : TX T len c m) (ha : a ≤ len) (e5 : c.1 23 5 = nI a) (e20 : m.1 59 20 = nI a) (lo hi : Int32) :
    (∃ c' m' b x, a < b ∧ b ≤ len ∧ F_X5_readNumber lo hi c = some (1, c') ∧ F_X8_takeNumber lo hi m = some (0, m') ∧ KC c c' ∧ KM m m' ∧ c'.1 23 5 = nI b ∧ m'.1 59 20 = nI b ∧ x < 1000 ∧ c'.1 23 7 = nI x ∧ m'.1 59 23 = nI x ∧ lo.toInt ≤ (x : Int) ∧ (x : Int) ≤ hi.toInt ∧ c'.1 23 6 = m'.1 59 24)
    ∨ (∃ c' m' e, F_X5_readNumber lo hi c = some (0, c') ∧ F_X8_takeNumber lo hi m = some (nI e, m') ∧ WC c c' ∧ WM m m' ∧ FL e c' m') := by
  obtain ⟨s, s1, s2, s3, s4, s5⟩ := skip_both h ha e5 e20
  have hl := h.1
  have hTX1 := h.k (KC_sV c (j := 5) (by omega) (nI s)) (KM_sV m (j := 20) (by omega) (nI s))
  rw [F_X5_readNumber, F_X5_readNumber_0, s4, obs, F_X8_takeNumber, F_X8_takeNumber_0, s5, obs]
  simp only [bs]
  rw [sV_g]
  by_cases d : s < len ∧ 48 ≤ T s ∧ T s ≤ 57
  · have ht := (h.2.2.2 s d.1).1
    have hin : ∀ m, F_X8_in ((nI (T s)).toInt64) 48 57 m = some (1, m) := by
      intro m
      rw [M_in, wide, nI_toInt (by omega), show (48 : Int64).toInt = 48 from rfl, show (57 : Int64).toInt = 57 from rfl, if_pos (by omega)]
    rw [if_pos d.1, hin, obs]
    dsimp only
    rw [if_neg (by decide), sV_g]
    obtain ⟨b, c', m', b1, b2, b3, b4, b5, b6, b7, b8, b9, b10, b11, b12, b13⟩ := dig_both (T := T) (len := len) (s0 := s) lo hi fN s (sV (sV (sV c 23 5 (nI s)) 23 6 (nI s)) 23 7 0) (sV (sV (sV m 59 20 (nI s)) 59 24 (nI s)) 59 23 0)
      (hTX1.k ((KC_sV _ (by omega) _).trans (KC_sV _ (by omega) _)) ((KM_sV _ (by omega) _).trans (KM_sV _ (by omega) _))) (by omega) (by omega) (by have := fN_big; omega) (by rw [sV_f (by omega), sV_f (by omega), sV_g]) (by rw [sV_f (by omega), sV_f (by omega), sV_g]) (by rw [sV_f (by omega), sV_g]) (by rw [sV_f (by omega), sV_g]) (fun _ => ⟨0, by rw [Nat.sub_self]; decide, by rw [sV_g]; rfl, by rw [sV_g]; rfl⟩)
    have hsb := b3 d.1 d.2.1 d.2.2
    have kc := (((KC_sV c (by omega) _).trans (KC_sV _ (by omega) _)).trans (KC_sV _ (by omega) _)).trans b7
    have km := (((KM_sV m (by omega) _).trans (KM_sV _ (by omega) _)).trans (KM_sV _ (by omega) _)).trans b8
    rw [b5, b6]
    have esub : nI b - nI s = nI (b - s) := pk_sub (by omega)
    have f2c : F_X5_readNumber_156 c' = some (0, sV (sV c' 23 2 (nI 2)) 23 3 (nI s)) := by
      rw [F_X5_readNumber_156, P_isFault, obs, b11]
      exact gb0' _
    have f2m : F_X8_takeNumber_157 m' = some (nI 2, sV m' 59 19 (nI s)) := by
      rw [F_X8_takeNumber_157, M_fails, obs, F_X8_takeNumber_170, b12]
      rfl
    have fl : ∃ c'' m'' e, some ((0 : Int32), sV (sV c' 23 2 (nI 2)) 23 3 (nI s)) = some (0, c'') ∧ some (nI 2, sV m' 59 19 (nI s)) = some (nI e, m'') ∧ WC c c'' ∧ WM m m'' ∧ FL e c'' m'' := ⟨_, _, 2, rfl, rfl, kc.w.trans ((WC_sV _ _ _).trans (WC_sV _ _ _)), km.w.trans (WM_sV _ (by omega) _), FL_mk (by omega) (by omega) _ _ _⟩
    by_cases c3 : b - s ≤ 3
    · obtain ⟨x, x1, x2, x3⟩ := b13 c3
      have hx : x < 1000 := by
        have : 10 ^ (b - s) ≤ 10 ^ 3 := Nat.pow_le_pow_right (by omega) (by omega)
        omega
      have inm : F_X8_in ((nI x).toInt64) lo.toInt64 hi.toInt64 m' = some (if lo.toInt ≤ (x : Int) ∧ (x : Int) ≤ hi.toInt then 1 else 0, m') := by
        rw [M_in, wide, wide, wide, nI_toInt (by omega)]
      have n3 : ¬ (3 : Int32) < nI (b - s) := by rw [litN 3, ltN (by omega) (by omega)]; omega
      rw [F_X5_readNumber_106, b9, b11, if_neg (by rw [eqN (by omega) (by omega)]; omega), esub, if_neg n3, x2, F_X8_takeNumber_129, b10, b12, esub, if_neg n3, x3, inm, obs]
      dsimp only
      by_cases c4 : lo.toInt ≤ (x : Int) ∧ (x : Int) ≤ hi.toInt
      · left
        rw [if_neg (by rw [ilt, nI_toInt (by omega)]; omega), if_pos (by rw [ile, nI_toInt (by omega)]; exact c4.2), if_pos c4, if_neg (by decide)]
        exact ⟨c', m', b, x, by omega, b2, rfl, rfl, kc, km, b9, b10, hx, x2, x3, c4.1, c4.2, b11.trans b12.symm⟩
      · right
        rw [if_neg c4, if_pos rfl, f2m]
        have : (if nI x < lo then F_X5_readNumber_156 c' else if nI x ≤ hi then some (1, c') else F_X5_readNumber_156 c') = F_X5_readNumber_156 c' := by
          by_cases c5 : nI x < lo
          · rw [if_pos c5]
          · rw [if_neg c5, if_neg (fun q => c4 ⟨by rw [ilt, nI_toInt (by omega)] at c5; omega, by rw [ile, nI_toInt (by omega)] at q; exact q⟩)]
        rw [this, f2c]
        exact fl
    · right
      have p3 : (3 : Int32) < nI (b - s) := by rw [litN 3, ltN (by omega) (by omega)]; omega
      rw [F_X5_readNumber_106, b9, b11, if_neg (by rw [eqN (by omega) (by omega)]; omega), esub, if_pos p3, F_X8_takeNumber_129, b10, b12, esub, if_pos p3, f2c, f2m]
      exact fl
  · right
    have hin : F_X8_in ((if s < len then nI (T s) else -1 : Int32).toInt64) 48 57 (sV m 59 20 (nI s)) = some (0, sV m 59 20 (nI s)) := by
      rw [M_in, wide, show (48 : Int64).toInt = 48 from rfl, show (57 : Int64).toInt = 57 from rfl, if_neg]
      by_cases sl : s < len
      · have ht := (h.2.2.2 s sl).1
        rw [if_pos sl, nI_toInt (by omega)]; omega
      · rw [if_neg sl, show (-1 : Int32).toInt = -1 from rfl]; omega
    rw [hin, obs]
    dsimp only
    rw [if_pos rfl, M_fails, obs, sV_g]
    obtain ⟨b, c', m', b1, b2, b3, b4, b5, b6, b7, b8, b9, b10, b11, b12, b13⟩ := dig_both (T := T) (len := len) (s0 := s) lo hi fN s (sV (sV (sV c 23 5 (nI s)) 23 6 (nI s)) 23 7 0) (sV (sV (sV m 59 20 (nI s)) 59 24 (nI s)) 59 23 0)
      (hTX1.k ((KC_sV _ (by omega) _).trans (KC_sV _ (by omega) _)) ((KM_sV _ (by omega) _).trans (KM_sV _ (by omega) _))) (by omega) (by omega) (by have := fN_big; omega) (by rw [sV_f (by omega), sV_f (by omega), sV_g]) (by rw [sV_f (by omega), sV_f (by omega), sV_g]) (by rw [sV_f (by omega), sV_g]) (by rw [sV_f (by omega), sV_g]) (fun _ => ⟨0, by rw [Nat.sub_self]; decide, by rw [sV_g]; rfl, by rw [sV_g]; rfl⟩)
    have hbs := b4 d
    subst hbs
    have kc := (((KC_sV c (by omega) _).trans (KC_sV _ (by omega) _)).trans (KC_sV _ (by omega) _)).trans b7
    rw [b5, F_X5_readNumber_106, b9, b11, if_pos rfl, P_isFault, obs]
    exact ⟨_, _, 1, gb0' _, rfl, kc.w.trans ((WC_sV _ _ _).trans (WC_sV _ _ _)), (KM_sV m (by omega) _).w.trans (WM_sV _ (by omega) _), FL_mk (by omega) (by omega) _ _ _⟩
/-- a sign -/
theorem sign_both {T : Nat → Nat} {len a : Nat} {c m : St} (h : TX T len c m) (ha : a ≤ len) (e5 : c.1 23 5 = nI a) (e20 : m.1 59 20 = nI a) {ch : Nat} (hch : ch < 128) : ∃ b hv, a ≤ b ∧ b ≤ len ∧ F_X8_here m = some (hv, sV m 59 20 (nI b)) ∧ ((b < len ∧ hv = nI ch ∧ F_X5_takeSign (nI ch) c = some (1, sV c 23 5 (nI (b + 1)))) ∨ (¬ hv = nI ch ∧ F_X5_takeSign (nI ch) c = some (0, sV c 23 5 (nI b)))) := by
  obtain ⟨b, b1, b2, b3, b4, b5⟩ := skip_both h ha e5 e20
  have hl := h.1
  refine ⟨b, _, b1, b2, b5, ?_⟩
  rw [F_X5_takeSign, F_X5_takeSign_0, b4, obs, sV_f (show 1 ≠ 5 by omega), h.2.1, sV_g]
  by_cases d : b < len
  · obtain ⟨t1, t2, t3⟩ := h.2.2.2 b d
    rw [if_neg (nI_ge d (by omega)), gi_in (show b < 500 by omega) (by decide), clN (by omega), sV_off (by omega), t3, if_pos d]
    by_cases e : T b = ch
    · left
      rw [if_pos (by rw [byC_eq t1 hch]; exact e)]
      simp only [bs]
      rw [sV_sV, nI_1]
      exact ⟨d, by rw [e], rfl⟩
    · right
      rw [if_neg (by rw [byC_eq t1 hch]; exact e)]
      exact ⟨by rw [eqN (by omega) (by omega)]; exact e, rfl⟩
  · right
    rw [if_neg d, if_pos (show nI len ≤ nI b by rw [leN (by omega) (by omega)]; omega)]
    exact ⟨fun q => nI_ne1 (a := ch) (by omega) q.symm, rfl⟩

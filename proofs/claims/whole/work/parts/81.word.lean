/-! PURE: words -/
def wdL : List (List Nat) := [[114, 111, 111, 109], [112, 101, 114, 115, 111, 110], [102, 114, 105, 101, 110, 100, 115]]
def wLn (w : Nat) : Nat := strLen.getD w 0
def wdC (w k : Nat) : Nat := (wdL.getD w []).getD k 0
theorem wd_ok : ∀ w, w < 3 → wLn w ≤ 7 ∧ ∀ k, k < wLn w → strCh w (nI k) = nI (wdC w k) ∧ 97 ≤ wdC w k ∧ wdC w k ≤ 122 := by decide +kernel
def WdT (T : Nat → Nat) (len b w : Nat) : Prop := b + wLn w ≤ len ∧ (∀ k, k < wLn w → T (b + k) = wdC w k) ∧ (b + wLn w < len → ¬ (97 ≤ T (b + wLn w) ∧ T (b + wLn w) ≤ 122))
theorem P_length (w : Nat) (c : St) : F_J0_length_8abf5 w c = some (nI (wLn w), c) := rfl
theorem P_wordLoop {T : Nat → Nat} {len b w : Nat} {c m : St} (h : TX T len c m) (hw : w < 3) (e5 : c.1 23 5 = nI b) (hl : b + wLn w ≤ len) (v2 : Int32) : ((∀ k, k < wLn w → T (b + k) = wdC w k) ∧ F_X5_isWord_52 w fN v2 0 c = some (1, sV c 23 5 v2)) ∨ (¬ (∀ k, k < wLn w → T (b + k) = wdC w k) ∧ F_X5_isWord_52 w fN v2 0 c = some (0, c)) := by
  have hlen := h.1
  obtain ⟨w7, wch⟩ := wd_ok w hw
  have q := upn (n := wLn w) (P := fun N j => (∀ k, k < j → T (b + k) = wdC w k) → ((∀ k, k < wLn w → T (b + k) = wdC w k) ∧ F_X5_isWord_52 w N v2 (nI j) c = some (1, sV c 23 5 v2)) ∨ (¬ (∀ k, k < wLn w → T (b + k) = wdC w k) ∧ F_X5_isWord_52 w N v2 (nI j) c = some (0, c)))
    (fun N hj => by
      left
      refine ⟨hj, ?_⟩
      rw [F_X5_isWord_52, P_length, obs]
      dsimp only
      rw [if_pos (by rw [leN (by omega) (by omega)]; omega)]
      rfl)
    (fun N j hj ih hpre => by
      obtain ⟨t1, t2, t3⟩ := h.2.2.2 (b + j) (by omega)
      obtain ⟨d1, d2, d3⟩ := wch j hj
      rw [F_X5_isWord_52, P_length, obs]
      dsimp only
      rw [if_neg (nI_ge hj (by omega)), e5, nI_add, gi_in (show b + j < 500 by omega) (by decide), clN (by omega), F_J0_charAt_5068e, show strLen.getD w 0 = wLn w from rfl, gi_in hj (by omega), obs]
      dsimp only
      rw [d1, t3]
      by_cases e : T (b + j) = wdC w j
      · rw [if_pos (by rw [byC_eq t1 (by omega)]; exact e), nI_1]
        exact ih (fun k hk => by
          by_cases c : k = j
          · subst c; exact e
          · exact hpre k (by omega))
      · right
        rw [if_neg (by rw [byC_eq t1 (by omega)]; exact e)]
        exact ⟨fun q => e (q j hj), rfl⟩) fN 0 (by omega) (by have := fN_big; omega) (fun k hk => by omega)
  exact q
theorem P_isWord {T : Nat → Nat} {len b w : Nat} {c m : St} (h : TX T len c m) (hw : w < 3) (hb : b ≤ len) (e5 : c.1 23 5 = nI b) : (WdT T len b w ∧ F_X5_isWord w c = some (1, sV c 23 5 (nI (b + wLn w)))) ∨ (¬ WdT T len b w ∧ F_X5_isWord w c = some (0, c)) := by
  have hlen := h.1
  obtain ⟨w7, wch⟩ := wd_ok w hw
  rw [F_X5_isWord, F_X5_isWord_0, P_length, obs]
  dsimp only
  rw [h.2.1, e5, nI_add]
  by_cases c1 : len < b + wLn w
  · right
    rw [if_pos (by rw [ltN (by omega) (by omega)]; exact c1), F_X5_isWord_48]
    exact ⟨fun q => by have := q.1; omega, rfl⟩
  · rw [if_neg (by rw [ltN (by omega) (by omega)]; exact c1)]
    have key := P_wordLoop h hw e5 (by omega) (nI (b + wLn w))
    have fin : (b + wLn w < len → ¬ (97 ≤ T (b + wLn w) ∧ T (b + wLn w) ≤ 122)) → (WdT T len b w ∧ F_X5_isWord_50 w (nI (b + wLn w)) c = some (1, sV c 23 5 (nI (b + wLn w)))) ∨ (¬ WdT T len b w ∧ F_X5_isWord_50 w (nI (b + wLn w)) c = some (0, c)) := by
      intro h3
      rw [F_X5_isWord_50]
      rcases key with ⟨k1, k2⟩ | ⟨k1, k2⟩
      · exact Or.inl ⟨⟨by omega, k1, h3⟩, k2⟩
      · exact Or.inr ⟨fun q => k1 q.2.1, k2⟩
    by_cases c2 : len ≤ b + wLn w
    · rw [if_pos (by rw [leN (by omega) (by omega)]; exact c2)]
      exact fin (fun q => by omega)
    · rw [if_neg (by rw [leN (by omega) (by omega)]; exact c2), gi_in (show b + wLn w < 500 by omega) (by decide), gi_in (show b + wLn w < 500 by omega) (by decide), clN (by omega)]
      obtain ⟨t1, t2, t3⟩ := h.2.2.2 (b + wLn w) (by omega)
      rw [t3]
      by_cases c3 : byC (T (b + wLn w)) < 97
      · rw [if_pos c3]
        rw [litN 97, byC_lt t1 (by omega)] at c3
        exact fin (fun _ => by omega)
      · rw [if_neg c3]
        rw [litN 97, byC_lt t1 (by omega)] at c3
        by_cases c4 : (122 : Int32) < byC (T (b + wLn w))
        · rw [if_pos c4]
          rw [litN 122, byC_gt t1 (by omega)] at c4
          exact fin (fun _ => by omega)
        · right
          rw [if_neg c4, F_X5_isWord_48]
          rw [litN 122, byC_gt t1 (by omega)] at c4
          exact ⟨fun q => q.2.2 (by omega) (by omega), rfl⟩
/-! the reference: a word as a number -/
def vlF (T : Nat → Nat) (b : Nat) : Nat → Nat
  | 0 => 0
  | j + 1 => if 10000000000000 < vlF T b j then 20000000000000 else 27 * vlF T b j + T (b + j) - 96
theorem vlF_le (T : Nat → Nat) (b : Nat) : ∀ j, (∀ k, k < j → 97 ≤ T (b + k) ∧ T (b + k) ≤ 122) → vlF T b j < 1000000000000000 := by
  intro j
  induction j with
  | zero => intro _; show 0 < _; omega
  | succ j ih =>
    intro h
    have := ih (fun k hk => h k (by omega))
    have := h j (by omega)
    rw [vlF]
    split <;> omega
theorem vl_inj {T U : Nat → Nat} {b : Nat} : ∀ i j, (∀ k, k < j → 97 ≤ T (b + k) ∧ T (b + k) ≤ 122) → (∀ k, k < i → 97 ≤ U (0 + k) ∧ U (0 + k) ≤ 122) → vlF U 0 i ≤ 10000000000000 → vlF T b j = vlF U 0 i → j = i ∧ ∀ k, k < j → T (b + k) = U (0 + k) := by
  intro i
  induction i with
  | zero =>
    intro j hT hU hle e
    cases j with
    | zero => exact ⟨rfl, fun k hk => by omega⟩
    | succ j =>
      exfalso
      have := hT j (by omega)
      rw [vlF, vlF] at e
      split at e <;> omega
  | succ i ih =>
    intro j hT hU hle e
    have hu := hU i (by omega)
    rw [vlF] at e hle
    by_cases cu : 10000000000000 < vlF U 0 i
    · rw [if_pos cu] at hle; omega
    · rw [if_neg cu] at hle e
      cases j with
      | zero => rw [vlF] at e; omega
      | succ j =>
        have ht := hT j (by omega)
        rw [vlF] at e
        by_cases ct : 10000000000000 < vlF T b j
        · rw [if_pos ct] at e; omega
        · rw [if_neg ct] at e
          obtain ⟨h1, h2⟩ := ih j (fun k hk => hT k (by omega)) (fun k hk => hU k (by omega)) (by omega) (by omega)
          subst h1
          refine ⟨rfl, fun k hk => ?_⟩
          by_cases c : k = j
          · subst c; omega
          · exact h2 k (by omega)
theorem vl_pref {T U : Nat → Nat} {b d : Nat} : ∀ j, (∀ k, k < j → T (b + k) = U (d + k)) → vlF T b j = vlF U d j := by
  intro j
  induction j with
  | zero => intro _; rfl
  | succ j ih =>
    intro h
    rw [vlF, vlF, ih (fun k hk => h k (by omega)), h j (by omega)]
def cdW (w : Nat) : Nat := vlF (wdC w) 0 (wLn w)
theorem cdW_le : ∀ w, w < 3 → cdW w ≤ 10000000000000 := by decide +kernel
theorem wd_iff {T : Nat → Nat} {len b e w : Nat} (hw : w < 3) (h1 : b ≤ e) (h2 : e ≤ len) (h3 : ∀ j, b ≤ j → j < e → 97 ≤ T j ∧ T j ≤ 122) (h4 : e < len → ¬ (97 ≤ T e ∧ T e ≤ 122)) : (vlF T b (e - b) = cdW w ↔ WdT T len b w) ∧ (WdT T len b w → e = b + wLn w) := by
  obtain ⟨w7, wch⟩ := wd_ok w hw
  have hend : WdT T len b w → e = b + wLn w := by
    intro ⟨q1, q2, q3⟩
    by_cases c : e < b + wLn w
    · exfalso
      have := q2 (e - b) (by omega)
      rw [show b + (e - b) = e by omega] at this
      have h5 := (wch (e - b) (by omega)).2
      exact h4 (by omega) (by omega)
    · by_cases c2 : e = b + wLn w
      · exact c2
      · exfalso
        exact q3 (by omega) (h3 _ (by omega) (by omega))
  refine ⟨⟨fun q => ?_, fun q => ?_⟩, hend⟩
  · obtain ⟨a1, a2⟩ := vl_inj (T := T) (U := wdC w) (b := b) (wLn w) (e - b) (fun k hk => h3 (b + k) (by omega) (by omega)) (fun k hk => by rw [Nat.zero_add]; exact (wch k hk).2) (cdW_le w hw) q
    refine ⟨by omega, fun k hk => ?_, fun z => ?_⟩
    · have := a2 k (by omega)
      rw [Nat.zero_add] at this
      exact this
    · have : b + wLn w = e := by omega
      rw [this] at z ⊢
      exact h4 z
  · have := hend q
    rw [show e - b = wLn w by omega]
    exact vl_pref (wLn w) (fun k hk => by rw [Nat.zero_add]; exact q.2.1 k hk)
theorem cmp_eq (x y : Int64) : (lg_cmp x y = 0) = (x = y) := by
  refine propext ⟨fun h => ?_, fun h => ?_⟩
  · have a1 := cmp_lt x y
    have a2 := cmp_gt x y
    rw [h] at a1 a2
    apply Int64.toInt_inj.mp
    have b1 : ¬ x.toInt < y.toInt := by rw [← a1]; decide
    have b2 : ¬ y.toInt < x.toInt := by rw [← a2]; decide
    omega
  · subst h
    have a1 := cmp_lt x x
    have a2 := cmp_gt x x
    have b1 : ¬ lg_cmp x x < 0 := by rw [a1]; omega
    have b2 : ¬ (0 : Int32) < lg_cmp x x := by rw [a2]; omega
    exact Int32.le_antisymm (Int32.not_lt.mp b2) (Int32.not_lt.mp b1)
theorem here_id {T : Nat → Nat} {len b : Nat} {c m : St} (h : TX T len c m) (hb : b < len) (hT : T b ≠ 32) (e20 : m.1 59 20 = nI b) : F_X8_here m = some (nI (T b), m) := by
  obtain ⟨M, hM, -⟩ := fN_succ
  have hl := h.1
  obtain ⟨t1, t2, t3⟩ := h.2.2.2 b hb
  rw [F_X8_here, hM, F_X8_here_0, F_X8_here_38, h.2.2.1, e20, if_neg (nI_ge hb (by omega)), gi_in (show b < 500 by omega) (by decide), clN (by omega), t2, if_neg (by rw [litN 32, eqN (by omega) (by omega)]; exact hT), if_neg (nI_ge hb (by omega)), gi_in (show b < 500 by omega) (by decide)]
  rfl
theorem sJ_1 (m : St) (i k : Nat) (x : Int64) : (sJ m i k x).1 = m.1 := rfl
theorem sJ_g (m : St) (x : Int64) : (sJ m 59 21 x).2 59 21 = x := by
  simp [sJ, vp_updL]
theorem word_loop {T : Nat → Nat} {len b : Nat} {c : St} : ∀ N j m, TX T len c m → b + j ≤ len → len - (b + j) < N → m.1 59 22 = nI (b + j) → m.2 59 21 = lN (vlF T b j) → (∀ k, k < j → 97 ≤ T (b + k) ∧ T (b + k) ≤ 122) → ∃ e m', F_X8_readWord_18 N m = some m' ∧ b + j ≤ e ∧ e ≤ len ∧ (∀ x, b + j ≤ x → x < e → 97 ≤ T x ∧ T x ≤ 122) ∧ (e < len → ¬ (97 ≤ T e ∧ T e ≤ 122)) ∧ m'.1 59 22 = nI e ∧ m'.2 59 21 = lN (vlF T b (e - b)) ∧ KM m m' ∧ m'.1 59 20 = m.1 59 20 := by
  intro N
  induction N with
  | zero => intro j m _ _ h; omega
  | succ N ih =>
    intro j m h hj hN e22 e21 hlet
    have hTX := h
    obtain ⟨h1, h2, h3, h4⟩ := h
    by_cases ce : b + j = len
    · refine ⟨len, m, ?_, by omega, by omega, fun x _ _ => by omega, fun q => by omega, by rw [e22, ce], by rw [e21, show len - b = j by omega], KM.refl m, rfl⟩
      rw [F_X8_readWord_18, h3, e22, if_pos (by rw [leN (by omega) (by omega)]; omega), F_X8_readWord_108]
    · obtain ⟨t1, t2, t3⟩ := h4 (b + j) (by omega)
      have nle : ¬ nI len ≤ nI (b + j) := nI_ge (by omega) (by omega)
      have g5 : ∀ {α : Type} {x : Option α}, gi (nI (b + j)) 500 x = x := gi_in (by omega) (by decide)
      have cl : (nI (b + j)).toNatClampNeg = b + j := clN (by omega)
      have hin : F_X8_in ((nI (T (b + j))).toInt64) 97 122 m = some (if 97 ≤ T (b + j) ∧ T (b + j) ≤ 122 then 1 else 0, m) := by
        rw [M_in, wide, nI_toInt (by omega), show (97 : Int64).toInt = 97 from rfl, show (122 : Int64).toInt = 122 from rfl]
        by_cases d : 97 ≤ T (b + j) ∧ T (b + j) ≤ 122
        · rw [if_pos d, if_pos (by omega)]
        · rw [if_neg d, if_neg (by omega)]
      by_cases d : 97 ≤ T (b + j) ∧ T (b + j) ≤ 122
      · have hle := vlF_le T b j hlet
        have step : F_X8_readWord_18 (N + 1) m = F_X8_readWord_18 N (sV (sJ m 59 21 (lN (vlF T b (j + 1)))) 59 22 (nI (b + (j + 1)))) := by
          rw [F_X8_readWord_18, h3, e22, if_neg nle, g5, cl, t2, hin, if_pos d, obs]
          dsimp only
          rw [if_neg (by decide), e21, e22, g5, cl, t2, vlF]
          simp only [F_X8_readWord_92, bs, sJ_1]
          rw [e22, nI_1, Nat.add_assoc]
          by_cases cs : 10000000000000 < vlF T b j
          · rw [if_pos cs, if_neg]
            · rfl
            · intro q
              have := cmp_gt (lN (vlF T b j)) 10000000000000
              rw [pk_lT (by omega), show (10000000000000 : Int64).toInt = 10000000000000 from rfl] at this
              have b2 : (0 : Int32) < lg_cmp (lN (vlF T b j)) 10000000000000 := by rw [this]; omega
              exact absurd q (Int32.not_le.mpr b2)
          · rw [if_neg cs, if_pos]
            · rw [show (27 : Int64) = lN 27 from rfl, lN_mul, nI_l (by omega), lN_add, show (96 : Int64) = lN 96 from rfl, lN_sub (by omega)]
            · refine Int32.not_lt.mp (fun q => ?_)
              have := cmp_gt (lN (vlF T b j)) 10000000000000
              rw [pk_lT (by omega), show (10000000000000 : Int64).toInt = 10000000000000 from rfl] at this
              rw [this] at q
              omega
        have km : KM m (sV (sJ m 59 21 (lN (vlF T b (j + 1)))) 59 22 (nI (b + (j + 1)))) := ⟨fun a ha => sV_off ha, fun i h1 h2 h3 h4 => sV_f h2⟩
        obtain ⟨e, m', q1, q2, q3, q4, q5, q6, q7, q8, q9⟩ := ih (j + 1) (sV (sJ m 59 21 (lN (vlF T b (j + 1)))) 59 22 (nI (b + (j + 1)))) (hTX.k (KC.refl c) km) (by omega) (by omega) (sV_g _ _ _ _) (by rw [sV_2, sJ_g]) (fun k hk => by
          by_cases c : k = j
          · subst c; exact d
          · exact hlet k (by omega))
        refine ⟨e, m', by rw [step]; exact q1, by omega, q3, fun x x1 x2 => ?_, q5, q6, q7, km.trans q8, q9.trans (sV_f (by omega))⟩
        by_cases c : x = b + j
        · subst c; exact d
        · exact q4 x (by omega) x2
      · refine ⟨b + j, m, ?_, by omega, by omega, fun x _ _ => by omega, fun _ => d, e22, by rw [e21, show b + j - b = j by omega], KM.refl m, rfl⟩
        rw [F_X8_readWord_18, h3, e22, if_neg nle, g5, cl, t2, hin, if_neg d, obs]
        dsimp only
        rw [if_pos rfl, F_X8_readWord_108]
theorem word_both {T : Nat → Nat} {len b : Nat} {c m : St} (h : TX T len c m) (hb : b < len) (hT : T b ≠ 32) (e20 : m.1 59 20 = nI b) : ∃ e m', F_X8_readWord m = some m' ∧ KM m m' ∧ m'.1 59 20 = nI b ∧ m'.1 59 22 = nI e ∧ ∀ w, w < 3 → (m'.2 59 21 = lN (cdW w) ↔ WdT T len b w) ∧ (WdT T len b w → e = b + wLn w) := by
  have hl := h.1
  have km : KM m (sV (sJ m 59 21 0) 59 22 (nI b)) := ⟨fun a ha => sV_off ha, fun i h1 h2 h3 h4 => sV_f h2⟩
  obtain ⟨e, m', q1, q2, q3, q4, q5, q6, q7, q8, q9⟩ := word_loop (T := T) (len := len) (b := b) (c := c) fN 0 (sV (sJ m 59 21 0) 59 22 (nI b)) (h.k (KC.refl c) km) (by omega) (by have := fN_big; omega) (sV_g _ _ _ _) (by rw [sV_2, sJ_g]; rfl) (fun k hk => by omega)
  refine ⟨e, m', ?_, km.trans q8, by rw [q9, sV_f (by omega)]; exact e20, q6, fun w hw => ?_⟩
  · rw [F_X8_readWord, F_X8_readWord_0, here_id h hb hT e20, obs]
    simp only [bs, sJ_1]
    rw [e20]
    exact q1
  · obtain ⟨k1, k2⟩ := wd_iff (T := T) (len := len) (b := b) (e := e) hw (by omega) q3 (fun j j1 j2 => q4 j (by omega) j2) q5
    refine ⟨?_, k2⟩
    rw [q7, pk_lEQ (by
      have := vlF_le T b (e - b) (fun k hk => q4 (b + k) (by omega) (by omega))
      omega) (by have := cdW_le w hw; omega)]
    exact k1

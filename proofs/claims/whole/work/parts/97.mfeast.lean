/-! PURE: deals of a feast: the reference -/
theorem M_deal {k n : Nat} {pc : Nat → Nat} {S : St} (h : HM k n pc S) {s c : Nat} (hs : s < 2 ^ n) (hk0 : ∀ q, s.testBit q = true → 0 < k) (hcc : c < 2 ^ 31) : ∃ f, F_X8_deal (nI s) (nI c) S = some (sA S 85 f) ∧ ∀ q, q < n → f q = if s.testBit q = true then nI (digF s k n c q) else -1 := by
  have hn := h.2.1
  have hk := h.1
  have hs64 := (bits_n n hn s hs).1
  have e59 : ∀ f, (sA S 85 f).1 59 0 = nI k := fun f => by rw [sA_off (by omega)]; exact h.2.2.1
  have q := downn (n := n) (P := fun N j => ∀ c f, c < 2 ^ 31 → ∃ f', F_X8_deal_10 N (nI s) (nI c) (nI j - 1) (sA S 85 f) = some (sA S 85 f') ∧ (∀ q, q < j → f' q = if s.testBit q = true then nI (digF s k j c q) else -1) ∧ ∀ q, j ≤ q → f' q = f q)
    (fun N c f _ => ⟨f, by rw [F_X8_deal_10, if_pos (by decide)], fun q hq => by omega, fun _ _ => rfl⟩)
    (fun N j hj ih c f hcc => by
      have hj6 : j < 6 := by omega
      have e2 : nI j + (-1) = nI j - 1 := by rw [Int32.sub_eq_add_neg]
      rw [nI_pred, F_X8_deal_10, if_neg (nI_pos (by omega)), M_has hs64 hj6, obs]
      dsimp only
      cases hb : s.testBit j with
      | false =>
        rw [if_neg (show ¬ (false = true) by decide), if_pos rfl, F_X8_deal_40, g6 hj6, c6 hj6, bse, sV_sA, M_has hs64 hj6, obs]
        dsimp only
        rw [hb, if_neg (show ¬ (false = true) by decide), if_pos rfl, F_X8_deal_59, gz, if_neg (by decide), e2, show nI c / (1 : Int32) = nI c from (pk_div (d := 1) hcc (by omega) (by omega)).trans (by rw [Nat.div_one])]
        obtain ⟨f', z1, z2, z3⟩ := ih c (upd f j (-1)) hcc
        refine ⟨f', z1, fun q hq => ?_, fun q hq => by rw [z3 q (by omega), upd_off (by omega)]⟩
        by_cases d : q = j
        · subst d; rw [z3 q (by omega), upd_at, if_neg (by rw [hb]; decide)]
        · rw [z2 q (by omega), digF, if_neg (show ¬ s.testBit j = true by rw [hb]; decide)]
      | true =>
        have k0 := hk0 j hb
        have gzk : ∀ {α : Type} {x : Option α}, gz (nI k) x = x := by
          intro α x
          rw [gz, if_neg (nI_ne0 k0 (by omega))]
        rw [if_pos (show true = true from rfl), if_neg (by decide), e59, gzk, F_X8_deal_40, g6 hj6, c6 hj6, bse, sV_sA, M_has hs64 hj6, obs]
        dsimp only
        rw [hb, if_pos (show true = true from rfl), if_neg (by decide), e59, F_X8_deal_59, gzk, e2, pk_rem hcc k0 (by omega), pk_div hcc k0 (by omega)]
        obtain ⟨f', z1, z2, z3⟩ := ih (c / k) (upd f j (nI (c % k))) (Nat.lt_of_le_of_lt (Nat.div_le_self _ _) hcc)
        refine ⟨f', z1, fun q hq => ?_, fun q hq => by rw [z3 q (by omega), upd_off (by omega)]⟩
        by_cases d : q = j
        · subst d; rw [z3 q (by omega), upd_at, if_pos hb, digF, if_pos hb, if_pos rfl]
        · rw [z2 q (by omega), digF, if_pos hb, if_neg d]) fN n (Nat.le_refl _) (by have := fN_big; omega) c (S.1 85) hcc
  obtain ⟨f', z1, z2, z3⟩ := q
  rw [sA_id] at z1
  refine ⟨f', ?_, z2⟩
  rw [F_X8_deal, F_X8_deal_0, h.2.2.2.1]
  exact z1
def mvN (sv : Nat → Nat → Option Nat) (r P : Nat) : Nat := match sv r P with
  | none => 1000000
  | some m => m
theorem M_sumOf {k n : Nat} {pc : Nat → Nat} {S : St} (h : HM k n pc S) {s c : Nat} (hs : s < 2 ^ n) {sv : Nat → Nat → Option Nat} (h84 : ∀ r P, r < k → P < 2 ^ n → (∀ j, j < 6 → P.testBit j = true → s.testBit j = true) → S.1 84 (64 * r + P) = nI (mvN sv r P)) (h85 : ∀ q, q < n → S.1 85 q = if s.testBit q = true then nI (digF s k n c q) else -1) (hkd : ∀ q, digF s k n c q < 2 ^ 31) : F_X8_sumOf (nI s) S = some (nI (sumS (fun r => mvN sv r (ptF s k n c r)) k), S) := by
  have hn := h.2.1
  have hk := h.1
  have hs64 := (bits_n n hn s hs).1
  have h2n := (one_n n hn).2.1
  have inner : ∀ r, r < k → ∀ (k4 : Int32 → Int32 → Int32 → St → Option (Int32 × St)) (v2 : Nat), F_X8_sumOf_18 k4 fN (nI s) (nI v2) (nI r) 0 0 S = k4 (nI s) (nI (v2 + mvN sv r (ptF s k n c r))) (nI (r + 1)) S := by
    intro r hr k4 v2
    have q := upn (n := n) (P := fun N j => F_X8_sumOf_18 k4 N (nI s) (nI v2) (nI r) (nI (mkS (fun q => s.testBit q && decide (digF s k n c q = r)) j)) (nI j) S = k4 (nI s) (nI (v2 + mvN sv r (ptF s k n c r))) (nI (r + 1)) S)
      (fun N => by
        have hP : ptF s k n c r < 2 ^ n := ptF_2n hn (Nat.le_refl n)
        rw [F_X8_sumOf_18, h.2.2.2.1, if_pos (by rw [leN (by omega) (by omega)]; omega), show 64 * nI r + nI (mkS (fun q => s.testBit q && decide (digF s k n c q = r)) n) = nI (64 * r + ptF s k n c r) by rw [litN 64, pk_mul, nI_add]; rfl, gi_in (by omega) (by decide), clN (by omega), h84 r _ hr hP (fun j hj hb => by
          rw [ptF_bit hn hj] at hb
          simp at hb
          exact hb.2.1), nI_add, nI_1])
      (fun N j hj ih => by
        have hj6 : j < 6 := by omega
        rw [F_X8_sumOf_18, h.2.2.2.1, if_neg (nI_ge hj (by omega)), M_has hs64 hj6, obs]
        dsimp only
        have hb' := h85 j hj
        cases hb : s.testBit j with
        | false =>
          rw [if_neg (show ¬ (false = true) by decide), if_pos rfl, F_X8_sumOf_56, F_X8_sumOf_57, or0, nI_1]
          rw [mkS_f (by rw [hb]; rfl)] at ih
          exact ih
        | true =>
          rw [hb, if_pos (show true = true from rfl)] at hb'
          rw [if_pos (show true = true from rfl), if_neg (by decide), g6 hj6, c6 hj6, hb']
          by_cases d : digF s k n c j = r
          · rw [if_pos (by rw [d]), F_X8_sumOf_57, orN (mkS_lt _ _ (by omega)) hj6, nI_1]
            rw [mkS_t (by rw [hb, d]; simp)] at ih
            exact ih
          · rw [if_neg (by rw [eqN (hkd j) (by omega)]; exact d), F_X8_sumOf_56, F_X8_sumOf_57, or0, nI_1]
            rw [mkS_f (by rw [hb]; simp [d])] at ih
            exact ih) fN 0 (by omega) (fN0 (by omega))
    exact q
  have outer := upn (n := k) (P := fun N r => F_X8_sumOf_4 N (nI s) (nI (sumS (fun r => mvN sv r (ptF s k n c r)) r)) (nI r) S = some (nI (sumS (fun r => mvN sv r (ptF s k n c r)) k), S))
    (fun N => by rw [F_X8_sumOf_4, h.2.2.1, if_pos (by rw [leN (by omega) (by omega)]; omega)])
    (fun N r hr ih => by
      rw [F_X8_sumOf_4, h.2.2.1, if_neg (nI_ge hr (by omega)), inner r hr]
      exact ih) fN 0 (by omega) (fN0 (by omega))
  exact outer
theorem sm_mv {sv : Nat → Nat → Option Nat} {pt : Nat → Nat} : ∀ k, (∀ m, smF sv pt k = some m → sumS (fun r => mvN sv r (pt r)) k = m) ∧ (smF sv pt k = none → 1000000 ≤ sumS (fun r => mvN sv r (pt r)) k) := by
  intro k
  induction k with
  | zero => exact ⟨fun m h => by rw [smF] at h; cases h; rfl, fun h => by rw [smF] at h; cases h⟩
  | succ k ih =>
    obtain ⟨i1, i2⟩ := ih
    rw [smF, sumS]
    cases h1 : smF sv pt k with
    | none =>
      have := i2 h1
      exact ⟨fun m h => (by cases h), fun _ => by omega⟩
    | some m1 =>
      have e1 := i1 m1 h1
      dsimp only
      cases h2 : sv k (pt k) with
      | none =>
        have : mvN sv k (pt k) = 1000000 := by unfold mvN; rw [h2]
        exact ⟨fun m h => (by cases h), fun _ => by omega⟩
      | some x =>
        have : mvN sv k (pt k) = x := by unfold mvN; rw [h2]
        refine ⟨fun m h => ?_, fun h => by cases h⟩
        have e : m1 + x = m := Option.some.inj h
        omega
theorem M_weightOf {k n : Nat} {pc : Nat → Nat} {S : St} (h : HM k n pc S) {s c : Nat} (hs : s < 2 ^ n) {wt : Nat → Nat → Nat} (hw : ∀ p q, p < n → q < n → S.1 66 (p * 6 + q) = nI (wt p q)) (h85 : ∀ q, q < n → S.1 85 q = if s.testBit q = true then nI (digF s k n c q) else -1) (hkd : ∀ q, digF s k n c q < 2 ^ 31) : F_X8_weightOf (nI s) S = some (nI (wtF s (digF s k n c) wt n), S) := by
  have hn := h.2.1
  have hs64 := (bits_n n hn s hs).1
  have inner : ∀ p, p < n → ∀ (k4 : Int32 → Int32 → Int32 → St → Option (Int32 × St)) (v2 : Nat), F_X8_weightOf_15 k4 fN (nI s) (nI v2) (nI p) 0 S = k4 (nI s) (nI (v2 + (if s.testBit p = true then wqF s (digF s k n c) wt p (digF s k n c p) p else 0))) (nI (p + 1)) S := by
    intro p hp k4 v2
    have hp6 : p < 6 := by omega
    have q := upn (n := p) (P := fun N j => F_X8_weightOf_15 k4 N (nI s) (nI (v2 + (if s.testBit p = true then wqF s (digF s k n c) wt p (digF s k n c p) j else 0))) (nI p) (nI j) S = k4 (nI s) (nI (v2 + (if s.testBit p = true then wqF s (digF s k n c) wt p (digF s k n c p) p else 0))) (nI (p + 1)) S)
      (fun N => by rw [F_X8_weightOf_15, if_pos (by rw [leN (by omega) (by omega)]; omega), nI_1])
      (fun N j hj ih => by
        have hj6 : j < 6 := by omega
        rw [F_X8_weightOf_15, if_neg (nI_ge hj (by omega)), M_has hs64 hp6, obs]
        dsimp only
        have hbp' := h85 p hp
        have hbj' := h85 j (by omega)
        cases hbp : s.testBit p with
        | false =>
          rw [hbp, if_neg (show ¬ (false = true) by decide)] at ih
          rw [if_neg (show ¬ (false = true) by decide), if_pos (show (0 : Int32) = 0 from rfl), F_X8_weightOf_70, F_X8_weightOf_71, Int32.add_zero, nI_1]
          exact ih
        | true =>
          rw [hbp, if_pos (show true = true from rfl)] at ih hbp'
          have ew : wqF s (digF s k n c) wt p (digF s k n c p) (j + 1) = wqF s (digF s k n c) wt p (digF s k n c p) j + (if s.testBit j = true ∧ digF s k n c j = digF s k n c p then wt p j else 0) := rfl
          rw [ew] at ih
          rw [if_pos (show true = true from rfl), if_pos (show true = true from rfl), if_neg (show ¬ (1 : Int32) = 0 by decide), M_has hs64 hj6, obs]
          dsimp only
          cases hbj : s.testBit j with
          | false =>
            rw [if_neg (fun z => by rw [hbj] at z; exact absurd z.1 (by decide)), Nat.add_zero] at ih
            rw [if_neg (show ¬ (false = true) by decide), if_pos (show (0 : Int32) = 0 from rfl), F_X8_weightOf_70, F_X8_weightOf_71, Int32.add_zero, nI_1]
            exact ih
          | true =>
            rw [hbj, if_pos (show true = true from rfl)] at hbj'
            rw [if_pos (show true = true from rfl), if_neg (show ¬ (1 : Int32) = 0 by decide), g6 hp6, c6 hp6, g6 hj6, c6 hj6, hbp', hbj']
            by_cases d : digF s k n c j = digF s k n c p
            · rw [if_pos ⟨hbj, d⟩] at ih
              rw [if_pos (by rw [d]), show 6 * nI p + nI j = nI (p * 6 + j) by rw [litN 6, pk_mul, nI_add, Nat.mul_comm], gi_in (show p * 6 + j < 36 by omega) (by decide), clN (by omega), hw p j hp (by omega), F_X8_weightOf_71, nI_add, nI_1, Nat.add_assoc]
              exact ih
            · rw [if_neg (fun z => d z.2), Nat.add_zero] at ih
              rw [if_neg (by rw [eqN (hkd p) (hkd j)]; exact fun z => d z.symm), F_X8_weightOf_70, F_X8_weightOf_71, Int32.add_zero, nI_1]
              exact ih) fN 0 (by omega) (fN0 (by omega))
    have e0 : (if s.testBit p = true then wqF s (digF s k n c) wt p (digF s k n c p) 0 else 0) = 0 := by split <;> rfl
    rw [e0, Nat.add_zero] at q
    exact q
  have outer := upn (n := n) (P := fun N p => F_X8_weightOf_4 N (nI s) (nI (wtF s (digF s k n c) wt p)) (nI p) S = some (nI (wtF s (digF s k n c) wt n), S))
    (fun N => by rw [F_X8_weightOf_4, h.2.2.2.1, if_pos (by rw [leN (by omega) (by omega)]; omega)])
    (fun N p hp ih => by
      rw [F_X8_weightOf_4, h.2.2.2.1, if_neg (nI_ge hp (by omega)), inner p hp]
      exact ih) fN 0 (by omega) (fN0 (by omega))
  exact outer
theorem M_187 (k119 : Int32 → Int32 → Int32 → Int32 → St → Option (Int32 × St)) (v1 v2 v3 v4 : Int32) (S : St) : ∃ s, F_X8_findFeast_187 k119 fN v1 v2 v3 v4 0 S = F_X8_findFeast_214 k119 v1 v2 v3 v4 s ∧ CpI S 85 86 6 s := by
  refine loop_gen (F := fun N j s => F_X8_findFeast_187 k119 N v1 v2 v3 v4 j s) (E := F_X8_findFeast_214 k119 v1 v2 v3 v4) (by omega) (CpI S 85 86) (fun N s => by rw [F_X8_findFeast_187, if_pos (by decide)]) (fun N j s hj h => ⟨_, ?_, CpI_s (by omega) h⟩) S (CpI_0 _ _ _)
  rw [F_X8_findFeast_187, if_neg (by rw [f6 hj]; exact not_false), g6 hj, g6 hj, c6 hj, bse, nI_1]
def RpM (s k n : Nat) (SM : Nat → Option Nat) (W : Nat → Nat) (b : Option Nat) (ls : Int32) (st : St) : Prop := match b with
  | none => ls = 1000000
  | some c0 => ∃ m, SM c0 = some m ∧ ls = nI m ∧ st.1 59 42 = nI (W c0) ∧ ∀ q, q < n → s.testBit q = true → st.1 86 q = nI (digF s k n c0 q)
theorem M_feastLoop {k n : Nat} {pc : Nat → Nat} {S : St} (h : HM k n pc S) {s : Nat} (hs : s < 2 ^ n) {sv : Nat → Nat → Option Nat} {wt : Nat → Nat → Nat} (hv : ∀ r P m, sv r P = some m → m < 1000) (h84 : ∀ r P, r < k → P < 2 ^ n → (∀ j, j < 6 → P.testBit j = true → s.testBit j = true) → S.1 84 (64 * r + P) = nI (mvN sv r P)) (hw : ∀ p q, p < n → q < n → S.1 66 (p * 6 + q) = nI (wt p q)) (hw99 : ∀ p q, p < 6 → q < 6 → wt p q ≤ 99) {cs : Nat} (hcs : cs < 100000) (hk0 : ∀ q, s.testBit q = true → 0 < k) : ∃ st' v, F_X8_findFeast_119 fN (nI s) (nI cs) 1000000 0 S = some (v, st') ∧ (∀ x, x ≠ 85 → x ≠ 86 → x ≠ 59 → st'.1 x = S.1 x) ∧ (∀ j, j ≠ 42 → st'.1 59 j = S.1 59 j) ∧ RpM s k n (fun c => smF sv (ptF s k n c) k) (fun c => wtF s (digF s k n c) wt n) (goF (fun c => smF sv (ptF s k n c) k) (fun c => wtF s (digF s k n c) wt n) cs 0 none) v st' := by
  have hn := h.2.1
  have hk := h.1
  have hWb : ∀ c, wtF s (digF s k n c) wt n ≤ 3564 := fun c => by have := wtF_le (s := s) (a := digF s k n c) hw99 n hn; omega
  have hkd : ∀ c q, digF s k n c q < 2 ^ 31 := by
    intro c q
    by_cases k0 : 0 < k
    · have := digF_lt (s := s) k0 n c q; omega
    · have : ∀ j c q, (∀ x, s.testBit x = true → 0 < k) → digF s k j c q = 0 := by
        intro j
        induction j with
        | zero => intro c q _; rfl
        | succ j ih =>
          intro c q hx
          rw [digF]
          split
          · exact absurd (hx j (by assumption)) k0
          · exact ih _ _ hx
      rw [this n c q hk0]; omega
  have q := upn (n := cs) (P := fun N c => ∀ st (ls : Int32) b, (∀ x, x ≠ 85 → x ≠ 86 → x ≠ 59 → st.1 x = S.1 x) → (∀ j, j ≠ 42 → st.1 59 j = S.1 59 j) → RpM s k n (fun c => smF sv (ptF s k n c) k) (fun c => wtF s (digF s k n c) wt n) b ls st → ∃ st' v, F_X8_findFeast_119 N (nI s) (nI cs) ls (nI c) st = some (v, st') ∧ (∀ x, x ≠ 85 → x ≠ 86 → x ≠ 59 → st'.1 x = S.1 x) ∧ (∀ j, j ≠ 42 → st'.1 59 j = S.1 59 j) ∧ RpM s k n (fun c => smF sv (ptF s k n c) k) (fun c => wtF s (digF s k n c) wt n) (goF (fun c => smF sv (ptF s k n c) k) (fun c => wtF s (digF s k n c) wt n) (cs - c) c b) v st')
    (fun N st ls b hf hf9 hb => ⟨st, ls, by rw [F_X8_findFeast_119, if_pos (by rw [leN (by omega) (by omega)]; omega)], hf, hf9, by rw [Nat.sub_self]; exact hb⟩)
    (fun N c hc ih st ls b hf hf9 hb => by
      have hst : HM k n pc st := h.cg (hf9 0 (by omega)) (hf9 3 (by omega)) (hf 60 (by omega) (by omega) (by omega))
      obtain ⟨f, d1, d2⟩ := M_deal hst hs hk0 (show c < 2 ^ 31 by omega)
      have hU : HM k n pc (sA st 85 f) := HM_sA hst (by omega) f
      have uo : ∀ x, x ≠ 85 → (sA st 85 f).1 x = st.1 x := fun x hx => sA_off hx
      have h85 : ∀ q, q < n → (sA st 85 f).1 85 q = if s.testBit q = true then nI (digF s k n c q) else -1 := by rw [sA_at]; exact d2
      have sm := M_sumOf hU (c := c) hs (sv := sv) (by rw [uo 84 (by omega), hf 84 (by omega) (by omega) (by omega)]; exact h84) h85 (hkd c)
      have wo := M_weightOf hU (c := c) hs (wt := wt) (by rw [uo 66 (by omega), hf 66 (by omega) (by omega) (by omega)]; exact hw) h85 (hkd c)
      rw [F_X8_findFeast_119, if_neg (nI_ge hc (by omega)), d1, obs, sm, obs]
      dsimp only
      rw [wo, obs]
      dsimp only
      obtain ⟨x, hx⟩ : ∃ x, x = sumS (fun r => mvN sv r (ptF s k n c r)) k := ⟨_, rfl⟩
      rw [← hx]
      have hxb : x ≤ 3000000 := by
        rw [hx]
        have : ∀ j, j ≤ k → sumS (fun r => mvN sv r (ptF s k n c r)) j ≤ j * 1000000 := fun j _ => sumS_le j (fun r _ => by
          unfold mvN
          cases hh : sv r (ptF s k n c r) with
          | none => exact Nat.le_refl _
          | some m => have := hv r _ m hh; dsimp only; omega)
        have := this k (Nat.le_refl k)
        omega
      obtain ⟨sm1, sm2⟩ := sm_mv (sv := sv) (pt := ptF s k n c) k
      rw [show cs - c = (cs - (c + 1)) + 1 by omega, goF]
      have keep : RpM s k n (fun c => smF sv (ptF s k n c) k) (fun c => wtF s (digF s k n c) wt n) (pkF (fun c => smF sv (ptF s k n c) k) (fun c => wtF s (digF s k n c) wt n) b c) ls st → ∃ st' v, F_X8_findFeast_214 (F_X8_findFeast_119 N) (nI s) (nI cs) ls (nI c) (sA st 85 f) = some (v, st') ∧ (∀ x, x ≠ 85 → x ≠ 86 → x ≠ 59 → st'.1 x = S.1 x) ∧ (∀ j, j ≠ 42 → st'.1 59 j = S.1 59 j) ∧ RpM s k n (fun c => smF sv (ptF s k n c) k) (fun c => wtF s (digF s k n c) wt n) (goF (fun c => smF sv (ptF s k n c) k) (fun c => wtF s (digF s k n c) wt n) (cs - (c + 1)) (c + 1) (pkF (fun c => smF sv (ptF s k n c) k) (fun c => wtF s (digF s k n c) wt n) b c)) v st' := by
        intro hb'
        rw [F_X8_findFeast_214, nI_1]
        refine ih (sA st 85 f) ls _ (fun x h1 h2 h3 => by rw [uo x h1]; exact hf x h1 h2 h3) (fun j hj => by rw [uo 59 (by omega)]; exact hf9 j hj) ?_
        unfold RpM at hb' ⊢
        rw [uo 59 (by omega), uo 86 (by omega)]
        exact hb'
      have take : ∀ m, smF sv (ptF s k n c) k = some m → pkF (fun c => smF sv (ptF s k n c) k) (fun c => wtF s (digF s k n c) wt n) b c = some c → ∃ st' v, F_X8_findFeast_175 (F_X8_findFeast_119 N) (nI s) (nI cs) (nI c) (nI x) (nI (wtF s (digF s k n c) wt n)) (sA st 85 f) = some (v, st') ∧ (∀ x, x ≠ 85 → x ≠ 86 → x ≠ 59 → st'.1 x = S.1 x) ∧ (∀ j, j ≠ 42 → st'.1 59 j = S.1 59 j) ∧ RpM s k n (fun c => smF sv (ptF s k n c) k) (fun c => wtF s (digF s k n c) wt n) (goF (fun c => smF sv (ptF s k n c) k) (fun c => wtF s (digF s k n c) wt n) (cs - (c + 1)) (c + 1) (pkF (fun c => smF sv (ptF s k n c) k) (fun c => wtF s (digF s k n c) wt n) b c)) v st' := by
        intro m hm hp
        rw [F_X8_findFeast_175, bse]
        obtain ⟨t, t1, t2, t3⟩ := M_187 (F_X8_findFeast_119 N) (nI s) (nI cs) (nI x) (nI c) (sV (sA st 85 f) 59 42 (nI (wtF s (digF s k n c) wt n)))
        rw [t1, F_X8_findFeast_214, nI_1, hp]
        refine ih t (nI x) (some c) (fun y h1 h2 h3 => by rw [t2 y h2, sV_off h3, uo y h1]; exact hf y h1 h2 h3) (fun j hj => by rw [t2 59 (by omega), sV_f hj, uo 59 (by omega)]; exact hf9 j hj) ⟨m, hm, by rw [hx, sm1 m hm], by rw [t2 59 (by omega), sV_g], fun q hq hbq => ?_⟩
        rw [t3 q (by omega), sV_off (by omega), h85 q hq, if_pos hbq]
      have e42 : (sA st 85 f).1 59 42 = st.1 59 42 := by rw [uo 59 (by omega)]
      rw [e42]
      cases hm : smF sv (ptF s k n c) k with
      | none =>
        have hx6 := sm2 hm
        rw [← hx] at hx6
        have ep : pkF (fun c => smF sv (ptF s k n c) k) (fun c => wtF s (digF s k n c) wt n) b c = b := by unfold pkF; dsimp only; rw [hm]
        have hls : ls ≤ 1000000 := by
          cases b with
          | none => have : ls = 1000000 := hb; rw [this]; exact Int32.le_refl _
          | some c0 =>
            obtain ⟨m0, hm0, rfl, -⟩ := hb
            have := smF_le hv k m0 hm0
            rw [litN 1000000, leN (by omega) (by omega)]; omega
        have n1 : ¬ nI x < ls := by
          rw [ilt, nI_toInt (by omega)]
          rw [ile] at hls
          have : (1000000 : Int32).toInt = 1000000 := rfl
          omega
        rw [if_neg n1, if_pos (show (1000000 : Int32) ≤ nI x by rw [litN 1000000, leN (by omega) (by omega)]; exact hx6)]
        have kk := keep (by rw [ep]; exact hb)
        split
        · exact kk
        · exact kk
      | some m =>
        have ex : x = m := by rw [hx]; exact sm1 m hm
        have hm3 := smF_le hv k m hm
        have n6 : ¬ (1000000 : Int32) ≤ nI x := by rw [litN 1000000, leN (by omega) (by omega)]; omega
        cases b with
        | none =>
          have e1 : ls = 1000000 := hb
          have ep : pkF (fun c => smF sv (ptF s k n c) k) (fun c => wtF s (digF s k n c) wt n) none c = some c := by unfold pkF; dsimp only; rw [hm]
          rw [if_pos (show nI x < ls by rw [e1, litN 1000000, ltN (by omega) (by omega)]; omega)]
          exact take m hm ep
        | some c0 =>
          have hb0 := hb
          obtain ⟨m0, hm0, rfl, h42, h86⟩ := hb
          have hm03 := smF_le hv k m0 hm0
          have ep : pkF (fun c => smF sv (ptF s k n c) k) (fun c => wtF s (digF s k n c) wt n) (some c0) c = if m < m0 ∨ (m = m0 ∧ wtF s (digF s k n c0) wt n < wtF s (digF s k n c) wt n) then some c else some c0 := by
            unfold pkF; dsimp only; rw [hm]; dsimp only
            have : (smF sv (ptF s k n c0) k).getD 0 = m0 := by rw [show smF sv (ptF s k n c0) k = some m0 from hm0]; rfl
            rw [this]
          have k1 : (nI x < nI m0) = (m < m0) := by rw [ex]; exact ltN (by omega) (by omega)
          have k2 : (nI x = nI m0) = (m = m0) := by rw [ex]; exact eqN (by omega) (by omega)
          have k3 : (nI (wtF s (digF s k n c) wt n) ≤ nI (wtF s (digF s k n c0) wt n)) = (wtF s (digF s k n c) wt n ≤ wtF s (digF s k n c0) wt n) := leN (Nat.lt_of_le_of_lt (hWb c) (by decide)) (Nat.lt_of_le_of_lt (hWb c0) (by decide))
          rw [h42]
          dsimp only
          by_cases d1 : m < m0
          · rw [if_pos (show nI x < nI m0 by rw [k1]; exact d1)]
            exact take m hm (by rw [ep, if_pos (Or.inl d1)])
          · rw [if_neg (show ¬ nI x < nI m0 by rw [k1]; exact d1)]
            by_cases d2 : m = m0
            · rw [if_pos (show nI x = nI m0 by rw [k2]; exact d2), if_neg n6]
              by_cases d3 : wtF s (digF s k n c) wt n ≤ wtF s (digF s k n c0) wt n
              · rw [if_pos (show nI (wtF s (digF s k n c) wt n) ≤ nI (wtF s (digF s k n c0) wt n) by rw [k3]; exact d3)]
                exact keep (by rw [ep, if_neg (fun z => by omega)]; exact hb0)
              · rw [if_neg (show ¬ nI (wtF s (digF s k n c) wt n) ≤ nI (wtF s (digF s k n c0) wt n) by rw [k3]; exact d3)]
                exact take m hm (by rw [ep, if_pos (Or.inr ⟨d2, by omega⟩)])
            · rw [if_neg (show ¬ nI x = nI m0 by rw [k2]; exact d2)]
              exact keep (by rw [ep, if_neg (fun z => by omega)]; exact hb0)) fN 0 (by omega) (fN0 hcs) S 1000000 none (fun _ _ _ _ => rfl) (fun _ _ => rfl) rfl
  rw [Nat.sub_zero] at q
  exact q

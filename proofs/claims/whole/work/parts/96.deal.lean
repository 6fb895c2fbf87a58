/-! PURE: deals of a feast: the class -/
def ptF (s k p c r : Nat) : Nat := mkS (fun q => s.testBit q && decide (digF s k p c q = r)) p
def smF (sv : Nat → Nat → Option Nat) (pt : Nat → Nat) : Nat → Option Nat
  | 0 => some 0
  | r + 1 => match smF sv pt r with
    | none => none
    | some m => match sv r (pt r) with
      | none => none
      | some x => some (m + x)
def wqF (s : Nat) (a : Nat → Nat) (wt : Nat → Nat → Nat) (p r : Nat) : Nat → Nat := sumS (fun q => if s.testBit q = true ∧ a q = r then wt p q else 0)
def wtF (s : Nat) (a : Nat → Nat) (wt : Nat → Nat → Nat) : Nat → Nat
  | 0 => 0
  | p + 1 => wtF s a wt p + (if s.testBit p = true then wqF s a wt p (a p) p else 0)
def pkF (SM : Nat → Option Nat) (W : Nat → Nat) (b : Option Nat) (c : Nat) : Option Nat := match SM c with
  | none => b
  | some m => match b with
    | none => some c
    | some c0 => if m < (SM c0).getD 0 ∨ (m = (SM c0).getD 0 ∧ W c0 < W c) then some c else some c0
def goF (SM : Nat → Option Nat) (W : Nat → Nat) : Nat → Nat → Option Nat → Option Nat
  | 0, _, b => b
  | d + 1, c, b => goF SM W d (c + 1) (pkF SM W b c)
theorem goF_add (SM : Nat → Option Nat) (W : Nat → Nat) : ∀ d1 d2 c b, goF SM W (d1 + d2) c b = goF SM W d2 (c + d1) (goF SM W d1 c b) := by
  intro d1
  induction d1 with
  | zero => intro d2 c b; rw [Nat.zero_add]; rfl
  | succ d1 ih =>
    intro d2 c b
    rw [show d1 + 1 + d2 = (d1 + d2) + 1 by omega, goF, ih, goF, show c + 1 + d1 = c + (d1 + 1) by omega]
theorem wqF_congr {s : Nat} {a a' : Nat → Nat} {wt : Nat → Nat → Nat} {p r : Nat} : ∀ n, (∀ q, q < n → a q = a' q) → wqF s a wt p r n = wqF s a' wt p r n := fun n h => sumS_congr n (fun q hq => by rw [h q hq])
theorem wtF_congr {s : Nat} {a a' : Nat → Nat} {wt : Nat → Nat → Nat} : ∀ p, (∀ q, q < p → a q = a' q) → wtF s a wt p = wtF s a' wt p := by
  intro p
  induction p with
  | zero => intro _; rfl
  | succ p ih =>
    intro h
    rw [wtF, wtF, ih (fun q hq => h q (by omega)), h p (by omega), wqF_congr p (fun q hq => h q (by omega))]
theorem wqF_le {s : Nat} {a : Nat → Nat} {wt : Nat → Nat → Nat} {p r : Nat} (hw : ∀ q, q < 6 → wt p q ≤ 99) : ∀ n, n ≤ 6 → wqF s a wt p r n ≤ n * 99 := fun n hn => sumS_le n (fun q hq => by split; exact hw q (by omega); omega)
theorem wtF_le {s : Nat} {a : Nat → Nat} {wt : Nat → Nat → Nat} (hw : ∀ p q, p < 6 → q < 6 → wt p q ≤ 99) : ∀ p, p ≤ 6 → wtF s a wt p ≤ p * 594 := by
  intro p
  induction p with
  | zero => intro _; show 0 ≤ _; omega
  | succ p ih =>
    intro h
    have h1 := ih (by omega)
    have h2 := wqF_le (s := s) (a := a) (wt := wt) (p := p) (r := a p) (fun q hq => hw p q (by omega) hq) p (by omega)
    rw [wtF, Nat.add_mul, Nat.one_mul]
    split
    · exact Nat.add_le_add h1 (Nat.le_trans h2 (Nat.le_trans (Nat.mul_le_mul_right 99 (show p ≤ 6 by omega)) (by decide)))
    · exact Nat.add_le_add h1 (Nat.zero_le _)
theorem smF_le {sv : Nat → Nat → Option Nat} {pt : Nat → Nat} (hv : ∀ r P m, sv r P = some m → m < 1000) : ∀ k m, smF sv pt k = some m → m ≤ k * 1000 := by
  intro k
  induction k with
  | zero => intro m h; rw [smF] at h; cases h; omega
  | succ k ih =>
    intro m h
    rw [smF] at h
    cases h1 : smF sv pt k with
    | none => rw [h1] at h; cases h
    | some m1 =>
      rw [h1] at h
      dsimp only at h
      cases h2 : sv k (pt k) with
      | none => rw [h2] at h; cases h
      | some x =>
        rw [h2] at h
        have e : m1 + x = m := Option.some.inj h
        have := ih m1 h1
        have := hv k _ x h2
        omega
theorem smF_none {sv : Nat → Nat → Option Nat} {pt : Nat → Nat} {r : Nat} : ∀ k, r < k → sv r (pt r) = none → smF sv pt k = none := by
  intro k
  induction k with
  | zero => intro h; omega
  | succ k ih =>
    intro h hn
    rw [smF]
    by_cases c : r = k
    · subst c
      cases smF sv pt r with
      | none => rfl
      | some m => dsimp only; rw [hn]
    · rw [ih (by omega) hn]
theorem dig_next {s k p c r : Nat} (hk : 0 < k) (hr : r < k) (hb : s.testBit p = true) : digF s k (p + 1) (c * k + r) p = r ∧ ∀ q, q < p → digF s k (p + 1) (c * k + r) q = digF s k p c q := by
  have e1 : (c * k + r) % k = r := by rw [Nat.add_comm, Nat.add_mul_mod_self_right, Nat.mod_eq_of_lt hr]
  have e2 : (c * k + r) / k = c := by rw [Nat.mul_comm, Nat.mul_add_div hk, Nat.div_eq_of_lt hr, Nat.add_zero]
  refine ⟨by rw [digF, if_pos hb, if_pos rfl, e1], fun q hq => by rw [digF, if_pos hb, if_neg (by omega), e2]⟩
theorem ptF_lt {s k p c r : Nat} (hp : p ≤ 6) : ptF s k p c r < 64 := mkS_lt _ p hp
theorem ptF_bit {s k p c r : Nat} (hp : p ≤ 6) {q : Nat} (hq : q < 6) : (ptF s k p c r).testBit q = (decide (q < p) && (s.testBit q && decide (digF s k p c q = r))) := mkS_bit _ p hp q hq
theorem ptF_f {s k p c r : Nat} (hb : s.testBit p = false) : ptF s k (p + 1) c r = ptF s k p c r := by
  unfold ptF
  rw [mkS_f (by rw [hb]; rfl)]
  refine mkS_congr p (fun q hq => ?_)
  rw [digF, if_neg (by rw [hb]; decide)]
theorem ptF_t {s k p c r r' : Nat} (hk : 0 < k) (hr : r < k) (hb : s.testBit p = true) : ptF s k (p + 1) (c * k + r) r' = if r' = r then ptF s k p c r' ||| 2 ^ p else ptF s k p c r' := by
  obtain ⟨d1, d2⟩ := dig_next (c := c) hk hr hb
  unfold ptF
  have e : mkS (fun q => s.testBit q && decide (digF s k (p + 1) (c * k + r) q = r')) p = mkS (fun q => s.testBit q && decide (digF s k p c q = r')) p := mkS_congr p (fun q hq => by rw [d2 q hq])
  by_cases c1 : r' = r
  · rw [if_pos c1, mkS_t (by rw [hb, d1, c1]; simp), e]
  · rw [if_neg c1, mkS_f (by rw [hb, d1]; simp; exact fun z => c1 z.symm), e]
theorem ptF_2n {s k n p c r : Nat} (hn : n ≤ 6) (hp : p ≤ n) : ptF s k p c r < 2 ^ n := by
  refine Nat.lt_pow_two_of_testBit _ (fun j hj => ?_)
  by_cases c6 : j < 6
  · rw [ptF_bit (by omega) c6, decide_eq_false (by omega)]; rfl
  · exact Nat.testBit_lt_two_pow (Nat.lt_of_lt_of_le (ptF_lt (by omega)) (Nat.pow_le_pow_right (by omega : 0 < 2) (show 6 ≤ j by omega)))
/-- what the class's deals start from -/
def FsI (k n : Nat) (pc : Nat → Nat) (lw s : Nat) (sv : Nat → Nat → Option Nat) (wt : Nat → Nat → Nat) (S : St) : Prop := HC k n pc S ∧ lw ≤ 1 ∧ S.1 9 5 = nI lw ∧ s < 2 ^ n ∧ (∀ r P, r < k → P < 2 ^ n → (∀ j, j < 6 → P.testBit j = true → s.testBit j = true) → S.1 36 ((lw * 3 + r) * 64 + P) = (match sv r P with | none => -1 | some m => nI m)) ∧ (∀ r P m, sv r P = some m → m < 1000) ∧ (∀ p q, p < n → q < n → S.1 8 (p * 6 + q) = nI (wt p q)) ∧ ∀ p q, p < 6 → q < 6 → wt p q ≤ 99
def RpC (s k n : Nat) (SM : Nat → Option Nat) (W : Nat → Nat) (b : Option Nat) (st : St) : Prop := match b with
  | none => st.1 38 4 = 0
  | some c0 => st.1 38 4 = 1 ∧ ∃ m, SM c0 = some m ∧ st.1 38 5 = nI m ∧ st.1 38 6 = nI (W c0) ∧ ∀ r, r < k → st.1 40 r = nI (ptF s k n c0 r)
def DlI (s k p c : Nat) (S st : St) : Prop := (∀ x, x ≠ 38 → x ≠ 39 → x ≠ 40 → st.1 x = S.1 x) ∧ ∀ r, r < k → st.1 39 r = nI (ptF s k p c r)
theorem P_sumOf {k n : Nat} {pc : Nat → Nat} {lw s : Nat} {sv : Nat → Nat → Option Nat} {wt : Nat → Nat → Nat} {S st : St} (hF : FsI k n pc lw s sv wt S) {c r : Nat} (hD : DlI s k n c S st) (hr : r < k) : F_X4_sumOf (nI r) (st.1 39 r) st = some ((match sv r (ptF s k n c r) with | none => -1 | some m => nI m), st) := by
  obtain ⟨hc, hlw, e5, hs, h36, hv, hw, hw99⟩ := hF
  have hn := hc.2.1
  have hk := hc.1
  have hst : HC k n pc st := hc.cg (hD.1 1 (by omega) (by omega) (by omega)) (hD.1 2 (by omega) (by omega) (by omega))
  have h2n := (one_n n hn).2.1
  have hP : ptF s k n c r < 2 ^ n := ptF_2n hn (Nat.le_refl n)
  rw [hD.2 r hr]
  rcases setIx (nI (ptF s k n c r)) hn with ⟨s', hs', es, s1, -⟩ | ⟨s1, -⟩
  · have : ptF s k n c r = s' := by rw [eqN (by omega) (by omega)] at es; exact es
    rw [F_X4_sumOf, F_X4_sumOf_0, P_hasRoom_in hst hr, obs]
    dsimp only
    rw [if_neg (by decide), s1 k pc st hst, obs]
    dsimp only
    rw [if_neg (by decide), F_X4_indexOf, F_X4_indexOf_0, obs, hD.1 9 (by omega) (by omega) (by omega), e5]
    dsimp only
    rw [show (nI lw * 3 + nI r) * 64 + nI (ptF s k n c r) = nI ((lw * 3 + r) * 64 + ptF s k n c r) by rw [litN 3, litN 64, pk_mul, nI_add, pk_mul, nI_add], gi_in (by omega) (by decide), clN (by omega), F_X4_sumOf_37, hD.1 36 (by omega) (by omega) (by omega), h36 r _ hr hP (fun j hj hb => by
      rw [ptF_bit hn hj] at hb
      simp at hb
      exact hb.2.1)]
  · exfalso
    have h1 := s1 k pc st hst
    simp only [F_X3_hasAll, F_X3_hasAll_0, F_X3_hasAll_14, hst.2.2.2.1] at h1
    rw [pk_ushrN (by omega) (nI n) n (sh_n n hn), Nat.div_eq_of_lt hP, if_pos (show nI 0 = (0 : Int32) from rfl), gb1'] at h1
    exact absurd (show (1 : Int32) = 0 from congrArg Prod.fst (Option.some.inj h1)) (by decide)
theorem P_weigh {k n : Nat} {pc : Nat → Nat} {lw s : Nat} {sv : Nat → Nat → Option Nat} {wt : Nat → Nat → Nat} {S st : St} (hF : FsI k n pc lw s sv wt S) {c : Nat} (hD : DlI s k n c S st) {b : Option Nat} (hb : RpC s k n (fun c => smF sv (ptF s k n c) k) (fun c => wtF s (digF s k n c) wt n) b st) : ∃ st', F_X2_weigh (nI (wtF s (digF s k n c) wt n)) st = some st' ∧ DlI s k n c S st' ∧ RpC s k n (fun c => smF sv (ptF s k n c) k) (fun c => wtF s (digF s k n c) wt n) (pkF (fun c => smF sv (ptF s k n c) k) (fun c => wtF s (digF s k n c) wt n) b c) st' := by
  have hFF := hF
  obtain ⟨hc, hlw, e5, hs, h36, hv, hw, hw99⟩ := hF
  have hn := hc.2.1
  have hk := hc.1
  have e1 : st.1 1 0 = nI k := by rw [hD.1 1 (by omega) (by omega) (by omega)]; exact hc.2.2.1
  have hWb : ∀ c, wtF s (digF s k n c) wt n ≤ 3564 := fun c => by have := wtF_le (s := s) (a := digF s k n c) hw99 n hn; omega
  have gen : ∀ N r, r ≤ k → k - r < N → ∀ m, smF sv (ptF s k n c) r = some m → ∃ st', F_X2_weigh_4 N (nI (wtF s (digF s k n c) wt n)) (nI m) (nI r) st = some st' ∧ DlI s k n c S st' ∧ RpC s k n (fun c => smF sv (ptF s k n c) k) (fun c => wtF s (digF s k n c) wt n) (pkF (fun c => smF sv (ptF s k n c) k) (fun c => wtF s (digF s k n c) wt n) b c) st' := by
    refine upn (n := k) (P := fun N r => ∀ m, smF sv (ptF s k n c) r = some m → ∃ st', F_X2_weigh_4 N (nI (wtF s (digF s k n c) wt n)) (nI m) (nI r) st = some st' ∧ DlI s k n c S st' ∧ RpC s k n (fun c => smF sv (ptF s k n c) k) (fun c => wtF s (digF s k n c) wt n) (pkF (fun c => smF sv (ptF s k n c) k) (fun c => wtF s (digF s k n c) wt n) b c) st') ?_ ?_
    · intro N m hm
      have hm3 := smF_le hv k m hm
      rw [F_X2_weigh_4, e1, if_pos (by rw [leN (by omega) (by omega)]; omega)]
      have take : ∃ st', F_X2_weigh_90 (nI (wtF s (digF s k n c) wt n)) (nI m) st = some st' ∧ DlI s k n c S st' ∧ RpC s k n (fun c => smF sv (ptF s k n c) k) (fun c => wtF s (digF s k n c) wt n) (some c) st' := by
        rw [F_X2_weigh_90, bse, bse, bse, crow_F, obs, F_X2_weigh_116]
        refine ⟨_, rfl, ⟨fun x h1 h2 h3 => by rw [crow_off h3, sV_off h1, sV_off h1, sV_off h1]; exact hD.1 x h1 h2 h3, fun r hr => by rw [crow_off (by omega), sV_off (by omega), sV_off (by omega), sV_off (by omega)]; exact hD.2 r hr⟩, ?_, m, hm, ?_, ?_, fun r hr => ?_⟩
        · rw [crow_off (by omega), sV_f (by omega), sV_f (by omega), sV_g]
        · rw [crow_off (by omega), sV_f (by omega), sV_g]
        · rw [crow_off (by omega), sV_g]
        · rw [crow_at (n := 3) rfl (by omega), sV_off (by omega), sV_off (by omega), sV_off (by omega)]; exact hD.2 r hr
      cases b with
      | none =>
        have h4 : st.1 38 4 = 0 := hb
        have ep : pkF (fun c => smF sv (ptF s k n c) k) (fun c => wtF s (digF s k n c) wt n) none c = some c := by unfold pkF; dsimp only; rw [hm]
        rw [ep]
        have e78 : ∀ t0, F_X2_weigh_78 (nI (wtF s (digF s k n c) wt n)) (nI m) t0 st = F_X2_weigh_90 (nI (wtF s (digF s k n c) wt n)) (nI m) st := fun t0 => by rw [F_X2_weigh_78, h4, if_pos rfl]
        rw [F_X2_weigh_73, F_X2_weigh_77, e78, e78]
        split
        · exact take
        · split
          · split
            · exact take
            · exact take
          · exact take
      | some c0 =>
        obtain ⟨h4, m0, hm0, h5, h6, h40⟩ := hb
        have hm03 := smF_le hv k m0 hm0
        have keep : ∃ st', some st = some st' ∧ DlI s k n c S st' ∧ RpC s k n (fun c => smF sv (ptF s k n c) k) (fun c => wtF s (digF s k n c) wt n) (some c0) st' := ⟨st, rfl, hD, h4, m0, hm0, h5, h6, h40⟩
        have ep : pkF (fun c => smF sv (ptF s k n c) k) (fun c => wtF s (digF s k n c) wt n) (some c0) c = if m < m0 ∨ (m = m0 ∧ wtF s (digF s k n c0) wt n < wtF s (digF s k n c) wt n) then some c else some c0 := by
          unfold pkF; dsimp only; rw [hm]; dsimp only
          have : (smF sv (ptF s k n c0) k).getD 0 = m0 := by rw [show smF sv (ptF s k n c0) k = some m0 from hm0]; rfl
          rw [this]
        have e73 : F_X2_weigh_73 (nI (wtF s (digF s k n c) wt n)) (nI m) st = F_X2_weigh_90 (nI (wtF s (digF s k n c) wt n)) (nI m) st := by rw [F_X2_weigh_73, F_X2_weigh_78, h4, if_neg (by decide), if_neg (by decide)]
        have e77 : F_X2_weigh_77 (nI (wtF s (digF s k n c) wt n)) (nI m) st = some st := by rw [F_X2_weigh_77, F_X2_weigh_78, h4, if_neg (by decide), if_pos rfl, F_X2_weigh_116]
        have k1 : (nI m < nI m0) = (m < m0) := ltN (by omega) (by omega)
        have k2 : (nI m = nI m0) = (m = m0) := eqN (by omega) (by omega)
        have k3 : (nI (wtF s (digF s k n c) wt n) ≤ nI (wtF s (digF s k n c0) wt n)) = (wtF s (digF s k n c) wt n ≤ wtF s (digF s k n c0) wt n) := leN (Nat.lt_of_le_of_lt (hWb c) (by decide)) (Nat.lt_of_le_of_lt (hWb c0) (by decide))
        rw [ep, e73, e77, h5, h6]
        dsimp only
        by_cases d1 : m < m0
        · rw [if_pos (show nI m < nI m0 by rw [k1]; exact d1), if_pos (Or.inl d1)]; exact take
        · rw [if_neg (show ¬ nI m < nI m0 by rw [k1]; exact d1)]
          by_cases d2 : m = m0
          · rw [if_pos (show nI m = nI m0 by rw [k2]; exact d2)]
            by_cases d3 : wtF s (digF s k n c) wt n ≤ wtF s (digF s k n c0) wt n
            · rw [if_pos (show nI (wtF s (digF s k n c) wt n) ≤ nI (wtF s (digF s k n c0) wt n) by rw [k3]; exact d3), if_neg (fun z => by omega)]; exact keep
            · rw [if_neg (show ¬ nI (wtF s (digF s k n c) wt n) ≤ nI (wtF s (digF s k n c0) wt n) by rw [k3]; exact d3), if_pos (Or.inr ⟨d2, by omega⟩)]; exact take
          · rw [if_neg (show ¬ nI m = nI m0 by rw [k2]; exact d2), if_neg (fun z => by omega)]; exact keep
    · intro N r hr ih m hm
      have hm3 := smF_le hv r m hm
      rw [F_X2_weigh_4, e1, if_neg (nI_ge hr (by omega)), gi_in (show r < 3 by omega) (by decide), clN (by omega), P_sumOf hFF hD hr, obs]
      dsimp only
      cases hx : sv r (ptF s k n c r) with
      | none =>
        dsimp only
        rw [if_pos rfl]
        have ep : pkF (fun c => smF sv (ptF s k n c) k) (fun c => wtF s (digF s k n c) wt n) b c = b := by
          unfold pkF; dsimp only; rw [smF_none k hr hx]
        rw [ep]
        exact ⟨st, rfl, hD, hb⟩
      | some x =>
        have := hv r _ x hx
        dsimp only
        rw [if_neg (nI_ne1 (by omega)), nI_add, nI_1]
        exact ih (m + x) (by rw [smF, hm]; dsimp only; rw [hx])
  exact gen fN 0 (by omega) (by have := fN_big; omega) 0 rfl
theorem P_friendsAll {k n : Nat} {pc : Nat → Nat} {lw s : Nat} {sv : Nat → Nat → Option Nat} {wt : Nat → Nat → Nat} {S st : St} (hF : FsI k n pc lw s sv wt S) {c p r : Nat} (hD : DlI s k p c S st) (hp : p < n) (hr : r < k) : F_X3_friendshipWithAll 1 (nI p) (st.1 39 r) st = some (nI (wqF s (digF s k p c) wt p r p), st) := by
  obtain ⟨hc, hlw, e5, hs, h36, hv, hw, hw99⟩ := hF
  have hn := hc.2.1
  have hst : HC k n pc st := hc.cg (hD.1 1 (by omega) (by omega) (by omega)) (hD.1 2 (by omega) (by omega) (by omega))
  have h64 : ptF s k p c r < 64 := ptF_lt (by omega)
  rw [hD.2 r hr]
  have val : ∀ j, j < n → (if (ptF s k p c r).testBit j = true then wt p j else 0) = (if j < p then (if s.testBit j = true ∧ digF s k p c j = r then wt p j else 0) else 0) := by
    intro j hj
    rw [ptF_bit (by omega) (by omega)]
    by_cases c1 : j < p
    · rw [if_pos c1]
      by_cases c2 : s.testBit j = true ∧ digF s k p c j = r
      · rw [if_pos c2, if_pos (by simp [c1, c2.1, c2.2])]
      · rw [if_neg c2, if_neg (by simp [c1]; exact fun z1 z2 => c2 ⟨z1, z2⟩)]
    · rw [if_neg c1, if_neg (by simp [c1])]
  have key : ∀ m, p ≤ m → m ≤ n → sumS (fun j => if (ptF s k p c r).testBit j = true then wt p j else 0) m = wqF s (digF s k p c) wt p r p := by
    intro m
    induction m with
    | zero =>
      intro h1 _
      have : p = 0 := by omega
      rw [this]; rfl
    | succ m ih =>
      intro h1 h2
      by_cases e : p = m + 1
      · rw [e]
        unfold wqF
        rw [← e]
        refine sumS_congr p (fun q hq => ?_)
        rw [val q (by omega), if_pos hq]
      · rw [sumS, ih (by omega) (by omega), val m (by omega), if_neg (by omega), Nat.add_zero]
  have q := upn (n := n) (P := fun N j => F_X3_friendshipWithAll_5 1 N (nI p) (nI (ptF s k p c r)) (nI (sumS (fun j => if (ptF s k p c r).testBit j = true then wt p j else 0) j)) (nI j) st = some (nI (sumS (fun j => if (ptF s k p c r).testBit j = true then wt p j else 0) n), st))
    (fun N => by rw [F_X3_friendshipWithAll_5, hst.2.2.2.1, if_pos (by rw [leN (by omega) (by omega)]; omega)])
    (fun N j hj ih => by
      have hj6 : j < 6 := by omega
      rw [sumS] at ih
      rw [F_X3_friendshipWithAll_5, hst.2.2.2.1, if_neg (nI_ge hj (by omega))]
      cases hb : (ptF s k p c r).testBit j with
      | false =>
        rw [if_pos (by rw [bitN h64 hj6]; exact hb), F_X3_friendshipWithAll_33, nI_1]
        rw [if_neg (by rw [hb]; decide), Nat.add_zero] at ih
        exact ih
      | true =>
        have fr : F_X3_friendship 1 (nI p) (nI j) st = some (nI (wt p j), st) := by
          rw [F_X3_friendship, F_X3_friendship_0, P_hasPerson_in hst hp, obs]
          dsimp only
          rw [if_neg (by decide), P_hasPerson_in hst hj, obs]
          dsimp only
          rw [if_neg (by decide), litN 6, pk_mul, nI_add, gi_in (show p * 6 + j < 36 by omega) (by decide), clN (by omega), F_X3_friendship_31, show st.1 (1 + 7) (p * 6 + j) = nI (wt p j) by rw [hD.1 (1 + 7) (by omega) (by omega) (by omega)]; exact hw p j hp hj]
        rw [if_neg (by rw [bitN h64 hj6, hb]; decide), fr, obs, F_X3_friendshipWithAll_33]
        dsimp only
        rw [nI_add, nI_1]
        rw [if_pos hb] at ih
        exact ih) fN 0 (by omega) (fN0 (by omega))
  rw [key n (by omega) (Nat.le_refl n)] at q
  exact q
def crF (s : Nat) : Nat → Nat → Nat
  | 0, _ => 0
  | d + 1, p => (if s.testBit p = true then 1 else 0) + crF s d (p + 1)
theorem P_dealFrom {k n : Nat} {pc : Nat → Nat} {lw s : Nat} {sv : Nat → Nat → Option Nat} {wt : Nat → Nat → Nat} {S : St} (hF : FsI k n pc lw s sv wt S) : ∀ d p c D b st, p + d = n → d < D → DlI s k p c S st → RpC s k n (fun c => smF sv (ptF s k n c) k) (fun c => wtF s (digF s k n c) wt n) b st → ∃ st', F_X2_dealFrom D (nI p) (nI s) (nI (wtF s (digF s k p c) wt p)) st = some st' ∧ DlI s k p c S st' ∧ RpC s k n (fun c => smF sv (ptF s k n c) k) (fun c => wtF s (digF s k n c) wt n) (goF (fun c => smF sv (ptF s k n c) k) (fun c => wtF s (digF s k n c) wt n) (k ^ crF s d p) (c * k ^ crF s d p) b) st' := by
  have hFF := hF
  obtain ⟨hc, hlw, e5, hs, h36, hv, hw, hw99⟩ := hF
  have hn := hc.2.1
  have hk := hc.1
  have hs64 := (bits_n n hn s hs).1
  intro d
  induction d with
  | zero =>
    intro p c D b st hp hD hDl hb
    obtain ⟨D, rfl⟩ : ∃ M, D = M + 1 := ⟨D - 1, by omega⟩
    have : p = n := by omega
    subst this
    rw [F_X2_dealFrom, F_X2_dealFrom_0, hDl.1 1 (by omega) (by omega) (by omega), hc.2.2.2.1, if_neg (by rw [ltN (by omega) (by omega)]; omega)]
    obtain ⟨st', z1, z2, z3⟩ := P_weigh hFF hDl hb
    rw [z1, obs, F_X2_dealFrom_117]
    refine ⟨st', rfl, z2, ?_⟩
    rw [crF, Nat.pow_zero, Nat.mul_one, goF, goF]
    exact z3
  | succ d ih =>
    intro p c D b st hp hD hDl hb
    obtain ⟨D, rfl⟩ : ∃ M, D = M + 1 := ⟨D - 1, by omega⟩
    have hpn : p < n := by omega
    have hp6 : p < 6 := by omega
    rw [F_X2_dealFrom, F_X2_dealFrom_0, hDl.1 1 (by omega) (by omega) (by omega), hc.2.2.2.1, if_pos (by rw [ltN (by omega) (by omega)]; exact hpn)]
    cases hbp : s.testBit p with
    | false =>
      rw [if_pos (by rw [bitN hs64 hp6]; exact hbp), nI_1]
      have ew : wtF s (digF s k p c) wt p = wtF s (digF s k (p + 1) c) wt (p + 1) := by
        rw [wtF, if_neg (by rw [hbp]; decide), Nat.add_zero]
        exact wtF_congr p (fun q hq => by rw [digF, if_neg (by rw [hbp]; decide)])
      rw [ew]
      obtain ⟨st', z1, z2, z3⟩ := ih (p + 1) c D b st (by omega) (by omega) ⟨hDl.1, fun r hr => by rw [ptF_f hbp]; exact hDl.2 r hr⟩ hb
      rw [z1, obs, F_X2_dealFrom_117]
      refine ⟨st', rfl, ⟨z2.1, fun r hr => by rw [z2.2 r hr, ptF_f hbp]⟩, ?_⟩
      rw [crF, if_neg (by rw [hbp]; decide), Nat.zero_add]
      exact z3
    | true =>
      rw [if_neg (by rw [bitN hs64 hp6, hbp]; decide)]
      obtain ⟨e, he⟩ : ∃ e, e = crF s d (p + 1) := ⟨_, rfl⟩
      have ecr : crF s (d + 1) p = e + 1 := by rw [crF, if_pos hbp, ← he]; omega
      rw [ecr]
      have gen : ∀ N r, r ≤ k → k - r < N → ∀ st, DlI s k p c S st → RpC s k n (fun c => smF sv (ptF s k n c) k) (fun c => wtF s (digF s k n c) wt n) (goF (fun c => smF sv (ptF s k n c) k) (fun c => wtF s (digF s k n c) wt n) (r * k ^ e) (c * k ^ (e + 1)) b) st → ∃ st', F_X2_dealFrom_42 (F_X2_dealFrom D) N (nI p) (nI s) (nI (wtF s (digF s k p c) wt p)) (nI r) st = some st' ∧ DlI s k p c S st' ∧ RpC s k n (fun c => smF sv (ptF s k n c) k) (fun c => wtF s (digF s k n c) wt n) (goF (fun c => smF sv (ptF s k n c) k) (fun c => wtF s (digF s k n c) wt n) (k ^ (e + 1)) (c * k ^ (e + 1)) b) st' := by
        refine upn (n := k) (P := fun N r => ∀ st, DlI s k p c S st → RpC s k n (fun c => smF sv (ptF s k n c) k) (fun c => wtF s (digF s k n c) wt n) (goF (fun c => smF sv (ptF s k n c) k) (fun c => wtF s (digF s k n c) wt n) (r * k ^ e) (c * k ^ (e + 1)) b) st → ∃ st', F_X2_dealFrom_42 (F_X2_dealFrom D) N (nI p) (nI s) (nI (wtF s (digF s k p c) wt p)) (nI r) st = some st' ∧ DlI s k p c S st' ∧ RpC s k n (fun c => smF sv (ptF s k n c) k) (fun c => wtF s (digF s k n c) wt n) (goF (fun c => smF sv (ptF s k n c) k) (fun c => wtF s (digF s k n c) wt n) (k ^ (e + 1)) (c * k ^ (e + 1)) b) st') ?_ ?_
        · intro N st hDl hb
          rw [F_X2_dealFrom_42, hDl.1 1 (by omega) (by omega) (by omega), hc.2.2.1, if_pos (by rw [leN (by omega) (by omega)]; omega), F_X2_dealFrom_117]
          refine ⟨st, rfl, hDl, ?_⟩
          rw [Nat.pow_succ, Nat.mul_comm (k ^ e) k] at hb ⊢
          exact hb
        · intro N r hr ihr st hDl hb
          have hk0 : 0 < k := by omega
          have g3 : ∀ {α : Type} {x : Option α}, gi (nI r) 3 x = x := gi_in (by omega) (by decide)
          have c3 : (nI r).toNatClampNeg = r := clN (by omega)
          have h64 : ptF s k p c r < 64 := ptF_lt (by omega)
          obtain ⟨dn1, dn2⟩ := dig_next (c := c) hk0 hr hbp
          rw [F_X2_dealFrom_42, hDl.1 1 (by omega) (by omega) (by omega), hc.2.2.1, if_neg (nI_ge hr (by omega)), g3, c3, P_friendsAll hFF hDl hpn hr, obs]
          dsimp only
          rw [g3, g3, bse, hDl.2 r hr, orN h64 hp6, nI_1, nI_add]
          have ew : wtF s (digF s k p c) wt p + wqF s (digF s k p c) wt p r p = wtF s (digF s k (p + 1) (c * k + r)) wt (p + 1) := by
            rw [wtF, if_pos hbp, dn1, wtF_congr p (fun q hq => (dn2 q hq).symm), wqF_congr p (fun q hq => (dn2 q hq).symm)]
          rw [ew]
          have hDl1 : DlI s k (p + 1) (c * k + r) S (sV st 39 r (nI (ptF s k p c r ||| 2 ^ p))) := by
            refine ⟨fun x h1 h2 h3 => by rw [sV_off h2]; exact hDl.1 x h1 h2 h3, fun r' hr' => ?_⟩
            rw [ptF_t hk0 hr hbp]
            by_cases d1 : r' = r
            · subst d1; rw [if_pos rfl, sV_g]
            · rw [if_neg d1, sV_f d1]; exact hDl.2 r' hr'
          have hb1 : RpC s k n (fun c => smF sv (ptF s k n c) k) (fun c => wtF s (digF s k n c) wt n) (goF (fun c => smF sv (ptF s k n c) k) (fun c => wtF s (digF s k n c) wt n) (r * k ^ e) (c * k ^ (e + 1)) b) (sV st 39 r (nI (ptF s k p c r ||| 2 ^ p))) := by
            unfold RpC at hb ⊢
            rw [sV_off (show 38 ≠ 39 by omega), sV_off (show 40 ≠ 39 by omega)]
            exact hb
          obtain ⟨st1, z1, z2, z3⟩ := ih (p + 1) (c * k + r) D _ _ (by omega) (by omega) hDl1 hb1
          rw [z1, obs, g3, g3, bse, z2.2 r hr, ptF_t hk0 hr hbp, if_pos rfl, clrN (or_lt h64 hp6) hp6, nI_1]
          have erm : rmb (ptF s k p c r ||| 2 ^ p) p = ptF s k p c r := by
            refine set_ext (rmb_lt (or_lt h64 hp6)) h64 (fun q hq => ?_)
            rw [rmb_bit (or_lt h64 hp6) hp6 hq, or_bit h64 hp6 hq]
            by_cases d1 : q = p
            · subst d1
              have : (ptF s k q c r).testBit q = false := by rw [ptF_bit (by omega) hq]; simp
              rw [this]; simp
            · simp [d1]
          rw [erm]
          refine ihr _ ⟨fun x h1 h2 h3 => by rw [sV_off h2]; exact z2.1 x h1 h2 h3, fun r' hr' => ?_⟩ ?_
          · by_cases d1 : r' = r
            · subst d1; rw [sV_g]
            · rw [sV_f d1, z2.2 r' hr', ptF_t hk0 hr hbp, if_neg d1]
          · have e1 : (c * k + r) * k ^ e = c * k ^ (e + 1) + r * k ^ e := by rw [Nat.add_mul, Nat.mul_assoc, Nat.pow_succ, Nat.mul_comm k (k ^ e)]
            have e2 : (r + 1) * k ^ e = r * k ^ e + k ^ e := by rw [Nat.add_mul, Nat.one_mul]
            rw [← he, e1, ← goF_add] at z3
            rw [e2]
            unfold RpC at z3 ⊢
            rw [sV_off (show 38 ≠ 39 by omega), sV_off (show 40 ≠ 39 by omega)]
            exact z3
      exact gen fN 0 (by omega) (by have := fN_big; omega) st hDl (by rw [Nat.zero_mul, goF]; exact hb)

/-! PURE: cuts -/
theorem sh_n : ∀ n, n ≤ 6 → (((nI n).toUInt32 &&& Int32.toUInt32 31).toBitVec % 32).toNat = n := by decide +kernel
theorem one_n : ∀ n, n ≤ 6 → ((1 : Int32) <<< (nI n &&& 31)) - 1 = nI (2 ^ n - 1) ∧ 2 ^ n ≤ 64 ∧ 0 < 2 ^ n := by decide +kernel
/-- a number that is, or is not, a set of persons -/
theorem setIx (x : Int32) {n : Nat} (hn : n ≤ 6) : (∃ s, s < 2 ^ n ∧ x = nI s ∧ (∀ k pc st, HC k n pc st → F_X3_hasAll 1 x st = some (1, st)) ∧ (∀ k pc st, HM k n pc st → F_X8_isSet x st = some (1, st))) ∨ ((∀ k pc st, HC k n pc st → F_X3_hasAll 1 x st = some (0, st)) ∧ (∀ k pc st, HM k n pc st → F_X8_isSet x st = some (0, st))) := by
  obtain ⟨o1, o2, o3⟩ := one_n n hn
  have ex : x = nI x.toBitVec.toNat := by
    apply Int32.toBitVec_inj.mp
    apply BitVec.eq_of_toNat_eq
    rw [pk_tn x.toBitVec.isLt]
  have eu := pk_ushr x (nI n) n (sh_n n hn)
  have hall : ∀ k pc st, HC k n pc st → F_X3_hasAll 1 x st = if x.toBitVec.toNat < 2 ^ n then some (1, st) else some (0, st) := by
    intro k pc st h
    simp only [F_X3_hasAll, F_X3_hasAll_0, F_X3_hasAll_14, h.2.2.2.1]
    by_cases c : x.toBitVec.toNat < 2 ^ n
    · rw [if_pos c, if_pos, gb, if_pos (by decide)]
      apply Int32.toBitVec_inj.mp
      apply BitVec.eq_of_toNat_eq
      rw [eu, Nat.div_eq_of_lt c]
      rfl
    · rw [if_neg c, if_neg, gb, if_pos (by decide)]
      intro e
      rw [e] at eu
      have : (0 : Int32).toBitVec.toNat = 0 := rfl
      rw [this] at eu
      have := Nat.div_eq_zero_iff.mp eu.symm
      omega
  have hset : ∀ k pc st, HM k n pc st → F_X8_isSet x st = if x.toBitVec.toNat < 2 ^ n then some (1, st) else some (0, st) := by
    intro k pc st h
    simp only [F_X8_isSet, F_X8_isSet_0, h.2.2.2.1, o1]
    rw [M_in, wide, wide, nI_toInt (show 2 ^ n - 1 < 2 ^ 31 by omega), show (0 : Int64).toInt = 0 from rfl, obs]
    dsimp only
    by_cases c : x.toBitVec.toNat < 2 ^ n
    · rw [if_pos c]
      have : x.toInt = x.toBitVec.toNat := by
        conv => lhs; rw [ex]
        exact nI_toInt (by omega)
      rw [if_pos (by omega), gb, if_pos (by decide)]
    · rw [if_neg c]
      have : ¬ (0 ≤ x.toInt ∧ x.toInt ≤ ((2 ^ n - 1 : Nat) : Int)) := by
        rintro ⟨a1, a2⟩
        obtain ⟨j, hj, rfl⟩ := nat_of (x := x) (by rw [ile, t0]; exact a1)
        rw [nI_toInt hj] at a2
        rw [pk_tn (by omega)] at c
        omega
      rw [if_neg this, gb, if_pos (by decide)]
  by_cases c : x.toBitVec.toNat < 2 ^ n
  · left
    refine ⟨x.toBitVec.toNat, c, ex, fun k pc st h => ?_, fun k pc st h => ?_⟩
    · rw [hall k pc st h, if_pos c]
    · rw [hset k pc st h, if_pos c]
  · right
    refine ⟨fun k pc st h => ?_, fun k pc st h => ?_⟩
    · rw [hall k pc st h, if_neg c]
    · rw [hset k pc st h, if_neg c]
theorem bits_n : ∀ n, n ≤ 6 → ∀ s, s < 2 ^ n → (s < 64 ∧ ∀ q, q < 7 → n ≤ q → s.testBit q = false) := by decide +kernel
theorem bits_out {n s q : Nat} (hn : n ≤ 6) (hs : s < 2 ^ n) (hq : n ≤ q) : s.testBit q = false := Nat.testBit_lt_two_pow (Nat.lt_of_lt_of_le hs (Nat.pow_le_pow_right (by omega) hq))
/-- the inches to cut, from the eldest on -/
def ctS (lw : Nat) (A T K : Nat → Int32) (n : Nat) : Nat → Nat → Option Int32 → Int32 → Int32
  | 0, _, _, m => m
  | d + 1, s, L, m => match eld A s n with
    | none => m
    | some p => match L with
      | none => ctS lw A T K n d (rmb s p) (some (T p)) m
      | some L => ctS lw A T K n d (rmb s p) (some (if lw = 1 then imn L (T p) else L)) (m + imx 0 (T p - K p - L))
theorem ctS_congr {lw : Nat} {A T K A' T' K' : Nat → Int32} {n : Nat} (hA : ∀ q, q < n → A q = A' q) (hK : ∀ q, q < n → K q = K' q) (hn : n ≤ 6) : ∀ d s L m, (∀ q, q < n → s.testBit q = true → T q = T' q) → s < 64 → ctS lw A T K n d s L m = ctS lw A' T' K' n d s L m := by
  intro d
  induction d with
  | zero => intro s L m _ _; rfl
  | succ d ih =>
    intro s L m hT hs
    rw [ctS, ctS, eld_AB hA]
    cases he : eld A' s n with
    | none => rfl
    | some p =>
      obtain ⟨p1, p2⟩ := eld_lt _ _ he
      have hT' : ∀ q, q < n → (rmb s p).testBit q = true → T q = T' q := fun q hq hb => by
        rw [rmb_bit hs (by omega) (by omega)] at hb
        simp at hb
        exact hT q hq hb.1
      dsimp only
      rw [hT p p1 p2, hK p p1]
      cases L with
      | none => exact ih _ _ _ hT' (rmb_lt hs)
      | some L => exact ih _ _ _ hT' (rmb_lt hs)
theorem P_cutLoop {k n : Nat} {pc : Nat → Nat} {st : St} (h : HC k n pc st) {sc r lw : Nat} (hV : VV k n pc (vC sc st)) (hl : st.1 sc 5 = nI lw) (hlw : lw ≤ 1) (hr : r < k) : ∀ d N s p L m j, j + d = 6 → pop (rmb s p) ≤ d → d < N → s < 64 → p < 6 → (∀ q, q < 6 → (rmb s p).testBit q = true → st.1 (sc + 1) q = nI r) → F_X1_inchesToCut_38 sc N (nI s) (nI p) L m (nI j) st = some (ctS lw (st.1 (sc + 4)) (tl (st.1 3) (vC sc st)) (st.1 6) n d (rmb s p) (some L) m, st) := by
  have hn := h.2.1
  have hk := h.1
  intro d
  induction d with
  | zero =>
    intro N s p L m j hj hpop hN hs hp hin
    obtain ⟨N, rfl⟩ : ∃ M, N = M + 1 := ⟨N - 1, by omega⟩
    have : j = 6 := by omega
    subst this
    rw [F_X1_inchesToCut_38, if_pos (by decide), F_X1_inchesToCut_116, ctS]
  | succ d ih =>
    intro N s p L m j hj hpop hN hs hp hin
    obtain ⟨N, rfl⟩ : ∃ M, N = M + 1 := ⟨N - 1, by omega⟩
    have hrs : rmb s p < 64 := rmb_lt hs
    have eel : eld (st.1 (sc + 4)) (rmb s p) 6 = eld (st.1 (sc + 4)) (rmb s p) n := eld_ext 6 hn (fun q h1 h2 => by
      cases hb : (rmb s p).testBit q with
      | false => rfl
      | true =>
        have := (hV.at hk hn h2 hr (hin q h2 hb)).1
        omega)
    rw [F_X1_inchesToCut_38, if_neg (by rw [f6 (show j < 6 by omega)]; exact not_false), clrN hs hp, P_eldestOf sc _ hrs, obs, eel, ctS]
    dsimp only
    cases he : eld (st.1 (sc + 4)) (rmb s p) n with
    | none => rw [if_pos oI_none, F_X1_inchesToCut_116]
    | some q =>
      obtain ⟨q1, q2⟩ := eld_lt _ _ he
      have q6 : q < 6 := by omega
      have eq := hin q q6 q2
      have ht := P_tallOf h q6 (hV.at hk hn q6 hr eq).2
      have hpop' := pop_rm hrs q6 q2
      rw [if_neg (show ¬ oI (some q) = -1 from nI_ne1 (by omega)), show oI (some q) = nI q from rfl, ht, obs]
      dsimp only
      rw [g6 q6, ht, obs]
      dsimp only
      rw [P_nextLimit, obs]
      dsimp only
      rw [c6 q6, nI_1, ih N (rmb s p) q _ _ (j + 1) (by omega) (by omega) (by omega) hrs q6 (fun x hx hb => by
        rw [rmb_bit hrs q6 hx] at hb
        simp at hb
        exact hin x hx hb.1)]
      rw [hl]
      by_cases cl : lw = 1
      · rw [if_pos (show nI lw = 1 by rw [cl]; rfl), if_pos cl]
      · rw [if_neg (show ¬ nI lw = 1 by rw [show lw = 0 by omega]; decide), if_neg cl]
theorem P_inchesToCut {k n : Nat} {pc : Nat → Nat} {st : St} (h : HC k n pc st) {sc r lw s : Nat} (hV : VV k n pc (vC sc st)) (hl : st.1 sc 5 = nI lw) (hlw : lw ≤ 1) (hr : r < k) (hs : mkS (fun p => decide (st.1 (sc + 1) p = nI r)) 6 = s) : F_X1_inchesToCut sc (nI r) st = some (ctS lw (st.1 (sc + 4)) (tl (st.1 3) (vC sc st)) (st.1 6) n 6 s none 0, st) := by
  have hn := h.2.1
  have hk := h.1
  have hs64 : s < 64 := by rw [← hs]; exact mkS_lt _ 6 (by omega)
  have hin : ∀ q, q < 6 → s.testBit q = true → st.1 (sc + 1) q = nI r := by
    intro q hq hb
    rw [← hs, mkS_bit _ 6 (by omega) q hq] at hb
    simp at hb
    exact hb.2
  have eel : eld (st.1 (sc + 4)) s 6 = eld (st.1 (sc + 4)) s n := eld_ext 6 hn (fun q h1 h2 => by
    cases hb : s.testBit q with
    | false => rfl
    | true =>
      have := (hV.at hk hn h2 hr (hin q h2 hb)).1
      omega)
  rw [F_X1_inchesToCut, F_X1_inchesToCut_0, P_whoIsIn, obs, hs]
  dsimp only
  rw [P_eldestOf sc _ hs64, obs, eel, ctS]
  dsimp only
  cases he : eld (st.1 (sc + 4)) s n with
  | none => rw [if_pos oI_none]
  | some q =>
    obtain ⟨q1, q2⟩ := eld_lt _ _ he
    have q6 : q < 6 := by omega
    have ht := P_tallOf h q6 (hV.at hk hn q6 hr (hin q q6 q2)).2
    have hpop' := pop_rm hs64 q6 q2
    have hle := @pop_le s
    rw [if_neg (show ¬ oI (some q) = -1 from nI_ne1 (by omega)), show oI (some q) = nI q from rfl, ht, obs]
    dsimp only
    exact P_cutLoop h hV hl hlw hr 5 fN s q _ _ 1 rfl (by omega) (by have := fN_big; omega) hs64 q6 (fun x hx hb => by
      rw [rmb_bit hs64 q6 hx] at hb
      simp at hb
      exact hin x hx hb.1)
/-- those of a set in a row -/
def rowV (s r j : Nat) (v : Vw) : Vw := ((fun p => if p < j ∧ s.testBit p = true then nI r else v.1 p), (fun p => if p < j ∧ s.testBit p = true then nI (cntS (fun q => s.testBit q) p) else v.2.1 p), (fun p => if p < j ∧ s.testBit p = true then 0 else v.2.2.1 p), v.2.2.2)
theorem rowV_0 (s r : Nat) (v : Vw) : rowV s r 0 v = v := by
  unfold rowV
  simp
theorem rowV_t {s r j : Nat} {v : Vw} (h : s.testBit j = true) : stS (rowV s r j v) j (nI r) (nI (cntS (fun q => s.testBit q) j)) = rowV s r (j + 1) v := by
  have key : ∀ (f g : Nat → Int32) (x : Int32), g j = x → upd (fun p => if p < j ∧ s.testBit p = true then g p else f p) j x = fun p => if p < j + 1 ∧ s.testBit p = true then g p else f p := by
    intro f g x hx
    funext p
    by_cases c : p = j
    · subst c; rw [upd_at, if_pos ⟨by omega, h⟩, hx]
    · rw [upd_off c]
      by_cases d : p < j ∧ s.testBit p = true
      · rw [if_pos d, if_pos ⟨by omega, d.2⟩]
      · rw [if_neg d, if_neg (fun q => d ⟨by omega, q.2⟩)]
  unfold rowV stS
  dsimp only
  rw [key _ (fun _ => nI r) _ rfl, key _ (fun p => nI (cntS (fun q => s.testBit q) p)) _ rfl, key _ (fun _ => 0) _ rfl]
theorem rowV_f {s r j : Nat} {v : Vw} (h : s.testBit j = false) : rowV s r (j + 1) v = rowV s r j v := by
  have key : ∀ p, (p < j + 1 ∧ s.testBit p = true) = (p < j ∧ s.testBit p = true) := by
    intro p
    refine propext ⟨fun q => ⟨?_, q.2⟩, fun q => ⟨by omega, q.2⟩⟩
    by_cases c : p = j
    · subst c; rw [h] at q; exact absurd q.2 (by decide)
    · omega
  unfold rowV
  simp only [key]
theorem cntS_t {c : Nat → Bool} {j : Nat} (h : c j = true) : cntS c (j + 1) = cntS c j + 1 := by rw [cntS, if_pos h]
theorem cntS_f {c : Nat → Bool} {j : Nat} (h : c j = false) : cntS c (j + 1) = cntS c j := by rw [cntS, if_neg (by rw [h]; decide)]
theorem cntS_le2 (c : Nat → Bool) : ∀ d j, cntS c j ≤ cntS c (j + d) := by
  intro d
  induction d with
  | zero => intro j; exact Nat.le_refl _
  | succ d ih =>
    intro j
    refine Nat.le_trans (ih j) ?_
    rw [← Nat.add_assoc, cntS]
    split <;> omega
theorem cntS_lt2 {c : Nat → Bool} {p q : Nat} (h : p < q) (hp : c p = true) : cntS c p < cntS c q := by
  have := cntS_le2 c (q - (p + 1)) (p + 1)
  rw [show p + 1 + (q - (p + 1)) = q by omega, cntS_t hp] at this
  omega
theorem cntS_pop : ∀ s, s < 64 → cntS (fun q => s.testBit q) 6 = pop s := by decide +kernel
theorem P_placeInRow {k n : Nat} {pc : Nat → Nat} {S : St} {v : Vw} (h : HC k n pc S) {s r : Nat} (hs : s < 2 ^ n) : F_X7_placeInRow_23 fN (nI r) (nI s) 0 0 (setV 16 v S) = some (setV 16 (rowV s r n v) S) := by
  have hn := h.2.1
  have hs64 := (bits_n n hn s hs).1
  have q := upn (n := n) (P := fun N j => F_X7_placeInRow_23 N (nI r) (nI s) (nI (cntS (fun q => s.testBit q) j)) (nI j) (setV 16 (rowV s r j v) S) = some (setV 16 (rowV s r n v) S))
    (fun N => by rw [F_X7_placeInRow_23, setV_off (show 1 ≤ 16 ∨ 16 + 6 ≤ 1 by omega), h.2.2.2.1, if_pos (by rw [leN (by omega) (by omega)]; omega)])
    (fun N j hj ih => by
      have hj6 : j < 6 := by omega
      rw [F_X7_placeInRow_23, setV_off (show 1 ≤ 16 ∨ 16 + 6 ≤ 1 by omega), h.2.2.2.1, if_neg (nI_ge hj (by omega))]
      cases hb : s.testBit j with
      | false =>
        rw [rowV_f hb, cntS_f hb] at ih
        rw [if_pos (by rw [bitN hs64 hj6]; exact hb), F_X7_placeInRow_58, nI_1]
        exact ih
      | true =>
        rw [← rowV_t hb, cntS_t hb] at ih
        rw [if_neg (by rw [bitN hs64 hj6, hb]; decide), P_standAt hj6, obs, F_X7_placeInRow_58, nI_1, nI_1]
        exact ih) fN 0 (by omega) (fN0 (by omega))
  rw [rowV_0] at q
  exact q
theorem VV_row {k n : Nat} {pc : Nat → Nat} {v : Vw} {s r : Nat} (hk : k ≤ 3) (hn : n ≤ 6) (hpc : ∀ r, r < k → pc r ≤ 6) (hr : r < k) (hs : s < 2 ^ n) (hpop : pop s ≤ pc r) (hV : VV k n pc v) : VV k n pc (rowV s r n (allOut 6 v)) := by
  have hs64 := (bits_n n hn s hs).1
  have hcn : ∀ p, p < n → s.testBit p = true → cntS (fun q => s.testBit q) p < pc r := by
    intro p hp hb
    have h1 := cntS_lt2 (c := fun q => s.testBit q) (show p < 6 by omega) hb
    rw [cntS_pop s hs64] at h1
    omega
  have hne : ¬ nI r = -1 := nI_ne1 (by omega)
  have e1 : ∀ p, p < n → s.testBit p = true → (rowV s r n (allOut 6 v)).1 p = nI r ∧ (rowV s r n (allOut 6 v)).2.1 p = nI (cntS (fun q => s.testBit q) p) := fun p hp hb => ⟨if_pos ⟨hp, hb⟩, if_pos ⟨hp, hb⟩⟩
  have e2 : ∀ p, p < 6 → s.testBit p = false → (rowV s r n (allOut 6 v)).1 p = -1 ∧ (rowV s r n (allOut 6 v)).2.1 p = -1 := by
    intro p hp hb
    have c : ¬ (p < n ∧ s.testBit p = true) := fun q => by rw [hb] at q; exact absurd q.2 (by decide)
    exact ⟨(if_neg c).trans (if_pos hp), (if_neg c).trans (if_pos hp)⟩
  refine ⟨fun p hp => ?_, hV.2.1, fun p h1 h2 => (e2 p h2 (bits_out hn hs h1)).1, fun p q hp hq e e' ne => ?_⟩
  · cases hb : s.testBit p with
    | false => exact Or.inr (e2 p (by omega) hb)
    | true => exact Or.inl ⟨r, _, hr, hcn p hp hb, (e1 p hp hb).1, (e1 p hp hb).2⟩
  · cases hb : s.testBit p with
    | false => exact absurd (e2 p (by omega) hb).1 ne
    | true =>
      cases hb' : s.testBit q with
      | false => rw [(e2 q (by omega) hb').1] at e; exact absurd e ne
      | true =>
        rw [(e1 p hp hb).2, (e1 q hq hb').2] at e'
        have h1 := hcn p hp hb
        have h2 := hcn q hq hb'
        have h3 := hpc r hr
        rw [eqN (by omega) (by omega)] at e'
        rcases (show p = q ∨ p < q ∨ q < p by omega) with c | c | c
        · exact c
        · have := cntS_lt2 (c := fun q => s.testBit q) c hb; omega
        · have := cntS_lt2 (c := fun q => s.testBit q) c hb'; omega
/-! the reference -/
theorem M_cutLoop {k n : Nat} {pc : Nat → Nat} {st : St} (h : HM k n pc st) {s lw : Nat} (hl : st.1 59 10 = nI lw) (hlw : lw ≤ 1) (hb : ∀ q, n ≤ q → s.testBit q = false) (hT : ∀ p, p < n → s.testBit p = true → 0 ≤ (st.1 80 p).toInt ∧ (st.1 80 p).toInt ≤ 10000) (hK : ∀ p, p < n → 0 ≤ (st.1 64 p).toInt ∧ (st.1 64 p).toInt ≤ 10000) : ∀ d N s' L m, pop s' ≤ d → d < N → s' < 64 → (∀ q, q < 6 → s'.testBit q = true → s.testBit q = true) → (∀ x, L = some x → x.toInt ≤ 10000) → F_X8_cuts_110 N (nI s') (lim L) m st = some (ctS lw (st.1 67) (st.1 80) (st.1 64) n d s' L m, st) := by
  have hn : n ≤ 6 := h.2.1
  intro d
  induction d with
  | zero =>
    intro N s' L m hd hN hs' hsub hL
    obtain ⟨N, rfl⟩ : ∃ M, N = M + 1 := ⟨N - 1, by omega⟩
    have := pop_0 hs' (by omega)
    subst this
    rw [F_X8_cuts_110, if_pos nI_0, ctS]
  | succ d ih =>
    intro N s' L m hd hN hs' hsub hL
    obtain ⟨N, rfl⟩ : ∃ M, N = M + 1 := ⟨N - 1, by omega⟩
    rw [ctS, F_X8_cuts_110]
    by_cases c0 : s' = 0
    · subst c0
      have he : eld (st.1 67) 0 n = none := by
        cases he : eld (st.1 67) 0 n with
        | none => rfl
        | some a => have := (eld_lt _ _ he).2; simp at this
      rw [he, if_pos nI_0]
    · have hz : ¬ nI s' = 0 := by rw [litN 0, eqN (by omega) (by decide)]; exact c0
      rw [if_neg hz, M_eldest h hs', obs]
      dsimp only
      cases he : eld (st.1 67) s' n with
      | none =>
        exfalso
        apply c0
        refine set_ext hs' (by decide) (fun q hq => ?_)
        by_cases c : q < n
        · rw [eld_none _ he q c]; simp
        · cases hq2 : s'.testBit q with
          | false => simp
          | true => have := hsub q hq hq2; rw [hb q (by omega)] at this; cases this
      | some a =>
        obtain ⟨a1, a2⟩ := eld_lt _ _ he
        have ha6 : a < 6 := by omega
        have has := hsub a ha6 a2
        have hTa := hT a a1 has
        have hKa := hK a a1
        have hpop := pop_rm hs' ha6 a2
        have hr64 := rmb_lt (p := a) hs'
        have hrsub : ∀ q, q < 6 → (rmb s' a).testBit q = true → s.testBit q = true := fun q hq hb => by
          rw [rmb_bit hs' ha6 hq] at hb
          simp at hb
          exact hsub q hq hb.1
        have el : (nI lw = 1) = (lw = 1) := eqN (a := lw) (b := 1) (by omega) (by omega)
        simp only [show oI (some a) = nI a from rfl, g6 ha6, c6 ha6, clrN hs' ha6, F_X8_cuts_167, F_X8_cuts_194, F_X8_cuts_212, F_X8_cuts_219, hl, el]
        cases L with
        | none =>
          have f1 : (1000000 : Int32).toInt = 1000000 := rfl
          have f2 : (st.1 80 a - st.1 64 a).toInt = (st.1 80 a).toInt - (st.1 64 a).toInt := tsub (by omega) (by omega)
          have f3 : (st.1 80 a - st.1 64 a - 1000000).toInt = (st.1 80 a).toInt - (st.1 64 a).toInt - 1000000 := by rw [tsub (by omega) (by omega), f2, f1]
          rw [show lim none = 1000000 from rfl, if_pos (show st.1 80 a - st.1 64 a - 1000000 ≤ 0 by rw [ile, f3, t0]; omega), if_neg (show ¬ (1000000 : Int32) ≤ st.1 80 a by rw [ile, f1]; omega), if_pos rfl, Int32.add_zero]
          exact ih N (rmb s' a) (some (st.1 80 a)) m (by omega) (by omega) hr64 hrsub (fun x hx => by cases hx; omega)
        | some L =>
          have hL' := hL L rfl
          have f1 : (1000000 : Int32).toInt = 1000000 := rfl
          have hLn : ¬ L = 1000000 := fun q => by rw [q, f1] at hL'; omega
          have e1 : imx 0 (st.1 80 a - st.1 64 a - L) = if st.1 80 a - st.1 64 a - L ≤ 0 then 0 else st.1 80 a - st.1 64 a - L := imx_eq.symm
          have e2 : imn L (st.1 80 a) = if L ≤ st.1 80 a then L else st.1 80 a := imn_le.symm
          have hm : (imn L (st.1 80 a)).toInt ≤ 10000 := by rw [imn_toInt]; omega
          have key : ∀ m', F_X8_cuts_110 N (nI (rmb s' a)) (lim (some (if lw = 1 then imn L (st.1 80 a) else L))) m' st = some (ctS lw (st.1 67) (st.1 80) (st.1 64) n d (rmb s' a) (some (if lw = 1 then imn L (st.1 80 a) else L)) m', st) := fun m' => ih N (rmb s' a) _ m' (by omega) (by omega) hr64 hrsub (fun x hx => by
            cases hx
            split
            · exact hm
            · exact hL')
          simp only [show lim (some L) = L from rfl, if_neg hLn]
          rw [e1]
          by_cases cl : lw = 1
          · simp only [if_pos cl] at key ⊢
            rw [e2] at key ⊢
            by_cases c1 : st.1 80 a - st.1 64 a - L ≤ 0
            · rw [if_pos c1, if_pos c1]
              by_cases c2 : L ≤ st.1 80 a
              · simp only [if_pos c2] at key ⊢; exact key _
              · simp only [if_neg c2] at key ⊢; exact key _
            · rw [if_neg c1, if_neg c1]
              by_cases c2 : L ≤ st.1 80 a
              · simp only [if_pos c2] at key ⊢; exact key _
              · simp only [if_neg c2] at key ⊢; exact key _
          · simp only [if_neg cl] at key ⊢
            by_cases c1 : st.1 80 a - st.1 64 a - L ≤ 0
            · rw [if_pos c1, if_pos c1]
              by_cases c2 : L ≤ st.1 80 a
              · rw [if_pos c2]; exact key _
              · rw [if_neg c2]; exact key _
            · rw [if_neg c1, if_neg c1]
              by_cases c2 : L ≤ st.1 80 a
              · rw [if_pos c2]; exact key _
              · rw [if_neg c2]; exact key _
theorem M_cutRow {k n : Nat} {pc : Nat → Nat} {S : St} (h : HM k n pc S) {s r : Nat} (hs : s < 2 ^ n) (hr : r < k) (hpop : pop s ≤ pc r) : ∃ f : Nat → Int32, (∀ p, p < n → f p = if s.testBit p = true then S.1 61 (r * 6 + cntS (fun q => s.testBit q) p) + S.1 68 p else 0) ∧ F_X8_cuts_39 fN (nI r) (nI s) 0 0 S = F_X8_cuts_110 fN (nI s) 1000000 0 (sA S 80 f) := by
  have hn := h.2.1
  have hs64 := (bits_n n hn s hs).1
  have hcn : ∀ p, p < n → s.testBit p = true → cntS (fun q => s.testBit q) p < pc r := by
    intro p hp hb
    have h1 := cntS_lt2 (c := fun q => s.testBit q) (show p < 6 by omega) hb
    rw [cntS_pop s hs64] at h1
    omega
  have q := upn (n := n) (P := fun N j => ∀ f : Nat → Int32, (∀ p, p < j → f p = if s.testBit p = true then S.1 61 (r * 6 + cntS (fun q => s.testBit q) p) + S.1 68 p else 0) → ∃ f' : Nat → Int32, (∀ p, p < n → f' p = if s.testBit p = true then S.1 61 (r * 6 + cntS (fun q => s.testBit q) p) + S.1 68 p else 0) ∧ F_X8_cuts_39 N (nI r) (nI s) (nI (cntS (fun q => s.testBit q) j)) (nI j) (sA S 80 f) = F_X8_cuts_110 fN (nI s) 1000000 0 (sA S 80 f'))
    (fun N f hf => ⟨f, hf, by rw [F_X8_cuts_39, sA_off (by omega), h.2.2.2.1, if_pos (by rw [leN (by omega) (by omega)]; omega)]⟩)
    (fun N j hj ih f hf => by
      have hj6 : j < 6 := by omega
      rw [F_X8_cuts_39, sA_off (show 59 ≠ 80 by omega), h.2.2.2.1, if_neg (nI_ge hj (by omega)), M_has hs64 hj6, obs]
      dsimp only
      cases hb : s.testBit j with
      | false =>
        obtain ⟨f', k1, k2⟩ := ih (upd f j 0) (fun p hp => by
          by_cases c : p = j
          · subst c; rw [upd_at, hb]; rfl
          · rw [upd_off c]; exact hf p (by omega))
        refine ⟨f', k1, ?_⟩
        rw [← k2, cntS_f hb]
        simp only [F_X8_cuts_75, g6 hj6, c6 hj6, bs, sV_sA, M_has hs64 hj6, obs, hb, F_X8_cuts_91]
        rw [if_neg (show ¬ (false = true) by decide), if_pos rfl, nI_1, Int32.add_zero]
        exact if_pos rfl
      | true =>
        obtain ⟨f', k1, k2⟩ := ih (upd f j (S.1 61 (r * 6 + cntS (fun q => s.testBit q) j) + S.1 68 j)) (fun p hp => by
          by_cases c : p = j
          · subst c; rw [upd_at, hb]; rfl
          · rw [upd_off c]; exact hf p (by omega))
        have ht := M_tallAt (HM_sA h (show 61 ≤ 80 by omega) f) hj6 hr (hcn j hj hb)
        rw [sA_off (by omega), sA_off (by omega)] at ht
        refine ⟨f', k1, ?_⟩
        rw [← k2, cntS_t hb, if_pos rfl, if_neg (by decide), ht, obs]
        dsimp only
        simp only [F_X8_cuts_75, g6 hj6, c6 hj6, bs, sV_sA, M_has hs64 hj6, obs, hb, F_X8_cuts_91]
        simp only [if_true]
        rw [if_neg (by decide), nI_1, nI_1]) fN 0 (by omega) (fN0 (by omega)) (S.1 80) (fun p hp => by omega)
  rw [sA_id] at q
  exact q
theorem B_cuts (x y : Int32) : Bo (F_X7_cuts x y) (F_X8_cuts x y) := by
  intro k n pc b st hb h
  have hH := h.house
  obtain ⟨hc, hm, hF, hFb, hK, -⟩ := h.house
  have hS := h.scene
  obtain ⟨hA, hV, -, hI, -, ⟨lw, hlw, w1, w2⟩, -⟩ := h.scene
  have hk := hc.1
  have hn := hc.2.1
  have hpc : ∀ r, r < k → pc r ≤ 6 := fun r hr => (hc.2.2.2.2 r hr).2.2
  rcases idx x (n := k) (by omega) with ⟨r, hr, rfl⟩ | hx
  · rcases setIx y hn with ⟨s, hs, rfl, s1, s2⟩ | ⟨s1, s2⟩
    · have hs64 := (bits_n n hn s hs).1
      have g3 : ∀ {α : Type} {a : Option α}, gi (nI r) 3 a = a := gi_in (by omega) (by decide)
      have c3 : (nI r).toNatClampNeg = r := clN (by omega)
      have hp6 := @pop_le s
      have e60 : ∀ S : St, S.1 60 = st.1 60 → S.1 60 r = nI (pc r) := fun S e => by rw [e]; exact (hm.2.2.2.2 r hr).1
      by_cases c : pop s ≤ pc r
      · obtain ⟨S, hSS⟩ : ∃ S, S = cpS 16 9 st := ⟨_, rfl⟩
        have eo : ∀ a, (a < 16 ∨ 21 < a) → S.1 a = st.1 a := fun a ha => by rw [hSS, cpS_off (by omega)]
        have hcS : HC k n pc S := hc.cg (eo 1 (by omega)) (eo 2 (by omega))
        obtain ⟨v, hv⟩ : ∃ v, v = mixV (vC 9 st) (vC 16 st) := ⟨_, rfl⟩
        have evC : vC 16 S = v := by rw [hSS, vC_cpS, hv]
        have hs' : ScR k n pc b (st.1 4) v (vM st) (st.1 9 5) (st.1 59 10) (st.1 9 6) (st.1 59 16) := by rw [hv]; exact ScR.cgv hn hS (EqV_mix _ _) (EqV.refl _)
        have p1 := P_sendAllOut (sc := 16) (vC 16 S) S
        rw [setV_self, evC] at p1
        have p2 := P_placeInRow (v := allOut 6 v) hcS (r := r) hs
        obtain ⟨S1, hS1⟩ : ∃ S1, S1 = setV 16 (rowV s r n (allOut 6 v)) S := ⟨_, rfl⟩
        have eo1 : ∀ a, (a < 16 ∨ 21 < a) → S1.1 a = st.1 a := fun a ha => by rw [hS1, setV_off (by omega), eo a ha]
        have evC1 : vC 16 S1 = rowV s r n (allOut 6 v) := by rw [hS1, vC_setV]
        have hc1 : HC k n pc S1 := hc.cg (eo1 1 (by omega)) (eo1 2 (by omega))
        have hV1 := VV_row hk hn hpc hr hs c hs'.2.1
        have e17 : S1.1 (16 + 1) = (rowV s r n (allOut 6 v)).1 := by rw [hS1, setV_at1]
        have e20 : S1.1 (16 + 4) = v.2.2.2.1 := by rw [hS1, setV_at4]; rfl
        have hset : mkS (fun p => decide (S1.1 (16 + 1) p = nI r)) 6 = s := by
          refine set_ext (mkS_lt _ 6 (by omega)) hs64 (fun q hq => ?_)
          rw [mkS_bit _ 6 (by omega) q hq, e17]
          show (decide (q < 6) && decide ((if q < n ∧ s.testBit q = true then nI r else if q < 6 then (-1 : Int32) else v.1 q) = nI r)) = _
          rw [decide_eq_true hq, Bool.true_and]
          cases hbq : s.testBit q with
          | false => rw [if_neg (fun z => absurd z.2 (by decide)), if_pos hq]; exact decide_eq_false (fun z => nI_ne1 (a := r) (by omega) z.symm)
          | true =>
            have hqn : q < n := by
              by_cases z : q < n
              · exact z
              · have := bits_out hn hs (show n ≤ q by omega); rw [this] at hbq; cases hbq
            rw [if_pos ⟨hqn, rfl⟩]; exact decide_eq_true rfl
        have p3 := P_inchesToCut hc1 (sc := 16) (r := r) (lw := lw) (by rw [evC1]; exact hV1) (by rw [hS1, setV_off (by omega), hSS, cpS_5]; exact w1) hlw hr hset
        rw [evC1, e20, eo1 3 (by omega), eo1 6 (by omega)] at p3
        have hm1 : HM k n pc S1 := hm.cg (by rw [eo1 59 (by omega)]) (by rw [eo1 59 (by omega)]) (eo1 60 (by omega))
        obtain ⟨f, f1, f2⟩ := M_cutRow hm1 hs hr c
        have hcn : ∀ p, p < n → s.testBit p = true → cntS (fun q => s.testBit q) p < pc r := by
          intro p hp hb
          have h1 := cntS_lt2 (c := fun q => s.testBit q) (show p < 6 by omega) hb
          rw [cntS_pop s hs64] at h1
          omega
        have fT : ∀ p, p < n → s.testBit p = true → f p = tl (st.1 3) (rowV s r n (allOut 6 v)) p := by
          intro p hp hbp
          rw [f1 p hp, if_pos hbp, eo1 61 (by omega), eo1 68 (by omega)]
          unfold tl
          rw [show (rowV s r n (allOut 6 v)).1 p = nI r from if_pos ⟨hp, hbp⟩, show (rowV s r n (allOut 6 v)).2.1 p = nI (cntS (fun q => s.testBit q) p) from if_pos ⟨hp, hbp⟩, c3, clN (by have := hcn p hp hbp; have := hpc r hr; omega), hF r hr _ (hcn p hp hbp)]
          have : v.2.2.2.2 p = st.1 68 p := (hs'.1.1 p hp).2.2.2.1
          rw [← this]
          rfl
        have fB : ∀ p, p < n → s.testBit p = true → 0 ≤ (f p).toInt ∧ (f p).toInt ≤ 10000 := by
          intro p hp hbp
          rw [f1 p hp, if_pos hbp, eo1 61 (by omega), eo1 68 (by omega)]
          have b1 := hFb r hr _ (hcn p hp hbp)
          have b2 := hI p hp
          rw [show (vC 9 st).2.2.2.2 p = st.1 68 p from (hA.1 p hp).2.2.2.1] at b2
          rw [tadd (by omega) (by omega)]
          omega
        have hm2 := HM_sA hm1 (show 61 ≤ 80 by omega) f
        have e2o : ∀ a, a ≠ 80 → (a < 16 ∨ 21 < a) → (sA S1 80 f).1 a = st.1 a := fun a h1 h2 => by rw [sA_off h1, eo1 a h2]
        have q3 := M_cutLoop (s := s) hm2 (lw := lw) (by rw [e2o 59 (by omega) (by omega)]; exact w2) hlw (fun q hq => bits_out hn hs hq) (by rw [sA_at]; exact fB) (by rw [e2o 64 (by omega) (by omega)]; exact fun p hp => ⟨(hK p hp).2.1, by have := (hK p hp).2.2; omega⟩) 6 fN s none 0 hp6 (by have := fN_big; omega) hs64 (fun q _ hq => hq) (fun x hx => by cases hx)
        rw [sA_at, e2o 67 (by omega) (by omega), e2o 64 (by omega) (by omega)] at q3
        rw [← ctS_congr (lw := lw) (A' := st.1 67) (T' := f) (K' := st.1 64) (A := v.2.2.2.1) (T := tl (st.1 3) (rowV s r n (allOut 6 v))) (K := st.1 6) (fun q hq => (hs'.1.1 q hq).2.2.1) (fun q hq => (hK q hq).1) hn 6 s none 0 (fun q hq hbq => (fT q hq hbq).symm) hs64] at q3
        refine ⟨ctS lw v.2.2.2.1 (tl (st.1 3) (rowV s r n (allOut 6 v))) (st.1 6) n 6 s none 0, S1, sA S1 80 f, ?_, ?_, k, n, pc, ?_⟩
        rotate_left
        · rw [F_X8_cuts, F_X8_cuts_0, M_isRoom_in hm1 hr, obs]
          dsimp only
          rw [if_neg (by decide), s2 k pc S1 hm1, obs]
          dsimp only
          rw [if_neg (by decide), M_bits hs64, obs]
          dsimp only
          rw [g3, c3, e60 S1 (eo1 60 (by omega)), if_pos (by rw [leN (by omega) (by have := hpc r hr; omega)]; exact c), f2]
          exact q3
        · refine h.cg (by omega) (fun a ha => ?_) (fun j _ => by rw [e2o 59 (by omega) (by omega)]) (fun j _ => by rw [e2o 92 (by omega) (by omega)]) ?_
          · exact e2o a (by omega) (by omega)
          · unfold SceneR
            rw [vC_cg (s := st) (fun a a1 a2 => e2o a (by omega) (by omega)), vM_cg (s := st) (fun a a1 a2 => e2o a (by omega) (by omega)), e2o 4 (by omega) (by omega), e2o 9 (by omega) (by omega), e2o 59 (by omega) (by omega)]
            exact ScR.mono hS (by omega)
        · rw [F_X7_cuts, F_X7_cuts_0, P_hasRoom_in hc hr, obs]
          dsimp only
          rw [if_neg (by decide), s1 k pc st hc, obs]
          dsimp only
          rw [if_neg (by decide), P_bitCount hs64, obs]
          dsimp only
          rw [P_placesOf hc hr, obs]
          dsimp only
          rw [if_pos (by rw [leN (by omega) (by have := hpc r hr; omega)]; exact c), F_X7_placeInRow, F_X7_placeInRow_0, P_copyFrom sc_9 (by omega), obs, ← hSS, p1, obs, p2, obs, ← hS1, p3, obs]
      · refine ro h (-1) ?_ ?_
        · rw [F_X7_cuts, F_X7_cuts_0, P_hasRoom_in hc hr, obs]
          dsimp only
          rw [if_neg (by decide), s1 k pc st hc, obs]
          dsimp only
          rw [if_neg (by decide), P_bitCount hs64, obs]
          dsimp only
          rw [P_placesOf hc hr, obs]
          dsimp only
          rw [if_neg (by rw [leN (by omega) (by have := hpc r hr; omega)]; exact c)]
        · rw [F_X8_cuts, F_X8_cuts_0, M_isRoom_in hm hr, obs]
          dsimp only
          rw [if_neg (by decide), s2 k pc st hm, obs]
          dsimp only
          rw [if_neg (by decide), M_bits hs64, obs]
          dsimp only
          rw [g3, c3, e60 st rfl, if_neg (by rw [leN (by omega) (by have := hpc r hr; omega)]; exact c)]
    · refine ro h (-1000000001) ?_ ?_
      · rw [F_X7_cuts, F_X7_cuts_0, P_hasRoom_in hc hr, obs]
        dsimp only
        rw [if_neg (by decide), s1 k pc st hc, obs]
        dsimp only
        rw [if_pos rfl]; rfl
      · rw [F_X8_cuts, F_X8_cuts_0, M_isRoom_in hm hr, obs]
        dsimp only
        rw [if_neg (by decide), s2 k pc st hm, obs]
        dsimp only
        rw [if_pos rfl]; rfl
  · refine ro h (-1000000001) ?_ ?_
    · rw [F_X7_cuts, F_X7_cuts_0, P_hasRoom_out hc hx, obs]
      dsimp only
      rw [if_pos rfl]; rfl
    · rw [F_X8_cuts, F_X8_cuts_0, M_isRoom_out hm hx, obs]
      dsimp only
      rw [if_pos rfl]; rfl

/-! PURE: to bow -/
def pop (s : Nat) : Nat := s % 2 + s / 2 % 2 + s / 4 % 2 + s / 8 % 2 + s / 16 % 2 + s / 32 % 2
theorem pop_rm {s p : Nat} (hs : s < 64) (hp : p < 6) (hb : s.testBit p = true) : pop (rmb s p) + 1 = pop s := by
  have h : ∀ s, s < 64 → ∀ p, p < 6 → s.testBit p = true → pop (rmb s p) + 1 = pop s := by decide +kernel
  exact h s hs p hp hb
theorem pop_le {s : Nat} : pop s ≤ 6 := by unfold pop; omega
theorem pop_0 {s : Nat} (hs : s < 64) (h : pop s = 0) : s = 0 := by
  have h2 : ∀ s, s < 64 → pop s = 0 → s = 0 := by decide +kernel
  exact h2 s hs h
/-- to bow, from the eldest on: d times at most; who is left, the limit (none: nobody has bowed), the bends, who is too high -/
def bwS (lw : Nat) (A T K : Nat → Int32) (n : Nat) : Nat → Nat → Option Int32 → (Nat → Int32) → Nat → (Nat × (Nat → Int32))
  | 0, _, _, B, still => (still, B)
  | d + 1, s, L, B, still => match eld A s n with
    | none => (still, B)
    | some p => match L with
      | none => bwS lw A T K n d (rmb s p) (some (T p)) (upd B p 0) still
      | some L => bwS lw A T K n d (rmb s p) (some (if lw = 1 then imn L (T p - imn (imx 0 (T p - L)) (K p)) else L)) (upd B p (imn (imx 0 (T p - L)) (K p))) (if imx 0 (T p - L) ≤ K p then still else still ||| 2 ^ p)
theorem bwS_lt {lw : Nat} {A T K : Nat → Int32} {n : Nat} (hn : n ≤ 6) : ∀ d s L B still, still < 64 → (bwS lw A T K n d s L B still).1 < 64 := by
  intro d
  induction d with
  | zero => intro s L B still h; exact h
  | succ d ih =>
    intro s L B still h
    rw [bwS]
    cases he : eld A s n with
    | none => exact h
    | some p =>
      have hp := (eld_lt _ _ he).1
      cases L with
      | none => exact ih _ _ _ _ h
      | some L =>
        refine ih _ _ _ _ ?_
        split
        · exact h
        · exact or_lt h (by omega)
/-- what comes out does not hang on the bends ahead; who is not of the set keeps its own -/
theorem bwS_B {lw : Nat} {A T K : Nat → Int32} {n : Nat} (hn : n ≤ 6) : ∀ d s L B B' still, s < 64 → pop s ≤ d → (∀ q, n ≤ q → s.testBit q = false) → (bwS lw A T K n d s L B still).1 = (bwS lw A T K n d s L B' still).1 ∧ ∀ p, (s.testBit p = true → (bwS lw A T K n d s L B still).2 p = (bwS lw A T K n d s L B' still).2 p) ∧ (s.testBit p = false → (bwS lw A T K n d s L B still).2 p = B p) := by
  intro d
  induction d with
  | zero =>
    intro s L B B' still hs hd hb
    have : s = 0 := pop_0 hs (by omega)
    subst this
    exact ⟨rfl, fun p => ⟨fun h => by simp at h, fun _ => rfl⟩⟩
  | succ d ih =>
    intro s L B B' still hs hd hb
    rw [bwS, bwS]
    cases he : eld A s n with
    | none =>
      refine ⟨rfl, fun p => ⟨fun h => ?_, fun _ => rfl⟩⟩
      by_cases c : p < n
      · rw [eld_none _ he p c] at h; cases h
      · rw [hb p (by omega)] at h; cases h
    | some a =>
      obtain ⟨a1, a2⟩ := eld_lt _ _ he
      have ha6 : a < 6 := by omega
      have hbit : ∀ q, (rmb s a).testBit q = (s.testBit q && decide (q ≠ a)) := by
        intro q
        by_cases c : q < 6
        · exact rmb_bit hs ha6 c
        · have h1 : (rmb s a).testBit q = false := Nat.testBit_lt_two_pow (Nat.lt_of_lt_of_le (rmb_lt hs) (by rw [show (64 : Nat) = 2 ^ 6 from rfl]; exact Nat.pow_le_pow_right (by decide) (by omega)))
          have h2 : s.testBit q = false := Nat.testBit_lt_two_pow (Nat.lt_of_lt_of_le hs (by rw [show (64 : Nat) = 2 ^ 6 from rfl]; exact Nat.pow_le_pow_right (by decide) (by omega)))
          rw [h1, h2]; rfl
      have hpop := pop_rm hs ha6 a2
      have hb2 : ∀ q, n ≤ q → (rmb s a).testBit q = false := fun q hq => by rw [hbit q, hb q hq]; rfl
      have key : ∀ (L2 : Option Int32) (x : Int32) (still2 : Nat), (bwS lw A T K n d (rmb s a) L2 (upd B a x) still2).1 = (bwS lw A T K n d (rmb s a) L2 (upd B' a x) still2).1 ∧ ∀ p, (s.testBit p = true → (bwS lw A T K n d (rmb s a) L2 (upd B a x) still2).2 p = (bwS lw A T K n d (rmb s a) L2 (upd B' a x) still2).2 p) ∧ (s.testBit p = false → (bwS lw A T K n d (rmb s a) L2 (upd B a x) still2).2 p = B p) := by
        intro L2 x still2
        obtain ⟨k1, k2⟩ := ih (rmb s a) L2 (upd B a x) (upd B' a x) still2 (rmb_lt hs) (by omega) hb2
        obtain ⟨_, k3⟩ := ih (rmb s a) L2 (upd B' a x) (upd B a x) still2 (rmb_lt hs) (by omega) hb2
        refine ⟨k1, fun p => ⟨fun h => ?_, fun h => ?_⟩⟩
        · by_cases c : p = a
          · subst c
            have hf : (rmb s p).testBit p = false := by rw [hbit p]; simp
            rw [(k2 p).2 hf, (k3 p).2 hf, upd_at, upd_at]
          · exact (k2 p).1 (by rw [hbit p, h]; simp [c])
        · have hpa : p ≠ a := fun q => by rw [q, a2] at h; cases h
          rw [(k2 p).2 (by rw [hbit p, h]; rfl), upd_off hpa]
      cases L with
      | none => exact key _ _ _
      | some L => exact key _ _ _
theorem eld_AB {A B : Nat → Int32} {n : Nat} (h : ∀ q, q < n → A q = B q) (s : Nat) : eld A s n = eld B s n := eld_congr n h
theorem bwS_congr {lw : Nat} {A T K A' T' K' : Nat → Int32} {n : Nat} (hA : ∀ q, q < n → A q = A' q) (hK : ∀ q, q < n → K q = K' q) : ∀ d s L B still, (∀ q, q < n → s.testBit q = true → T q = T' q) → s < 64 → n ≤ 6 → bwS lw A T K n d s L B still = bwS lw A' T' K' n d s L B still := by
  intro d
  induction d with
  | zero => intro s L B still _ _ _; rfl
  | succ d ih =>
    intro s L B still hT hs hn
    rw [bwS, bwS, eld_congr n hA]
    cases he : eld A' s n with
    | none => rfl
    | some p =>
      obtain ⟨p1, p2⟩ := eld_lt _ _ he
      have hT2 : ∀ q, q < n → (rmb s p).testBit q = true → T q = T' q := fun q hq hb => hT q hq (by rw [rmb_bit hs (by omega) (by omega)] at hb; simp at hb; exact hb.1)
      cases L with
      | none => dsimp only; rw [hT p p1 p2]; exact ih _ _ _ _ hT2 (rmb_lt hs) hn
      | some L => dsimp only; rw [hT p p1 p2, hK p p1]; exact ih _ _ _ _ hT2 (rmb_lt hs) hn
/-! the class -/
theorem HC_sA {k n : Nat} {pc : Nat → Nat} {st : St} (h : HC k n pc st) {j : Nat} (hj : 9 ≤ j) (f : Nat → Int32) : HC k n pc (sA st j f) := by
  obtain ⟨h1, h2, h3, h4, h5⟩ := h
  refine ⟨h1, h2, ?_, ?_, fun r hr => ?_⟩
  · rw [sA_off (by omega)]; exact h3
  · rw [sA_off (by omega)]; exact h4
  · rw [sA_off (by omega)]; exact h5 r hr
theorem sA_sA (st : St) (i : Nat) (f g : Nat → Int32) : sA (sA st i f) i g = sA st i g := by
  unfold sA
  congr 1
  funext a
  by_cases c : a = i <;> simp [c]
theorem sA_id (st : St) (i : Nat) : sA st i (st.1 i) = st := by
  unfold sA
  have : (fun a => if a = i then st.1 i else st.1 a) = st.1 := by
    funext a
    by_cases c : a = i
    · subst c; simp
    · simp [c]
  rw [this]
theorem vC_B {sc : Nat} (st : St) (f : Nat → Int32) : vC sc (sA st (sc + 3) f) = (st.1 (sc + 1), st.1 (sc + 2), f, st.1 (sc + 4), st.1 (sc + 5)) := by
  simp only [vC]
  rw [sA_off (show sc + 1 ≠ sc + 3 by omega), sA_off (show sc + 2 ≠ sc + 3 by omega), sA_at, sA_off (show sc + 4 ≠ sc + 3 by omega), sA_off (show sc + 5 ≠ sc + 3 by omega)]
theorem sV_sA (st : St) (i k : Nat) (f : Nat → Int32) (x : Int32) : sV (sA st i f) i k x = sA st i (upd f k x) := by
  unfold sV
  rw [sA_at, sA_sA]
theorem P_nextLimit (sc : Nat) (a b : Int32) (st : St) : F_X1_nextLimit sc a b st = some (if st.1 sc 5 = 1 then imn a b else a, st) := by
  simp only [F_X1_nextLimit, F_X1_nextLimit_0, F_X1_nextLimit_20]
  split <;> rfl
theorem P_allBow {k n : Nat} {pc : Nat → Nat} {st : St} (h : HC k n pc st) {sc r lw : Nat} (hsc : 9 ≤ sc) (hV : VV k n pc (vC sc st)) (hl : st.1 sc 5 = nI lw) (hlw : lw ≤ 1) (hr : r < k) :
    F_X1_allBow sc (nI r) st = some (nI (bwS lw (st.1 (sc + 4)) (tl (st.1 3) (vC sc st)) (st.1 6) n 6 (mkS (fun p => decide (st.1 (sc + 1) p = nI r)) n) none (st.1 (sc + 3)) 0).1, sA st (sc + 3) (bwS lw (st.1 (sc + 4)) (tl (st.1 3) (vC sc st)) (st.1 6) n 6 (mkS (fun p => decide (st.1 (sc + 1) p = nI r)) n) none (st.1 (sc + 3)) 0).2) := by
  have hn : n ≤ 6 := h.2.1
  have hk : k ≤ 3 := h.1
  have hset : mkS (fun p => decide (st.1 (sc + 1) p = nI r)) 6 = mkS (fun p => decide (st.1 (sc + 1) p = nI r)) n := by
    refine set_ext (mkS_lt _ 6 (by omega)) (mkS_lt _ n hn) (fun q hq => ?_)
    rw [mkS_bit _ 6 (by omega) q hq, mkS_bit _ n hn q hq]
    by_cases c : st.1 (sc + 1) q = nI r
    · have := (hV.at hk hn hq hr c).1; simp [hq, this]
    · simp [c]
  obtain ⟨s, hs⟩ : ∃ s, s = mkS (fun p => decide (st.1 (sc + 1) p = nI r)) n := ⟨_, rfl⟩
  have hs64 : s < 64 := by rw [hs]; exact mkS_lt _ n hn
  have hsb : ∀ q, q < 6 → s.testBit q = true → q < n ∧ inP k pc (vC sc st) q := by
    intro q hq hb
    rw [hs, mkS_bit _ n hn q hq] at hb
    simp at hb
    exact hV.at hk hn hq hr hb.2
  have htall : ∀ (f : Nat → Int32) q, q < 6 → s.testBit q = true → F_X1_tallOf sc (nI q) (sA st (sc + 3) f) = some (tl (st.1 3) (vC sc st) q, sA st (sc + 3) f) := by
    intro f q hq hb
    have hin : inP k pc (vC sc (sA st (sc + 3) f)) q := by rw [vC_B]; exact (hsb q hq hb).2
    rw [P_tallOf (HC_sA h (by omega) f) hq hin]
    rw [sA_off (show 3 ≠ sc + 3 by omega), vC_B]
    rfl
  have hhead : ∀ (f : Nat → Int32) q, q < 6 → s.testBit q = true → F_X1_headOf sc (nI q) (sA st (sc + 3) f) = some (tl (st.1 3) (vC sc st) q - f q, sA st (sc + 3) f) := by
    intro f q hq hb
    have hin : inP k pc (vC sc (sA st (sc + 3) f)) q := by rw [vC_B]; exact (hsb q hq hb).2
    rw [P_headOf (HC_sA h (by omega) f) hq hin]
    rw [sA_off (show 3 ≠ sc + 3 by omega), vC_B]
    rfl
  have held : ∀ (f : Nat → Int32) s', s' < 64 → (∀ q, n ≤ q → q < 6 → s'.testBit q = false) → F_X6_eldestOf sc (nI s') (sA st (sc + 3) f) = some (oI (eld (st.1 (sc + 4)) s' n), sA st (sc + 3) f) := by
    intro f s' h1 h2
    rw [P_eldestOf sc s' h1, sA_off (show sc + 4 ≠ sc + 3 by omega), eld_ext 6 hn h2]
  have hsout : ∀ q, n ≤ q → q < 6 → s.testBit q = false := by
    intro q h1 h2
    rw [hs, mkS_bit _ n hn q h2]
    have : ¬ q < n := by omega
    simp [this]
  -- the loop
  have loop : ∀ d N j s' p L B still, j + d = 6 → d < N → s' < 64 → (∀ q, q < 6 → s'.testBit q = true → s.testBit q = true) → p < 6 → still < 64 →
      F_X1_allBow_48 sc N (nI s') (nI p) L (nI still) (nI j) (sA st (sc + 3) B) = some (nI (bwS lw (st.1 (sc + 4)) (tl (st.1 3) (vC sc st)) (st.1 6) n d (rmb s' p) (some L) B still).1, sA st (sc + 3) (bwS lw (st.1 (sc + 4)) (tl (st.1 3) (vC sc st)) (st.1 6) n d (rmb s' p) (some L) B still).2) := by
    intro d
    induction d with
    | zero =>
      intro N j s' p L B still hj hN hs' hsub hp hst
      obtain ⟨N, rfl⟩ : ∃ M, N = M + 1 := ⟨N - 1, by omega⟩
      have : j = 6 := by omega
      subst this
      simp only [F_X1_allBow_48, t6, if_true, F_X1_allBow_158, bwS]
    | succ d ih =>
      intro N j s' p L B still hj hN hs' hsub hp hst
      obtain ⟨N, rfl⟩ : ∃ M, N = M + 1 := ⟨N - 1, by omega⟩
      have hj6 : j < 6 := by omega
      have hr64 := rmb_lt (p := p) hs'
      have hrsub : ∀ q, q < 6 → (rmb s' p).testBit q = true → s.testBit q = true := fun q hq hb => by
        rw [rmb_bit hs' hp hq] at hb
        simp at hb
        exact hsub q hq hb.1
      have hrout : ∀ q, n ≤ q → q < 6 → (rmb s' p).testBit q = false := by
        intro q h1 h2
        cases hb : (rmb s' p).testBit q with
        | false => rfl
        | true => have := hrsub q h2 hb; rw [hsout q h1 h2] at this; cases this
      simp only [F_X1_allBow_48, f6 hj6, if_false, clrN hs' hp, held B _ hr64 hrout, Option.bind_some]
      rw [bwS]
      cases he : eld (st.1 (sc + 4)) (rmb s' p) n with
      | none => rw [if_pos oI_none]; rfl
      | some a =>
        obtain ⟨a1, a2⟩ := eld_lt _ _ he
        have ha6 : a < 6 := by omega
        have has := hrsub a ha6 a2
        rw [if_neg (show ¬ oI (some a) = -1 from nI_ne1 (by omega))]
        have e6 : (sA st (sc + 3) B).1 6 = st.1 6 := sA_off (by omega)
        simp only [oI, htall B a ha6 has, Option.bind_some, g6 ha6, c6 ha6, e6, bs, sV_sA]
        have e62 : ∀ f : Nat → Int32, (sA st (sc + 3) f).1 6 = st.1 6 := fun f => sA_off (by omega)
        have e5 : ∀ f : Nat → Int32, (sA st (sc + 3) f).1 sc 5 = nI lw := fun f => by rw [sA_off (by omega)]; exact hl
        simp only [e62, F_X1_allBow_139, hhead _ a ha6 has, Option.bind_some, P_nextLimit, e5, upd_at, nI_1]
        have el : (nI lw = 1) = (lw = 1) := eqN (a := lw) (b := 1) (by omega) (by omega)
        simp only [el]
        by_cases c : imx 0 (tl (st.1 3) (vC sc st) a - L) ≤ st.1 6 a
        · rw [if_pos c, if_pos c]
          exact ih N (j + 1) _ a _ _ _ (by omega) (by omega) hr64 hrsub ha6 hst
        · rw [if_neg c, if_neg c, orN hst ha6]
          exact ih N (j + 1) _ a _ _ _ (by omega) (by omega) hr64 hrsub ha6 (or_lt hst ha6)
  simp only [F_X1_allBow, F_X1_allBow_0, P_whoIsIn, Option.bind_some, hset]
  rw [← hs]
  have h0 := held (st.1 (sc + 3)) s hs64 hsout
  rw [sA_id] at h0
  simp only [h0, Option.bind_some]
  rw [show (6 : Nat) = 5 + 1 from rfl, bwS]
  cases he : eld (st.1 (sc + 4)) s n with
  | none => rw [if_pos oI_none, sA_id]; rfl
  | some a =>
    obtain ⟨a1, a2⟩ := eld_lt _ _ he
    have ha6 : a < 6 := by omega
    rw [if_neg (show ¬ oI (some a) = -1 from nI_ne1 (by omega))]
    simp only [oI, g6 ha6, c6 ha6, bs]
    have e1 : sV st (sc + 3) a 0 = sA st (sc + 3) (upd (st.1 (sc + 3)) a 0) := rfl
    rw [e1]
    simp only [htall _ a ha6 a2, Option.bind_some]
    exact loop 5 fN 1 s a _ _ 0 rfl (by have := fN_big; omega) hs64 (fun q _ hb => hb) ha6 (by decide)

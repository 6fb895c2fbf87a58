/-! PURE: who is at a place; who is too high -/
def whoL (R P : Nat → Int32) (r i : Int32) : Nat → Option Nat
  | 0 => none
  | n + 1 => if R n = r ∧ P n = i then some n else whoL R P r i n
theorem whoF_some {R P : Nat → Int32} {r i : Int32} : ∀ d k p, whoF R P r i k d = some p → k ≤ p ∧ p < k + d ∧ R p = r ∧ P p = i := by
  intro d
  induction d with
  | zero => intro k p h; cases h
  | succ d ih =>
    intro k p h
    rw [whoF] at h
    by_cases c : R k = r ∧ P k = i
    · rw [if_pos c] at h; cases h; exact ⟨by omega, by omega, c.1, c.2⟩
    · rw [if_neg c] at h; have := ih _ _ h; exact ⟨by omega, by omega, this.2.2⟩
theorem whoF_none {R P : Nat → Int32} {r i : Int32} : ∀ d k, whoF R P r i k d = none → ∀ q, k ≤ q → q < k + d → ¬ (R q = r ∧ P q = i) := by
  intro d
  induction d with
  | zero => intro k h q h1 h2; omega
  | succ d ih =>
    intro k h q h1 h2
    rw [whoF] at h
    by_cases c : R k = r ∧ P k = i
    · rw [if_pos c] at h; cases h
    · rw [if_neg c] at h
      by_cases e : q = k
      · subst e; exact c
      · exact ih _ h q (by omega) (by omega)
theorem whoL_some {R P : Nat → Int32} {r i : Int32} : ∀ n p, whoL R P r i n = some p → p < n ∧ R p = r ∧ P p = i := by
  intro n
  induction n with
  | zero => intro p h; cases h
  | succ n ih =>
    intro p h
    rw [whoL] at h
    by_cases c : R n = r ∧ P n = i
    · rw [if_pos c] at h; cases h; exact ⟨by omega, c.1, c.2⟩
    · rw [if_neg c] at h; have := ih _ h; exact ⟨by omega, this.2⟩
theorem whoL_none {R P : Nat → Int32} {r i : Int32} : ∀ n, whoL R P r i n = none → ∀ q, q < n → ¬ (R q = r ∧ P q = i) := by
  intro n
  induction n with
  | zero => intro h q h1; omega
  | succ n ih =>
    intro h q h1
    rw [whoL] at h
    by_cases c : R n = r ∧ P n = i
    · rw [if_pos c] at h; cases h
    · rw [if_neg c] at h
      by_cases e : q = n
      · subst e; exact c
      · exact ih h q (by omega)
theorem M_whoAt {k n : Nat} {pc : Nat → Nat} {st : St} (h : HM k n pc st) (r i : Int32) : F_X8_whoAt r i st = some (oI (whoL (st.1 69) (st.1 70) r i n), st) := by
  obtain ⟨h1, h2, h3, h4, h5⟩ := h
  obtain ⟨res, hres⟩ : ∃ res, res = some (oI (whoL (st.1 69) (st.1 70) r i n), st) := ⟨_, rfl⟩
  rw [← hres]
  have h := upn (n := n) (P := fun N j => F_X8_whoAt_5 N r i (oI (whoL (st.1 69) (st.1 70) r i j)) (nI j) st = res)
    (fun N => by simp only [F_X8_whoAt_5, h4, tn, if_true, hres]) (fun N j hj ih => by
      have hj6 : j < 6 := by omega
      simp only [F_X8_whoAt_5, h4, fn h2 hj, if_false, g6 hj6, c6 hj6, F_X8_whoAt_41, F_X8_whoAt_42, nI_1]
      rw [whoL] at ih
      by_cases c : st.1 69 j = r
      · by_cases c2 : st.1 70 j = i
        · rw [if_pos ⟨c, c2⟩] at ih; rw [if_pos c, if_pos c2]; exact ih
        · rw [if_neg (fun q => c2 q.2)] at ih; rw [if_pos c, if_neg c2]; exact ih
      · rw [if_neg (fun q => c q.1)] at ih; rw [if_neg c]; exact ih) fN 0 (by omega) (fN0 (by omega))
  exact h
/-- a scene that can be: everybody is at a place or nowhere, AGES and PLACES unlike -/
def VV (k n : Nat) (pc : Nat → Nat) (v : Vw) : Prop := (∀ p, p < n → inP k pc v p ∨ (v.1 p = -1 ∧ v.2.1 p = -1)) ∧ (∀ p q, p < n → q < n → v.2.2.2.1 p = v.2.2.2.1 q → p = q) ∧ (∀ p, n ≤ p → p < 6 → v.1 p = -1) ∧ (∀ p q, p < n → q < n → v.1 p = v.1 q → v.2.1 p = v.2.1 q → v.1 p ≠ -1 → p = q)
theorem VV.at {k n : Nat} {pc : Nat → Nat} {v : Vw} (h : VV k n pc v) {p r : Nat} (hk : k ≤ 3) (hn : n ≤ 6) (hp : p < 6) (hr : r < k) (e : v.1 p = nI r) : p < n ∧ inP k pc v p := by
  have hne : ¬ nI r = -1 := nI_ne1 (by omega)
  by_cases c : p < n
  · refine ⟨c, ?_⟩
    rcases h.1 p c with h1 | h1
    · exact h1
    · rw [e] at h1; exact absurd h1.1 hne
  · have := h.2.2.1 p (by omega) hp
    rw [e] at this; exact absurd this hne
theorem who_eq {k n : Nat} {pc : Nat → Nat} {v : Vw} (h : VV k n pc v) (hn : n ≤ 6) {R P : Nat → Int32} (hR : ∀ p, p < n → R p = v.1 p) (hP : ∀ p, p < n → P p = v.2.1 p) {r : Nat} (hr : r < 3) (i : Int32) : whoF v.1 v.2.1 (nI r) i 0 6 = whoL R P (nI r) i n := by
  have hne : ¬ nI r = -1 := nI_ne1 (by omega)
  have low : ∀ p, p < 6 → v.1 p = nI r → p < n := by
    intro p hp e
    by_cases c : p < n
    · exact c
    · have := h.2.2.1 p (by omega) hp; rw [e] at this; exact absurd this hne
  cases hF : whoF v.1 v.2.1 (nI r) i 0 6 with
  | none =>
    cases hL : whoL R P (nI r) i n with
    | none => rfl
    | some p =>
      obtain ⟨a, b, c⟩ := whoL_some _ _ hL
      rw [hR p a] at b; rw [hP p a] at c
      exact absurd ⟨b, c⟩ (whoF_none _ _ hF p (by omega) (by omega))
  | some p =>
    obtain ⟨-, a, b, c⟩ := whoF_some _ _ _ hF
    have hp := low p (by omega) b
    cases hL : whoL R P (nI r) i n with
    | none => exact absurd ⟨by rw [hR p hp]; exact b, by rw [hP p hp]; exact c⟩ (whoL_none _ hL p hp)
    | some q =>
      obtain ⟨a2, b2, c2⟩ := whoL_some _ _ hL
      rw [hR q a2] at b2; rw [hP q a2] at c2
      rw [h.2.2.2 p q hp a2 (b.trans b2.symm) (c.trans c2.symm) (by rw [b]; exact hne)]
/-- the greatest of some differences, at least 0 -/
def mxS (c : Nat → Bool) (d : Nat → Int32) : Nat → Int32
  | 0 => 0
  | q + 1 => if c q then imx (mxS c d q) (d q) else mxS c d q
/-- by how much p is too high in room r -/
def exS (lw n : Nat) (fl : Nat → Int32) (v : Vw) (r : Int32) (p : Nat) : Int32 :=
  if lw = 1 then mxS (fun q => decide (v.1 q = r) && !decide (v.2.2.2.1 q ≤ v.2.2.2.1 p)) (fun q => hd fl v p - hd fl v q) n
  else match eld v.2.2.2.1 (mkS (fun q => decide (v.1 q = r)) n) n with
    | none => 0
    | some e => imx 0 (hd fl v p - hd fl v e)
theorem imx_0 : imx 0 0 = 0 := by decide
theorem P_excessOf {k n : Nat} {pc : Nat → Nat} {st : St} (h : HC k n pc st) {sc p r lw : Nat} (hV : VV k n pc (vC sc st)) (hl : st.1 sc 5 = nI lw) (hlw : lw ≤ 1) (hp : p < n) (hr : r < k) (e : st.1 (sc + 1) p = nI r) : F_X1_excessOf sc (nI p) (nI r) st = some (exS lw n (st.1 3) (vC sc st) (nI r) p, st) := by
  have hn : n ≤ 6 := h.2.1
  have hk : k ≤ 3 := h.1
  have hp6 : p < 6 := by omega
  have hin := (hV.at hk hn hp6 hr e).2
  have hh1 := P_headOf h hp6 hin
  have hlow : ∀ q, q < 6 → st.1 (sc + 1) q = nI r → q < n ∧ F_X1_headOf sc (nI q) st = some (hd (st.1 3) (vC sc st) q, st) := fun q hq e2 =>
    ⟨(hV.at hk hn hq hr e2).1, P_headOf h hq (hV.at hk hn hq hr e2).2⟩
  obtain ⟨old, hold⟩ : ∃ f : Nat → Bool, f = fun q => decide (st.1 (sc + 1) q = nI r) && !decide (st.1 (sc + 4) q ≤ st.1 (sc + 4) p) := ⟨_, rfl⟩
  have hm : mkS old 6 < 64 := mkS_lt old 6 (by omega)
  simp only [F_X1_excessOf, F_X1_excessOf_0, g6 hp6, c6 hp6, P_whoIsOlderIn, Option.bind_some, hl, ← hold]
  have hbit : ∀ q, q < 6 → (mkS old 6).testBit q = old q := fun q hq => by rw [mkS_bit old 6 (by omega) q hq]; simp [hq]
  have holdR : ∀ q, old q = true → st.1 (sc + 1) q = nI r := fun q hq => by rw [hold] at hq; simp at hq; exact hq.1
  unfold exS
  by_cases c : lw = 1
  · rw [if_pos c, if_pos (by rw [c]; rfl)]
    obtain ⟨res, hres⟩ : ∃ res, res = mxS (fun q => decide ((vC sc st).1 q = nI r) && !decide ((vC sc st).2.2.2.1 q ≤ (vC sc st).2.2.2.1 p)) (fun q => hd (st.1 3) (vC sc st) p - hd (st.1 3) (vC sc st) q) n := ⟨_, rfl⟩
    rw [← hres]
    have hres2 : res = mxS old (fun q => hd (st.1 3) (vC sc st) p - hd (st.1 3) (vC sc st) q) n := by rw [hres, hold]; rfl
    clear hres
    have hL := upn (n := n) (P := fun N j => F_X1_excessOf_72 sc N (nI p) (nI (mkS old 6)) (mxS old (fun q => hd (st.1 3) (vC sc st) p - hd (st.1 3) (vC sc st) q) j) (nI j) st = some (res, st))
      (fun N => by simp only [F_X1_excessOf_72, h.2.2.2.1, tn, if_true, hres2]) (fun N j hj ih => by
        have hj6 : j < 6 := by omega
        simp only [F_X1_excessOf_72, h.2.2.2.1, fn hn hj, if_false, bitN hm hj6, hbit j hj6, F_X1_excessOf_112, nI_1]
        rw [mxS] at ih
        by_cases c2 : old j = true
        · rw [if_neg (by rw [c2]; decide)]
          rw [if_pos c2] at ih
          simp only [hh1, Option.bind_some, (hlow j hj6 (holdR j c2)).2]
          exact ih
        · rw [if_neg c2] at ih
          rw [if_pos (by simpa using c2)]; exact ih) fN 0 (by omega) (fN0 (by omega))
    exact hL
  · have hl0 : lw = 0 := by omega
    rw [if_neg c, if_neg (by rw [hl0]; decide)]
    simp only [P_eldestOf sc _ hm, Option.bind_some]
    have hrm : ∀ q, q < 6 → (mkS (fun q => decide ((vC sc st).1 q = nI r)) n).testBit q = (decide (q < n) && decide (st.1 (sc + 1) q = nI r)) := fun q hq => mkS_bit _ n hn q hq
    have hpin : (mkS (fun q => decide ((vC sc st).1 q = nI r)) n).testBit p = true := by rw [hrm p hp6]; simp [hp, e]
    cases hE : eld (vC sc st).2.2.2.1 (mkS (fun q => decide ((vC sc st).1 q = nI r)) n) n with
    | none => have := eld_none _ hE p hp; rw [this] at hpin; cases hpin
    | some a =>
      obtain ⟨a1, a2⟩ := eld_lt _ _ hE
      have amax := eld_max _ _ hE
      rw [hrm a (by omega)] at a2
      simp [a1] at a2
      cases hO : eld (st.1 (sc + 4)) (mkS old 6) 6 with
      | none =>
        rw [if_pos oI_none]
        have h1 := eld_none _ hO a (by omega)
        rw [hbit a (by omega), hold] at h1
        simp [a2] at h1
        have h2 := amax p hp hpin
        have h3 : a = p := hV.2.1 a p a1 hp (Int32.le_antisymm h1 h2)
        rw [h3]
        show F_X1_excessOf_65 sc 0 st = some (imx 0 (hd (st.1 3) (vC sc st) p - hd (st.1 3) (vC sc st) p), st)
        rw [Int32.sub_self, imx_0]; rfl
      | some b =>
        obtain ⟨b1, b2⟩ := eld_lt _ _ hO
        rw [hbit b b1] at b2
        have b3 := holdR b b2
        have b4 := (hlow b b1 b3).1
        have hb : (mkS (fun q => decide ((vC sc st).1 q = nI r)) n).testBit b = true := by rw [hrm b b1]; simp [b4, b3]
        have h1 := amax b b4 hb
        have b5 : ¬ st.1 (sc + 4) b ≤ st.1 (sc + 4) p := by rw [hold] at b2; simp at b2; exact Int32.not_le.mpr b2.2
        have hao : old a = true := by
          rw [hold]
          simp only [a2, decide_true, Bool.true_and, Bool.not_eq_true', decide_eq_false_iff_not]
          intro q
          exact b5 (Int32.le_trans h1 q)
        have h2 := eld_max _ _ hO a (by omega) (by rw [hbit a (by omega)]; exact hao)
        have h3 : a = b := hV.2.1 a b a1 b4 (Int32.le_antisymm h2 h1)
        subst h3
        rw [if_neg (show ¬ oI (some a) = -1 from nI_ne1 (by omega))]
        show Option.bind (F_X1_headOf sc (nI p) st) _ = _
        simp only [hh1, Option.bind_some, oI, (hlow a b1 a2).2, F_X1_excessOf_65]

/-! PURE: numbers, sets, guards -/
theorem gi_in {α : Type} {i n : Nat} {a : Option α} (h : i < n) (hn : n < 2 ^ 31) : gi (nI i) n a = a := by
  unfold gi
  rw [if_pos]
  rw [nI_toInt (by omega)]
  omega
theorem gi_lt {α : Type} {x : Int32} {i n : Nat} {a : Option α} (hx : x = nI i) (h : i < n) (hn : n < 2 ^ 31) : gi x n a = a := by subst hx; exact gi_in h hn
theorem leN {a b : Nat} (ha : a < 2 ^ 31) (hb : b < 2 ^ 31) : (nI a ≤ nI b) = (a ≤ b) := propext (nI_leI ha hb)
theorem ltN {a b : Nat} (ha : a < 2 ^ 31) (hb : b < 2 ^ 31) : (nI a < nI b) = (a < b) := propext (nI_ltI ha hb)
theorem eqN {a b : Nat} (ha : a < 2 ^ 31) (hb : b < 2 ^ 31) : (nI a = nI b) = (a = b) := propext (nI_eq ha hb)
theorem clN {a : Nat} (ha : a < 2 ^ 31) : (nI a).toNatClampNeg = a := nI_clamp ha
theorem litN (n : Nat) : (OfNat.ofNat n : Int32) = nI n := rfl
/-- a number or none, as the code has it -/
def oI : Option Nat → Int32
  | none => -1
  | some p => nI p
theorem oI_none : oI none = -1 := rfl
theorem nI_ne1 {a : Nat} (h : a < 2 ^ 31) : ¬ nI a = -1 := by
  intro e
  have h1 := congrArg Int32.toInt e
  rw [nI_toInt h] at h1
  have h2 : (-1 : Int32).toInt = -1 := rfl
  omega
theorem oI_eq {o : Option Nat} (h : ∀ p, o = some p → p < 2 ^ 31) : (oI o = -1) = (o = none) := by
  cases o with
  | none => simp [oI]
  | some p => simp only [oI, reduceCtorEq, eq_iff_iff, iff_false]; exact nI_ne1 (h p rfl)
/-- the k-th bit of a set -/
theorem bitN {s p : Nat} (hs : s < 64) (hp : p < 6) : (((nI s >>> (nI p &&& 31)) &&& 1) = 0) = (s.testBit p = false) := by
  have h : ∀ s, s < 64 → ∀ p, p < 6 → ((((nI s >>> (nI p &&& 31)) &&& 1) = 0) ↔ (s.testBit p = false)) := by decide +kernel
  exact propext (h s hs p hp)
theorem bit1N {s p : Nat} (hs : s < 64) (hp : p < 6) : (((nI s >>> (nI p &&& 31)) &&& 1) = 1) = (s.testBit p = true) := by
  have h : ∀ s, s < 64 → ∀ p, p < 6 → ((((nI s >>> (nI p &&& 31)) &&& 1) = 1) ↔ (s.testBit p = true)) := by decide +kernel
  exact propext (h s hs p hp)
theorem orN {s p : Nat} (hs : s < 64) (hp : p < 6) : nI s ||| (1 <<< (nI p &&& 31)) = nI (s ||| 2 ^ p) := by
  have h : ∀ s, s < 64 → ∀ p, p < 6 → nI s ||| (1 <<< (nI p &&& 31)) = nI (s ||| 2 ^ p) := by decide +kernel
  exact h s hs p hp
theorem or_lt {s p : Nat} (hs : s < 64) (hp : p < 6) : s ||| 2 ^ p < 64 := by
  have h : ∀ s, s < 64 → ∀ p, p < 6 → s ||| 2 ^ p < 64 := by decide +kernel
  exact h s hs p hp
/-- without p -/
def rmb (s p : Nat) : Nat := if s.testBit p then s - 2 ^ p else s
theorem clrN {s p : Nat} (hs : s < 64) (hp : p < 6) : nI s &&& ((1 <<< (nI p &&& 31)) ^^^ (-1)) = nI (rmb s p) := by
  have h : ∀ s, s < 64 → ∀ p, p < 6 → nI s &&& ((1 <<< (nI p &&& 31)) ^^^ (-1)) = nI (rmb s p) := by decide +kernel
  exact h s hs p hp
theorem rmb_lt {s p : Nat} (hs : s < 64) : rmb s p < 64 := by unfold rmb; split; exact Nat.lt_of_le_of_lt (Nat.sub_le _ _) hs; exact hs
theorem rmb_bit {s p q : Nat} (hs : s < 64) (hp : p < 6) (hq : q < 6) : (rmb s p).testBit q = (s.testBit q && decide (q ≠ p)) := by
  have h : ∀ s, s < 64 → ∀ p, p < 6 → ∀ q, q < 6 → (rmb s p).testBit q = (s.testBit q && decide (q ≠ p)) := by decide +kernel
  exact h s hs p hp q hq
theorem or_bit {s p q : Nat} (hs : s < 64) (hp : p < 6) (hq : q < 6) : (s ||| 2 ^ p).testBit q = (s.testBit q || decide (q = p)) := by
  have h : ∀ s, s < 64 → ∀ p, p < 6 → ∀ q, q < 6 → (s ||| 2 ^ p).testBit q = (s.testBit q || decide (q = p)) := by decide +kernel
  exact h s hs p hp q hq
theorem set_ext {a b : Nat} (ha : a < 64) (hb : b < 64) (h : ∀ q, q < 6 → a.testBit q = b.testBit q) : a = b := by
  have h2 : ∀ a, a < 64 → ∀ b, b < 64 → (∀ q, q < 6 → a.testBit q = b.testBit q) → a = b := by decide +kernel
  exact h2 a ha b hb h
/-- the set of those below n with a property -/
def mkS (f : Nat → Bool) : Nat → Nat
  | 0 => 0
  | n + 1 => if f n then mkS f n ||| 2 ^ n else mkS f n
theorem mkS_lt (f : Nat → Bool) : ∀ n, n ≤ 6 → mkS f n < 64 := by
  intro n
  induction n with
  | zero => intro _; show 0 < 64; decide
  | succ n ih =>
    intro hn
    unfold mkS
    split
    · exact or_lt (ih (by omega)) (by omega)
    · exact ih (by omega)
theorem mkS_bit (f : Nat → Bool) : ∀ n, n ≤ 6 → ∀ q, q < 6 → (mkS f n).testBit q = (decide (q < n) && f q) := by
  intro n
  induction n with
  | zero => intro _ q hq; simp [mkS]
  | succ n ih =>
    intro hn q hq
    unfold mkS
    by_cases hf : f n = true
    · rw [if_pos hf, or_bit (mkS_lt f n (by omega)) (by omega) hq, ih (by omega) q hq]
      by_cases e : q = n
      · subst e; simp [hf]
      · have : (q < n + 1) = (q < n) := propext (by omega)
        simp [e, this]
    · rw [if_neg hf, ih (by omega) q hq]
      by_cases e : q = n
      · subst e; simp [hf]
      · have : (q < n + 1) = (q < n) := propext (by omega)
        simp [this]
/-! reads behind writes -/
theorem sV_at (st : St) (i k : Nat) (x : Int32) : (sV st i k x).1 i = upd (st.1 i) k x := by simp [sV, sA]
theorem sV_off {st : St} {i k j : Nat} {x : Int32} (h : j ≠ i) : (sV st i k x).1 j = st.1 j := by simp [sV, sA, h]
theorem sV_2 (st : St) (i k : Nat) (x : Int32) : (sV st i k x).2 = st.2 := rfl
theorem sA_at (st : St) (i : Nat) (f : Nat → Int32) : (sA st i f).1 i = f := by simp [sA]
theorem sA_off {st : St} {i j : Nat} {f : Nat → Int32} (h : j ≠ i) : (sA st i f).1 j = st.1 j := by simp [sA, h]
theorem sA_2 (st : St) (i : Nat) (f : Nat → Int32) : (sA st i f).2 = st.2 := rfl
theorem upd_at (f : Nat → Int32) (k : Nat) (x : Int32) : upd f k x k = x := by simp [upd]
theorem upd_off {f : Nat → Int32} {k j : Nat} {x : Int32} (h : j ≠ k) : upd f k x j = f j := by simp [upd, h]
theorem fN_big : 100000 ≤ fN := by decide
theorem fuel {n : Nat} {P : Nat → Prop} (N : Nat) (h : n < N) (k : ∀ m, n ≤ m → P (m + 1)) : P N := by
  cases N with
  | zero => omega
  | succ m => exact k m (by omega)
theorem upn {n : Nat} {P : Nat → Nat → Prop} (h0 : ∀ N, P (N + 1) n) (hs : ∀ N i, i < n → P N (i + 1) → P (N + 1) i) : ∀ N i, i ≤ n → n - i < N → P N i := by
  intro N
  induction N with
  | zero => intro i _ h; omega
  | succ N ih =>
    intro i hi h
    by_cases e : i = n
    · subst e; exact h0 N
    · exact hs N i (by omega) (ih (i + 1) (by omega) (by omega))
theorem f6 {i : Nat} (h : i < 6) : ((6 : Int32) ≤ nI i) = False := eq_false (nI_ge h (by decide))
theorem t6 : ((6 : Int32) ≤ nI 6) = True := eq_true (by decide)
theorem g6 {α : Type} {i : Nat} {a : Option α} (h : i < 6) : gi (nI i) 6 a = a := gi_in h (by decide)
theorem c6 {i : Nat} (h : i < 6) : (nI i).toNatClampNeg = i := nI_clamp (by omega)
theorem mkS_t {f : Nat → Bool} {n : Nat} (h : f n = true) : mkS f (n + 1) = mkS f n ||| 2 ^ n := by simp [mkS, h]
theorem mkS_f {f : Nat → Bool} {n : Nat} (h : f n = false) : mkS f (n + 1) = mkS f n := by simp [mkS, h]
theorem fN0 {n : Nat} (h : n < 100000) : n - 0 < fN := by have := fN_big; omega
/-- the eldest of a set, by ages A, among the first n -/
def eld (A : Nat → Int32) (s : Nat) : Nat → Option Nat
  | 0 => none
  | n + 1 => if s.testBit n then (match eld A s n with
      | none => some n
      | some e => if A n ≤ A e then some e else some n) else eld A s n
theorem eld_lt {A : Nat → Int32} {s : Nat} : ∀ n p, eld A s n = some p → p < n ∧ s.testBit p = true := by
  intro n
  induction n with
  | zero => intro p h; cases h
  | succ n ih =>
    intro p h
    unfold eld at h
    by_cases hb : s.testBit n = true
    · rw [if_pos hb] at h
      cases he : eld A s n with
      | none => rw [he] at h; cases h; exact ⟨by omega, hb⟩
      | some e =>
        rw [he] at h
        have := ih e he
        dsimp only at h
        split at h
        · cases h; exact ⟨by omega, this.2⟩
        · cases h; exact ⟨by omega, hb⟩
    · rw [if_neg hb] at h
      have := ih p h
      exact ⟨by omega, this.2⟩
theorem eld_none {A : Nat → Int32} {s : Nat} : ∀ n, eld A s n = none → ∀ q, q < n → s.testBit q = false := by
  intro n
  induction n with
  | zero => intro _ q hq; omega
  | succ n ih =>
    intro h q hq
    unfold eld at h
    by_cases hb : s.testBit n = true
    · rw [if_pos hb] at h
      cases he : eld A s n with
      | none => rw [he] at h; cases h
      | some e => rw [he] at h; dsimp only at h; split at h <;> cases h
    · rw [if_neg hb] at h
      by_cases e : q = n
      · subst e; simpa using hb
      · exact ih h q (by omega)
/-- nobody of the set is older -/
theorem eld_max {A : Nat → Int32} {s : Nat} : ∀ n p, eld A s n = some p → ∀ q, q < n → s.testBit q = true → A q ≤ A p := by
  intro n
  induction n with
  | zero => intro p h; cases h
  | succ n ih =>
    intro p h q hq hb2
    unfold eld at h
    by_cases hb : s.testBit n = true
    · rw [if_pos hb] at h
      cases he : eld A s n with
      | none =>
        rw [he] at h; cases h
        by_cases e : q = n
        · subst e; exact Int32.le_refl _
        · have := eld_none n he q (by omega); rw [this] at hb2; cases hb2
      | some e =>
        rw [he] at h
        dsimp only at h
        by_cases hc : A n ≤ A e
        · rw [if_pos hc] at h; cases h
          by_cases e2 : q = n
          · subst e2; exact hc
          · exact ih _ he q (by omega) hb2
        · rw [if_neg hc] at h; cases h
          by_cases e2 : q = n
          · subst e2; exact Int32.le_refl _
          · have h1 := ih _ he q (by omega) hb2
            have h2 := Int32.not_le.mp hc
            exact Int32.le_of_lt (Int32.lt_of_le_of_lt h1 h2)
    · rw [if_neg hb] at h
      by_cases e2 : q = n
      · subst e2; rw [hb2] at hb; exact absurd rfl hb
      · exact ih _ h q (by omega) hb2
theorem eld_congr {A B : Nat → Int32} {s : Nat} : ∀ n, (∀ q, q < n → A q = B q) → eld A s n = eld B s n := by
  intro n
  induction n with
  | zero => intro _; rfl
  | succ n ih =>
    intro h
    unfold eld
    rw [ih (fun q hq => h q (by omega))]
    cases he : eld B s n with
    | none => rfl
    | some e => have := eld_lt n e he; dsimp only; rw [h n (by omega), h e (by omega)]
theorem eld_ext {A : Nat → Int32} {s : Nat} {n : Nat} : ∀ m, n ≤ m → (∀ q, n ≤ q → q < m → s.testBit q = false) → eld A s m = eld A s n := by
  intro m
  induction m with
  | zero => intro h _; have : n = 0 := by omega
            subst this; rfl
  | succ m ih =>
    intro h hb
    by_cases e : n = m + 1
    · subst e; rfl
    · rw [eld, if_neg (by rw [hb m (by omega) (by omega)]; decide)]
      exact ih (by omega) (fun q h1 h2 => hb q h1 (by omega))

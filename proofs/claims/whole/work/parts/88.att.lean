/-! PURE: places for a party: assignments, bounds -/
/-- b' is the least of b and of what P has -/
def MinB (b b' : Nat) (P : Nat → Prop) : Prop := (b' = b ∨ P b') ∧ b' ≤ b ∧ ∀ c, P c → b' ≤ c
theorem MinB.skip {b b' : Nat} {P Q : Nat → Prop} (h : MinB b b' P) (hq : ∀ c, Q c → P c ∨ b' ≤ c) (hp : ∀ c, P c → Q c) : MinB b b' Q := by
  obtain ⟨h1, h2, h3⟩ := h
  refine ⟨?_, h2, fun c hc => ?_⟩
  · rcases h1 with h1 | h1
    · exact Or.inl h1
    · exact Or.inr (hp _ h1)
  · rcases hq c hc with h | h
    · exact h3 c h
    · exact h
theorem MinB.comp {b b1 b2 : Nat} {P Q R : Nat → Prop} (h : MinB b b1 P) (h' : MinB b1 b2 Q) (hR : ∀ c, R c ↔ P c ∨ Q c) : MinB b b2 R := by
  obtain ⟨h1, h2, h3⟩ := h
  obtain ⟨k1, k2, k3⟩ := h'
  refine ⟨?_, by omega, fun c hc => ?_⟩
  · rcases k1 with k1 | k1
    · rcases h1 with h1 | h1
      · exact Or.inl (k1.trans h1)
      · exact Or.inr ((hR _).mpr (Or.inl (by rw [k1]; exact h1)))
    · exact Or.inr ((hR _).mpr (Or.inr k1))
  · rcases (hR c).mp hc with h | h
    · have := h3 c h; omega
    · exact k3 c h
theorem MinB.refl {b : Nat} {P : Nat → Prop} (h : ∀ c, P c → b ≤ c) : MinB b b P := ⟨Or.inl rfl, Nat.le_refl _, h⟩
/-- what those behind must bend at least -/
def lrS (n : Nat) (A : Nat → Int32) (I K : Nat → Int) (lo : Int) : Nat → Nat → Int → Option Nat
  | 0, _, _ => some 0
  | d + 1, s, L => match eld A s n with
    | none => some 0
    | some p => if max 0 (lo + I p - L) ≤ K p then (lrS n A I K lo d (rmb s p) L).map (fun m => m + (max 0 (lo + I p - L)).toNat) else none
theorem Att_lb {lw n : Nat} {A : Nat → Int32} {F I K : Nat → Int} {pcr : Nat} {w : Nat → Nat → Nat} {lo : Int} (hlo : ∀ i, i < pcr → lo ≤ F i) : ∀ d s L L' tk c, L' ≤ L → Att lw n A F I K pcr w d s (some L') tk c → ∃ m, lrS n A I K lo d s L = some m ∧ m * 262144 ≤ c := by
  intro d
  induction d with
  | zero =>
    intro s L L' tk c _ _
    refine ⟨0, rfl, ?_⟩
    rw [Nat.zero_mul]
    exact Nat.zero_le _
  | succ d ih =>
    intro s L L' tk c hL h
    rw [Att] at h
    rw [lrS]
    cases he : eld A s n with
    | none =>
      refine ⟨0, rfl, ?_⟩
      rw [Nat.zero_mul]
      exact Nat.zero_le _
    | some p =>
      rw [he] at h
      obtain ⟨i, c', i1, i2, i3, i4, i5⟩ := h
      have hb : bndP F I (some L') p i = max 0 (F i + I p - L') := rfl
      have hn : nxtP lw F I (some L') p i ≤ L := by
        show (if lw = 1 then min L' (F i + I p) else L') ≤ L
        split <;> omega
      obtain ⟨m, m1, m2⟩ := ih (rmb s p) L _ _ c' hn i4
      have hl := hlo i i1
      rw [hb] at i3 i5
      have h1 : (max 0 (lo + I p - L)).toNat ≤ (max 0 (F i + I p - L')).toNat := by omega
      have h2 := Nat.mul_le_mul_right 262144 h1
      refine ⟨m + (max 0 (lo + I p - L)).toNat, ?_, ?_⟩
      · dsimp only
        rw [if_pos (by omega), m1]
        rfl
      · rw [Nat.add_mul, i5]
        exact Nat.le_trans (Nat.add_le_add m2 h2) (Nat.le_add_right _ _)
def swp (i j x : Nat) : Nat := if x = i then j else if x = j then i else x
theorem swp_swp (i j x : Nat) : swp i j (swp i j x) = x := by
  unfold swp
  by_cases c1 : x = i
  · subst c1
    rw [if_pos rfl]
    by_cases c2 : j = x
    · rw [if_pos c2]; exact c2
    · rw [if_neg c2, if_pos rfl]
  · rw [if_neg c1]
    by_cases c2 : x = j
    · subst c2; rw [if_pos rfl, if_pos rfl]
    · rw [if_neg c2, if_neg c1, if_neg c2]
theorem tb_or (t i x : Nat) : (t ||| 2 ^ i).testBit x = (t.testBit x || decide (i = x)) := by
  rw [Nat.testBit_or, Nat.testBit_two_pow]
theorem Att_swap {lw n : Nat} {A : Nat → Int32} {F I K : Nat → Int} {pcr i j : Nat} (hF : F i = F j) (hi : i < pcr) (hj : j < pcr) : ∀ d s L tk tk' c, (∀ x, tk'.testBit x = tk.testBit (swp i j x)) → Att lw n A F I K pcr w0 d s L tk c → Att lw n A F I K pcr w0 d s L tk' c := by
  have hsF : ∀ x, F (swp i j x) = F x := by
    intro x
    unfold swp
    by_cases c1 : x = i
    · rw [if_pos c1, c1, hF]
    · rw [if_neg c1]
      by_cases c2 : x = j
      · rw [if_pos c2, c2, hF]
      · rw [if_neg c2]
  have hsl : ∀ x, x < pcr → swp i j x < pcr := by
    intro x hx
    unfold swp
    split
    · exact hj
    · split
      · exact hi
      · exact hx
  intro d
  induction d with
  | zero => intro s L tk tk' c _ h; exact h
  | succ d ih =>
    intro s L tk tk' c ht h
    rw [Att] at h ⊢
    cases he : eld A s n with
    | none => rw [he] at h; exact h
    | some p =>
      rw [he] at h
      obtain ⟨x, c', x1, x2, x3, x4, x5⟩ := h
      have eb : bndP F I L p (swp i j x) = bndP F I L p x := by
        unfold bndP; rw [hsF]
      have en : nxtP lw F I L p (swp i j x) = nxtP lw F I L p x := by
        unfold nxtP; rw [hsF]
      refine ⟨swp i j x, c', hsl x x1, by rw [ht, swp_swp]; exact x2, by rw [eb]; exact x3, ?_, by rw [eb]; exact x5⟩
      rw [en]
      refine ih _ _ _ _ c' (fun y => ?_) x4
      rw [tb_or, tb_or, ht]
      congr 1
      by_cases c1 : swp i j x = y
      · rw [decide_eq_true c1, ← c1, swp_swp, decide_eq_true rfl]
      · rw [decide_eq_false c1, decide_eq_false (fun q => c1 (by rw [q, swp_swp]))]
/-! assignments -/
def cstA (lw n : Nat) (A : Nat → Int32) (F I K : Nat → Int) (a : Nat → Nat) : Nat → Nat → Option Int → Option Nat
  | 0, _, _ => some 0
  | d + 1, s, L => match eld A s n with
    | none => some 0
    | some p => if bndP F I L p (a p) ≤ K p then (cstA lw n A F I K a d (rmb s p) (some (nxtP lw F I L p (a p)))).map (fun m => m + (bndP F I L p (a p)).toNat) else none
def okA (pcr : Nat) (a : Nat → Nat) (s tk : Nat) : Prop := (∀ p, p < 6 → s.testBit p = true → a p < pcr ∧ tk.testBit (a p) = false) ∧ ∀ p q, p < 6 → q < 6 → s.testBit p = true → s.testBit q = true → a p = a q → p = q
def sumW (w : Nat → Nat → Nat) (a : Nat → Nat) (s : Nat) : Nat := sumS (fun p => if s.testBit p = true then w p (a p) else 0) 6
theorem sumS_congr {f g : Nat → Nat} : ∀ n, (∀ p, p < n → f p = g p) → sumS f n = sumS g n := by
  intro n
  induction n with
  | zero => intro _; rfl
  | succ n ih => intro h; rw [sumS, sumS, ih (fun p hp => h p (by omega)), h n (by omega)]
theorem sumS_one {f g : Nat → Nat} {q x : Nat} : ∀ n, q < n → (∀ p, p < n → p ≠ q → f p = g p) → f q = g q + x → sumS f n = sumS g n + x := by
  intro n
  induction n with
  | zero => intro h; omega
  | succ n ih =>
    intro h h1 h2
    rw [sumS, sumS]
    by_cases c : q = n
    · subst c
      rw [sumS_congr q (fun p hp => h1 p (by omega) (by omega)), h2]
      omega
    · rw [ih (by omega) (fun p hp hq => h1 p (by omega) hq) h2, h1 n (by omega) (fun z => c z.symm)]
      omega
theorem sumW_rm {w : Nat → Nat → Nat} {a a' : Nat → Nat} {s p : Nat} (hs : s < 64) (hp : p < 6) (hb : s.testBit p = true) (ha : ∀ q, q ≠ p → a q = a' q) : sumW w a s = sumW w a' (rmb s p) + w p (a p) := by
  unfold sumW
  refine sumS_one 6 hp (fun q hq hne => ?_) ?_
  · rw [rmb_bit hs hp hq, ha q hne]
    simp [hne]
  · rw [rmb_bit hs hp hp, hb]
    simp
theorem cstA_congr {lw n : Nat} {A : Nat → Int32} {F I K : Nat → Int} {a a' : Nat → Nat} (hn : n ≤ 6) : ∀ d s L, s < 64 → (∀ q, q < 6 → s.testBit q = true → a q = a' q) → cstA lw n A F I K a d s L = cstA lw n A F I K a' d s L := by
  intro d
  induction d with
  | zero => intro s L _ _; rfl
  | succ d ih =>
    intro s L hs h
    rw [cstA, cstA]
    cases he : eld A s n with
    | none => rfl
    | some p =>
      obtain ⟨p1, p2⟩ := eld_lt _ _ he
      dsimp only
      rw [h p (by omega) p2, ih (rmb s p) _ (rmb_lt hs) (fun q hq hb => by
        rw [rmb_bit hs (by omega) hq] at hb
        simp at hb
        exact h q hq hb.1)]
theorem Att_of {lw n : Nat} {A : Nat → Int32} {F I K : Nat → Int} {pcr : Nat} {w : Nat → Nat → Nat} (hn : n ≤ 6) : ∀ d s L tk c, s < 64 → Att lw n A F I K pcr w d s L tk c → pop s ≤ d → (∀ q, n ≤ q → q < 6 → s.testBit q = false) → ∃ a m, okA pcr a s tk ∧ cstA lw n A F I K a d s L = some m ∧ c = m * 262144 + sumW w a s := by
  intro d
  induction d with
  | zero =>
    intro s L tk c hs h hp _
    have := pop_0 hs (by omega)
    subst this
    refine ⟨fun _ => 0, 0, ⟨fun p _ hb => by simp at hb, fun p q _ _ hb => by simp at hb⟩, rfl, ?_⟩
    have h0 : c = 0 := h
    rw [h0]
    rfl
  | succ d ih =>
    intro s L tk c hs h hp hout
    rw [Att] at h
    cases he : eld A s n with
    | none =>
      rw [he] at h
      have : s = 0 := set_ext hs (by decide) (fun q hq => by
        by_cases c1 : q < n
        · rw [eld_none _ he q c1]; simp
        · rw [hout q (by omega) hq]; simp)
      subst this
      refine ⟨fun _ => 0, 0, ⟨fun p _ hb => by simp at hb, fun p q _ _ hb => by simp at hb⟩, by rw [cstA, he], ?_⟩
      have h0 : c = 0 := h
      rw [h0]
      rfl
    | some p =>
      rw [he] at h
      obtain ⟨p1, p2⟩ := eld_lt _ _ he
      obtain ⟨i, c', i1, i2, i3, i4, i5⟩ := h
      have hpop := pop_rm hs (by omega) p2
      have rb : ∀ q, q < 6 → (rmb s p).testBit q = true → q ≠ p ∧ s.testBit q = true := fun q hq hb => by
        rw [rmb_bit hs (by omega) hq] at hb
        simp at hb
        exact ⟨hb.2, hb.1⟩
      obtain ⟨a, m, a1, a2, a3⟩ := ih (rmb s p) _ _ c' (rmb_lt hs) i4 (by omega) (fun q h1 h2 => by
        rw [rmb_bit hs (by omega) h2, hout q h1 h2]; rfl)
      have ea : ∀ q, q ≠ p → (fun q => if q = p then i else a q) q = a q := fun q hq => if_neg hq
      have ep : (fun q => if q = p then i else a q) p = i := if_pos rfl
      refine ⟨fun q => if q = p then i else a q, m + (bndP F I L p i).toNat, ⟨fun q hq hb => ?_, fun x y hx hy hbx hby e => ?_⟩, ?_, ?_⟩
      · by_cases c1 : q = p
        · subst c1; dsimp only; rw [if_pos rfl]; exact ⟨i1, i2⟩
        · dsimp only; rw [if_neg c1]
          have := a1.1 q hq (by rw [rmb_bit hs (by omega) hq, hb]; simp [c1])
          rw [tb_or] at this
          simp at this
          exact ⟨this.1, this.2.1⟩
      · dsimp only at e
        have na : ∀ z, z < 6 → z ≠ p → s.testBit z = true → a z ≠ i := fun z hz hzp hb q => by
          have := (a1.1 z hz (by rw [rmb_bit hs (by omega) hz, hb]; simp [hzp])).2
          rw [tb_or, q] at this
          simp at this
        by_cases cx : x = p
        · by_cases cy : y = p
          · rw [cx, cy]
          · rw [if_pos cx, if_neg cy] at e
            exact absurd e.symm (na y hy cy hby)
        · by_cases cy : y = p
          · rw [if_neg cx, if_pos cy] at e
            exact absurd e (na x hx cx hbx)
          · rw [if_neg cx, if_neg cy] at e
            exact a1.2 x y hx hy (by rw [rmb_bit hs (by omega) hx, hbx]; simp [cx]) (by rw [rmb_bit hs (by omega) hy, hby]; simp [cy]) e
      · rw [cstA, he]
        simp only [if_true]
        rw [if_pos i3, cstA_congr hn d (rmb s p) _ (rmb_lt hs) (a' := a) (fun q hq hb => if_neg (rb q hq hb).1), a2]
        rfl
      · rw [sumW_rm hs (by omega) p2 ea, i5, a3]
        simp only [if_true]
        rw [Nat.add_mul]
        omega
theorem Att_to {lw n : Nat} {A : Nat → Int32} {F I K : Nat → Int} {pcr : Nat} {w : Nat → Nat → Nat} {a : Nat → Nat} (hn : n ≤ 6) : ∀ d s L tk m, s < 64 → (∀ q, n ≤ q → q < 6 → s.testBit q = false) → pop s ≤ d → okA pcr a s tk → cstA lw n A F I K a d s L = some m → Att lw n A F I K pcr w d s L tk (m * 262144 + sumW w a s) := by
  intro d
  induction d with
  | zero =>
    intro s L tk m hs hout hp ok h
    have := pop_0 hs (by omega)
    subst this
    rw [cstA] at h
    cases h
    show _ = 0
    rfl
  | succ d ih =>
    intro s L tk m hs hout hp ok h
    rw [cstA] at h
    rw [Att]
    cases he : eld A s n with
    | none =>
      rw [he] at h
      have : s = 0 := set_ext hs (by decide) (fun q hq => by
        by_cases c1 : q < n
        · rw [eld_none _ he q c1]; simp
        · rw [hout q (by omega) hq]; simp)
      subst this
      cases h
      show _ = 0
      rfl
    | some p =>
      rw [he] at h
      obtain ⟨p1, p2⟩ := eld_lt _ _ he
      have hpop := pop_rm hs (by omega) p2
      have rb : ∀ q, q < 6 → (rmb s p).testBit q = true → q ≠ p ∧ s.testBit q = true := fun q hq hb => by
        rw [rmb_bit hs (by omega) hq] at hb
        simp at hb
        exact ⟨hb.2, hb.1⟩
      dsimp only at h
      by_cases c1 : bndP F I L p (a p) ≤ K p
      · rw [if_pos c1] at h
        cases hc : cstA lw n A F I K a d (rmb s p) (some (nxtP lw F I L p (a p))) with
        | none => rw [hc] at h; cases h
        | some m' =>
          rw [hc] at h
          have em : m' + (bndP F I L p (a p)).toNat = m := Option.some.inj h
          have := ih (rmb s p) (some (nxtP lw F I L p (a p))) (tk ||| 2 ^ (a p)) m' (rmb_lt hs) (fun q h1 h2 => by rw [rmb_bit hs (by omega) h2, hout q h1 h2]; rfl) (by omega) ⟨fun q hq hb => by
            obtain ⟨b1, b2⟩ := rb q hq hb
            obtain ⟨o1, o2⟩ := ok.1 q hq b2
            refine ⟨o1, ?_⟩
            rw [tb_or, o2]
            simp
            exact fun z => b1 (ok.2 q p hq (by omega) b2 p2 z.symm), fun x y hx hy hbx hby e => ok.2 x y hx hy (rb x hx hbx).2 (rb y hy hby).2 e⟩ hc
          obtain ⟨o1, o2⟩ := ok.1 p (by omega) p2
          refine ⟨a p, _, o1, o2, c1, this, ?_⟩
          rw [sumW_rm hs (by omega) p2 (fun _ _ => rfl), ← em, Nat.add_mul]
          omega
      · rw [if_neg c1] at h; cases h

/-! PURE: class and reference agree on the first n -/
def FlA (k : Nat) (pc : Nat → Nat) (fl fl' : Nat → Int32) : Prop := ∀ r, r < k → ∀ i, i < pc r → fl (r * 6 + i) = fl' (r * 6 + i)
/-- they agree but for the bends in a room -/
def AgX (n : Nat) (r : Int32) (v w : Vw) : Prop := (∀ p, p < n → v.1 p = w.1 p ∧ v.2.1 p = w.2.1 p ∧ v.2.2.2.1 p = w.2.2.2.1 p ∧ v.2.2.2.2 p = w.2.2.2.2 p ∧ (v.1 p ≠ r → v.2.2.1 p = w.2.2.1 p)) ∧ ∀ p, n ≤ p → p < 6 → w.1 p = -1
def Ag (n : Nat) (v w : Vw) : Prop := (∀ p, p < n → v.1 p = w.1 p ∧ v.2.1 p = w.2.1 p ∧ v.2.2.2.1 p = w.2.2.2.1 p ∧ v.2.2.2.2 p = w.2.2.2.2 p ∧ v.2.2.1 p = w.2.2.1 p) ∧ ∀ p, n ≤ p → p < 6 → w.1 p = -1
theorem Ag.x {n : Nat} {v w : Vw} (h : Ag n v w) (r : Int32) : AgX n r v w := ⟨fun p hp => ⟨(h.1 p hp).1, (h.1 p hp).2.1, (h.1 p hp).2.2.1, (h.1 p hp).2.2.2.1, fun _ => (h.1 p hp).2.2.2.2⟩, h.2⟩
theorem inP_ag {k n : Nat} {pc : Nat → Nat} {r : Int32} {v w : Vw} (h : AgX n r v w) {p : Nat} (hp : p < n) (hi : inP k pc v p) : inP k pc w p := by
  obtain ⟨a, b, h1, h2, h3, h4⟩ := hi
  exact ⟨a, b, h1, h2, by rw [← (h.1 p hp).1]; exact h3, by rw [← (h.1 p hp).2.1]; exact h4⟩
theorem VV_ag {k n : Nat} {pc : Nat → Nat} {r : Int32} {v w : Vw} (h : AgX n r v w) (hV : VV k n pc v) : VV k n pc w := by
  obtain ⟨h1, h2, h3, h4⟩ := hV
  refine ⟨fun p hp => ?_, fun p q hp hq e => ?_, h.2, fun p q hp hq e1 e2 e3 => ?_⟩
  · rcases h1 p hp with a | ⟨a, b⟩
    · exact Or.inl (inP_ag h hp a)
    · exact Or.inr ⟨by rw [← (h.1 p hp).1]; exact a, by rw [← (h.1 p hp).2.1]; exact b⟩
  · exact h2 p q hp hq (by rw [(h.1 p hp).2.2.1, (h.1 q hq).2.2.1]; exact e)
  · exact h4 p q hp hq (by rw [(h.1 p hp).1, (h.1 q hq).1]; exact e1) (by rw [(h.1 p hp).2.1, (h.1 q hq).2.1]; exact e2) (by rw [(h.1 p hp).1]; exact e3)
theorem tl_ag {k n : Nat} {pc : Nat → Nat} {r : Int32} {v w : Vw} {fl fl' : Nat → Int32} (hk : k ≤ 3) (hpc : ∀ r, r < k → pc r ≤ 6) (hf : FlA k pc fl fl') (h : AgX n r v w) {p : Nat} (hp : p < n) (hi : inP k pc v p) : tl fl v p = tl fl' w p := by
  obtain ⟨a, b, h1, h2, h3, h4⟩ := hi
  have := hpc a h1
  unfold tl
  rw [← (h.1 p hp).1, ← (h.1 p hp).2.1, ← (h.1 p hp).2.2.2.1, h3, h4, clN (by omega), clN (by omega), hf a h1 b h2]
theorem mkS_congr {f g : Nat → Bool} : ∀ n, (∀ p, p < n → f p = g p) → mkS f n = mkS g n := by
  intro n
  induction n with
  | zero => intro _; rfl
  | succ n ih => intro h; rw [mkS, mkS, h n (by omega), ih (fun p hp => h p (by omega))]
theorem set_ag {n : Nat} {r : Int32} {v w : Vw} (h : AgX n r v w) (x : Int32) : mkS (fun p => decide (v.1 p = x)) n = mkS (fun p => decide (w.1 p = x)) n := mkS_congr n (fun p hp => by rw [(h.1 p hp).1])
theorem bw_ag {k n : Nat} {pc : Nat → Nat} {v w : Vw} {fl fl' K K' : Nat → Int32} {lw r : Nat} (hk : k ≤ 3) (hn : n ≤ 6) (hpc : ∀ r, r < k → pc r ≤ 6) (hf : FlA k pc fl fl') (hK : ∀ p, p < n → K p = K' p) (hr : r < k) (hV : VV k n pc v) (h : AgX n (nI r) v w) :
    (bwV lw fl K n r v).1 = (bwV lw fl' K' n r w).1 ∧ ∀ p, p < n → (v.1 p = nI r → (bwV lw fl K n r v).2 p = (bwV lw fl' K' n r w).2 p) ∧ (v.1 p ≠ nI r → (bwV lw fl K n r v).2 p = v.2.2.1 p ∧ (bwV lw fl' K' n r w).2 p = w.2.2.1 p) := by
  unfold bwV
  rw [← set_ag h (nI r)]
  have hs64 := mkS_lt (fun p => decide (v.1 p = nI r)) n hn
  have hbit := mkS_bit (fun p => decide (v.1 p = nI r)) n hn
  have hb6 : ∀ q, n ≤ q → (mkS (fun p => decide (v.1 p = nI r)) n).testBit q = false := by
    intro q hq
    by_cases c : q < 6
    · rw [hbit q c]; have : ¬ q < n := by omega
      simp [this]
    · exact Nat.testBit_lt_two_pow (Nat.lt_of_lt_of_le hs64 (by rw [show (64 : Nat) = 2 ^ 6 from rfl]; exact Nat.pow_le_pow_right (by decide) (by omega)))
  rw [bwS_congr (A' := w.2.2.2.1) (T' := tl fl' w) (K' := K') (fun q hq => (h.1 q hq).2.2.1) hK 6 _ none v.2.2.1 0 (fun q hq hb => by
    rw [hbit q (by omega)] at hb
    simp at hb
    exact tl_ag hk hpc hf h hq (hV.at hk hn (by omega) hr hb.2).2) hs64 hn]
  obtain ⟨q1, q2⟩ := bwS_B (lw := lw) (A := w.2.2.2.1) (T := tl fl' w) (K := K') hn 6 _ none v.2.2.1 w.2.2.1 0 hs64 pop_le hb6
  obtain ⟨_, q3⟩ := bwS_B (lw := lw) (A := w.2.2.2.1) (T := tl fl' w) (K := K') hn 6 _ none w.2.2.1 v.2.2.1 0 hs64 pop_le hb6
  refine ⟨q1, fun p hp => ⟨fun e => (q2 p).1 ?_, fun e => ⟨(q2 p).2 ?_, (q3 p).2 ?_⟩⟩⟩
  · rw [hbit p (by omega)]; simp [hp, e]
  · rw [hbit p (by omega)]; simp [e]
  · rw [hbit p (by omega)]; simp [e]
theorem who_ag {n : Nat} {rr : Int32} {v w : Vw} (h : AgX n rr v w) (r i : Int32) : whoL v.1 v.2.1 r i n = whoL w.1 w.2.1 r i n := by
  have : ∀ m, m ≤ n → whoL v.1 v.2.1 r i m = whoL w.1 w.2.1 r i m := by
    intro m
    induction m with
    | zero => intro _; rfl
    | succ m ih => intro hm; rw [whoL, whoL, (h.1 m (by omega)).1, (h.1 m (by omega)).2.1, ih (by omega)]
  exact this n (Nat.le_refl _)
theorem free_ag {n : Nat} {rr : Int32} {v w : Vw} (h : AgX n rr v w) (r i : Int32) : freeS v r i n = freeS w r i n := by unfold freeS; rw [who_ag h]
theorem low_ag {k n : Nat} {pc : Nat → Nat} {rr : Int32} {v w : Vw} {fl fl' : Nat → Int32} (hf : FlA k pc fl fl') (h : AgX n rr v w) {r : Nat} (hr : r < k) : ∀ j, j ≤ pc r → lowS fl v r n j = lowS fl' w r n j := by
  intro j
  induction j with
  | zero => intro _; rfl
  | succ j ih =>
    intro hj
    rw [lowS, lowS, ih (by omega), free_ag h]
    cases hl : lowS fl' w r n j with
    | none => rfl
    | some a =>
      have ha := (lowS_some _ _ hl).1
      dsimp only
      rw [hf r hr a (by omega), hf r hr j (by omega)]
theorem AgX_st {n : Nat} {rr : Int32} {v w : Vw} (h : AgX n rr v w) (q : Nat) (hq : q < n) (r i : Int32) : AgX n rr (stS v q r i) (stS w q r i) := by
  refine ⟨fun p hp => ?_, fun p h1 h2 => ?_⟩
  · simp only [stS]
    by_cases c : p = q
    · subst c; simp only [upd_at]; exact ⟨trivial, trivial, (h.1 p hp).2.2.1, (h.1 p hp).2.2.2.1, fun _ => trivial⟩
    · simp only [upd_off c]; exact h.1 p hp
  · simp only [stS]; rw [upd_off (by omega)]; exact h.2 p h1 h2
/-- one who stays in the room may keep its bend in the reference -/
theorem AgX_keep {n : Nat} {r : Nat} {v w : Vw} (h : AgX n (nI r) v w) (q : Nat) (hq : q < n) (e : v.1 q = nI r) (i : Int32) : AgX n (nI r) (stS v q (nI r) i) (w.1, upd w.2.1 q i, w.2.2) := by
  refine ⟨fun p hp => ?_, h.2⟩
  simp only [stS]
  by_cases c : p = q
  · subst c
    simp only [upd_at]
    exact ⟨by rw [← (h.1 p hp).1]; exact e.symm, trivial, (h.1 p hp).2.2.1, (h.1 p hp).2.2.2.1, fun q => absurd rfl q⟩
  · simp only [upd_off c]; exact h.1 p hp

/-! PURE: codes of assignments; bowing is what an assignment costs -/
def digF (s pc : Nat) : Nat → Nat → Nat → Nat
  | 0, _, _ => 0
  | j + 1, c, q => if s.testBit j = true then (if q = j then c % pc else digF s pc j (c / pc) q) else digF s pc j c q
def codF (s pc : Nat) (a : Nat → Nat) : Nat → Nat
  | 0 => 0
  | j + 1 => if s.testBit j = true then codF s pc a j * pc + a j else codF s pc a j
def numF (s : Nat) (a : Nat → Nat) : Nat → Nat
  | 0 => 0
  | j + 1 => numF s a j * 8 + (if s.testBit j = true then a j else 0)
theorem codF_congr {s pc : Nat} {a b : Nat → Nat} : ∀ j, (∀ q, q < j → s.testBit q = true → a q = b q) → codF s pc a j = codF s pc b j := by
  intro j
  induction j with
  | zero => intro _; rfl
  | succ j ih =>
    intro h
    rw [codF, codF, ih (fun q hq => h q (by omega))]
    by_cases c : s.testBit j = true
    · rw [if_pos c, if_pos c, h j (by omega) c]
    · rw [if_neg c, if_neg c]
theorem digF_lt {s pc : Nat} (hp : 0 < pc) : ∀ j c q, digF s pc j c q < pc := by
  intro j
  induction j with
  | zero => intro c q; exact hp
  | succ j ih =>
    intro c q
    rw [digF]
    split
    · split
      · exact Nat.mod_lt _ hp
      · exact ih _ _
    · exact ih _ _
theorem dig_cod {s pc : Nat} {a : Nat → Nat} (hp : 0 < pc) : ∀ j, (∀ q, q < j → s.testBit q = true → a q < pc) → ∀ q, q < j → s.testBit q = true → digF s pc j (codF s pc a j) q = a q := by
  intro j
  induction j with
  | zero => intro _ q hq; omega
  | succ j ih =>
    intro h q hq hb
    rw [digF, codF]
    by_cases c : s.testBit j = true
    · rw [if_pos c, if_pos c]
      have hj := h j (by omega) c
      by_cases d : q = j
      · subst d
        rw [if_pos rfl, Nat.add_comm, Nat.add_mul_mod_self_right, Nat.mod_eq_of_lt hj]
      · rw [if_neg d]
        have : (codF s pc a j * pc + a j) / pc = codF s pc a j := by
          rw [Nat.mul_comm, Nat.mul_add_div hp, Nat.div_eq_of_lt hj, Nat.add_zero]
        rw [this]
        exact ih (fun q hq => h q (by omega)) q (by omega) hb
    · rw [if_neg c, if_neg c]
      have d : q ≠ j := fun d => by subst d; exact c hb
      exact ih (fun q hq => h q (by omega)) q (by omega) hb
theorem cod_lt {s pc : Nat} {a : Nat → Nat} : ∀ j, (∀ q, q < j → s.testBit q = true → a q < pc) → codF s pc a j < pc ^ cntS (fun q => s.testBit q) j := by
  intro j
  induction j with
  | zero => intro _; show 0 < 1; omega
  | succ j ih =>
    intro h
    rw [codF]
    by_cases c : s.testBit j = true
    · rw [if_pos c, cntS_t (c := fun q => s.testBit q) c, Nat.pow_succ]
      have h1 := ih (fun q hq => h q (by omega))
      have h2 := h j (by omega) c
      have h3 := Nat.mul_le_mul_right pc (show codF s pc a j + 1 ≤ pc ^ cntS (fun q => s.testBit q) j from h1)
      rw [Nat.add_mul] at h3
      omega
    · rw [if_neg c, cntS_f (c := fun q => s.testBit q) (by simpa using c)]
      exact ih (fun q hq => h q (by omega))
theorem cod_dig {s pc : Nat} (hp : 0 < pc) : ∀ j c, c < pc ^ cntS (fun q => s.testBit q) j → codF s pc (digF s pc j c) j = c := by
  intro j
  induction j with
  | zero =>
    intro c h
    have : c < 1 := h
    show 0 = c
    omega
  | succ j ih =>
    intro c h
    rw [codF]
    by_cases hb : s.testBit j = true
    · rw [cntS_t (c := fun q => s.testBit q) hb, Nat.pow_succ] at h
      rw [if_pos hb, codF_congr (b := digF s pc j (c / pc)) j (fun q hq _ => by rw [digF, if_pos hb, if_neg (by omega)]), ih (c / pc) (Nat.div_lt_of_lt_mul (by rw [Nat.mul_comm]; exact h)), digF, if_pos hb, if_pos rfl]
      exact Nat.div_add_mod' c pc
    · rw [cntS_f (c := fun q => s.testBit q) (by simpa using hb)] at h
      rw [if_neg hb, codF_congr (b := digF s pc j c) j (fun q hq _ => by rw [digF, if_neg hb])]
      exact ih c h
theorem cod_lex {s pc : Nat} {a b : Nat → Nat} (hp : pc ≤ 8) : ∀ j, (∀ q, q < j → s.testBit q = true → a q < pc ∧ b q < pc) → (codF s pc a j < codF s pc b j → numF s a j < numF s b j) ∧ (codF s pc a j = codF s pc b j → numF s a j = numF s b j) := by
  intro j
  induction j with
  | zero => intro _; exact ⟨fun h => absurd h (Nat.lt_irrefl _), fun _ => rfl⟩
  | succ j ih =>
    intro h
    obtain ⟨i1, i2⟩ := ih (fun q hq => h q (by omega))
    rw [codF, codF, numF, numF]
    by_cases c : s.testBit j = true
    · rw [if_pos c, if_pos c, if_pos c, if_pos c]
      obtain ⟨ha, hb⟩ := h j (by omega) c
      rcases Nat.lt_trichotomy (codF s pc a j) (codF s pc b j) with d | d | d
      · have := i1 d
        have h3 := Nat.mul_le_mul_right pc (show codF s pc a j + 1 ≤ codF s pc b j from d)
        rw [Nat.add_mul] at h3
        exact ⟨fun _ => by omega, fun e => by omega⟩
      · have := i2 d
        rw [d, this]
        exact ⟨fun e => by omega, fun e => by omega⟩
      · have h3 := Nat.mul_le_mul_right pc (show codF s pc b j + 1 ≤ codF s pc a j from d)
        rw [Nat.add_mul] at h3
        exact ⟨fun e => by omega, fun e => by omega⟩
    · rw [if_neg c, if_neg c, if_neg c, if_neg c]
      exact ⟨fun e => by have := i1 e; omega, fun e => by rw [i2 e]⟩
theorem codF_ext {s pc n : Nat} {a : Nat → Nat} : ∀ m, n ≤ m → (∀ q, n ≤ q → q < m → s.testBit q = false) → codF s pc a m = codF s pc a n := by
  intro m
  induction m with
  | zero => intro h _; have : n = 0 := by omega
            subst this; rfl
  | succ m ih =>
    intro h hb
    by_cases e : n = m + 1
    · subst e; rfl
    · rw [codF, if_neg (by rw [hb m (by omega) (by omega)]; decide)]
      exact ih (by omega) (fun q h1 h2 => hb q h1 (by omega))
theorem num_sum (s : Nat) (a : Nat → Nat) : sumW (wP true) a s = numF s a 6 := by
  have e : ∀ p, (if s.testBit p = true then wP true p (a p) else 0) = (if s.testBit p = true then a p else 0) * 8 ^ (5 - p) := by
    intro p
    by_cases c : s.testBit p = true
    · rw [if_pos c, if_pos c]; rfl
    · rw [if_neg c, if_neg c, Nat.zero_mul]
  unfold sumW
  rw [sumS_congr 6 (fun p _ => e p)]
  simp only [sumS, numF]
  generalize (if s.testBit 0 = true then a 0 else 0) = d0
  generalize (if s.testBit 1 = true then a 1 else 0) = d1
  generalize (if s.testBit 2 = true then a 2 else 0) = d2
  generalize (if s.testBit 3 = true then a 3 else 0) = d3
  generalize (if s.testBit 4 = true then a 4 else 0) = d4
  generalize (if s.testBit 5 = true then a 5 else 0) = d5
  have p0 : 8 ^ (5 - 0) = 32768 := rfl
  have p1 : 8 ^ (5 - 1) = 4096 := rfl
  have p2 : 8 ^ (5 - 2) = 512 := rfl
  have p3 : 8 ^ (5 - 3) = 64 := rfl
  have p4 : 8 ^ (5 - 4) = 8 := rfl
  have p5 : 8 ^ (5 - 5) = 1 := rfl
  rw [p0, p1, p2, p3, p4, p5]
  omega
theorem num_lt {s : Nat} {a : Nat → Nat} : ∀ j, (∀ q, q < j → s.testBit q = true → a q < 8) → numF s a j < 8 ^ j := by
  intro j
  induction j with
  | zero => intro _; show 0 < 1; omega
  | succ j ih =>
    intro h
    have h1 := ih (fun q hq => h q (by omega))
    rw [numF, Nat.pow_succ]
    split
    · rename_i c
      have := h j (by omega) c
      omega
    · omega
/-! bowing -/
theorem or_ne0 {s p : Nat} : s ||| 2 ^ p ≠ 0 := by
  intro e
  have := congrArg (fun x => x.testBit p) e
  simp only [tb_or] at this
  simp at this
theorem bwS_nz {lw : Nat} {A T K : Nat → Int32} {n : Nat} : ∀ d s L B still, still ≠ 0 → (bwS lw A T K n d s L B still).1 ≠ 0 := by
  intro d
  induction d with
  | zero => intro s L B still h; exact h
  | succ d ih =>
    intro s L B still h
    rw [bwS]
    cases he : eld A s n with
    | none => exact h
    | some p =>
      cases L with
      | none => exact ih _ _ _ _ h
      | some L =>
        dsimp only
        refine ih _ _ _ _ ?_
        split
        · exact h
        · exact or_ne0
theorem bw_cst {lw n : Nat} {A T K32 : Nat → Int32} {F I K : Nat → Int} {a : Nat → Nat} (hn : n ≤ 6) (hK : ∀ p, p < n → (K32 p).toInt = K p ∧ 0 ≤ K p ∧ K p ≤ 1000) : ∀ d s L32 L B, s < 64 → pop s ≤ d → (∀ q, n ≤ q → q < 6 → s.testBit q = false) → (∀ p, p < n → s.testBit p = true → (T p).toInt = F (a p) + I p ∧ 0 ≤ F (a p) + I p ∧ F (a p) + I p ≤ 1000) → ((L32 = none ∧ L = none) ∨ ∃ l : Int32, L32 = some l ∧ L = some l.toInt ∧ 0 ≤ l.toInt ∧ l.toInt ≤ 1000) →
    (∀ m, cstA lw n A F I K a d s L = some m → (bwS lw A T K32 n d s L32 B 0).1 = 0 ∧ (∀ p, p < 6 → s.testBit p = true → 0 ≤ ((bwS lw A T K32 n d s L32 B 0).2 p).toInt ∧ ((bwS lw A T K32 n d s L32 B 0).2 p).toInt ≤ 1000) ∧ sumS (fun p => if s.testBit p = true then ((bwS lw A T K32 n d s L32 B 0).2 p).toInt.toNat else 0) 6 = m) ∧ (cstA lw n A F I K a d s L = none → (bwS lw A T K32 n d s L32 B 0).1 ≠ 0) := by
  intro d
  induction d with
  | zero =>
    intro s L32 L B hs hp hout hT hL
    have := pop_0 hs (by omega)
    subst this
    refine ⟨fun m h => ?_, fun h => by rw [cstA] at h; cases h⟩
    rw [cstA] at h
    cases h
    exact ⟨rfl, fun p _ hb => by simp at hb, rfl⟩
  | succ d ih =>
    intro s L32 L B hs hp hout hT hL
    rw [bwS, cstA]
    cases he : eld A s n with
    | none =>
      have : s = 0 := set_ext hs (by decide) (fun q hq => by
        by_cases c1 : q < n
        · rw [eld_none _ he q c1]; simp
        · rw [hout q (by omega) hq]; simp)
      subst this
      refine ⟨fun m h => ?_, fun h => by cases h⟩
      cases h
      exact ⟨rfl, fun p _ hb => by simp at hb, rfl⟩
    | some p =>
      obtain ⟨p1, p2⟩ := eld_lt _ _ he
      have hp6 : p < 6 := by omega
      have hpop := pop_rm hs hp6 p2
      obtain ⟨t1, t2, t3⟩ := hT p p1 p2
      obtain ⟨k1, k2, k3⟩ := hK p p1
      have hout' : ∀ q, n ≤ q → q < 6 → (rmb s p).testBit q = false := fun q h1 h2 => by rw [rmb_bit hs hp6 h2, hout q h1 h2]; rfl
      have hT' : ∀ q, q < n → (rmb s p).testBit q = true → (T q).toInt = F (a q) + I q ∧ 0 ≤ F (a q) + I q ∧ F (a q) + I q ≤ 1000 := fun q hq hb => by
        rw [rmb_bit hs hp6 (by omega)] at hb
        simp at hb
        exact hT q hq hb.1
      have hself : (rmb s p).testBit p = false := by rw [rmb_bit hs hp6 hp6]; simp
      -- what the rest gives
      have rest : ∀ (l : Int32) (bd : Int32) (bi : Nat), 0 ≤ l.toInt → l.toInt ≤ 1000 → bd.toInt = (bi : Int) → bi ≤ 1000 →
          (∀ m, (cstA lw n A F I K a d (rmb s p) (some l.toInt)).map (fun m => m + bi) = some m → (bwS lw A T K32 n d (rmb s p) (some l) (upd B p bd) 0).1 = 0 ∧ (∀ q, q < 6 → s.testBit q = true → 0 ≤ ((bwS lw A T K32 n d (rmb s p) (some l) (upd B p bd) 0).2 q).toInt ∧ ((bwS lw A T K32 n d (rmb s p) (some l) (upd B p bd) 0).2 q).toInt ≤ 1000) ∧ sumS (fun q => if s.testBit q = true then ((bwS lw A T K32 n d (rmb s p) (some l) (upd B p bd) 0).2 q).toInt.toNat else 0) 6 = m) ∧ ((cstA lw n A F I K a d (rmb s p) (some l.toInt)).map (fun m => m + bi) = none → (bwS lw A T K32 n d (rmb s p) (some l) (upd B p bd) 0).1 ≠ 0) := by
        intro l bd bi l1 l2 e1 e2
        obtain ⟨ih1, ih2⟩ := ih (rmb s p) (some l) (some l.toInt) (upd B p bd) (rmb_lt hs) (by omega) hout' hT' (Or.inr ⟨l, rfl, rfl, l1, l2⟩)
        have ep : (bwS lw A T K32 n d (rmb s p) (some l) (upd B p bd) 0).2 p = bd := by
          rw [((bwS_B (lw := lw) (A := A) (T := T) (K := K32) hn d (rmb s p) (some l) (upd B p bd) (upd B p bd) 0 (rmb_lt hs) (by omega) (fun q hq => by
            by_cases c : q < 6
            · exact hout' q hq c
            · exact Nat.testBit_lt_two_pow (Nat.lt_of_lt_of_le (rmb_lt hs) (Nat.pow_le_pow_right (by omega : 0 < 2) (show 6 ≤ q by omega)))) ).2 p).2 hself, upd_at]
        cases hc : cstA lw n A F I K a d (rmb s p) (some l.toInt) with
        | none => exact ⟨fun m h => (by cases h), fun _ => ih2 hc⟩
        | some m' =>
          obtain ⟨j1, j2, j3⟩ := ih1 m' hc
          refine ⟨fun m h => ⟨j1, fun q hq hb => ?_, ?_⟩, fun h => by cases h⟩
          · by_cases c : q = p
            · subst c; rw [ep, e1]; omega
            · exact j2 q hq (by rw [rmb_bit hs hp6 hq, hb]; simp [c])
          · have em : m' + bi = m := Option.some.inj h
            rw [← em, ← j3]
            refine sumS_one 6 hp6 (fun q hq hne => ?_) ?_
            · rw [rmb_bit hs hp6 hq]; simp [hne]
            · rw [if_pos p2, hself, ep, e1]; simp
      rcases hL with ⟨rfl, rfl⟩ | ⟨l, rfl, rfl, l1, l2⟩
      · dsimp only
        have hb0 : bndP F I none p (a p) = 0 := rfl
        have hnx : nxtP lw F I none p (a p) = (T p).toInt := t1.symm
        rw [hb0, if_pos k2, hnx]
        exact rest (T p) 0 0 (by omega) (by omega) rfl (by omega)
      · dsimp only
        have hbd : bndP F I (some l.toInt) p (a p) = max 0 (F (a p) + I p - l.toInt) := rfl
        have u1 : (T p - l).toInt = F (a p) + I p - l.toInt := by rw [tsub (by omega) (by omega), t1]
        have u2 : (imx 0 (T p - l)).toInt = max 0 (F (a p) + I p - l.toInt) := by rw [imx_toInt, u1]; rfl
        by_cases cb : bndP F I (some l.toInt) p (a p) ≤ K p
        · rw [if_pos cb, if_pos (show imx 0 (T p - l) ≤ K32 p by rw [ile, u2, k1, ← hbd]; exact cb)]
          rw [hbd] at cb
          have u3 : (imn (imx 0 (T p - l)) (K32 p)).toInt = max 0 (F (a p) + I p - l.toInt) := by rw [imn_toInt, u2, k1]; omega
          have u4 : (T p - imn (imx 0 (T p - l)) (K32 p)).toInt = min (F (a p) + I p) l.toInt := by rw [tsub (by omega) (by omega), t1, u3]; omega
          have u5 : (if lw = 1 then imn l (T p - imn (imx 0 (T p - l)) (K32 p)) else l).toInt = nxtP lw F I (some l.toInt) p (a p) := by
            show _ = if lw = 1 then min l.toInt (F (a p) + I p) else l.toInt
            by_cases cl : lw = 1
            · rw [if_pos cl, if_pos cl, imn_toInt, u4]; omega
            · rw [if_neg cl, if_neg cl]
          rw [← u5]
          refine rest _ _ _ ?_ ?_ (by rw [u3, hbd]; omega) (by rw [hbd]; omega)
          · rw [u5]; show 0 ≤ (if lw = 1 then min l.toInt (F (a p) + I p) else l.toInt); split <;> omega
          · rw [u5]; show (if lw = 1 then min l.toInt (F (a p) + I p) else l.toInt) ≤ 1000; split <;> omega
        · rw [if_neg cb, if_neg (show ¬ imx 0 (T p - l) ≤ K32 p by rw [ile, u2, k1, ← hbd]; exact cb)]
          exact ⟨fun m h => (by cases h), fun _ => bwS_nz _ _ _ _ _ or_ne0⟩

/-! PURE: what hangs on agreeing parts alone -/
theorem hd_ag {k n : Nat} {pc : Nat → Nat} {v w : Vw} {fl fl' : Nat → Int32} (hk : k ≤ 3) (hpc : ∀ r, r < k → pc r ≤ 6) (hf : FlA k pc fl fl') (h : Ag n v w) {p : Nat} (hp : p < n) (hi : inP k pc v p) : hd fl v p = hd fl' w p := by
  unfold hd
  rw [tl_ag hk hpc hf (h.x 0) hp hi, (h.1 p hp).2.2.2.2]
theorem ex_ag {k n : Nat} {pc : Nat → Nat} {v w : Vw} {fl fl' : Nat → Int32} {lw r p : Nat} (hk : k ≤ 3) (hn : n ≤ 6) (hpc : ∀ r, r < k → pc r ≤ 6) (hf : FlA k pc fl fl') (hV : VV k n pc v) (h : Ag n v w) (hr : r < k) (hp : p < n) (e : v.1 p = nI r) : exS lw n fl v (nI r) p = exS lw n fl' w (nI r) p := by
  have hin : ∀ q, q < n → v.1 q = nI r → inP k pc v q := fun q hq e2 => (hV.at hk hn (by omega) hr e2).2
  have hhd : ∀ q, q < n → v.1 q = nI r → hd fl v q = hd fl' w q := fun q hq e2 => hd_ag hk hpc hf h hq (hin q hq e2)
  unfold exS
  by_cases c : lw = 1
  · rw [if_pos c, if_pos c]
    refine mxS_congr n (fun q hq => ?_) (fun q hq hb => ?_)
    · rw [(h.1 q hq).1, (h.1 q hq).2.2.1, (h.1 p hp).2.2.1]
    · simp at hb
      rw [hhd p hp e, hhd q hq hb.1]
  · rw [if_neg c, if_neg c, set_ag (h.x 0) (nI r), eld_congr n (fun q hq => (h.1 q hq).2.2.1)]
    cases he : eld w.2.2.2.1 (mkS (fun q => decide (w.1 q = nI r)) n) n with
    | none => rfl
    | some a =>
      obtain ⟨a1, a2⟩ := eld_lt _ _ he
      rw [mkS_bit _ n hn a (by omega)] at a2
      simp [a1] at a2
      dsimp only
      rw [hhd p hp e, hhd a a1 (by rw [(h.1 a a1).1]; exact a2)]
theorem ff_ag {k n : Nat} {pc : Nat → Nat} {v w : Vw} {fl fl' : Nat → Int32} {lw r : Nat} (hk : k ≤ 3) (hn : n ≤ 6) (hpc : ∀ r, r < k → pc r ≤ 6) (hf : FlA k pc fl fl') (hV : VV k n pc v) (h : Ag n v w) (hr : r < k) : ffS lw n fl v (nI r) = ffS lw n fl' w (nI r) := by
  unfold ffS
  refine fstC_congr n 0 (fun q _ hq => ?_)
  have hq : q < n := by omega
  rw [← (h.1 q hq).1]
  by_cases c : v.1 q = nI r
  · rw [ex_ag (lw := lw) hk hn hpc hf hV h hr hq c]
  · rw [decide_eq_false c, Bool.false_and, Bool.false_and]
theorem fr_ag {k n : Nat} {pc : Nat → Nat} {v w : Vw} {fl fl' : Nat → Int32} {lw : Nat} (hk : k ≤ 3) (hn : n ≤ 6) (hpc : ∀ r, r < k → pc r ≤ 6) (hf : FlA k pc fl fl') (hV : VV k n pc v) (h : Ag n v w) : frS lw n k fl v = frS lw n k fl' w := by
  unfold frS
  exact mkS_congr k (fun r hr => by rw [ff_ag (lw := lw) hk hn hpc hf hV h hr])
/-! a year of both -/
def yrV (n : Nat) (G : Nat → Int32) (v : Vw) : Vw := (v.1, v.2.1, v.2.2.1, yrA n v.2.2.2.1, yrI n v.2.2.2.1 v.2.2.2.2 G)
theorem P_passYearV {k n : Nat} {pc : Nat → Nat} {v : Vw} {st : St} (h : HC k n pc st) {sc : Nat} (hsc : 9 ≤ sc) : F_X1_passYear sc (setV sc v st) = some (setV sc (yrV n (st.1 7) v) st) := by
  have := P_passYear (HC_V h hsc v) hsc
  rw [setV_at4, setV_at5, setV_off (show 7 ≤ sc ∨ sc + 6 ≤ 7 by omega), sA_V5, sA_V4] at this
  exact this
theorem M_yearNowV {k n : Nat} {pc : Nat → Nat} {w : Vw} {st : St} (h : HM k n pc st) (hB : BdM k n pc (st.1 61) (st.1 64) w) (hG : ∀ p, p < n → 0 ≤ (st.1 65 p).toInt ∧ (st.1 65 p).toInt ≤ 9) : F_X8_yearNow (setM w st) = some (setM (yrV n (st.1 65) w) st) := M_yearNow h hB.2.1 hG
theorem Ag_yr {n : Nat} {v w : Vw} {G G' : Nat → Int32} (h : Ag n v w) (hG : ∀ p, p < n → G p = G' p) : Ag n (yrV n G v) (yrV n G' w) := by
  refine ⟨fun p hp => ?_, h.2⟩
  obtain ⟨a1, a2, a3, a4, a5⟩ := h.1 p hp
  refine ⟨a1, a2, ?_, ?_, a5⟩
  · simp only [yrV, yrA, hp, if_true, a3]
  · simp only [yrV, yrI, hp, if_true, a3, a4, hG p hp]
/-- AGES are below a bound -/
def AgB (n b : Nat) (v : Vw) : Prop := ∀ p, p < n → ∃ a, a < b ∧ v.2.2.2.1 p = nI a
theorem AgB_yr {n b : Nat} {v : Vw} {G : Nat → Int32} (h : AgB n b v) : AgB n (b + 1) (yrV n G v) := by
  intro p hp
  obtain ⟨a, h1, h2⟩ := h p hp
  exact ⟨a + 1, by omega, by simp only [yrV, yrA, hp, if_true, h2]; exact nI_1 a⟩
theorem VV_yr {k n b : Nat} {pc : Nat → Nat} {v : Vw} {G : Nat → Int32} (h : VV k n pc v) (hb : b < 2 ^ 30) (hA : AgB n b v) : VV k n pc (yrV n G v) := by
  obtain ⟨h1, h2, h3, h4⟩ := h
  refine ⟨h1, fun p q hp hq e => ?_, h3, h4⟩
  obtain ⟨a, a1, a2⟩ := hA p hp
  obtain ⟨c, c1, c2⟩ := hA q hq
  simp only [yrV, yrA, hp, hq, if_true, a2, c2, nI_1] at e
  rw [eqN (by omega) (by omega)] at e
  exact h2 p q hp hq (by rw [a2, c2]; congr 1; omega)
theorem BdM_yr {k n : Nat} {pc : Nat → Nat} {fl K G : Nat → Int32} {v : Vw} (h : BdM k n pc fl K v) (hG : ∀ p, p < n → 0 ≤ (G p).toInt ∧ (G p).toInt ≤ 9) : BdM k n pc fl K (yrV n G v) := by
  refine ⟨h.1, fun p hp => ?_, h.2.2⟩
  have h1 := h.2.1 p hp
  have h2 := hG p hp
  simp only [yrV, yrI, hp, if_true]
  split
  · exact h1
  · rw [imn_toInt, tadd (by omega) (by omega)]
    have t90 : (90 : Int32).toInt = 90 := rfl
    omega

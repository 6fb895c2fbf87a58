/-! PURE: to bow, in the reference -/
/-- a small number -/
def SM (x : Int32) : Prop := -100000 ≤ x.toInt ∧ x.toInt ≤ 100000
theorem tsub {x y : Int32} (hx : -500000000 ≤ x.toInt ∧ x.toInt ≤ 500000000) (hy : -500000000 ≤ y.toInt ∧ y.toInt ≤ 500000000) : (x - y).toInt = x.toInt - y.toInt := by
  rw [Int32.toInt_sub]
  simp only [Int.bmod]
  split <;> omega
theorem tadd {x y : Int32} (hx : -500000000 ≤ x.toInt ∧ x.toInt ≤ 500000000) (hy : -500000000 ≤ y.toInt ∧ y.toInt ≤ 500000000) : (x + y).toInt = x.toInt + y.toInt := by
  rw [Int32.toInt_add]
  simp only [Int.bmod]
  split <;> omega
theorem ilt {x y : Int32} : (x < y) = (x.toInt < y.toInt) := propext Int32.lt_iff_toInt_lt
theorem ile {x y : Int32} : (x ≤ y) = (x.toInt ≤ y.toInt) := propext Int32.le_iff_toInt_le
theorem imx_toInt (x y : Int32) : (imx x y).toInt = max x.toInt y.toInt := by
  unfold imx
  by_cases c : x < y
  · rw [if_pos c]; rw [ilt] at c; omega
  · rw [if_neg c]; rw [ilt] at c; omega
theorem imn_toInt (x y : Int32) : (imn x y).toInt = min x.toInt y.toInt := by
  unfold imn
  by_cases c : y < x
  · rw [if_pos c]; rw [ilt] at c; omega
  · rw [if_neg c]; rw [ilt] at c; omega
theorem t0 : (0 : Int32).toInt = 0 := rfl
theorem need_eq {T L : Int32} (hT : SM T) (hL : SM L) : imx 0 (T - L) = if T ≤ L then 0 else T - L := by
  have h := tsub (x := T) (y := L) (by unfold SM at hT; omega) (by unfold SM at hL; omega)
  unfold imx
  by_cases c : T ≤ L
  · rw [if_pos c, if_neg (by rw [ilt, h, t0]; rw [ile] at c; omega)]
  · rw [if_neg c, if_pos (by rw [ilt, h, t0]; rw [ile] at c; omega)]
theorem imn_le {a b : Int32} : (if a ≤ b then a else b) = imn a b := by
  unfold imn
  by_cases c : a ≤ b
  · rw [if_pos c, if_neg (Int32.not_lt.mpr c)]
  · rw [if_neg c, if_pos (Int32.not_le.mp c)]
theorem HM_sA {k n : Nat} {pc : Nat → Nat} {st : St} (h : HM k n pc st) {j : Nat} (hj : 61 ≤ j) (f : Nat → Int32) : HM k n pc (sA st j f) := by
  obtain ⟨h1, h2, h3, h4, h5⟩ := h
  refine ⟨h1, h2, ?_, ?_, fun r hr => ?_⟩
  · rw [sA_off (by omega)]; exact h3
  · rw [sA_off (by omega)]; exact h4
  · rw [sA_off (by omega)]; exact h5 r hr
theorem M_takeTall {k n : Nat} {pc : Nat → Nat} {st : St} (h : HM k n pc st) {s : Nat} (hs : s < 64) (hin : ∀ p, p < n → s.testBit p = true → inP k pc (vM st) p) : F_X8_takeTall (nI s) st = some (sA st 80 (fun p => if p < n then (if s.testBit p then tl (st.1 61) (vM st) p else 0) else st.1 80 p)) := by
  have hn : n ≤ 6 := h.2.1
  obtain ⟨g, hg⟩ : ∃ g : Nat → Nat → Int32, g = fun j p => if p < j then (if s.testBit p then tl (st.1 61) (vM st) p else 0) else st.1 80 p := ⟨_, rfl⟩
  have hstep : ∀ j, j < n → upd (g j) j (if s.testBit j then tl (st.1 61) (vM st) j else 0) = g (j + 1) := by
    intro j _
    funext p
    rw [hg]
    unfold upd
    by_cases c : p = j
    · subst c; simp
    · have : (p < j + 1) = (p < j) := propext (by omega)
      simp only [c, if_false, this]
  have hL := upn (n := n) (P := fun N j => F_X8_takeTall_2 N (nI s) (nI j) (sA st 80 (g j)) = some (sA st 80 (g n)))
    (fun N => by simp only [F_X8_takeTall_2, (HM_sA h (show 61 ≤ 80 by omega) (g n)).2.2.2.1, tn, if_true]) (fun N j hj ih => by
      have hj6 : j < 6 := by omega
      have hH := HM_sA h (show 61 ≤ 80 by omega) (g j)
      simp only [F_X8_takeTall_2, hH.2.2.2.1, fn hn hj, if_false, M_has hs hj6, Option.bind_some, F_X8_takeTall_44, g6 hj6, c6 hj6, bs, sV_sA, nI_1]
      have hst := hstep j hj
      by_cases c : s.testBit j = true
      · rw [if_pos c] at hst
        rw [if_pos c, if_neg (by decide)]
        obtain ⟨r, i, hr, hi, e1, e2⟩ := hin j hj c
        dsimp only [vM] at e1 e2
        have b1 : r < 2 ^ 31 := by have := h.1; omega
        have b2 : i < 2 ^ 31 := by have := h.2.2.2.2 r hr; omega
        have et : st.1 61 (r * 6 + i) + st.1 68 j = tl (st.1 61) (vM st) j := by simp only [tl, vM, e1, e2, clN b1, clN b2]
        rw [sA_off (show 69 ≠ 80 by omega), sA_off (show 70 ≠ 80 by omega), e1, e2]
        simp only [M_tallAt hH hj6 hr hi, Option.bind_some, sV_sA]
        rw [sA_off (show 61 ≠ 80 by omega), sA_off (show 68 ≠ 80 by omega), et, hst]
        exact ih
      · rw [if_neg c] at hst
        rw [if_neg c, if_pos rfl, hst]
        exact ih) fN 0 (by omega) (fN0 (by omega))
  have e0 : sA st 80 (g 0) = st := by
    have : g 0 = st.1 80 := by rw [hg]; funext p; simp
    rw [this, sA_id]
  rw [e0] at hL
  rw [hg] at hL
  exact hL
/-- a limit, as the reference has it -/
def lim : Option Int32 → Int32
  | none => 1000000
  | some L => L
theorem M_bowAll {k n : Nat} {pc : Nat → Nat} {st : St} (h : HM k n pc st) {s lw : Nat} (hl : st.1 59 10 = nI lw) (hlw : lw ≤ 1) (hs : s < 64) (hb : ∀ q, n ≤ q → q < 6 → s.testBit q = false) (hT : ∀ p, p < n → s.testBit p = true → 0 ≤ (st.1 80 p).toInt ∧ (st.1 80 p).toInt ≤ 10000) (hK : ∀ p, p < n → 0 ≤ (st.1 64 p).toInt ∧ (st.1 64 p).toInt ≤ 10000) :
    F_X8_bowAll (nI s) st = some (nI (bwS lw (st.1 67) (st.1 80) (st.1 64) n 6 s none (st.1 81) 0).1, sA st 81 (bwS lw (st.1 67) (st.1 80) (st.1 64) n 6 s none (st.1 81) 0).2) := by
  have hn : n ≤ 6 := h.2.1
  have loop : ∀ d N s' L B still, pop s' ≤ d → d < N → s' < 64 → (∀ q, q < 6 → s'.testBit q = true → s.testBit q = true) → still < 64 → (∀ x, L = some x → -10000 ≤ x.toInt ∧ x.toInt ≤ 10000) →
      F_X8_bowAll_9 N (nI s') (lim L) (nI still) (sA st 81 B) = some (nI (bwS lw (st.1 67) (st.1 80) (st.1 64) n d s' L B still).1, sA st 81 (bwS lw (st.1 67) (st.1 80) (st.1 64) n d s' L B still).2) := by
    intro d
    induction d with
    | zero =>
      intro N s' L B still hd hN hs' hsub hst hL
      obtain ⟨N, rfl⟩ : ∃ M, N = M + 1 := ⟨N - 1, by omega⟩
      have := pop_0 hs' (by omega)
      subst this
      simp only [F_X8_bowAll_9, bwS]
      rw [if_pos nI_0]
    | succ d ih =>
      intro N s' L B still hd hN hs' hsub hst hL
      obtain ⟨N, rfl⟩ : ∃ M, N = M + 1 := ⟨N - 1, by omega⟩
      have hH := HM_sA h (show 61 ≤ 81 by omega) B
      rw [bwS]
      by_cases c0 : s' = 0
      · subst c0
        have he : eld (st.1 67) 0 n = none := by
          cases he : eld (st.1 67) 0 n with
          | none => rfl
          | some a => have := (eld_lt _ _ he).2; simp at this
        rw [he]
        simp only [F_X8_bowAll_9]
        rw [if_pos nI_0]
      · have hz : ¬ nI s' = 0 := by rw [litN 0, eqN (by omega) (by decide)]; exact c0
        simp only [F_X8_bowAll_9, hz, if_false, M_eldest hH hs', Option.bind_some, sA_off (show 67 ≠ 81 by omega)]
        cases he : eld (st.1 67) s' n with
        | none =>
          exfalso
          apply c0
          refine set_ext hs' (by decide) (fun q hq => ?_)
          by_cases c : q < n
          · rw [eld_none _ he q c]; simp
          · cases hq2 : s'.testBit q with
            | false => simp
            | true => have := hsub q hq hq2; rw [hb q (by omega) hq] at this; cases this
        | some a =>
          obtain ⟨a1, a2⟩ := eld_lt _ _ he
          have ha6 : a < 6 := by omega
          have has := hsub a ha6 a2
          have hTa := hT a a1 has
          have hKa := hK a a1
          have hpop := pop_rm hs' ha6 a2
          have hr64 := rmb_lt (p := a) hs'
          have hrsub : ∀ q, q < 6 → (rmb s' a).testBit q = true → s.testBit q = true := fun q hq hb => by
            rw [rmb_bit hs' ha6 hq] at hb
            simp at hb
            exact hsub q hq hb.1
          have e80 : ∀ f : Nat → Int32, (sA st 81 f).1 80 = st.1 80 := fun f => sA_off (by omega)
          have e64 : ∀ f : Nat → Int32, (sA st 81 f).1 64 = st.1 64 := fun f => sA_off (by omega)
          have e5 : ∀ f : Nat → Int32, (sA st 81 f).1 59 10 = nI lw := fun f => by rw [sA_off (by omega)]; exact hl
          have el : (nI lw = 1) = (lw = 1) := eqN (a := lw) (b := 1) (by omega) (by omega)
          simp only [oI, g6 ha6, c6 ha6, e80, clrN hs' ha6, F_X8_bowAll_53, F_X8_bowAll_85, F_X8_bowAll_108, F_X8_bowAll_149, F_X8_bowAll_154, F_X8_bowAll_155, e64, bs, sV_sA, sA_at, upd_at, e5, el]
          have hk0 : (0 : Int32) ≤ st.1 64 a := by rw [ile, t0]; exact hKa.1
          cases L with
          | none =>
            have hlim : st.1 80 a ≤ lim none := by rw [ile]; show _ ≤ (1000000 : Int32).toInt; have : (1000000 : Int32).toInt = 1000000 := rfl; omega
            rw [if_pos hlim, if_pos hk0, if_pos hk0]
            rw [if_pos (show lim none = 1000000 from rfl), or0]
            rw [Int32.sub_zero]
            exact ih N _ (some (st.1 80 a)) _ _ (by omega) (by omega) hr64 hrsub hst (fun x hx => by cases hx; omega)
          | some L =>
            have hLb := hL L rfl
            have hne : ¬ lim (some L) = 1000000 := by
              intro q
              have := congrArg Int32.toInt q
              have h2 : (1000000 : Int32).toInt = 1000000 := rfl
              have h3 : (lim (some L)).toInt = L.toInt := rfl
              omega
            have hnd := need_eq (T := st.1 80 a) (L := L) ⟨by omega, by omega⟩ ⟨by omega, by omega⟩
            have hsub2 := tsub (x := st.1 80 a) (y := L) (by omega) (by omega)
            simp only [hne, if_false]
            -- what is needed
            have main : ∀ need : Int32, need = imx 0 (st.1 80 a - L) →
                (if need ≤ st.1 64 a then (if need ≤ st.1 64 a then (if lw = 1 then (if lim (some L) ≤ st.1 80 a - need then F_X8_bowAll_9 N (nI (rmb s' a)) (lim (some L)) (nI still ||| 0) (sA st 81 (upd B a need)) else F_X8_bowAll_9 N (nI (rmb s' a)) (st.1 80 a - need) (nI still ||| 0) (sA st 81 (upd B a need))) else F_X8_bowAll_9 N (nI (rmb s' a)) (lim (some L)) (nI still ||| 0) (sA st 81 (upd B a need)))
                  else (if lw = 1 then (if lim (some L) ≤ st.1 80 a - need then F_X8_bowAll_9 N (nI (rmb s' a)) (lim (some L)) (nI still ||| (1 <<< (nI a &&& 31))) (sA st 81 (upd B a need)) else F_X8_bowAll_9 N (nI (rmb s' a)) (st.1 80 a - need) (nI still ||| (1 <<< (nI a &&& 31))) (sA st 81 (upd B a need))) else F_X8_bowAll_9 N (nI (rmb s' a)) (lim (some L)) (nI still ||| (1 <<< (nI a &&& 31))) (sA st 81 (upd B a need))))
                else (if need ≤ st.1 64 a then (if lw = 1 then (if lim (some L) ≤ st.1 80 a - st.1 64 a then F_X8_bowAll_9 N (nI (rmb s' a)) (lim (some L)) (nI still ||| 0) (sA st 81 (upd B a (st.1 64 a))) else F_X8_bowAll_9 N (nI (rmb s' a)) (st.1 80 a - st.1 64 a) (nI still ||| 0) (sA st 81 (upd B a (st.1 64 a)))) else F_X8_bowAll_9 N (nI (rmb s' a)) (lim (some L)) (nI still ||| 0) (sA st 81 (upd B a (st.1 64 a))))
                  else (if lw = 1 then (if lim (some L) ≤ st.1 80 a - st.1 64 a then F_X8_bowAll_9 N (nI (rmb s' a)) (lim (some L)) (nI still ||| (1 <<< (nI a &&& 31))) (sA st 81 (upd B a (st.1 64 a))) else F_X8_bowAll_9 N (nI (rmb s' a)) (st.1 80 a - st.1 64 a) (nI still ||| (1 <<< (nI a &&& 31))) (sA st 81 (upd B a (st.1 64 a)))) else F_X8_bowAll_9 N (nI (rmb s' a)) (lim (some L)) (nI still ||| (1 <<< (nI a &&& 31))) (sA st 81 (upd B a (st.1 64 a)))))) =
                F_X8_bowAll_9 N (nI (rmb s' a)) (lim (some (if lw = 1 then imn L (st.1 80 a - imn need (st.1 64 a)) else L))) (nI (if need ≤ st.1 64 a then still else still ||| 2 ^ a)) (sA st 81 (upd B a (imn need (st.1 64 a)))) := by
              intro need _
              by_cases c : need ≤ st.1 64 a
              · have e1 : imn need (st.1 64 a) = need := by rw [← imn_le, if_pos c]
                simp only [c, if_true, e1, or0]
                by_cases c1 : lw = 1
                · simp only [c1, if_true]
                  show (if L ≤ _ then F_X8_bowAll_9 N _ L _ _ else _) = F_X8_bowAll_9 N _ (imn L _) _ _
                  rw [← imn_le (a := L)]
                  split <;> rfl
                · simp only [c1, if_false]
              · have e1 : imn need (st.1 64 a) = st.1 64 a := by rw [← imn_le, if_neg c]
                simp only [c, if_false, e1, orN hst ha6]
                by_cases c1 : lw = 1
                · simp only [c1, if_true]
                  show (if L ≤ _ then F_X8_bowAll_9 N _ L _ _ else _) = F_X8_bowAll_9 N _ (imn L _) _ _
                  rw [← imn_le (a := L)]
                  split <;> rfl
                · simp only [c1, if_false]
            have fin := ih N (rmb s' a) (some (if lw = 1 then imn L (st.1 80 a - imn (imx 0 (st.1 80 a - L)) (st.1 64 a)) else L)) (upd B a (imn (imx 0 (st.1 80 a - L)) (st.1 64 a))) (if imx 0 (st.1 80 a - L) ≤ st.1 64 a then still else still ||| 2 ^ a) (by omega) (by omega) hr64 hrsub (by split; exact hst; exact or_lt hst ha6) (fun x hx => by
              cases hx
              have m1 := imx_toInt 0 (st.1 80 a - L)
              have m2 := imn_toInt (imx 0 (st.1 80 a - L)) (st.1 64 a)
              rw [t0] at m1
              by_cases c1 : lw = 1
              · rw [if_pos c1, imn_toInt, tsub (by omega) (by omega)]
                omega
              · rw [if_neg c1]; exact hLb)
            refine Eq.trans ?_ fin
            by_cases c : st.1 80 a ≤ L
            · rw [if_pos c] at hnd
              rw [if_pos (show st.1 80 a ≤ lim (some L) from c), ← main _ rfl, hnd]
            · rw [if_neg c] at hnd
              rw [if_neg (show ¬ st.1 80 a ≤ lim (some L) from c), ← main _ rfl, hnd]
              rfl
  have := loop 6 fN s none (st.1 81) 0 pop_le (by have := fN_big; omega) hs (fun q _ hb => hb) (by decide) (fun x hx => by cases hx)
  rw [sA_id] at this
  exact this

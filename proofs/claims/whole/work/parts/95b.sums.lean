/-! PURE: the sums of all parts -/
theorem sumW_0 (a : Nat → Nat) (s : Nat) : sumW w0 a s = 0 := by
  unfold sumW w0
  have : ∀ n, sumS (fun p => if s.testBit p = true then 0 else 0) n = 0 := by
    intro n
    induction n with
    | zero => rfl
    | succ n ih => rw [sumS, ih]; split <;> rfl
  exact this 6
/-- ages keep their order -/
theorem R.eld {k n : Nat} {pc : Nat → Nat} {b : Nat} {st : St} (hb : b < 2 ^ 20) (h : SceneR k n pc b st) (s : Nat) : eld (st.1 13) s n = eld (st.1 4) s n := by
  obtain ⟨-, -, ⟨y, hy, h3⟩, -⟩ := h
  refine eld_ord n (fun q q' hq hq' _ _ => ?_)
  obtain ⟨a, a1, a2, a3⟩ := h3 q hq
  obtain ⟨a', a1', a2', a3'⟩ := h3 q' hq'
  change st.1 13 q = nI (a + y) at a3
  change st.1 13 q' = nI (a' + y) at a3'
  rw [a2, a2', a3, a3', leN (by omega) (by omega), leN (by omega) (by omega)]
  omega
theorem le_sub : ∀ p, p < 64 → ∀ s, s < 64 → ((nI p &&& (nI s ^^^ (-1))) = 0 ↔ ∀ j, j < 6 → p.testBit j = true → s.testBit j = true) := la_and
/-- what the search of sums leaves alone -/
def CaI (lw : Nat) (st : St) (S : St) : Prop := (∀ x, x ≠ 33 → x ≠ 34 → x ≠ 35 → x ≠ 36 → S.1 x = st.1 x) ∧ S.1 33 9 = 0
theorem P_sum1 {k n : Nat} {pc : Nat → Nat} {b : Nat} {st : St} (hb : b < 2 ^ 20) (h : R k n pc b st) {lw : Nat} (hlw : lw ≤ 1) (w1 : st.1 9 5 = nI lw) (h37 : ∀ p, p < n → st.1 37 p = st.1 14 p) {S : St} (hS : CaI lw st S) {r p : Nat} (hr : r < k) (hp : p < 2 ^ n) : ∃ S' x, (F_X4_findBest (nI r) (nI p) S).bind (fun q9 => if q9.1 = 0 then some ((-1 : Int32), q9.2) else (F_X4_leastSum q9.2).bind (fun q11 => some (q11.1, q11.2))) = some (x, S') ∧ CaI lw st S' ∧ S'.1 36 = S.1 36 ∧ SumIs lw n (st.1 4) (fun i => (st.1 3 (r * 6 + i)).toInt) (fun p => (st.1 37 p).toInt) (fun p => (st.1 6 p).toInt) (pc r) p x := by
  obtain ⟨hc, hm, hF, hFb, hK, -⟩ := h.house
  have hB3 := h.bd3
  have hn := hc.2.1
  have hpc := hc.2.2.2.2 r hr
  have eo : ∀ x, x ≠ 33 → x ≠ 34 → x ≠ 35 → x ≠ 36 → S.1 x = st.1 x := hS.1
  have eF : FF S = FF st := by unfold FF; rw [eo 3 (by omega) (by omega) (by omega) (by omega)]
  have eI : II S = II st := by unfold II; rw [eo 14 (by omega) (by omega) (by omega) (by omega)]
  have eK : KK S = KK st := by unfold KK; rw [eo 6 (by omega) (by omega) (by omega) (by omega)]
  obtain ⟨S1, a, f1, f2, f3, f4⟩ := P_findBest (pm := false) (lw := lw) (s := p) (hc.cg (eo 1 (by omega) (by omega) (by omega) (by omega)) (eo 2 (by omega) (by omega) (by omega) (by omega)) : HC k n pc S) hr hlw (by rw [eo 9 (by omega) (by omega) (by omega) (by omega)]; exact w1) (by unfold Bd3; rw [eF, eI, eK]; exact hB3) (by rw [hS.2]; rfl) hp
  rw [eF, eI, eK, eo 13 (by omega) (by omega) (by omega) (by omega), wP_false] at f4
  have cg : ∀ d s L tk c, Att lw n (st.1 13) (FF st r) (II st) (KK st) (pc r) w0 d s L tk c ↔ Att lw n (st.1 4) (fun i => (st.1 3 (r * 6 + i)).toInt) (fun p => (st.1 37 p).toInt) (fun p => (st.1 6 p).toInt) (pc r) w0 d s L tk c := fun d s L tk c => ⟨Att_cg (R.eld hb h.scene) (fun _ _ => rfl) (fun p hp => ⟨by unfold II; rw [h37 p hp], rfl⟩) d s L tk c, Att_cg (fun s => (R.eld hb h.scene s).symm) (fun _ _ => rfl) (fun p hp => ⟨by unfold II; rw [h37 p hp], rfl⟩) d s L tk c⟩
  have hCa : CaI lw st S1 := ⟨fun x h1 h2 h3 h4 => by rw [f2 x h1 h2 h3, eo x h1 h2 h3 h4], by rw [f3]; exact hS.2⟩
  rw [f1, obs]
  dsimp only
  rcases f4 with ⟨rfl, f5⟩ | ⟨rfl, f5, c, c1, c2, c3, c4⟩
  · rw [if_pos rfl]
    refine ⟨S1, -1, rfl, hCa, f2 36 (by omega) (by omega) (by omega), Or.inl ⟨rfl, ?_⟩⟩
    rcases f5 with f5 | f5
    · exact Or.inl f5
    · exact Or.inr (fun c hc => f5 c ((cg _ _ _ _ _).mpr hc))
  · rw [if_neg (by decide), P_leastSum (by omega) c2, obs]
    refine ⟨S1, _, rfl, hCa, f2 36 (by omega) (by omega) (by omega), Or.inr ⟨f5, c / 262144, by omega, rfl, ?_, fun c' hc' => ?_⟩⟩
    · obtain ⟨a, m, -, -, a3⟩ := Att_of hn 6 p none 0 c (bits_n n hn p hp).1 c3 (@pop_le p) (fun q h1 _ => bits_out hn hp h1)
      rw [sumW_0, Nat.add_zero] at a3
      have : c / 262144 * 262144 = c := by rw [a3, Nat.mul_div_cancel _ (by omega)]
      rw [this]
      exact (cg _ _ _ _ _).mp c3
    · have := c4 c' ((cg _ _ _ _ _).mpr hc')
      have h2 := Nat.div_mul_le_self c 262144
      exact Nat.le_trans h2 this
/-- sums known, for parts of s -/
def KnI (k n : Nat) (pc : Nat → Nat) (lw s : Nat) (st : St) (r0 p0 : Nat) (S : St) : Prop := CaI lw st S ∧ CacheR k n pc (st.1 3) (st.1 4) (st.1 6) (S.1 36) (st.1 37) ∧ ∀ r p, r < k → p < 2 ^ n → (∀ j, j < 6 → p.testBit j = true → s.testBit j = true) → (r < r0 ∨ (r = r0 ∧ p < p0)) → SumIs lw n (st.1 4) (fun i => (st.1 3 (r * 6 + i)).toInt) (fun p => (st.1 37 p).toInt) (fun p => (st.1 6 p).toInt) (pc r) p (S.1 36 ((lw * 3 + r) * 64 + p))
theorem sum_ne {lw n : Nat} {A : Nat → Int32} {F I K : Nat → Int} {pcr s : Nat} {x : Int32} (h : SumIs lw n A F I K pcr s x) : ¬ x = -2 := by
  rcases h with ⟨rfl, -⟩ | ⟨-, c, hc, rfl, -⟩
  · decide
  · intro e
    have h1 := congrArg Int32.toInt e
    rw [nI_toInt (by omega)] at h1
    have h2 : (-2 : Int32).toInt = -2 := rfl
    omega
theorem P_findSums {k n : Nat} {pc : Nat → Nat} {b : Nat} {st : St} (hb : b < 2 ^ 20) (h : R k n pc b st) {lw s : Nat} (hlw : lw ≤ 1) (w1 : st.1 9 5 = nI lw) (h37 : ∀ p, p < n → st.1 37 p = st.1 14 p) (h9 : st.1 33 9 = 0) (hs : s < 2 ^ n) : ∃ S, F_X4_findSums_11 fN (nI s) 0 st = some S ∧ KnI k n pc lw s st k 0 S := by
  obtain ⟨hc, hm, hF, hFb, hK, -⟩ := h.house
  have hk := hc.1
  have hn := hc.2.1
  have hs64 := (bits_n n hn s hs).1
  have h2n : 2 ^ n ≤ 64 := (one_n n hn).2.1
  have inner : ∀ r, r < k → ∀ (k11 : Int32 → Int32 → St → Option St) N p, p ≤ 64 → 64 - p < N → ∀ S, KnI k n pc lw s st r p S → ∃ S', F_X4_findSums_24 k11 N (nI s) (nI r) (nI p) S = k11 (nI s) (nI (r + 1)) S' ∧ KnI k n pc lw s st (r + 1) 0 S' := by
    intro r hr k11
    refine upn (n := 64) (P := fun N p => ∀ S, KnI k n pc lw s st r p S → ∃ S', F_X4_findSums_24 k11 N (nI s) (nI r) (nI p) S = k11 (nI s) (nI (r + 1)) S' ∧ KnI k n pc lw s st (r + 1) 0 S') ?_ ?_
    · intro N S hS
      rw [F_X4_findSums_24, if_pos (by decide), nI_1]
      refine ⟨S, rfl, hS.1, hS.2.1, fun r' p' h1 h2 h3 h4 => hS.2.2 r' p' h1 h2 h3 ?_⟩
      omega
    · intro N p hp ih S hS
      have e95 : S.1 9 5 = nI lw := by rw [hS.1.1 9 (by omega) (by omega) (by omega) (by omega)]; exact w1
      have hidx : (lw * 3 + r) * 64 + p < 384 := by omega
      rw [F_X4_findSums_24, if_neg (show ¬ (64 : Int32) ≤ nI p from nI_ge (b := 64) hp (by omega)), F_X4_indexOf, F_X4_indexOf_0, obs, e95]
      dsimp only
      rw [show (nI lw * 3 + nI r) * 64 + nI p = nI ((lw * 3 + r) * 64 + p) by rw [litN 3, litN 64, pk_mul, nI_add, pk_mul, nI_add], gi_in hidx (by decide), clN (by omega), F_X4_findSums_82, nI_1]
      by_cases cs : ∀ j, j < 6 → p.testBit j = true → s.testBit j = true
      · have hp2n : p < 2 ^ n := by
          by_cases d : p < 2 ^ n
          · exact d
          · exfalso
            have key : ∀ n, n ≤ 6 → ∀ p, p < 64 → ¬ p < 2 ^ n → ∃ j, j < 6 ∧ n ≤ j ∧ p.testBit j = true := by decide +kernel
            obtain ⟨j, j1, j2, j3⟩ := key n hn p hp d
            have := cs j j1 j3
            rw [bits_out hn hs j2] at this
            cases this
        rw [if_pos ((le_sub p hp s hs64).mpr cs)]
        by_cases c2 : S.1 36 ((lw * 3 + r) * 64 + p) = -2
        · rw [if_pos c2]
          obtain ⟨S1, x, q1, q2, q3, q4⟩ := P_sum1 hb h hlw w1 h37 hS.1 hr hp2n
          have fin : ∃ S', (gi (nI ((lw * 3 + r) * 64 + p)) 384 (bs (sV S1 36 (nI ((lw * 3 + r) * 64 + p)).toNatClampNeg x) (fun st13 => F_X4_findSums_24 k11 N (nI s) (nI r) (nI (p + 1)) st13))) = k11 (nI s) (nI (r + 1)) S' ∧ KnI k n pc lw s st (r + 1) 0 S' := by
            rw [gi_in hidx (by decide), clN (by omega), bse]
            have w36 : ∀ i, (sV S1 36 ((lw * 3 + r) * 64 + p) x).1 36 i = if i = (lw * 3 + r) * 64 + p then x else S.1 36 i := by
              intro i
              rw [sV_at, ← q3]
              by_cases d : i = (lw * 3 + r) * 64 + p
              · rw [if_pos d, d, upd_at]
              · rw [if_neg d, upd_off d]
            refine ih _ ⟨⟨fun y h1 h2 h3 h4 => by rw [sV_off h4]; exact q2.1 y h1 h2 h3 h4, by rw [sV_off (by omega)]; exact q2.2⟩, fun lw' hlw' r' hr' p' hp' => ?_, fun r' p' h1 h2 h3 h4 => ?_⟩
            · rw [w36]
              by_cases d : (lw' * 3 + r') * 64 + p' = (lw * 3 + r) * 64 + p
              · rw [if_pos d]
                have e1 : lw' = lw := by omega
                have e2 : r' = r := by omega
                have e3 : p' = p := by omega
                rw [e1, e2, e3]
                exact Or.inr q4
              · rw [if_neg d]; exact hS.2.1 lw' hlw' r' hr' p' hp'
            · rw [w36]
              by_cases d : (lw * 3 + r') * 64 + p' = (lw * 3 + r) * 64 + p
              · rw [if_pos d]
                have e2 : r' = r := by omega
                have e3 : p' = p := by omega
                rw [e2, e3]
                exact q4
              · rw [if_neg d]; exact hS.2.2 r' p' h1 h2 h3 (by omega)
          cases hfb : F_X4_findBest (nI r) (nI p) S with
          | none => rw [hfb] at q1; cases q1
          | some q9 =>
            rw [hfb, obs] at q1
            rw [obs]
            by_cases c0 : q9.1 = 0
            · rw [if_pos c0] at q1 ⊢
              have e1 := congrArg Prod.fst (Option.some.inj q1)
              have e2 := congrArg Prod.snd (Option.some.inj q1)
              dsimp only at e1 e2
              rw [F_X4_findSums_81, e1, e2]
              simp only [F_X4_findSums_82, nI_1]
              exact fin
            · rw [if_neg c0] at q1 ⊢
              cases hls : F_X4_leastSum q9.2 with
              | none => rw [hls] at q1; cases q1
              | some q11 =>
                rw [hls, obs] at q1
                rw [obs]
                have e1 := congrArg Prod.fst (Option.some.inj q1)
                have e2 := congrArg Prod.snd (Option.some.inj q1)
                dsimp only at e1 e2
                rw [F_X4_findSums_81, e1, e2]
                simp only [F_X4_findSums_82, nI_1]
                exact fin
        · rw [if_neg c2]
          refine ih S ⟨hS.1, hS.2.1, fun r' p' h1 h2 h3 h4 => ?_⟩
          by_cases d : r' = r ∧ p' = p
          · obtain ⟨rfl, rfl⟩ := d
            rcases hS.2.1 lw hlw r' h1 p' h2 with e | e
            · exact absurd e c2
            · exact e
          · exact hS.2.2 r' p' h1 h2 h3 (by omega)
      · rw [if_neg (fun q => cs ((le_sub p hp s hs64).mp q))]
        refine ih S ⟨hS.1, hS.2.1, fun r' p' h1 h2 h3 h4 => ?_⟩
        by_cases d : r' = r ∧ p' = p
        · obtain ⟨rfl, rfl⟩ := d
          exact absurd h3 cs
        · exact hS.2.2 r' p' h1 h2 h3 (by omega)
  have outer := upn (n := k) (P := fun N r => ∀ S, KnI k n pc lw s st r 0 S → ∃ S', F_X4_findSums_11 N (nI s) (nI r) S = some S' ∧ KnI k n pc lw s st k 0 S')
    (fun N S hS => ⟨S, by rw [F_X4_findSums_11, hS.1.1 1 (by omega) (by omega) (by omega) (by omega), hc.2.2.1, if_pos (by rw [leN (by omega) (by omega)]; omega)], hS⟩)
    (fun N r hr ih S hS => by
      rw [F_X4_findSums_11, hS.1.1 1 (by omega) (by omega) (by omega) (by omega), hc.2.2.1, if_neg (nI_ge hr (by omega))]
      obtain ⟨S1, z1, z2⟩ := inner r hr (F_X4_findSums_11 N) fN 0 (by omega) (by have := fN_big; omega) S hS
      rw [show F_X4_findSums_24 (F_X4_findSums_11 N) fN (nI s) (nI r) 0 S = _ from z1]
      exact ih S1 z2) fN 0 (by omega) (by have := fN_big; omega) st ⟨⟨fun _ _ _ _ _ => rfl, h9⟩, h.cache, fun r p h1 h2 h3 h4 => by omega⟩
  exact outer

/-! PURE: the class's search: order, floors, the best -/
theorem P_orderLoop {n : Nat} (hn : n ≤ 6) : ∀ d j s N st, j + d = 6 → pop s ≤ d → d < N → s < 64 → (∀ q, n ≤ q → q < 6 → s.testBit q = false) → st.1 33 6 = nI j → ∃ st', F_X4_orderByAge_9 N (nI s) (nI j) st = some st' ∧ (∀ a, a ≠ 33 → a ≠ 34 → st'.1 a = st.1 a) ∧ (∀ x, x ≠ 6 → st'.1 33 x = st.1 33 x) ∧ (∀ x, x < j → st'.1 34 x = st.1 34 x) ∧ st'.1 33 6 = nI (j + pop s) ∧ OrdR (st.1 13) n (st'.1 34) (j + pop s) d j s := by
  intro d
  induction d with
  | zero =>
    intro j s N st hj hp hN hs hout e6
    obtain ⟨N, rfl⟩ : ∃ M, N = M + 1 := ⟨N - 1, by omega⟩
    have hj6 : j = 6 := by omega
    have := pop_0 hs (by omega)
    subst this
    subst hj6
    refine ⟨st, ?_, fun _ _ _ => rfl, fun _ _ => rfl, fun _ _ => rfl, e6, rfl⟩
    rw [F_X4_orderByAge_9, if_pos (by decide), F_X4_orderByAge_67]
  | succ d ih =>
    intro j s N st hj hp hN hs hout e6
    obtain ⟨N, rfl⟩ : ∃ M, N = M + 1 := ⟨N - 1, by omega⟩
    have hj6 : j < 6 := by omega
    have eel : eld (st.1 13) s 6 = eld (st.1 13) s n := eld_ext 6 hn (fun q h1 h2 => hout q h1 h2)
    have q := P_eldestOf 9 s hs st
    rw [show st.1 (9 + 4) = st.1 13 from rfl, eel] at q
    rw [F_X4_orderByAge_9, if_neg (by rw [f6 hj6]; exact not_false), q, obs]
    dsimp only
    cases he : eld (st.1 13) s n with
    | none =>
      have : s = 0 := set_ext hs (by decide) (fun q hq => by
        by_cases c1 : q < n
        · rw [eld_none _ he q c1]; simp
        · rw [hout q (by omega) hq]; simp)
      subst this
      rw [if_pos oI_none, F_X4_orderByAge_67]
      refine ⟨st, rfl, fun _ _ _ => rfl, fun _ _ => rfl, fun _ _ => rfl, e6, ?_⟩
      rw [OrdR, he]
      rfl
    | some p =>
      obtain ⟨p1, p2⟩ := eld_lt _ _ he
      have hp6 : p < 6 := by omega
      have hpop := pop_rm hs hp6 p2
      rw [if_neg (show ¬ oI (some p) = -1 from nI_ne1 (by omega)), show oI (some p) = nI p from rfl, g6 hj6, c6 hj6, bse, bse, clrN hs hp6, sV_off (show 33 ≠ 34 by omega), e6, nI_1]
      obtain ⟨st', z1, z2, z3, z4, z5, z6⟩ := ih (j + 1) (rmb s p) N (sV (sV st 34 j (nI p)) 33 6 (nI (j + 1))) (by omega) (by omega) (by omega) (rmb_lt hs) (fun q h1 h2 => by rw [rmb_bit hs hp6 h2, hout q h1 h2]; rfl) (sV_g _ _ _ _)
      refine ⟨st', z1, fun a h1 h2 => by rw [z2 a h1 h2, sV_off h1, sV_off h2], fun x hx => by rw [z3 x hx, sV_f hx, sV_off (by omega)], fun x hx => by rw [z4 x (by omega), sV_off (by omega), sV_f (by omega)], by rw [z5]; congr 1; omega, ?_⟩
      rw [OrdR, he]
      refine ⟨by omega, by rw [z4 j (by omega), sV_off (by omega), sV_g], ?_⟩
      rw [sV_off (show 13 ≠ 33 by omega), sV_off (show 13 ≠ 34 by omega)] at z6
      rw [show j + pop s = j + 1 + pop (rmb s p) by omega]
      exact z6
/-- floors looked at, up to i -/
def LkI (r : Nat) (pm : Bool) (S : St) (i : Nat) (st : St) : Prop := (∀ a, a ≠ 33 → a ≠ 35 → st.1 a = S.1 a) ∧ (∀ x, x ≠ 8 → st.1 33 x = S.1 33 x) ∧ (∀ x, x < i → (st.1 33 8).toInt ≤ FF S r x) ∧ 0 ≤ (st.1 33 8).toInt ∧ ∀ y, y < i → ∃ x, x < 64 ∧ st.1 35 y = nI x ∧ ∀ j, j < 6 → (x.testBit j = true ↔ pm = false ∧ j < y ∧ FF S r j = FF S r y)
theorem P_look71 {k n : Nat} {pc : Nat → Nat} {r : Nat} {pm : Bool} {S : St} (hc : HC k n pc S) (hr : r < k) (e7 : S.1 33 7 = nI r) (e9 : S.1 33 9 = (if pm = true then 1 else 0)) {i : Nat} (hi : i < pc r) (k18 : Int32 → St → Option St) {st : St} (hI : LkI r pm S i st) (hlo : (st.1 33 8).toInt ≤ FF S r i) (e35 : st.1 35 i = 0) : ∃ st', F_X4_lookAtFloors_71 k18 fN (nI i) 0 st = k18 (nI (i + 1)) st' ∧ LkI r pm S (i + 1) st' := by
  have hpc := hc.2.2.2.2 r hr
  have hi6 : i < 6 := by omega
  have gen : ∀ N j, j ≤ i → i - j < N → ∀ st x, LkI r pm S i st → (st.1 33 8).toInt ≤ FF S r i → x < 64 → st.1 35 i = nI x → (∀ j', j' < 6 → (x.testBit j' = true ↔ pm = false ∧ j' < j ∧ FF S r j' = FF S r i)) → ∃ st', F_X4_lookAtFloors_71 k18 N (nI i) (nI j) st = k18 (nI (i + 1)) st' ∧ LkI r pm S (i + 1) st' := by
    refine upn (n := i) (P := fun N j => ∀ st x, LkI r pm S i st → (st.1 33 8).toInt ≤ FF S r i → x < 64 → st.1 35 i = nI x → (∀ j', j' < 6 → (x.testBit j' = true ↔ pm = false ∧ j' < j ∧ FF S r j' = FF S r i)) → ∃ st', F_X4_lookAtFloors_71 k18 N (nI i) (nI j) st = k18 (nI (i + 1)) st' ∧ LkI r pm S (i + 1) st') ?_ ?_
    · intro N st x h1 h2 hx e hb
      rw [F_X4_lookAtFloors_71, if_pos (by rw [leN (by omega) (by omega)]; omega), F_X4_lookAtFloors_128, nI_1]
      refine ⟨st, rfl, h1.1, h1.2.1, fun y hy => ?_, h1.2.2.2.1, fun y hy => ?_⟩
      · by_cases c : y = i
        · subst c; exact h2
        · exact h1.2.2.1 y (by omega)
      · by_cases c : y = i
        · subst c; exact ⟨x, hx, e, hb⟩
        · exact h1.2.2.2.2 y (by omega)
    · intro N j hj ih st x h1 h2 hx e hb
      have hj6 : j < 6 := by omega
      rw [F_X4_lookAtFloors_71, if_neg (nI_ge hj (by omega)), h1.2.1 9 (by omega), h1.2.1 7 (by omega), e9, e7]
      cases pm with
      | true =>
        rw [if_pos (show true = true from rfl), if_neg (show ¬ (1 : Int32) = 0 by decide), F_X4_lookAtFloors_128, nI_1]
        refine ⟨st, rfl, h1.1, h1.2.1, fun y hy => ?_, h1.2.2.2.1, fun y hy => ?_⟩
        · by_cases c : y = i
          · subst c; exact h2
          · exact h1.2.2.1 y (by omega)
        · by_cases c : y = i
          · subst c
            refine ⟨x, hx, e, fun j' hj' => (hb j' hj').trans ⟨fun q => absurd q.1 (by decide), fun q => absurd q.1 (by decide)⟩⟩
          · exact h1.2.2.2.2 y (by omega)
      | false =>
        have hcS : HC k n pc st := hc.cg (h1.1 1 (by omega) (by omega)) (h1.1 2 (by omega) (by omega))
        have fl1 := P_floorAt hcS hr (show j < pc r by omega)
        have fl2 := P_floorAt hcS hr hi
        rw [h1.1 3 (by omega) (by omega)] at fl1 fl2
        rw [if_neg (show ¬ (false = true) by decide), if_pos (show (0 : Int32) = 0 from rfl), fl1, obs]
        dsimp only
        rw [h1.2.1 7 (by omega), e7, fl2, obs]
        dsimp only
        by_cases cf : S.1 3 (r * 6 + j) = S.1 3 (r * 6 + i)
        · rw [if_pos cf, g6 hi6, g6 hi6, c6 hi6, bse, e, orN hx hj6, F_X4_lookAtFloors_122, nI_1]
          refine ih (sV st 35 i (nI (x ||| 2 ^ j))) (x ||| 2 ^ j) ⟨fun a a1 a2 => by rw [sV_off a2]; exact h1.1 a a1 a2, fun y hy => by rw [sV_off (by omega)]; exact h1.2.1 y hy, by rw [sV_off (by omega)]; exact h1.2.2.1, by rw [sV_off (by omega)]; exact h1.2.2.2.1, fun y hy => ?_⟩ (by rw [sV_off (by omega)]; exact h2) (or_lt hx hj6) (sV_g _ _ _ _) (fun j' hj' => ?_)
          · rw [sV_f (by omega)]; exact h1.2.2.2.2 y hy
          · rw [or_bit hx hj6 hj', Bool.or_eq_true, hb j' hj']
            simp only [decide_eq_true_eq, true_and]
            constructor
            · rintro (⟨q1, q2⟩ | q)
              · exact ⟨by omega, q2⟩
              · subst q; exact ⟨by omega, by unfold FF; rw [cf]⟩
            · rintro ⟨q1, q2⟩
              by_cases cj : j' = j
              · exact Or.inr cj
              · exact Or.inl ⟨by omega, q2⟩
        · rw [if_neg cf, F_X4_lookAtFloors_122, nI_1]
          refine ih st x h1 h2 hx e (fun j' hj' => (hb j' hj').trans ⟨fun q => ⟨q.1, by omega, q.2.2⟩, fun q => ⟨q.1, ?_, q.2.2⟩⟩)
          by_cases cj : j' = j
          · subst cj
            exact absurd (Int32.toInt_inj.mp q.2.2) cf
          · omega
  exact gen fN 0 (by omega) (by have := fN_big; omega) st 0 hI hlo (by omega) e35 (fun j' _ => ⟨fun q => by simp at q, fun q => by omega⟩)
theorem P_lookAtFloors {k n : Nat} {pc : Nat → Nat} {r : Nat} {pm : Bool} {S : St} (hc : HC k n pc S) (hr : r < k) (hF : ∀ i, i < pc r → 0 ≤ FF S r i) (e7 : S.1 33 7 = nI r) (e9 : S.1 33 9 = (if pm = true then 1 else 0)) : ∃ st', F_X4_lookAtFloors S = some st' ∧ LkI r pm S (pc r) st' := by
  have hpc := hc.2.2.2.2 r hr
  have fl := P_floorAt hc hr (show 0 < pc r by omega)
  have gen : ∀ N i, i ≤ pc r → pc r - i < N → ∀ st, LkI r pm S i st → ∃ st', F_X4_lookAtFloors_18 N (nI i) st = some st' ∧ LkI r pm S (pc r) st' := by
    refine upn (n := pc r) (P := fun N i => ∀ st, LkI r pm S i st → ∃ st', F_X4_lookAtFloors_18 N (nI i) st = some st' ∧ LkI r pm S (pc r) st') ?_ ?_
    · intro N st h1
      have hcS : HC k n pc st := hc.cg (h1.1 1 (by omega) (by omega)) (h1.1 2 (by omega) (by omega))
      rw [F_X4_lookAtFloors_18, h1.2.1 7 (by omega), e7, P_placesOf hcS hr, obs]
      dsimp only
      rw [if_pos (by rw [leN (by omega) (by omega)]; omega), F_X4_lookAtFloors_134]
      exact ⟨st, rfl, h1⟩
    · intro N i hi ih st h1
      have hi6 : i < 6 := by omega
      have hcS : HC k n pc st := hc.cg (h1.1 1 (by omega) (by omega)) (h1.1 2 (by omega) (by omega))
      have fl2 := P_floorAt hcS hr hi
      rw [h1.1 3 (by omega) (by omega)] at fl2
      rw [F_X4_lookAtFloors_18, h1.2.1 7 (by omega), e7, P_placesOf hcS hr, obs]
      dsimp only
      rw [if_neg (nI_ge hi (by omega)), if_neg (by rw [f6 hi6]; exact not_false), h1.2.1 7 (by omega), e7, fl2, obs]
      dsimp only
      rw [bse, g6 hi6, c6 hi6, bse]
      have em : (imn (st.1 33 8) (S.1 3 (r * 6 + i))).toInt = min (st.1 33 8).toInt (FF S r i) := imn_toInt _ _
      have h0 := hF i hi
      have hst0 := h1.2.2.2.1
      obtain ⟨st', z1, z2⟩ := P_look71 hc hr e7 e9 hi (F_X4_lookAtFloors_18 N) (st := sV (sV st 33 8 (imn (st.1 33 8) (S.1 3 (r * 6 + i)))) 35 i 0) ⟨fun a a1 a2 => by rw [sV_off a2, sV_off a1]; exact h1.1 a a1 a2, fun x hx => by rw [sV_off (by omega), sV_f hx]; exact h1.2.1 x hx, fun x hx => by
          rw [sV_off (by omega), sV_g, em]
          have := h1.2.2.1 x hx
          omega, by rw [sV_off (by omega), sV_g, em]; omega, fun y hy => by
          rw [sV_f (by omega), sV_off (by omega)]
          exact h1.2.2.2.2 y hy⟩ (by rw [sV_off (by omega), sV_g, em]; omega) (sV_g _ _ _ _)
      rw [z1]
      exact ih st' z2
  rw [F_X4_lookAtFloors, F_X4_lookAtFloors_0, e7, show (0 : Int32) = nI 0 from rfl, fl, obs]
  dsimp only
  rw [bse]
  refine gen fN 0 (by omega) (by have := fN_big; omega) _ ⟨fun a a1 a2 => sV_off a1, fun x hx => sV_f hx, fun x hx => by omega, ?_, fun y hy => by omega⟩
  rw [sV_g]
  exact hF 0 (by omega)
theorem Att_ub {lw n : Nat} {A : Nat → Int32} {F I K : Nat → Int} {pcr : Nat} {pm : Bool} (hn : n ≤ 6) (hpc : pcr ≤ 6) (hK : ∀ p, p < n → K p ≤ 40) : ∀ d s L tk c, Att lw n A F I K pcr (wP pm) d s L tk c → c ≤ d * 41 * 262144 := by
  intro d
  induction d with
  | zero =>
    intro s L tk c h
    have h0 : c = 0 := h
    omega
  | succ d ih =>
    intro s L tk c h
    rw [Att] at h
    cases he : eld A s n with
    | none =>
      rw [he] at h
      have h0 : c = 0 := h
      omega
    | some p =>
      rw [he] at h
      obtain ⟨i, c', i1, i2, i3, i4, i5⟩ := h
      have hp := (eld_lt _ _ he).1
      have h1 := ih _ _ _ _ i4
      have h2 := hK p hp
      have h3 : wP pm p i ≤ 163840 := by
        have := (shP p (by omega) i (by omega)).2
        unfold wP; split <;> omega
      have h4 : (bndP F I L p i).toNat ≤ 40 := by omega
      omega
/-- the best places for a set in a room -/
theorem P_findBest {k n : Nat} {pc : Nat → Nat} {lw r s : Nat} {pm : Bool} {st : St} (hc : HC k n pc st) (hr : r < k) (hlw : lw ≤ 1) (e5 : st.1 9 5 = nI lw) (hB : Bd3 k n pc st) (e9 : st.1 33 9 = (if pm = true then 1 else 0)) (hs : s < 2 ^ n) : ∃ st' a, F_X4_findBest (nI r) (nI s) st = some (a, st') ∧ (∀ x, x ≠ 33 → x ≠ 34 → x ≠ 35 → st'.1 x = st.1 x) ∧ st'.1 33 9 = st.1 33 9 ∧ ((a = 0 ∧ (pc r < pop s ∨ ∀ c, ¬ Att lw n (st.1 13) (FF st r) (II st) (KK st) (pc r) (wP pm) 6 s none 0 c)) ∨ (a = 1 ∧ pop s ≤ pc r ∧ ∃ c, c < 100000000 ∧ st'.1 33 10 = nI c ∧ Att lw n (st.1 13) (FF st r) (II st) (KK st) (pc r) (wP pm) 6 s none 0 c ∧ ∀ c', Att lw n (st.1 13) (FF st r) (II st) (KK st) (pc r) (wP pm) 6 s none 0 c' → c ≤ c')) := by
  have hn := hc.2.1
  have hpc := hc.2.2.2.2 r hr
  have hs64 := (bits_n n hn s hs).1
  have hp6 := @pop_le s
  obtain ⟨s1, hs1⟩ : ∃ s1, s1 = sV (sV st 33 10 2147483647) 33 7 (nI r) := ⟨_, rfl⟩
  have u1 : ∀ x, x ≠ 33 → s1.1 x = st.1 x := fun x hx => by rw [hs1, sV_off hx, sV_off hx]
  obtain ⟨s2, o1, o2, o3, o4, o5, o6⟩ := P_orderLoop hn 6 0 s fN (sV s1 33 6 0) (by omega) hp6 (by have := fN_big; omega) hs64 (fun q h1 _ => bits_out hn hs h1) (sV_g _ _ _ _)
  rw [Nat.zero_add] at o5 o6
  have u2 : ∀ x, x ≠ 33 → x ≠ 34 → s2.1 x = st.1 x := fun x h1 h2 => by rw [o2 x h1 h2, sV_off h1, u1 x h1]
  have v2 : ∀ x, x ≠ 6 → s2.1 33 x = s1.1 33 x := fun x hx => by rw [o3 x hx, sV_f hx]
  have hc2 : HC k n pc s2 := hc.cg (u2 1 (by omega) (by omega)) (u2 2 (by omega) (by omega))
  have eF2 : FF s2 r = FF st r := by unfold FF; rw [u2 3 (by omega) (by omega)]
  obtain ⟨s3, l1, l2⟩ := P_lookAtFloors (pm := pm) hc2 hr (by rw [eF2]; exact fun i hi => (hB.1 r hr i hi).1) (by rw [v2 7 (by omega), hs1, sV_g]) (by rw [v2 9 (by omega), hs1, sV_f (by omega), sV_f (by omega)]; exact e9)
  obtain ⟨l3, l4, l5, l6, l7⟩ := l2
  have u3 : ∀ x, x ≠ 33 → x ≠ 34 → x ≠ 35 → s3.1 x = st.1 x := fun x h1 h2 h3 => by rw [l3 x h1 h3, u2 x h1 h2]
  have hc3 : HC k n pc s3 := hc.cg (u3 1 (by omega) (by omega) (by omega)) (u3 2 (by omega) (by omega) (by omega))
  have eF3 : FF s3 = FF st := by unfold FF; rw [u3 3 (by omega) (by omega) (by omega)]
  have eI3 : II s3 = II st := by unfold II; rw [u3 14 (by omega) (by omega) (by omega)]
  have eK3 : KK s3 = KK st := by unfold KK; rw [u3 6 (by omega) (by omega) (by omega)]
  have e13 : (sV s1 33 6 0).1 13 = st.1 13 := by rw [sV_off (by omega), u1 13 (by omega)]
  have e6 : s3.1 33 6 = nI (pop s) := by rw [l4 6 (by omega)]; exact o5
  have e10 : s3.1 33 10 = nI 2147483647 := by rw [l4 10 (by omega), v2 10 (by omega), hs1, sV_f (by omega), sV_g]; rfl
  have e9' : s3.1 33 9 = st.1 33 9 := by rw [l4 9 (by omega), v2 9 (by omega), hs1, sV_f (by omega), sV_f (by omega)]
  rw [F_X4_findBest, F_X4_findBest_0, bse, bse, ← hs1, F_X4_orderByAge, F_X4_orderByAge_0, bse, show F_X4_orderByAge_9 fN (nI s) 0 (sV s1 33 6 0) = some s2 from o1, obs, l1, obs, P_placesOf hc3 hr, obs, e6]
  dsimp only
  by_cases cp : pop s ≤ pc r
  · rw [if_pos (by rw [leN (by omega) (by omega)]; exact cp)]
    have hPS : PSt k n pc lw r (pop s) pm s3 := by
      refine ⟨hc3, hr, hlw, by rw [u3 9 (by omega) (by omega) (by omega)]; exact e5, e6, hp6, by rw [l4 7 (by omega), v2 7 (by omega), hs1, sV_g], ?_, ?_, l6, by rw [e9']; exact e9, ?_⟩
      · unfold Bd3; rw [eF3, eI3, eK3]; exact hB
      · rw [eF3, ← eF2]; exact l5
      · rw [eF3, ← eF2]; exact l7
    have ho : OrdR (st.1 13) n (s3.1 34) (pop s) 6 0 s := by
      rw [l3 34 (by omega) (by omega), ← e13]; exact o6
    obtain ⟨b', z1, z2, z3, z4⟩ := P_placeFrom hPS (A := st.1 13) 6 0 s none 0 0 0 2147483647 10 ho (by omega) (Or.inl ⟨rfl, rfl⟩) (by omega) (by omega) (by omega) (by omega) (by omega)
    rw [eF3, eI3, eK3] at z2 z4
    rw [sV_self e10] at z1
    have z1' : F_X4_placeFrom 10 0 0 0 0 s3 = some (sV s3 33 10 (nI b')) := z1
    rw [z1', obs, sV_g]
    have fr : ∀ x, x ≠ 33 → x ≠ 34 → x ≠ 35 → (sV s3 33 10 (nI b')).1 x = st.1 x := fun x h1 h2 h3 => by rw [sV_off h1, u3 x h1 h2 h3]
    have f9 : (sV s3 33 10 (nI b')).1 33 9 = st.1 33 9 := by rw [sV_f (by omega), e9']
    have ub := Att_ub (lw := lw) (n := n) (A := st.1 13) (F := FF st r) (I := II st) (K := KK st) (pcr := pc r) (pm := pm) hn (by omega) (fun p hp => (hB.2 p hp).2.2.2) 6 s none 0
    have e7 : (nI b' = 2147483647) = (b' = 2147483647) := eqN (a := b') (b := 2147483647) (by omega) (by omega)
    by_cases cb : b' = 2147483647
    · rw [if_pos (by rw [e7]; exact cb), F_X4_findBest_59, gb0']
      refine ⟨_, 0, rfl, fr, f9, Or.inl ⟨rfl, Or.inr (fun c hc => ?_)⟩⟩
      have h1 := z4 c ⟨c, hc, by omega⟩
      have h2 := ub c hc
      omega
    · rw [if_neg (by rw [e7]; exact cb), F_X4_findBest_59, gb1']
      rcases z2 with z2 | ⟨c', y1, y2⟩
      · exact absurd z2 cb
      · have e : b' = c' := by omega
        refine ⟨_, 1, rfl, fr, f9, Or.inr ⟨rfl, cp, b', ?_, sV_g _ _ _ _, by rw [e]; exact y1, fun c hc => z4 c ⟨c, hc, by omega⟩⟩⟩
        have h2 := ub c' y1
        omega
  · rw [if_neg (by rw [leN (by omega) (by omega)]; exact cp)]
    exact ⟨s3, 0, rfl, u3, e9', Or.inl ⟨rfl, Or.inl (by omega)⟩⟩

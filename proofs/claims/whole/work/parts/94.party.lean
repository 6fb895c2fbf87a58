/-! PURE: party -/
def JcI (lw n : Nat) (A : Nat → Int32) (F I K : Nat → Int) (s pcr c : Nat) (ls : Int32) (f83 : Nat → Int32) : Prop := (ls = 1000000 ∧ ∀ c' m, c' < c → ¬ Vc lw n A F I K s pcr c' m) ∨ (∃ c0 m, c0 < c ∧ m ≤ 240 ∧ Vc lw n A F I K s pcr c0 m ∧ ls = nI m ∧ (∀ q, q < n → s.testBit q = true → f83 q = nI (digF s pcr n c0 q)) ∧ ∀ c' m', c' < c → Vc lw n A F I K s pcr c' m' → m < m' ∨ (m = m' ∧ c0 ≤ c'))
theorem M_codes {k n : Nat} {pc : Nat → Nat} {S : St} (h : HM k n pc S) {r s lw : Nat} (hr : r < k) (hs : s < 2 ^ n) (hl : S.1 59 10 = nI lw) (hlw : lw ≤ 1) (hB : BdM k n pc (S.1 61) (S.1 64) (vM S)) {cs : Nat} (hcs : cs < 100000) : ∃ st' v, F_X8_partyOf_56 fN (nI r) (nI s) (nI cs) 1000000 0 S = some (v, st') ∧ (∀ x, x < 80 ∨ 83 < x → st'.1 x = S.1 x) ∧ JcI lw n (S.1 67) (FFm S r) (IIm S) (KKm S) s (pc r) cs v (st'.1 83) := by
  have hn := h.2.1
  have mle : ∀ c m, Vc lw n (S.1 67) (FFm S r) (IIm S) (KKm S) s (pc r) c m → m ≤ 240 := fun c m hm => cst_le (fun p hp => by have := (hB.2.2 p hp).2; unfold KKm; exact this) 6 s none m hm.2
  have q := upn (n := cs) (P := fun N c => ∀ st (ls : Int32), (∀ x, x < 80 ∨ 83 < x → st.1 x = S.1 x) → JcI lw n (S.1 67) (FFm S r) (IIm S) (KKm S) s (pc r) c ls (st.1 83) → ∃ st' v, F_X8_partyOf_56 N (nI r) (nI s) (nI cs) ls (nI c) st = some (v, st') ∧ (∀ x, x < 80 ∨ 83 < x → st'.1 x = S.1 x) ∧ JcI lw n (S.1 67) (FFm S r) (IIm S) (KKm S) s (pc r) cs v (st'.1 83))
    (fun N st ls hf hJ => ⟨st, ls, by rw [F_X8_partyOf_56, if_pos (by rw [leN (by omega) (by omega)]; omega)], hf, hJ⟩)
    (fun N c hc ih st ls hf hJ => by
      have hst : HM k n pc st := h.cg (by rw [hf 59 (by omega)]) (by rw [hf 59 (by omega)]) (hf 60 (by omega))
      have eF : FFm st r = FFm S r := by unfold FFm; rw [hf 61 (by omega)]
      have eI : IIm st = IIm S := by unfold IIm; rw [hf 68 (by omega)]
      have eK : KKm st = KKm S := by unfold KKm; rw [hf 64 (by omega)]
      have eB : BdM k n pc (st.1 61) (st.1 64) (vM st) := by
        rw [hf 61 (by omega), hf 64 (by omega), vM_cg (s := S) (fun a a1 a2 => hf a (by omega))]; exact hB
      have hls : ls ≤ 1000000 := by
        rcases hJ with ⟨rfl, -⟩ | ⟨c0, m, -, hm, -, rfl, -⟩
        · exact Int32.le_refl _
        · rw [litN 1000000, leN (by omega) (by omega)]; omega
      obtain ⟨st', z1, z2⟩ := M_code1 hst (ls := ls) hr hs (by rw [hf 59 (by omega)]; exact hl) hlw eB hc (by omega) hls N
      rw [eF, eI, eK, hf 67 (by omega)] at z2
      have hf' : ∀ x, x < 80 ∨ 83 < x → st'.1 x = S.1 x := fun x hx => by rw [z1 x hx, hf x hx]
      rcases z2 with ⟨m, v1, v2, v3, v4, v5⟩ | ⟨v1, v2, v3⟩
      · rw [v4]
        refine ih st' (nI m) hf' (Or.inr ⟨c, m, by omega, v2, v1, rfl, v5, fun c' m' hc' hv => ?_⟩)
        by_cases ec : c' = c
        · subst ec
          have : m = m' := Option.some.inj (v1.2.symm.trans hv.2)
          exact Or.inr ⟨this, Nat.le_refl _⟩
        · rcases hJ with ⟨-, j2⟩ | ⟨c0, m0, j1, j2, j3, j4, j5, j6⟩
          · exact absurd hv (j2 c' m' (by omega))
          · rw [j4, leN (by omega) (by omega)] at v3
            rcases j6 c' m' (by omega) hv with j | j
            · exact Or.inl (by omega)
            · exact Or.inl (by omega)
      · rw [v2]
        refine ih st' ls hf' ?_
        rw [v3]
        rcases hJ with ⟨rfl, j2⟩ | ⟨c0, m0, j1, j2, j3, j4, j5, j6⟩
        · refine Or.inl ⟨rfl, fun c' m hc' hv => ?_⟩
          by_cases ec : c' = c
          · subst ec
            have h1 := v1 m hv
            have h2 := mle _ _ hv
            rw [litN 1000000, leN (by omega) (by omega)] at h1
            omega
          · exact j2 c' m (by omega) hv
        · refine Or.inr ⟨c0, m0, by omega, j2, j3, j4, j5, fun c' m' hc' hv => ?_⟩
          by_cases ec : c' = c
          · subst ec
            have h1 := v1 m' hv
            have h2 := mle _ _ hv
            rw [j4, leN (by omega) (by omega)] at h1
            omega
          · exact j6 c' m' (by omega) hv) fN 0 (by omega) (fN0 hcs) S 1000000 (fun _ _ => rfl) (Or.inl ⟨rfl, fun c' m hc => by omega⟩)
  exact q
theorem pow66 : ∀ p, p ≤ 6 → ∀ j, j ≤ 6 → p ^ j < 100000 := by decide +kernel
theorem M_partyOf {k n : Nat} {pc : Nat → Nat} {S : St} (h : HM k n pc S) {r s lw : Nat} (hr : r < k) (hs : s < 2 ^ n) (hl : S.1 59 10 = nI lw) (hlw : lw ≤ 1) (hB : BdM k n pc (S.1 61) (S.1 64) (vM S)) : ∃ st' v, F_X8_partyOf (nI r) (nI s) S = some (v, st') ∧ (∀ x, x < 80 ∨ 83 < x → st'.1 x = S.1 x) ∧ ((v = 1000000 ∧ pc r < pop s) ∨ (pop s ≤ pc r ∧ JcI lw n (S.1 67) (FFm S r) (IIm S) (KKm S) s (pc r) (pc r ^ pop s) v (st'.1 83))) := by
  have hn := h.2.1
  have hk := h.1
  have hpc := h.2.2.2.2 r hr
  have hs64 := (bits_n n hn s hs).1
  have hp6 := @pop_le s
  have g3 : ∀ {α : Type} {x : Option α}, gi (nI r) 3 x = x := gi_in (by omega) (by decide)
  have c3 : (nI r).toNatClampNeg = r := clN (by omega)
  have hpw := pow66 (pc r) (by omega) (pop s) hp6
  rw [F_X8_partyOf, F_X8_partyOf_0, M_bits hs64, obs]
  dsimp only
  rw [g3, c3, hpc.1]
  by_cases c : pop s ≤ pc r
  · rw [if_pos (by rw [leN (by omega) (by omega)]; exact c)]
    have q := upn (n := pop s) (P := fun N j => F_X8_partyOf_25 N (nI r) (nI s) (nI (pop s)) (nI (pc r ^ j)) (nI j) S = F_X8_partyOf_56 fN (nI r) (nI s) (nI (pc r ^ pop s)) 1000000 0 S)
      (fun N => by rw [F_X8_partyOf_25, if_pos (by rw [leN (by omega) (by omega)]; omega)])
      (fun N j hj ih => by
        rw [F_X8_partyOf_25, if_neg (nI_ge hj (by omega)), g3, c3, hpc.1, pk_mul, ← Nat.pow_succ, nI_1]
        exact ih) fN 0 (by omega) (fN0 (by omega))
    obtain ⟨st', v, z1, z2, z3⟩ := M_codes h hr hs hl hlw hB hpw
    refine ⟨st', v, ?_, z2, Or.inr ⟨c, z3⟩⟩
    have q' : F_X8_partyOf_25 fN (nI r) (nI s) (nI (pop s)) 1 0 S = F_X8_partyOf_56 fN (nI r) (nI s) (nI (pc r ^ pop s)) 1000000 0 S := q
    rw [q']; exact z1
  · rw [if_neg (by rw [leN (by omega) (by omega)]; exact c)]
    exact ⟨S, _, rfl, fun _ _ => rfl, Or.inl ⟨rfl, by omega⟩⟩
/-! both are the same choices -/
theorem cnt_n : ∀ n, n ≤ 6 → ∀ s, s < 2 ^ n → cntS (fun q => s.testBit q) n = pop s := by decide +kernel
theorem V_att {lw n : Nat} {A : Nat → Int32} {F I K : Nat → Int} {pcr s c m : Nat} (w : Nat → Nat → Nat) (hn : n ≤ 6) (hs : s < 2 ^ n) (hp : 0 < pcr) (h : Vc lw n A F I K s pcr c m) : Att lw n A F I K pcr w 6 s none 0 (m * 262144 + sumW w (digF s pcr n c) s) := by
  have lt : ∀ p, p < 6 → s.testBit p = true → p < n := fun p _ hb => by
    by_cases d : p < n
    · exact d
    · rw [bits_out hn hs (show n ≤ p by omega)] at hb; cases hb
  exact Att_to hn 6 s none 0 m (bits_n n hn s hs).1 (fun q h1 _ => bits_out hn hs h1) (@pop_le s) ⟨fun p hp6 hb => ⟨digF_lt hp _ _ _, by simp⟩, fun p q hp hq hbp hbq e => h.1 p q (lt p hp hbp) (lt q hq hbq) hbp hbq e⟩ h.2
theorem att_V {lw n : Nat} {A : Nat → Int32} {F I K : Nat → Int} {pcr s x : Nat} {w : Nat → Nat → Nat} (hn : n ≤ 6) (hs : s < 2 ^ n) (hp : 0 < pcr) (h : Att lw n A F I K pcr w 6 s none 0 x) : ∃ c m, c < pcr ^ pop s ∧ Vc lw n A F I K s pcr c m ∧ x = m * 262144 + sumW w (digF s pcr n c) s := by
  obtain ⟨a, m, a1, a2, a3⟩ := Att_of hn 6 s none 0 x (bits_n n hn s hs).1 h (@pop_le s) (fun q h1 _ => bits_out hn hs h1)
  have hlt : ∀ q, q < n → s.testBit q = true → a q < pcr := fun q hq hb => (a1.1 q (by omega) hb).1
  have hd := dig_cod (s := s) (pc := pcr) (a := a) hp n hlt
  have lt : ∀ p, p < 6 → s.testBit p = true → p < n := fun p _ hb => by
    by_cases d : p < n
    · exact d
    · rw [bits_out hn hs (show n ≤ p by omega)] at hb; cases hb
  refine ⟨codF s pcr a n, m, ?_, ⟨fun p q hp hq hbp hbq e => ?_, ?_⟩, ?_⟩
  · have := cod_lt (s := s) (pc := pcr) (a := a) n hlt
    rw [cnt_n n hn s hs] at this
    exact this
  · rw [hd p hp hbp, hd q hq hbq] at e
    exact a1.2 p q (by omega) (by omega) hbp hbq e
  · rw [cstA_congr hn 6 s none (bits_n n hn s hs).1 (a' := a) (fun q hq hb => hd q (lt q hq hb) hb)]
    exact a2
  · rw [a3]
    congr 1
    unfold sumW
    refine sumS_congr 6 (fun p hp6 => ?_)
    by_cases c : s.testBit p = true
    · rw [if_pos c, if_pos c, hd p (lt p hp6 c) c]
    · rw [if_neg c, if_neg c]
theorem num_dig {s pcr n c : Nat} (hp : 0 < pcr) (hp6 : pcr ≤ 6) : numF s (digF s pcr n c) 6 < 262144 := num_lt (s := s) (a := digF s pcr n c) 6 (fun q _ _ => by have := digF_lt (s := s) hp n c q; omega)
/-- the least choice of the class is the first best code of the reference -/
theorem best_eq {lw n : Nat} {A : Nat → Int32} {F I K : Nat → Int} {pcr s x c0 m0 : Nat} (hn : n ≤ 6) (hs : s < 2 ^ n) (hp : 0 < pcr) (hp6 : pcr ≤ 6) (hx : Att lw n A F I K pcr (wP true) 6 s none 0 x) (hmin : ∀ y, Att lw n A F I K pcr (wP true) 6 s none 0 y → x ≤ y) (h0 : Vc lw n A F I K s pcr c0 m0) (hc0 : c0 < pcr ^ pop s) (hbest : ∀ c m, c < pcr ^ pop s → Vc lw n A F I K s pcr c m → m0 < m ∨ (m0 = m ∧ c0 ≤ c)) : x = m0 * 262144 + numF s (digF s pcr n c0) 6 := by
  have h1 := hmin _ (V_att (wP true) hn hs hp h0)
  rw [num_sum] at h1
  obtain ⟨c, m, k1, k2, k3⟩ := att_V hn hs hp hx
  rw [num_sum] at k3
  have b0 := num_dig (s := s) (n := n) (c := c0) hp hp6
  have b1 := num_dig (s := s) (n := n) (c := c) hp hp6
  rcases hbest c m k1 k2 with d | ⟨d1, d2⟩
  · clear hbest k2 h0 hx hmin
    have h3 := Nat.mul_le_mul_right 262144 (show m0 + 1 ≤ m from d)
    rw [Nat.add_mul, Nat.one_mul] at h3
    rw [k3] at h1
    have h5 : m0 * 262144 + numF s (digF s pcr n c0) 6 < m0 * 262144 + 262144 := Nat.add_lt_add_left b0 _
    exact absurd (Nat.lt_of_le_of_lt (Nat.le_trans (Nat.le_add_right _ _) h1) (Nat.lt_of_lt_of_le h5 h3)) (Nat.lt_irrefl _)
  · have hlt : ∀ z q, q < 6 → s.testBit q = true → digF s pcr n z q < pcr := fun z q _ _ => digF_lt hp _ _ _
    have lex := cod_lex (s := s) (pc := pcr) (a := digF s pcr n c0) (b := digF s pcr n c) (by omega) 6 (fun q hq hb => ⟨hlt c0 q hq hb, hlt c q hq hb⟩)
    rw [codF_ext 6 hn (fun q h1 h2 => bits_out hn hs h1), codF_ext 6 hn (fun q h1 h2 => bits_out hn hs h1), cod_dig hp n c0 (by rw [cnt_n n hn s hs]; exact hc0), cod_dig hp n c (by rw [cnt_n n hn s hs]; exact k1)] at lex
    have : numF s (digF s pcr n c0) 6 ≤ numF s (digF s pcr n c) 6 := by
      by_cases e : c0 = c
      · exact Nat.le_of_eq (lex.2 e)
      · exact Nat.le_of_lt (lex.1 (by omega))
    clear hbest k2 h0 hx hmin lex hlt
    subst d1
    omega
theorem Att_cg {lw n : Nat} {A A' : Nat → Int32} {F F' I I' K K' : Nat → Int} {pcr : Nat} {w : Nat → Nat → Nat} (hA : ∀ s, eld A s n = eld A' s n) (hF : ∀ i, i < pcr → F i = F' i) (hI : ∀ p, p < n → I p = I' p ∧ K p = K' p) : ∀ d s L tk c, Att lw n A F I K pcr w d s L tk c → Att lw n A' F' I' K' pcr w d s L tk c := by
  intro d
  induction d with
  | zero => intro s L tk c h; exact h
  | succ d ih =>
    intro s L tk c h
    rw [Att] at h ⊢
    rw [← hA]
    cases he : eld A s n with
    | none => rw [he] at h; exact h
    | some p =>
      rw [he] at h
      have hp := (eld_lt _ _ he).1
      obtain ⟨i, c', i1, i2, i3, i4, i5⟩ := h
      obtain ⟨e1, e2⟩ := hI p hp
      have eb : bndP F' I' L p i = bndP F I L p i := by unfold bndP; rw [hF i i1, e1]
      have en : nxtP lw F' I' L p i = nxtP lw F I L p i := by unfold nxtP; rw [hF i i1, e1]
      exact ⟨i, c', i1, i2, by rw [eb, ← e2]; exact i3, by rw [en]; exact ih _ _ _ _ i4, by rw [eb]; exact i5⟩
theorem R.bd3 {k n : Nat} {pc : Nat → Nat} {b : Nat} {st : St} (h : R k n pc b st) : Bd3 k n pc st := by
  obtain ⟨hc, hm, hF, hFb, hK, -⟩ := h.house
  obtain ⟨-, -, -, hI, -⟩ := h.scene
  refine ⟨fun r hr i hi => ?_, fun p hp => ?_⟩
  · unfold FF; rw [hF r hr i hi]; exact hFb r hr i hi
  · have h1 : 20 ≤ (st.1 14 p).toInt ∧ (st.1 14 p).toInt ≤ 90 := hI p hp
    have h2 := hK p hp
    unfold II KK
    rw [h2.1]
    exact ⟨h1.1, h1.2, h2.2.1, h2.2.2⟩
/-- class and reference choose among the same -/
theorem R.att {k n : Nat} {pc : Nat → Nat} {b : Nat} {st : St} (h : R k n pc b st) {lw r : Nat} (hr : r < k) {w : Nat → Nat → Nat} (d s : Nat) (L : Option Int) (tk c : Nat) : Att lw n (st.1 13) (FF st r) (II st) (KK st) (pc r) w d s L tk c ↔ Att lw n (st.1 67) (FFm st r) (IIm st) (KKm st) (pc r) w d s L tk c := by
  obtain ⟨hc, hm, hF, hFb, hK, -⟩ := h.house
  obtain ⟨hA, -⟩ := h.scene
  have eA : ∀ s, eld (st.1 13) s n = eld (st.1 67) s n := fun s => eld_AB (fun q hq => (hA.1 q hq).2.2.1) s
  have eF : ∀ i, i < pc r → FF st r i = FFm st r i := fun i hi => by unfold FF FFm; rw [hF r hr i hi]
  have eI : ∀ p, p < n → II st p = IIm st p ∧ KK st p = KKm st p := fun p hp => ⟨congrArg Int32.toInt (hA.1 p hp).2.2.2.1, congrArg Int32.toInt (hK p hp).1⟩
  exact ⟨Att_cg eA eF eI d s L tk c, Att_cg (fun s => (eA s).symm) (fun i hi => (eF i hi).symm) (fun p hp => ⟨(eI p hp).1.symm, (eI p hp).2.symm⟩) d s L tk c⟩
theorem dig_of {s : Nat} {a : Nat → Nat} (h : ∀ q, q < 6 → s.testBit q = true → a q < 8) {m x p : Nat} (hp : p < 6) (hb : s.testBit p = true) (hx : x = m * 262144 + numF s a 6) : x / 2 ^ (3 * (5 - p)) % 2 ^ 3 = a p := by
  have hd : ∀ q, q < 6 → (if s.testBit q = true then a q else 0) < 8 := fun q hq => by
    split
    · exact h q hq (by assumption)
    · omega
  have e0 := hd 0 (by omega)
  have e1 := hd 1 (by omega)
  have e2 := hd 2 (by omega)
  have e3 := hd 3 (by omega)
  have e4 := hd 4 (by omega)
  have e5 := hd 5 (by omega)
  have hap : a p = (if s.testBit p = true then a p else 0) := (if_pos hb).symm
  rw [hap, hx]
  simp only [numF]
  clear hx hap hd h
  generalize e : (if s.testBit p = true then a p else 0) = y
  rcases (show p = 0 ∨ p = 1 ∨ p = 2 ∨ p = 3 ∨ p = 4 ∨ p = 5 by omega) with rfl | rfl | rfl | rfl | rfl | rfl <;> (simp only [Nat.reduceSub, Nat.reduceMul, Nat.reducePow]; omega)
theorem shr_p : ∀ p, p < 6 → (((3 * (5 - nI p)) &&& 31).toBitVec.smod 32).toNat = 3 * (5 - p) := by decide +kernel
theorem P_placeOf {x p : Nat} {S : St} (hx : x < 2 ^ 31) (hp : p < 6) (e : S.1 33 10 = nI x) : F_X4_placeOf (nI p) S = some (nI (x / 2 ^ (3 * (5 - p)) % 2 ^ 3), S) := by
  rw [F_X4_placeOf, F_X4_placeOf_0, F_X4_shiftOf, F_X4_shiftOf_0, obs]
  dsimp only
  rw [e, pk_shrN hx _ _ (shr_p p hp), pk_andN (Nat.lt_of_le_of_lt (Nat.div_le_self _ _) (by omega)) 3 (by decide)]
theorem P_leastSum {x : Nat} {S : St} (hx : x < 2 ^ 31) (e : S.1 33 10 = nI x) : F_X4_leastSum S = some (nI (x / 262144), S) := by
  rw [F_X4_leastSum, F_X4_leastSum_0, e, pk_shrN hx _ 18 (by decide)]

/-! PURE: the reference tries all codes -/
def FFm (S : St) (r : Nat) : Nat → Int := fun i => (S.1 61 (r * 6 + i)).toInt
def IIm (S : St) : Nat → Int := fun p => (S.1 68 p).toInt
def KKm (S : St) : Nat → Int := fun p => (S.1 64 p).toInt
def InjS (n s : Nat) (a : Nat → Nat) : Prop := ∀ p q, p < n → q < n → s.testBit p = true → s.testBit q = true → a p = a q → p = q
theorem M_isParty {k n : Nat} {pc : Nat → Nat} {S : St} (h : HM k n pc S) {r s c : Nat} (hr : r < k) (hs : s < 2 ^ n) (hcc : c < 2 ^ 31) : ∃ f g, F_X8_isParty (nI r) (nI s) (nI c) S = some (g, sA S 82 f) ∧ (∀ q, q < n → s.testBit q = true → f q = nI (digF s (pc r) n c q)) ∧ (g = 0 ∨ g = 1) ∧ (g = 1 ↔ InjS n s (digF s (pc r) n c)) := by
  have hn := h.2.1
  have hpc := h.2.2.2.2 r hr
  have hs64 := (bits_n n hn s hs).1
  have g3 : ∀ {α : Type} {x : Option α}, gi (nI r) 3 x = x := gi_in (by have := h.1; omega) (by decide)
  have c3 : (nI r).toNatClampNeg = r := clN (by have := h.1; omega)
  have gz' : ∀ {α : Type} {x : Option α}, gz (nI (pc r)) x = x := by
    intro α x
    rw [gz, if_neg (nI_ne0 (by omega) (by omega))]
  have e60 : ∀ f, (sA S 82 f).1 60 r = nI (pc r) := fun f => by rw [sA_off (by omega)]; exact hpc.1
  have q := downn (n := n) (P := fun N j => ∀ c tk (good : Int32) f, c < 2 ^ 31 → tk < 64 → (good = 0 ∨ good = 1) → ∃ f' g', F_X8_isParty_17 N (nI r) (nI s) (nI c) (nI tk) good (nI j - 1) (sA S 82 f) = some (g', sA S 82 f') ∧ (∀ q, q < j → s.testBit q = true → f' q = nI (digF s (pc r) j c q)) ∧ (∀ q, j ≤ q → f' q = f q) ∧ (g' = 0 ∨ g' = 1) ∧ (g' = 1 ↔ good = 1 ∧ (∀ q, q < j → s.testBit q = true → tk.testBit (digF s (pc r) j c q) = false) ∧ InjS j s (digF s (pc r) j c)))
    (fun N c tk good f hcc htk hg => by
      refine ⟨f, good, ?_, fun q hq => by omega, fun _ _ => rfl, hg, ⟨fun e => ⟨e, fun q hq => by omega, fun p q hp => by omega⟩, fun e => e.1⟩⟩
      rw [F_X8_isParty_17, if_pos (by decide), gb, if_pos hg])
    (fun N j hj ih c tk good f hcc htk hg => by
      have hj6 : j < 6 := by omega
      have e2 : nI j + (-1) = nI j - 1 := by rw [Int32.sub_eq_add_neg]
      rw [nI_pred, F_X8_isParty_17, if_neg (nI_pos (by omega)), M_has hs64 hj6, obs]
      dsimp only
      cases hb : s.testBit j with
      | false =>
        rw [if_neg (show ¬ (false = true) by decide), if_pos rfl, F_X8_isParty_99, e2]
        obtain ⟨f', g', z1, z2, z3, z4, z5⟩ := ih c tk good f hcc htk hg
        have ed : ∀ q, digF s (pc r) (j + 1) c q = digF s (pc r) j c q := fun q => by rw [digF, if_neg (by rw [hb]; decide)]
        have lt : ∀ q, q < j + 1 → s.testBit q = true → q < j := fun q hq hbq => by
          by_cases d : q = j
          · subst d; rw [hb] at hbq; cases hbq
          · omega
        refine ⟨f', g', z1, fun q hq hbq => ?_, fun q hq => z3 q (by omega), z4, z5.trans ⟨fun ⟨a1, a2, a3⟩ => ⟨a1, fun q hq hbq => ?_, fun p q hp hq hbp hbq e => ?_⟩, fun ⟨a1, a2, a3⟩ => ⟨a1, fun q hq hbq => ?_, fun p q hp hq hbp hbq e => ?_⟩⟩⟩
        · rw [ed]; exact z2 q (lt q hq hbq) hbq
        · rw [ed]; exact a2 q (lt q hq hbq) hbq
        · rw [ed, ed] at e; exact a3 p q (lt p hp hbp) (lt q hq hbq) hbp hbq e
        · have := a2 q (by omega) hbq; rw [ed] at this; exact this
        · exact a3 p q (by omega) (by omega) hbp hbq (by rw [ed, ed]; exact e)
      | true =>
        have hx : c % pc r < 6 := by have := Nat.mod_lt c (show 0 < pc r by omega); omega
        rw [if_pos (show true = true from rfl), if_neg (show ¬ (1 : Int32) = 0 by decide), g3, c3, e60, gz', g6 hj6, c6 hj6, bse, g3, sV_sA, e60, gz', pk_rem hcc (by omega) (by omega), pk_div hcc (by omega) (by omega), sA_at, upd_at]
        have ed0 : digF s (pc r) (j + 1) c j = c % pc r := by rw [digF, if_pos hb, if_pos rfl]
        have ed : ∀ q, q < j → digF s (pc r) (j + 1) c q = digF s (pc r) j (c / pc r) q := fun q hq => by rw [digF, if_pos hb, if_neg (by omega)]
        have fin : ∀ t0 : Int32, (t0 = 0 ∨ t0 = 1) → (t0 = 1 ↔ good = 1 ∧ tk.testBit (c % pc r) = false) → ∃ f' g', F_X8_isParty_83 (F_X8_isParty_17 N) (nI r) (nI s) (nI (c / pc r)) (nI tk) (nI j) t0 (sA S 82 (upd f j (nI (c % pc r)))) = some (g', sA S 82 f') ∧ (∀ q, q < j + 1 → s.testBit q = true → f' q = nI (digF s (pc r) (j + 1) c q)) ∧ (∀ q, j + 1 ≤ q → f' q = f q) ∧ (g' = 0 ∨ g' = 1) ∧ (g' = 1 ↔ good = 1 ∧ (∀ q, q < j + 1 → s.testBit q = true → tk.testBit (digF s (pc r) (j + 1) c q) = false) ∧ InjS (j + 1) s (digF s (pc r) (j + 1) c)) := by
          intro t0 ht0 hiff
          rw [F_X8_isParty_83, g6 hj6, c6 hj6, sA_at, upd_at, F_X8_isParty_99, e2, orN htk hx]
          obtain ⟨f', g', z1, z2, z3, z4, z5⟩ := ih (c / pc r) (tk ||| 2 ^ (c % pc r)) t0 (upd f j (nI (c % pc r))) (Nat.lt_of_le_of_lt (Nat.div_le_self _ _) hcc) (or_lt htk hx) ht0
          refine ⟨f', g', z1, fun q hq hbq => ?_, fun q hq => by rw [z3 q (by omega), upd_off (by omega)], z4, z5.trans ?_⟩
          · by_cases d : q = j
            · subst d; rw [z3 q (by omega), upd_at, ed0]
            · rw [ed q (by omega)]; exact z2 q (by omega) hbq
          · rw [hiff]
            constructor
            · rintro ⟨⟨a1, a2⟩, a3, a4⟩
              have a3' : ∀ q, q < j → s.testBit q = true → tk.testBit (digF s (pc r) j (c / pc r) q) = false ∧ c % pc r ≠ digF s (pc r) j (c / pc r) q := fun q hq hbq => by
                have := a3 q hq hbq
                rw [tb_or] at this
                simp at this
                exact this
              refine ⟨a1, fun q hq hbq => ?_, fun p q hp hq hbp hbq e => ?_⟩
              · by_cases d : q = j
                · subst d; rw [ed0]; exact a2
                · rw [ed q (by omega)]; exact (a3' q (by omega) hbq).1
              · by_cases dp : p = j
                · by_cases dq : q = j
                  · rw [dp, dq]
                  · rw [dp, ed0, ed q (by omega)] at e
                    exact absurd e (a3' q (by omega) hbq).2
                · by_cases dq : q = j
                  · rw [dq, ed0, ed p (by omega)] at e
                    exact absurd e.symm (a3' p (by omega) hbp).2
                  · rw [ed p (by omega), ed q (by omega)] at e
                    exact a4 p q (by omega) (by omega) hbp hbq e
            · rintro ⟨a1, a2, a3⟩
              refine ⟨⟨a1, ?_⟩, fun q hq hbq => ?_, fun p q hp hq hbp hbq e => ?_⟩
              · have := a2 j (by omega) hb; rw [ed0] at this; exact this
              · have h1 := a2 q (by omega) hbq
                rw [ed q hq] at h1
                rw [tb_or, h1]
                simp
                intro e
                have := a3 j q (by omega) (by omega) hb hbq (by rw [ed0, ed q hq]; exact e)
                omega
              · exact a3 p q (by omega) (by omega) hbp hbq (by rw [ed p hp, ed q hq]; exact e)
        rcases hg with rfl | rfl
        · rw [if_pos rfl, F_X8_isParty_82]
          exact fin 0 (Or.inl rfl) ⟨fun e => absurd e (by decide), fun e => absurd e.1 (by decide)⟩
        · rw [if_neg (by decide), g6 hj6, M_has htk hx, obs]
          dsimp only
          cases hbx : tk.testBit (c % pc r) with
          | false =>
            rw [if_neg (show ¬ (false = true) by decide), if_pos rfl]
            exact fin 1 (Or.inr rfl) ⟨fun _ => ⟨rfl, hbx⟩, fun _ => rfl⟩
          | true =>
            rw [if_pos (show true = true from rfl), if_neg (by decide), F_X8_isParty_82]
            exact fin 0 (Or.inl rfl) ⟨fun e => absurd e (by decide), fun e => by rw [hbx] at e; exact absurd e.2 (by decide)⟩) fN n (Nat.le_refl _) (by have := fN_big; omega) c 0 1 (S.1 82) hcc (by omega) (Or.inr rfl)
  obtain ⟨f', g', z1, z2, z3, z4, z5⟩ := q
  rw [sA_id] at z1
  refine ⟨f', g', ?_, z2, z4, z5.trans ⟨fun e => e.2.2, fun e => ⟨rfl, fun q _ _ => by simp, e⟩⟩⟩
  rw [F_X8_isParty, F_X8_isParty_0, h.2.2.2.1]
  exact z1
theorem M_bowsOf {k n : Nat} {pc : Nat → Nat} {S : St} (h : HM k n pc S) {s : Nat} (hs : s < 2 ^ n) {β : Nat → Nat} (hβ : ∀ p, p < n → s.testBit p = true → S.1 81 p = nI (β p)) : F_X8_bowsOf (nI s) S = some (nI (sumS (fun p => if s.testBit p = true then β p else 0) n), S) := by
  have hn := h.2.1
  have hs64 := (bits_n n hn s hs).1
  have q := upn (n := n) (P := fun N j => F_X8_bowsOf_4 N (nI s) (nI (sumS (fun p => if s.testBit p = true then β p else 0) j)) (nI j) S = some (nI (sumS (fun p => if s.testBit p = true then β p else 0) n), S))
    (fun N => by rw [F_X8_bowsOf_4, h.2.2.2.1, if_pos (by rw [leN (by omega) (by omega)]; omega)])
    (fun N j hj ih => by
      have hj6 : j < 6 := by omega
      rw [sumS] at ih
      rw [F_X8_bowsOf_4, h.2.2.2.1, if_neg (nI_ge hj (by omega)), M_has hs64 hj6, obs]
      dsimp only
      cases hb : s.testBit j with
      | false =>
        rw [if_neg (show ¬ (false = true) by decide), if_pos rfl, F_X8_bowsOf_31, nI_1, Int32.add_zero]
        rw [if_neg (by rw [hb]; decide), Nat.add_zero] at ih
        exact ih
      | true =>
        rw [if_pos (show true = true from rfl), if_neg (by decide), g6 hj6, c6 hj6, hβ j hj hb, F_X8_bowsOf_31, nI_1, nI_add]
        rw [if_pos hb] at ih
        exact ih) fN 0 (by omega) (fN0 (by omega))
  exact q
def E77 (k56 : Int32 → Int32 → Int32 → Int32 → Int32 → St → Option (Int32 × St)) (v1 v2 v4 v5 v6 : Int32) (st : St) : Option (Int32 × St) := (F_X8_bowAll v2 st).bind (fun q10 => if q10.1 = 0 then (F_X8_bowsOf v2 q10.2).bind (fun q12 => F_X8_partyOf_145 k56 v1 v2 v4 v5 v6 q12.1 q12.2) else F_X8_partyOf_145 k56 v1 v2 v4 v5 v6 1000000 q10.2)
theorem M_77 {k n : Nat} {pc : Nat → Nat} {S : St} (h : HM k n pc S) {r s : Nat} (hr : r < k) (hs : s < 2 ^ n) {a : Nat → Nat} (ha : ∀ p, p < n → s.testBit p = true → S.1 82 p = nI (a p) ∧ a p < pc r) (k56 : Int32 → Int32 → Int32 → Int32 → Int32 → St → Option (Int32 × St)) (v4 v5 v6 : Int32) : ∃ f : Nat → Int32, (∀ p, p < n → s.testBit p = true → f p = S.1 61 (r * 6 + a p) + S.1 68 p) ∧ F_X8_partyOf_77 k56 fN (nI r) (nI s) v4 v5 v6 0 S = E77 k56 (nI r) (nI s) v4 v5 v6 (sA S 80 f) := by
  have hn := h.2.1
  have hs64 := (bits_n n hn s hs).1
  have q := upn (n := n) (P := fun N j => ∀ f : Nat → Int32, (∀ p, p < j → s.testBit p = true → f p = S.1 61 (r * 6 + a p) + S.1 68 p) → ∃ f' : Nat → Int32, (∀ p, p < n → s.testBit p = true → f' p = S.1 61 (r * 6 + a p) + S.1 68 p) ∧ F_X8_partyOf_77 k56 N (nI r) (nI s) v4 v5 v6 (nI j) (sA S 80 f) = E77 k56 (nI r) (nI s) v4 v5 v6 (sA S 80 f'))
    (fun N f hf => ⟨f, hf, by rw [F_X8_partyOf_77, sA_off (show 59 ≠ 80 by omega), h.2.2.2.1, if_pos (by rw [leN (by omega) (by omega)]; omega)]; rfl⟩)
    (fun N j hj ih f hf => by
      have hj6 : j < 6 := by omega
      rw [F_X8_partyOf_77, sA_off (show 59 ≠ 80 by omega), h.2.2.2.1, if_neg (nI_ge hj (by omega)), M_has hs64 hj6, obs]
      dsimp only
      cases hb : s.testBit j with
      | false =>
        rw [if_neg (show ¬ (false = true) by decide), if_pos rfl, F_X8_partyOf_119, g6 hj6, c6 hj6, bse, sV_sA, nI_1]
        exact ih _ (fun p hp hbp => by
          by_cases c : p = j
          · subst c; rw [hb] at hbp; cases hbp
          · rw [upd_off c]; exact hf p (by omega) hbp)
      | true =>
        obtain ⟨a1, a2⟩ := ha j hj hb
        have ht := M_tallAt (HM_sA h (show 61 ≤ 80 by omega) f) hj6 hr a2
        rw [sA_off (show 61 ≠ 80 by omega), sA_off (show 68 ≠ 80 by omega)] at ht
        rw [if_pos (show true = true from rfl), if_neg (by decide), g6 hj6, c6 hj6, sA_off (show 82 ≠ 80 by omega), a1, ht, obs]
        dsimp only
        rw [F_X8_partyOf_119, g6 hj6, c6 hj6, bse, sV_sA, nI_1]
        exact ih _ (fun p hp hbp => by
          by_cases c : p = j
          · subst c; rw [upd_at]
          · rw [upd_off c]; exact hf p (by omega) hbp)) fN 0 (by omega) (fN0 (by omega)) (S.1 80) (fun p hp => by omega)
  rw [sA_id] at q
  exact q
theorem M_161 (k56 : Int32 → Int32 → Int32 → Int32 → Int32 → St → Option (Int32 × St)) (v1 v2 v4 v5 v6 : Int32) (S : St) : ∃ s, F_X8_partyOf_161 k56 fN v1 v2 v4 v5 v6 0 S = F_X8_partyOf_188 k56 v1 v2 v4 v5 v6 s ∧ CpI S 82 83 6 s := by
  refine loop_gen (F := fun N j s => F_X8_partyOf_161 k56 N v1 v2 v4 v5 v6 j s) (E := F_X8_partyOf_188 k56 v1 v2 v4 v5 v6) (by omega) (CpI S 82 83) (fun N s => by rw [F_X8_partyOf_161, if_pos (by decide)]) (fun N j s hj h => ⟨_, ?_, CpI_s (by omega) h⟩) S (CpI_0 _ _ _)
  rw [F_X8_partyOf_161, if_neg (by rw [f6 hj]; exact not_false), g6 hj, g6 hj, c6 hj, bse, nI_1]
/-- a code that can be, and what it costs -/
def Vc (lw n : Nat) (A : Nat → Int32) (F I K : Nat → Int) (s pcr c m : Nat) : Prop := InjS n s (digF s pcr n c) ∧ cstA lw n A F I K (digF s pcr n c) 6 s none = some m
theorem cst_le {lw n : Nat} {A : Nat → Int32} {F I K : Nat → Int} {a : Nat → Nat} (hK : ∀ p, p < n → K p ≤ 40) : ∀ d s L m, cstA lw n A F I K a d s L = some m → m ≤ 40 * d := by
  intro d
  induction d with
  | zero => intro s L m h; rw [cstA] at h; cases h; omega
  | succ d ih =>
    intro s L m h
    rw [cstA] at h
    cases he : eld A s n with
    | none => rw [he] at h; cases h; omega
    | some p =>
      rw [he] at h
      have hp := (eld_lt _ _ he).1
      have := hK p hp
      dsimp only at h
      by_cases c : bndP F I L p (a p) ≤ K p
      · rw [if_pos c] at h
        cases hm : cstA lw n A F I K a d (rmb s p) (some (nxtP lw F I L p (a p))) with
        | none => rw [hm] at h; cases h
        | some m' =>
          rw [hm] at h
          have e : m' + (bndP F I L p (a p)).toNat = m := Option.some.inj h
          have := ih _ _ _ hm
          omega
      · rw [if_neg c] at h; cases h
theorem M_code1 {k n : Nat} {pc : Nat → Nat} {S : St} (h : HM k n pc S) {r s lw : Nat} (hr : r < k) (hs : s < 2 ^ n) (hl : S.1 59 10 = nI lw) (hlw : lw ≤ 1) (hB : BdM k n pc (S.1 61) (S.1 64) (vM S)) {c cs : Nat} {ls : Int32} (hc : c < cs) (hcs : cs < 2 ^ 31) (hls : ls ≤ 1000000) (N : Nat) : ∃ st', (∀ x, x < 80 ∨ 83 < x → st'.1 x = S.1 x) ∧ ((∃ m, Vc lw n (S.1 67) (FFm S r) (IIm S) (KKm S) s (pc r) c m ∧ m ≤ 240 ∧ ¬ ls ≤ nI m ∧ F_X8_partyOf_56 (N + 1) (nI r) (nI s) (nI cs) ls (nI c) S = F_X8_partyOf_56 N (nI r) (nI s) (nI cs) (nI m) (nI (c + 1)) st' ∧ ∀ q, q < n → s.testBit q = true → st'.1 83 q = nI (digF s (pc r) n c q)) ∨ ((∀ m, Vc lw n (S.1 67) (FFm S r) (IIm S) (KKm S) s (pc r) c m → ls ≤ nI m) ∧ F_X8_partyOf_56 (N + 1) (nI r) (nI s) (nI cs) ls (nI c) S = F_X8_partyOf_56 N (nI r) (nI s) (nI cs) ls (nI (c + 1)) st' ∧ st'.1 83 = S.1 83)) := by
  have hn := h.2.1
  have hk := h.1
  have hpc := h.2.2.2.2 r hr
  have hs64 := (bits_n n hn s hs).1
  obtain ⟨f, g, z1, z2, z3, z4⟩ := M_isParty h hr hs (show c < 2 ^ 31 by omega)
  rw [F_X8_partyOf_56, if_neg (nI_ge hc (by omega)), z1, obs]
  dsimp only
  rcases z3 with rfl | rfl
  · rw [if_pos rfl, F_X8_partyOf_188, nI_1]
    exact ⟨sA S 82 f, fun x hx => sA_off (by omega), Or.inr ⟨fun m hm => absurd (z4.mpr hm.1) (by decide), rfl, sA_off (by omega)⟩⟩
  · have hinj := z4.mp rfl
    rw [if_neg (by decide)]
    have hU : HM k n pc (sA S 82 f) := HM_sA h (by omega) f
    obtain ⟨T, t1, t2⟩ := M_77 hU hr hs (a := digF s (pc r) n c) (fun p hp hb => ⟨by rw [sA_at]; exact z2 p hp hb, digF_lt (by omega) _ _ _⟩) (F_X8_partyOf_56 N) (nI cs) ls (nI c)
    rw [sA_off (show 61 ≠ 82 by omega), sA_off (show 68 ≠ 82 by omega)] at t1
    rw [t2, E77]
    obtain ⟨U, hUd⟩ : ∃ U, U = sA (sA S 82 f) 80 T := ⟨_, rfl⟩
    have eU : ∀ x, x ≠ 80 → x ≠ 82 → U.1 x = S.1 x := fun x h1 h2 => by rw [hUd, sA_off h1, sA_off h2]
    have e80 : U.1 80 = T := by rw [hUd, sA_at]
    have e82 : U.1 82 = f := by rw [hUd, sA_off (by omega), sA_at]
    have hHU : HM k n pc U := by rw [hUd]; exact HM_sA hU (by omega) T
    have hTb : ∀ p, p < n → s.testBit p = true → (T p).toInt = FFm S r (digF s (pc r) n c p) + IIm S p ∧ 0 ≤ FFm S r (digF s (pc r) n c p) + IIm S p ∧ FFm S r (digF s (pc r) n c p) + IIm S p ≤ 1000 := by
      intro p hp hb
      have b1 := hB.1 r hr _ (digF_lt (s := s) (show 0 < pc r by omega) n c p)
      have b2 := hB.2.1 p hp
      have b2' : 20 ≤ (S.1 68 p).toInt ∧ (S.1 68 p).toInt ≤ 90 := b2
      rw [t1 p hp hb, tadd (by omega) (by omega)]
      unfold FFm IIm
      exact ⟨rfl, by omega, by omega⟩
    have qb := M_bowAll hHU (s := s) (lw := lw) (by rw [eU 59 (by omega) (by omega)]; exact hl) hlw hs64 (fun q h1 _ => bits_out hn hs h1) (by
      rw [e80]
      intro p hp hb
      have := hTb p hp hb
      omega) (by
      rw [eU 64 (by omega) (by omega)]
      intro p hp
      have := hB.2.2 p hp
      omega)
    rw [e80, eU 67 (by omega) (by omega), eU 64 (by omega) (by omega)] at qb
    rw [← hUd, qb, obs]
    dsimp only
    obtain ⟨bw, hbw⟩ : ∃ bw, bw = bwS lw (S.1 67) T (S.1 64) n 6 s none (U.1 81) 0 := ⟨_, rfl⟩
    rw [← hbw]
    have hlt : bw.1 < 64 := by rw [hbw]; exact bwS_lt hn _ _ _ _ _ (by omega)
    obtain ⟨B1, B2⟩ := bw_cst (lw := lw) (n := n) (A := S.1 67) (T := T) (K32 := S.1 64) (F := FFm S r) (I := IIm S) (K := KKm S) (a := digF s (pc r) n c) hn (fun p hp => ⟨rfl, (hB.2.2 p hp).1, by have := (hB.2.2 p hp).2; unfold KKm; omega⟩) 6 s none none (U.1 81) hs64 (@pop_le s) (fun q h1 _ => bits_out hn hs h1) hTb (Or.inl ⟨rfl, rfl⟩)
    rw [← hbw] at B1 B2
    have eW : ∀ x, x < 80 ∨ 83 < x → (sA U 81 bw.2).1 x = S.1 x := fun x hx => by rw [sA_off (by omega), eU x (by omega) (by omega)]
    cases hcst : cstA lw n (S.1 67) (FFm S r) (IIm S) (KKm S) (digF s (pc r) n c) 6 s none with
    | none =>
      have := B2 hcst
      rw [if_neg (nI_ne0 (by omega) (by omega)), F_X8_partyOf_145, if_pos hls, F_X8_partyOf_188, nI_1]
      exact ⟨sA U 81 bw.2, eW, Or.inr ⟨fun m hm => absurd (hcst.symm.trans hm.2) (fun z => by cases z), rfl, by rw [sA_off (by omega), eU 83 (by omega) (by omega)]⟩⟩
    | some m =>
      obtain ⟨b1, b2, b3⟩ := B1 m hcst
      have hm240 := cst_le (fun p hp => by have := (hB.2.2 p hp).2; unfold KKm; exact this) 6 s none m hcst
      have qs := M_bowsOf (HM_sA hHU (show 61 ≤ 81 by omega) bw.2) hs (β := fun p => (bw.2 p).toInt.toNat) (fun p hp hb => by
        have := b2 p (by omega) hb
        rw [sA_at]
        exact nI_eqI (by omega) (by omega))
      have hext : sumS (fun p => if s.testBit p = true then (bw.2 p).toInt.toNat else 0) n = m := by
        rw [← b3]
        have key : ∀ m', n ≤ m' → m' ≤ 6 → sumS (fun p => if s.testBit p = true then (bw.2 p).toInt.toNat else 0) m' = sumS (fun p => if s.testBit p = true then (bw.2 p).toInt.toNat else 0) n := by
          intro m'
          induction m' with
          | zero => intro h1 _; have : n = 0 := by omega
                    rw [this]
          | succ m' ih =>
            intro h1 h2
            by_cases e : n = m' + 1
            · rw [e]
            · rw [sumS, ih (by omega) (by omega), if_neg (by rw [bits_out hn hs (show n ≤ m' by omega)]; decide), Nat.add_zero]
        exact (key 6 hn (by omega)).symm
      rw [hext] at qs
      rw [b1, if_pos nI_0, qs, obs]
      dsimp only
      rw [F_X8_partyOf_145]
      by_cases cl : ls ≤ nI m
      · rw [if_pos cl, F_X8_partyOf_188, nI_1]
        refine ⟨sA U 81 bw.2, eW, Or.inr ⟨fun m' hm => ?_, rfl, by rw [sA_off (by omega), eU 83 (by omega) (by omega)]⟩⟩
        have : m' = m := by have := hm.2; rw [hcst] at this; exact (Option.some.inj this).symm
        rw [this]; exact cl
      · rw [if_neg cl]
        obtain ⟨st', y1, y2, y3⟩ := M_161 (F_X8_partyOf_56 N) (nI r) (nI s) (nI cs) (nI m) (nI c) (sA U 81 bw.2)
        rw [y1, F_X8_partyOf_188, nI_1]
        refine ⟨st', fun x hx => by rw [y2 x (by omega)]; exact eW x hx, Or.inl ⟨m, ⟨hinj, hcst⟩, by omega, cl, rfl, fun q hq hb => ?_⟩⟩
        rw [y3 q (by omega), sA_off (by omega), e82]
        exact z2 q hq hb

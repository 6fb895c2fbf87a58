/-! PURE: suspects, heels -/
def agV (v : Vw) (p : Nat) (x : Int32) : Vw := (v.1, v.2.1, v.2.2.1, upd v.2.2.2.1 p x, v.2.2.2.2)
def icV (v : Vw) (p : Nat) (x : Int32) : Vw := (v.1, v.2.1, v.2.2.1, v.2.2.2.1, upd v.2.2.2.2 p x)
theorem upd_upd (f : Nat → Int32) (k : Nat) (x y : Int32) : upd (upd f k x) k y = upd f k y := by
  funext j
  by_cases c : j = k
  · subst c; rw [upd_at, upd_at]
  · rw [upd_off c, upd_off c, upd_off c]
theorem agV_agV (v : Vw) (p : Nat) (x y : Int32) : agV (agV v p x) p y = agV v p y := by simp only [agV, upd_upd]
theorem agV_self (v : Vw) (p : Nat) : agV v p (v.2.2.2.1 p) = v := by simp only [agV, upd_self]
theorem icV_icV (v : Vw) (p : Nat) (x y : Int32) : icV (icV v p x) p y = icV v p y := by simp only [icV, upd_upd]
theorem icV_self (v : Vw) (p : Nat) : icV v p (v.2.2.2.2 p) = v := by simp only [icV, upd_self]
theorem agV_set (u : Vw) (S : St) (p : Nat) (x : Int32) : sV (setV 16 u S) 20 p x = setV 16 (agV u p x) S := by
  unfold sV
  rw [show (setV 16 u S).1 20 = u.2.2.2.1 from setV_at4 16 _ _]
  exact sA_V4 16 _ _ _
theorem icV_set (u : Vw) (S : St) (p : Nat) (x : Int32) : sV (setV 16 u S) 21 p x = setV 16 (icV u p x) S := by
  unfold sV
  rw [show (setV 16 u S).1 21 = u.2.2.2.2 from setV_at5 16 _ _]
  exact sA_V5 16 _ _ _
theorem agV_setM (u : Vw) (S : St) (p : Nat) (x : Int32) : sV (setM u S) 67 p x = setM (agV u p x) S := by
  unfold sV
  rw [setM_67, sA_M67]
  rfl
theorem icV_setM (u : Vw) (S : St) (p : Nat) (x : Int32) : sV (setM u S) 68 p x = setM (icV u p x) S := by
  unfold sV
  rw [setM_68, sA_M68]
  rfl
theorem Ag_agV {n : Nat} {v w : Vw} (h : Ag n v w) (p : Nat) (x : Int32) : Ag n (agV v p x) (agV w p x) := by
  refine ⟨fun q hq => ?_, h.2⟩
  obtain ⟨a1, a2, a3, a4, a5⟩ := h.1 q hq
  refine ⟨a1, a2, ?_, a4, a5⟩
  show upd v.2.2.2.1 p x q = upd w.2.2.2.1 p x q
  by_cases c : q = p
  · subst c; rw [upd_at, upd_at]
  · rw [upd_off c, upd_off c]; exact a3
theorem Ag_icV {n : Nat} {v w : Vw} (h : Ag n v w) (p : Nat) (x : Int32) : Ag n (icV v p x) (icV w p x) := by
  refine ⟨fun q hq => ?_, h.2⟩
  obtain ⟨a1, a2, a3, a4, a5⟩ := h.1 q hq
  refine ⟨a1, a2, a3, ?_, a5⟩
  show upd v.2.2.2.2 p x q = upd w.2.2.2.2 p x q
  by_cases c : q = p
  · subst c; rw [upd_at, upd_at]
  · rw [upd_off c, upd_off c]; exact a4
/-- only the order of ages counts -/
theorem eld_ord {A B : Nat → Int32} {s : Nat} : ∀ n, (∀ q q', q < n → q' < n → s.testBit q = true → s.testBit q' = true → (A q ≤ A q' ↔ B q ≤ B q')) → eld A s n = eld B s n := by
  intro n
  induction n with
  | zero => intro _; rfl
  | succ n ih =>
    intro h
    have ih := ih (fun q q' h1 h2 => h q q' (by omega) (by omega))
    rw [eld, eld, ih]
    by_cases c : s.testBit n = true
    · rw [if_pos c, if_pos c]
      cases he : eld B s n with
      | none => rfl
      | some e =>
        obtain ⟨e1, e2⟩ := eld_lt n e he
        dsimp only
        by_cases d : A n ≤ A e
        · rw [if_pos d, if_pos ((h n e (by omega) (by omega) c e2).mp d)]
        · rw [if_neg d, if_neg (fun q => d ((h n e (by omega) (by omega) c e2).mpr q))]
    · rw [if_neg c, if_neg c]
theorem exS_ord {lw n : Nat} {fl : Nat → Int32} {v : Vw} {A B : Nat → Int32} {r : Int32} {p : Nat} (hn : n ≤ 6) (hp : p < n) (e : v.1 p = r) (h : ∀ q q', q < n → q' < n → v.1 q = r → v.1 q' = r → (A q ≤ A q' ↔ B q ≤ B q')) : exS lw n fl (v.1, v.2.1, v.2.2.1, A, v.2.2.2.2) r p = exS lw n fl (v.1, v.2.1, v.2.2.1, B, v.2.2.2.2) r p := by
  unfold exS
  by_cases c : lw = 1
  · rw [if_pos c, if_pos c]
    refine mxS_congr n (fun q hq => ?_) (fun q _ _ => rfl)
    dsimp only
    by_cases d : v.1 q = r
    · have hh := h q p hq hp d e
      by_cases d2 : A q ≤ A p
      · rw [decide_eq_true d2, decide_eq_true (hh.mp d2)]
      · rw [decide_eq_false d2, decide_eq_false (fun x => d2 (hh.mpr x))]
    · rw [decide_eq_false d, Bool.false_and, Bool.false_and]
  · rw [if_neg c, if_neg c]
    dsimp only
    rw [eld_ord (A := A) (B := B) n (fun q q' h1 h2 b1 b2 => by
      rw [mkS_bit _ n hn q (by omega)] at b1
      rw [mkS_bit _ n hn q' (by omega)] at b2
      simp [h1] at b1
      simp [h2] at b2
      exact h q q' h1 h2 b1 b2)]
    rfl
theorem ffS_ord {lw n : Nat} {fl : Nat → Int32} {v : Vw} {A B : Nat → Int32} {r : Int32} (hn : n ≤ 6) (h : ∀ q q', q < n → q' < n → v.1 q = r → v.1 q' = r → (A q ≤ A q' ↔ B q ≤ B q')) : ffS lw n fl (v.1, v.2.1, v.2.2.1, A, v.2.2.2.2) r = ffS lw n fl (v.1, v.2.1, v.2.2.1, B, v.2.2.2.2) r := by
  unfold ffS
  refine fstC_congr n 0 (fun q _ hq => ?_)
  dsimp only
  by_cases c : v.1 q = r
  · rw [exS_ord (A := A) (B := B) hn (by omega) c h]
  · rw [decide_eq_false c, Bool.false_and, Bool.false_and]
/-- some other AGE makes it lawful -/
def SusS (lw n : Nat) (fl : Nat → Int32) (v : Vw) (r p : Nat) : Prop := ∃ x, x < 100 ∧ (∀ q, q < n → v.1 q = nI r → v.2.2.2.1 q ≠ nI x) ∧ ffS lw n fl (agV v p (nI x)) (nI r) = none
def okC (lw n : Nat) (fl : Nat → Int32) (v : Vw) (r p O c : Nat) : Prop := c ≤ 99 ∧ (∀ q, q < 6 → O.testBit q = true → v.2.2.2.1 q ≠ nI c) ∧ ffS lw n fl (agV v p (nI c)) (nI r) = none
theorem sus_iff {k n : Nat} {pc : Nat → Nat} {v : Vw} {fl : Nat → Int32} {lw r p O : Nat} {ag : Nat → Nat} (hn : n ≤ 6) (hk : k ≤ 3) (hr : r < k) (hV : VV k n pc v) (hag : ∀ q, q < n → ag q < 2 ^ 30 ∧ v.2.2.2.1 q = nI (ag q)) (hO : ∀ q, q < 6 → (O.testBit q = true ↔ q ≠ p ∧ v.1 q = nI r)) (hp : p < n) (ep : v.1 p = nI r) (hf : ¬ ffS lw n fl v (nI r) = none) : (okC lw n fl v r p O 0 ∨ ∃ q, q < n ∧ O.testBit q = true ∧ okC lw n fl v r p O (ag q + 1)) ↔ SusS lw n fl v r p := by
  have hin : ∀ q, q < 6 → v.1 q = nI r → q < n := fun q hq e => (hV.at hk hn hq hr e).1
  have key : ∀ c, okC lw n fl v r p O c → SusS lw n fl v r p := by
    intro c ⟨c1, c2, c3⟩
    refine ⟨c, by omega, fun q hq e => ?_, c3⟩
    by_cases d : q = p
    · subst d
      intro x
      rw [← x, agV_self] at c3
      exact hf c3
    · exact c2 q (by omega) ((hO q (by omega)).mpr ⟨d, e⟩)
  constructor
  · rintro (h | ⟨q, _, _, h⟩)
    · exact key _ h
    · exact key _ h
  · rintro ⟨x, hx, x1, x2⟩
    obtain ⟨c, hc, hmin⟩ := pk_least (fun c => ∀ q, q < 6 → O.testBit q = true → ¬ (c ≤ ag q ∧ ag q < x)) ⟨x, fun q _ _ h => by omega⟩
    have hcx : c ≤ x := by
      by_cases d : c ≤ x
      · exact d
      · exact absurd (fun q _ _ h => by omega) (hmin x (by omega))
    have hax : ∀ q, q < 6 → O.testBit q = true → ag q ≠ x := by
      intro q hq b e
      obtain ⟨b1, b2⟩ := (hO q hq).mp b
      have hqn := hin q hq b2
      exact x1 q hqn b2 (by rw [(hag q hqn).2, e])
    have ok : okC lw n fl v r p O c := by
      refine ⟨by omega, fun q hq b e => ?_, ?_⟩
      · obtain ⟨b1, b2⟩ := (hO q hq).mp b
        have hqn := hin q hq b2
        rw [(hag q hqn).2, eqN (by have := (hag q hqn).1; omega) (by omega)] at e
        have := hc q hq b
        have := hax q hq b
        omega
      · rw [← x2]
        refine ffS_ord hn (fun q q' hq hq' e e' => ?_)
        by_cases d : q = p
        · subst d
          rw [upd_at, upd_at]
          by_cases d' : q' = q
          · subst d'; rw [upd_at, upd_at]; exact ⟨fun _ => Int32.le_refl _, fun _ => Int32.le_refl _⟩
          · rw [upd_off d', upd_off d', (hag q' hq').2, leN (by omega) (by have := (hag q' hq').1; omega), leN (by omega) (by have := (hag q' hq').1; omega)]
            have b := (hO q' (by omega)).mpr ⟨d', e'⟩
            have := hc q' (by omega) b
            have := hax q' (by omega) b
            omega
        · rw [upd_off d, upd_off d]
          by_cases d' : q' = p
          · subst d'
            rw [upd_at, upd_at, (hag q hq).2, leN (by have := (hag q hq).1; omega) (by omega), leN (by have := (hag q hq).1; omega) (by omega)]
            have b := (hO q (by omega)).mpr ⟨d, e⟩
            have := hc q (by omega) b
            have := hax q (by omega) b
            omega
          · rw [upd_off d', upd_off d']
    by_cases c0 : c = 0
    · subst c0; exact Or.inl ok
    · right
      have h1 := hmin (c - 1) (by omega)
      have h2 : ∃ q, q < 6 ∧ O.testBit q = true ∧ (c - 1 ≤ ag q ∧ ag q < x) := by
        by_cases d : ∃ q, q < 6 ∧ O.testBit q = true ∧ (c - 1 ≤ ag q ∧ ag q < x)
        · exact d
        · exact absurd (fun q hq b h => d ⟨q, hq, b, h⟩) h1
      obtain ⟨q, hq, b, b1, b2⟩ := h2
      have := hc q hq b
      have e : ag q + 1 = c := by omega
      exact ⟨q, hin q hq ((hO q hq).mp b).2, b, by rw [e]; exact ok⟩
theorem ex_shift {P : Nat → Prop} {j n : Nat} (hj : ¬ P j) : (∃ q, j + 1 ≤ q ∧ q < n ∧ P q) ↔ (∃ q, j ≤ q ∧ q < n ∧ P q) := by
  constructor
  · rintro ⟨q, h1, h2, h3⟩; exact ⟨q, by omega, h2, h3⟩
  · rintro ⟨q, h1, h2, h3⟩
    refine ⟨q, ?_, h2, h3⟩
    by_cases c : q = j
    · subst c; exact absurd h3 hj
    · omega
theorem P_someoneHasAge {sc s : Nat} (hs : s < 64) (x : Int32) (st : St) : ∃ a, F_X6_someoneHasAge sc (nI s) x st = some (a, st) ∧ (a = 0 ∨ a = 1) ∧ (a = 1 ↔ ∃ q, q < 6 ∧ s.testBit q = true ∧ st.1 (sc + 4) q = x) := by
  have q := upn (n := 6) (P := fun N j => ∃ a, F_X6_someoneHasAge_2 sc N (nI s) x (nI j) st = some (a, st) ∧ (a = 0 ∨ a = 1) ∧ (a = 1 ↔ ∃ q, j ≤ q ∧ q < 6 ∧ (s.testBit q = true ∧ st.1 (sc + 4) q = x)))
    (fun N => ⟨0, by simp only [F_X6_someoneHasAge_2, t6, if_true], Or.inl rfl, ⟨fun h => absurd h (by decide), fun ⟨q, h1, h2, _⟩ => by omega⟩⟩)
    (fun N j hj ih => by
      obtain ⟨a, e, a1, a2⟩ := ih
      rw [F_X6_someoneHasAge_2, if_neg (by rw [f6 hj]; exact not_false)]
      by_cases b : s.testBit j = true
      · rw [if_neg (by rw [bitN hs hj, b]; decide), g6 hj, c6 hj]
        by_cases c : st.1 (sc + 4) j = x
        · rw [if_pos c]
          exact ⟨1, rfl, Or.inr rfl, ⟨fun _ => ⟨j, by omega, hj, b, c⟩, fun _ => rfl⟩⟩
        · rw [if_neg c, F_X6_someoneHasAge_28, nI_1]
          exact ⟨a, e, a1, a2.trans (ex_shift (fun h => c h.2))⟩
      · rw [if_pos (by rw [bitN hs hj]; simpa using b), F_X6_someoneHasAge_28, nI_1]
        exact ⟨a, e, a1, a2.trans (ex_shift (fun h => b h.1))⟩) fN 0 (by omega) (fN0 (by omega))
  obtain ⟨a, e, a1, a2⟩ := q
  refine ⟨a, e, a1, a2.trans ⟨fun ⟨q, _, h⟩ => ⟨q, h⟩, fun ⟨q, h⟩ => ⟨q, by omega, h⟩⟩⟩
theorem ffS_oI {lw n : Nat} {fl : Nat → Int32} {v : Vw} {r : Int32} (hn : n ≤ 6) : (oI (ffS lw n fl v r) = -1) = (ffS lw n fl v r = none) := oI_eq (fun p h => by have := (ffS_lt h).1; omega)
theorem ffS_pos {lw n : Nat} {fl : Nat → Int32} {v : Vw} {r : Int32} (hn : n ≤ 6) : ((0 : Int32) ≤ oI (ffS lw n fl v r)) = ¬ (ffS lw n fl v r = none) := by
  cases h : ffS lw n fl v r with
  | none => exact propext ⟨fun q => absurd q (by decide), fun q => absurd rfl q⟩
  | some p =>
    have := (ffS_lt h).1
    exact propext ⟨fun _ q => (by cases q), fun _ => nI_pos' (by omega)⟩
theorem PW_ffV {k n : Nat} {pc : Nat → Nat} {u : Vw} {S : St} (h : HC k n pc S) {r lw : Nat} (hV : VW k n pc u) (hU : ∀ a b, a < n → b < n → u.1 a = nI r → u.1 b = nI r → u.2.2.2.1 a = u.2.2.2.1 b → a = b) (hl : S.1 16 5 = nI lw) (hlw : lw ≤ 1) (hr : r < k) : F_X1_firstTooHigh 16 (nI r) (setV 16 u S) = some (oI (ffS lw n (S.1 3) u (nI r)), setV 16 u S) := by
  have e := PW_firstTooHigh (st := setV 16 u S) (sc := 16) (r := r) (lw := lw) (HC_V h (by omega) u) (by rw [vC_setV]; exact hV) (by rw [setV_at1, setV_at4]; exact hU) (by rw [setV_off (by omega)]; exact hl) hlw hr
  rw [vC_setV, setV_off (show 3 ≤ 16 ∨ 16 + 6 ≤ 3 by omega)] at e
  exact e
theorem MW_ffV {k n : Nat} {pc : Nat → Nat} {u : Vw} {S : St} (h : HM k n pc S) {r lw : Nat} (hV : VW k n pc u) (hl : S.1 59 10 = nI lw) (hlw : lw ≤ 1) (hr : r < k) : F_X8_firstFault (nI r) (setM u S) = some (oI (ffS lw n (S.1 61) u (nI r)), setM u S) := by
  have e := MW_firstFault (st := setM u S) (r := r) (lw := lw) (HM_M h u) (by rw [vM_setM]; exact hV) (by rw [setM_off (by omega)]; exact hl) hlw hr
  rw [vM_setM, setM_off (show 61 ≤ 66 ∨ 72 ≤ 61 by omega)] at e
  exact e
theorem P_age70 {k n : Nat} {pc : Nat → Nat} {v : Vw} {S : St} {lw r p O : Nat} (h : HC k n pc S) (hl : S.1 16 5 = nI lw) (hlw : lw ≤ 1) (hr : r < k) (hV : VV k n pc v) (hO64 : O < 64) (hO : ∀ q, q < 6 → (O.testBit q = true ↔ q ≠ p ∧ v.1 q = nI r)) (hp : p < n) {c : Nat} (hc : c < 2 ^ 31) (K : Int32 → Int32 → Int32 → Int32 → St → Option (Int32 × St)) (v4 y : Int32) : (okC lw n (S.1 3) v r p O c → ∃ y', F_X7_someAgeIsLawful_70 K (nI p) (nI r) (nI O) v4 (nI c) (setV 16 (agV v p y) S) = some (1, setV 16 (agV v p y') S)) ∧ (¬ okC lw n (S.1 3) v r p O c → ∃ y', F_X7_someAgeIsLawful_70 K (nI p) (nI r) (nI O) v4 (nI c) (setV 16 (agV v p y) S) = K (nI p) (nI r) (nI O) (v4 + 1) (setV 16 (agV v p y') S)) := by
  have hn := h.2.1
  have hp6 : p < 6 := by omega
  unfold F_X7_someAgeIsLawful_70 F_X7_someAgeIsLawful_117
  by_cases c99 : c ≤ 99
  · rw [if_neg (by rw [litN 99, ltN (by omega) hc]; omega)]
    obtain ⟨a, e, a1, a2⟩ := P_someoneHasAge (sc := 16) hO64 (nI c) (setV 16 (agV v p y) S)
    rw [e, obs]
    dsimp only
    have hex : a = 1 ↔ ∃ q, q < 6 ∧ O.testBit q = true ∧ v.2.2.2.1 q = nI c := by
      refine a2.trans ⟨fun ⟨q, h1, h2, h3⟩ => ⟨q, h1, h2, ?_⟩, fun ⟨q, h1, h2, h3⟩ => ⟨q, h1, h2, ?_⟩⟩
      · rw [setV_at4] at h3
        rw [← h3]
        exact (upd_off ((hO q h1).mp h2).1).symm
      · rw [setV_at4, ← h3]
        exact upd_off ((hO q h1).mp h2).1
    rcases a1 with rfl | rfl
    · have hno : ∀ q, q < 6 → O.testBit q = true → v.2.2.2.1 q ≠ nI c := fun q h1 h2 h3 => absurd (hex.mpr ⟨q, h1, h2, h3⟩) (by decide)
      rw [if_pos rfl, g6 hp6, bs, c6 hp6, agV_set, agV_agV, PW_ffV h (u := agV v p (nI c)) (show VW k n pc (agV v p (nI c)) from ⟨hV.1, hV.2.2.1⟩) (fun a b ha hb ea eb e => ?_) hl hlw hr, obs]
      · dsimp only
        refine ⟨fun ok => ⟨nI c, ?_⟩, fun nok => ⟨nI c, ?_⟩⟩
        · rw [if_pos (by rw [ffS_oI hn]; exact ok.2.2)]
        · rw [if_neg (by rw [ffS_oI hn]; exact fun x => nok ⟨c99, hno, x⟩)]
      · change upd v.2.2.2.1 p (nI c) a = upd v.2.2.2.1 p (nI c) b at e
        by_cases da : a = p
        · by_cases db : b = p
          · rw [da, db]
          · rw [da, upd_at, upd_off db] at e
            exact absurd e.symm (hno b (by omega) ((hO b (by omega)).mpr ⟨db, eb⟩))
        · by_cases db : b = p
          · rw [db, upd_at, upd_off da] at e
            exact absurd e (hno a (by omega) ((hO a (by omega)).mpr ⟨da, ea⟩))
          · rw [upd_off da, upd_off db] at e
            exact hV.2.1 a b ha hb e
    · obtain ⟨q, h1, h2, h3⟩ := hex.mp rfl
      rw [if_neg (by decide)]
      exact ⟨fun ok => absurd h3 (ok.2.1 q h1 h2), fun _ => ⟨y, rfl⟩⟩
  · rw [if_pos (by rw [litN 99, ltN (by omega) hc]; omega)]
    exact ⟨fun ok => absurd ok.1 c99, fun _ => ⟨y, rfl⟩⟩
theorem fN_succ : ∃ M, fN = M + 1 ∧ 100000 ≤ M := ⟨999999, rfl, by decide⟩
theorem P_someAge {k n : Nat} {pc : Nat → Nat} {v : Vw} {S : St} {lw r p : Nat} {ag : Nat → Nat} (h : HC k n pc S) (hl : S.1 16 5 = nI lw) (hlw : lw ≤ 1) (hr : r < k) (hV : VV k n pc v) (hag : ∀ q, q < n → ag q < 2 ^ 30 ∧ v.2.2.2.1 q = nI (ag q)) (hp : p < n) (ep : v.1 p = nI r) (hf : ¬ ffS lw n (S.1 3) v (nI r) = none) : ∃ a y, F_X7_someAgeIsLawful (nI p) (nI r) (setV 16 v S) = some (a, setV 16 (agV v p y) S) ∧ (a = 0 ∨ a = 1) ∧ (a = 1 ↔ SusS lw n (S.1 3) v r p) := by
  have hk := h.1
  have hn := h.2.1
  have hp6 : p < 6 := by omega
  obtain ⟨O, hOd⟩ : ∃ O, O = rmb (mkS (fun q => decide (v.1 q = nI r)) 6) p := ⟨_, rfl⟩
  have hm64 : mkS (fun q => decide (v.1 q = nI r)) 6 < 64 := mkS_lt _ 6 (by omega)
  have hO64 : O < 64 := by rw [hOd]; exact rmb_lt hm64
  have hO : ∀ q, q < 6 → (O.testBit q = true ↔ q ≠ p ∧ v.1 q = nI r) := by
    intro q hq
    rw [hOd, rmb_bit hm64 hp6 hq, mkS_bit _ 6 (by omega) q hq]
    simp [hq, and_comm]
  have hL : ∀ N j, j ≤ n → n - j < N → ∀ y, ∃ a y', F_X7_someAgeIsLawful_18 N (nI p) (nI r) (nI O) (nI j) (setV 16 (agV v p y) S) = some (a, setV 16 (agV v p y') S) ∧ (a = 0 ∨ a = 1) ∧ (a = 1 ↔ ∃ q, j ≤ q ∧ q < n ∧ (O.testBit q = true ∧ okC lw n (S.1 3) v r p O (ag q + 1))) := by
    refine upn (n := n) (P := fun N j => ∀ y, ∃ a y', F_X7_someAgeIsLawful_18 N (nI p) (nI r) (nI O) (nI j) (setV 16 (agV v p y) S) = some (a, setV 16 (agV v p y') S) ∧ (a = 0 ∨ a = 1) ∧ (a = 1 ↔ ∃ q, j ≤ q ∧ q < n ∧ (O.testBit q = true ∧ okC lw n (S.1 3) v r p O (ag q + 1)))) ?_ ?_
    · intro N y
      refine ⟨0, y, ?_, Or.inl rfl, ⟨fun h => absurd h (by decide), fun ⟨q, h1, h2, _⟩ => by omega⟩⟩
      rw [F_X7_someAgeIsLawful_18, setV_off (show 1 ≤ 16 ∨ 16 + 6 ≤ 1 by omega), h.2.2.2.1, if_pos (by rw [leN (by omega) (by omega)]; omega)]
    · intro N j hj ih y
      have hj6 : j < 6 := by omega
      rw [F_X7_someAgeIsLawful_18, setV_off (show 1 ≤ 16 ∨ 16 + 6 ≤ 1 by omega), h.2.2.2.1, if_neg (nI_ge hj (by omega)), if_neg (nI_ne1 (by omega))]
      by_cases b : O.testBit j = true
      · have hjp := ((hO j hj6).mp b).1
        rw [if_neg (by rw [bitN hO64 hj6, b]; decide), F_X7_someAgeIsLawful_48, if_neg (nI_ne1 (by omega)), g6 hj6, c6 hj6, show (setV 16 (agV v p y) S).1 20 j = v.2.2.2.1 j from (congrFun (setV_at4 16 _ _) j).trans (upd_off hjp), (hag j hj).2, nI_1]
        obtain ⟨k1, k2⟩ := P_age70 h hl hlw hr hV hO64 hO hp (c := ag j + 1) (by have := (hag j hj).1; omega) (F_X7_someAgeIsLawful_18 N) (nI j) y
        by_cases ok : okC lw n (S.1 3) v r p O (ag j + 1)
        · obtain ⟨y', e⟩ := k1 ok
          exact ⟨1, y', e, Or.inr rfl, ⟨fun _ => ⟨j, by omega, hj, b, ok⟩, fun _ => rfl⟩⟩
        · obtain ⟨y', e⟩ := k2 ok
          obtain ⟨a, y2, e2, a1, a2⟩ := ih y'
          rw [e, nI_1]
          exact ⟨a, y2, e2, a1, a2.trans (ex_shift (fun x => ok x.2))⟩
      · rw [if_pos (by rw [bitN hO64 hj6]; simpa using b), F_X7_someAgeIsLawful_117, nI_1]
        obtain ⟨a, y2, e2, a1, a2⟩ := ih y
        exact ⟨a, y2, e2, a1, a2.trans (ex_shift (fun x => b x.1))⟩
  have q1 := P_whoIsIn 16 (nI r) (setV 16 v S)
  rw [setV_at1] at q1
  obtain ⟨M, hM, hM2⟩ := fN_succ
  rw [F_X7_someAgeIsLawful, F_X7_someAgeIsLawful_0, q1, obs]
  dsimp only
  rw [clrN hm64 hp6, ← hOd, hM, F_X7_someAgeIsLawful_18, setV_off (show 1 ≤ 16 ∨ 16 + 6 ≤ 1 by omega), h.2.2.2.1, if_neg (by rw [ile, nI_toInt (by omega), show (-1 : Int32).toInt = -1 from rfl]; omega), if_pos rfl, F_X7_someAgeIsLawful_48, if_pos rfl]
  obtain ⟨k1, k2⟩ := P_age70 h hl hlw hr hV hO64 hO hp (c := 0) (by omega) (F_X7_someAgeIsLawful_18 M) (-1) (v.2.2.2.1 p)
  rw [agV_self] at k1 k2
  by_cases ok : okC lw n (S.1 3) v r p O 0
  · obtain ⟨y', e⟩ := k1 ok
    exact ⟨1, y', e, Or.inr rfl, ⟨fun _ => (sus_iff hn hk hr hV hag hO hp ep hf).mp (Or.inl ok), fun _ => rfl⟩⟩
  · obtain ⟨y', e⟩ := k2 ok
    obtain ⟨a, y2, e2, a1, a2⟩ := hL M 0 (by omega) (by omega) y'
    refine ⟨a, y2, e.trans e2, a1, a2.trans (Iff.trans ?_ (sus_iff hn hk hr hV hag hO hp ep hf))⟩
    exact ⟨fun ⟨q, _, x1, x2, x3⟩ => Or.inr ⟨q, x1, x2, x3⟩, fun x => by
      rcases x with x | ⟨q, x1, x2, x3⟩
      · exact absurd x ok
      · exact ⟨q, by omega, x1, x2, x3⟩⟩

/-! PURE: views of a scene, heads, who is too high -/
/-- ROOM, PLACE, BEND, AGE, INCHES of all -/
abbrev Vw : Type := (Nat → Int32) × (Nat → Int32) × (Nat → Int32) × (Nat → Int32) × (Nat → Int32)
def vC (sc : Nat) (st : St) : Vw := (st.1 (sc + 1), st.1 (sc + 2), st.1 (sc + 3), st.1 (sc + 4), st.1 (sc + 5))
def vM (st : St) : Vw := (st.1 69, st.1 70, st.1 71, st.1 67, st.1 68)
/-- how many ROOMS, PERSONS, PLACES -/
def HC (k n : Nat) (pc : Nat → Nat) (st : St) : Prop := k ≤ 3 ∧ n ≤ 6 ∧ st.1 1 0 = nI k ∧ st.1 1 1 = nI n ∧ ∀ r, r < k → st.1 2 r = nI (pc r) ∧ 1 ≤ pc r ∧ pc r ≤ 6
def HM (k n : Nat) (pc : Nat → Nat) (st : St) : Prop := k ≤ 3 ∧ n ≤ 6 ∧ st.1 59 0 = nI k ∧ st.1 59 3 = nI n ∧ ∀ r, r < k → st.1 60 r = nI (pc r) ∧ 1 ≤ pc r ∧ pc r ≤ 6
/-- somebody is at a place of a room -/
def inP (k : Nat) (pc : Nat → Nat) (v : Vw) (p : Nat) : Prop := ∃ r i, r < k ∧ i < pc r ∧ v.1 p = nI r ∧ v.2.1 p = nI i
/-- TALL, HEAD -/
def tl (fl : Nat → Int32) (v : Vw) (p : Nat) : Int32 := fl ((v.1 p).toNatClampNeg * 6 + (v.2.1 p).toNatClampNeg) + v.2.2.2.2 p
def hd (fl : Nat → Int32) (v : Vw) (p : Nat) : Int32 := tl fl v p - v.2.2.1 p
theorem P_floorAt {k n : Nat} {pc : Nat → Nat} {st : St} (h : HC k n pc st) {r i : Nat} (hr : r < k) (hi : i < pc r) : F_X3_floorAt 1 (nI r) (nI i) st = some (st.1 3 (r * 6 + i), st) := by
  obtain ⟨h1, h2, h3, h4, h5⟩ := h
  obtain ⟨h6, h7, h8⟩ := h5 r hr
  have e1 : nI r * 6 + nI i = nI (r * 6 + i) := by rw [litN 6, pk_mul, nI_add]
  have hm : r * 6 + i < 18 := by omega
  simp only [F_X3_floorAt, F_X3_floorAt_0, F_X3_floorAt_31, F_X3_floorAt_51, h3, clN (show r < 2 ^ 31 by omega), Nat.reduceAdd, h6, e1, clN (show r * 6 + i < 2 ^ 31 by omega)]
  rw [if_neg (nI_pos (by omega)), if_neg (nI_ge hr (by omega)), if_neg (nI_pos (by omega)), gi_in (show r < 3 by omega) (by decide), if_neg (nI_ge hi (by omega)), if_neg (by decide), gi_in hm (by decide)]
theorem P_placesOf {k n : Nat} {pc : Nat → Nat} {st : St} (h : HC k n pc st) {r : Nat} (hr : r < k) : F_X3_placesOf 1 (nI r) st = some (nI (pc r), st) := by
  obtain ⟨h1, h2, h3, h4, h5⟩ := h
  obtain ⟨h6, h7, h8⟩ := h5 r hr
  simp only [F_X3_placesOf, F_X3_placesOf_0, F_X3_placesOf_22, h3, clN (show r < 2 ^ 31 by omega), Nat.reduceAdd, h6]
  rw [if_neg (nI_pos (by omega)), if_neg (nI_ge hr (by omega)), gi_in (show r < 3 by omega) (by decide)]
theorem P_tallOf {k n : Nat} {pc : Nat → Nat} {st : St} (h : HC k n pc st) {sc p : Nat} (hp : p < 6) (hi : inP k pc (vC sc st) p) : F_X1_tallOf sc (nI p) st = some (tl (st.1 3) (vC sc st) p, st) := by
  obtain ⟨r, i, hr, hi, e1, e2⟩ := hi
  have b1 : r < 2 ^ 31 := by have := h.1; omega
  have b2 : i < 2 ^ 31 := by have := h.2.2.2.2 r hr; omega
  dsimp only [vC] at e1 e2
  simp only [F_X1_tallOf, F_X1_tallOf_0, g6 hp, c6 hp, e1, e2, P_floorAt h hr hi, Option.bind_some, tl, vC, clN b1, clN b2]
theorem P_headOf {k n : Nat} {pc : Nat → Nat} {st : St} (h : HC k n pc st) {sc p : Nat} (hp : p < 6) (hi : inP k pc (vC sc st) p) : F_X1_headOf sc (nI p) st = some (hd (st.1 3) (vC sc st) p, st) := by
  obtain ⟨r, i, hr, hi, e1, e2⟩ := hi
  have b1 : r < 2 ^ 31 := by have := h.1; omega
  have b2 : i < 2 ^ 31 := by have := h.2.2.2.2 r hr; omega
  dsimp only [vC] at e1 e2
  simp only [F_X1_headOf, F_X1_headOf_0, g6 hp, c6 hp, e1, e2, P_floorAt h hr hi, Option.bind_some, hd, tl, vC, clN b1, clN b2]
/-! the reference -/
theorem M_tallAt {k n : Nat} {pc : Nat → Nat} {st : St} (h : HM k n pc st) {p r i : Nat} (hp : p < 6) (hr : r < k) (hi : i < pc r) : F_X8_tallAt (nI p) (nI r) (nI i) st = some (st.1 61 (r * 6 + i) + st.1 68 p, st) := by
  obtain ⟨h1, h2, h3, h4, h5⟩ := h
  obtain ⟨h6, h7, h8⟩ := h5 r hr
  have e1 : 6 * nI r + nI i = nI (r * 6 + i) := by rw [litN 6, pk_mul, nI_add, Nat.mul_comm]
  have hm : r * 6 + i < 18 := by omega
  simp only [F_X8_tallAt, F_X8_tallAt_0, e1, gi_in hm (by decide), g6 hp, c6 hp, clN (show r * 6 + i < 2 ^ 31 by omega)]
theorem M_headOf {k n : Nat} {pc : Nat → Nat} {st : St} (h : HM k n pc st) {p : Nat} (hp : p < 6) (hi : inP k pc (vM st) p) : F_X8_headOf (nI p) st = some (hd (st.1 61) (vM st) p, st) := by
  obtain ⟨r, i, hr, hi, e1, e2⟩ := hi
  have b1 : r < 2 ^ 31 := by have := h.1; omega
  have b2 : i < 2 ^ 31 := by have := h.2.2.2.2 r hr; omega
  dsimp only [vM] at e1 e2
  simp only [F_X8_headOf, F_X8_headOf_0, g6 hp, c6 hp, e1, e2, M_tallAt h hp hr hi, Option.bind_some, hd, tl, vM, clN b1, clN b2]
theorem fn {n i : Nat} (hn : n ≤ 6) (h : i < n) : (nI n ≤ nI i) = False := eq_false (nI_ge h (by omega))
theorem tn (n : Nat) : (nI n ≤ nI n) = True := eq_true (Int32.le_refl _)
theorem or0 (x : Int32) : x ||| 0 = x := by
  have h : ∀ y : BitVec 32, y ||| 0#32 = y := by intro y; simp
  apply Int32.toBitVec_inj.mp
  simp
theorem M_isIn {k n : Nat} {pc : Nat → Nat} {st : St} (h : HM k n pc st) (r : Int32) : F_X8_isIn r st = some (nI (mkS (fun p => decide (st.1 69 p = r)) n), st) := by
  obtain ⟨h1, h2, h3, h4, h5⟩ := h
  have h := upn (n := n) (P := fun N i => F_X8_isIn_4 N r (nI (mkS (fun p => decide (st.1 69 p = r)) i)) (nI i) st = some (nI (mkS (fun p => decide (st.1 69 p = r)) n), st))
    (fun N => by simp only [F_X8_isIn_4, h4, tn, if_true]) (fun N i hi ih => by
      have hi6 : i < 6 := by omega
      simp only [F_X8_isIn_4, h4, fn h2 hi, if_false, g6 hi6, c6 hi6, F_X8_isIn_30, nI_1]
      have hm := mkS_lt (fun p => decide (st.1 69 p = r)) i (by omega)
      by_cases c : st.1 69 i = r
      · rw [if_pos c, orN hm hi6, ← mkS_t (f := fun p => decide (st.1 69 p = r)) (by simpa using c)]; exact ih
      · rw [if_neg c, or0]; rw [mkS_f (by simpa using c)] at ih; exact ih) fN 0 (by omega) (fN0 (by omega))
  exact h
theorem M_has {s p : Nat} (hs : s < 64) (hp : p < 6) (st : St) : F_X8_has (nI s) (nI p) st = some (if s.testBit p then 1 else 0, st) := by
  simp only [F_X8_has, F_X8_has_0, F_X8_has_14, bit1N hs hp]
  split <;> simp [gb]
theorem oI_neg {o : Option Nat} (h : ∀ p, o = some p → p < 2 ^ 31) : (oI o < 0) = (o = none) := by
  cases o with
  | none => simp only [oI, eq_iff_iff, iff_true]; decide
  | some p => simp only [oI, reduceCtorEq, eq_iff_iff, iff_false]; exact nI_pos (h p rfl)
theorem M_eldest {k n : Nat} {pc : Nat → Nat} {st : St} (h : HM k n pc st) {s : Nat} (hs : s < 64) : F_X8_eldest (nI s) st = some (oI (eld (st.1 67) s n), st) := by
  obtain ⟨h1, h2, h3, h4, h5⟩ := h
  obtain ⟨res, hres⟩ : ∃ res, res = some (oI (eld (st.1 67) s n), st) := ⟨_, rfl⟩
  rw [← hres]
  have h := upn (n := n) (P := fun N i => F_X8_eldest_4 N (nI s) (oI (eld (st.1 67) s i)) (nI i) st = res)
    (fun N => by simp only [F_X8_eldest_4, h4, tn, if_true, hres]) (fun N i hi ih => by
      have hi6 : i < 6 := by omega
      simp only [F_X8_eldest_4, h4, fn h2 hi, if_false, M_has hs hi6, Option.bind_some, F_X8_eldest_44, F_X8_eldest_43, F_X8_eldest_39, nI_1]
      rw [eld] at ih
      by_cases c : s.testBit i = true
      · rw [if_pos c] at ih ⊢
        rw [if_neg (by decide)]
        cases he : eld (st.1 67) s i with
        | none => rw [he] at ih; rw [if_pos (by decide)]; exact ih
        | some e =>
          have h1 := eld_lt i e he
          rw [he] at ih
          rw [if_neg (show ¬ oI (some e) < 0 from nI_pos (by omega))]
          simp only [oI, g6 hi6, g6 (show e < 6 by omega), c6 hi6, c6 (show e < 6 by omega)]
          dsimp only at ih
          by_cases c2 : st.1 67 i ≤ st.1 67 e
          · rw [if_pos c2] at ih ⊢; exact ih
          · rw [if_neg c2] at ih ⊢; exact ih
      · rw [if_neg c] at ih ⊢
        rw [if_pos rfl]; exact ih) fN 0 (by omega) (fN0 (by omega))
  exact h

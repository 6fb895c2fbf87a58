/-! PURE: the scene's methods -/
theorem P_whoIsIn (sc : Nat) (r : Int32) (st : St) : F_X6_whoIsIn sc r st = some (nI (mkS (fun p => decide (st.1 (sc + 1) p = r)) 6), st) := by
  have h := upn (n := 6) (P := fun N i => F_X6_whoIsIn_4 sc N r (nI (mkS (fun p => decide (st.1 (sc + 1) p = r)) i)) (nI i) st = some (nI (mkS (fun p => decide (st.1 (sc + 1) p = r)) 6), st))
    (fun N => by simp only [F_X6_whoIsIn_4, t6, if_true]) (fun N i hi ih => by
      simp only [F_X6_whoIsIn_4, f6 hi, if_false, g6 hi, c6 hi, F_X6_whoIsIn_26, nI_1]
      have hm := mkS_lt (fun p => decide (st.1 (sc + 1) p = r)) i (by omega)
      by_cases c : st.1 (sc + 1) i = r
      · rw [if_pos c, orN hm hi, ← mkS_t (by simpa using c)]; exact ih
      · rw [if_neg c]; rw [mkS_f (by simpa using c)] at ih; exact ih) fN 0 (by decide) (fN0 (by decide))
  exact h
/-- who is at a place: the first -/
def whoF (R P : Nat → Int32) (r i : Int32) : Nat → Nat → Option Nat
  | _, 0 => none
  | k, d + 1 => if R k = r ∧ P k = i then some k else whoF R P r i (k + 1) d
theorem P_whoIsAt (sc : Nat) (r i : Int32) (st : St) : F_X6_whoIsAt sc r i st = some (oI (whoF (st.1 (sc + 1)) (st.1 (sc + 2)) r i 0 6), st) := by
  have h := upn (n := 6) (P := fun N k => F_X6_whoIsAt_2 sc N r i (nI k) st = some (oI (whoF (st.1 (sc + 1)) (st.1 (sc + 2)) r i k (6 - k)), st))
    (fun N => by simp only [F_X6_whoIsAt_2, t6, if_true]; rfl) (fun N k hk ih => by
      simp only [F_X6_whoIsAt_2, f6 hk, if_false, g6 hk, c6 hk, F_X6_whoIsAt_30, nI_1]
      rw [show 6 - k = (6 - (k + 1)) + 1 by omega, whoF]
      by_cases c : st.1 (sc + 1) k = r
      · by_cases c2 : st.1 (sc + 2) k = i
        · simp [c, c2, oI]
        · simp only [c, c2, if_true, if_false, and_false]; exact ih
      · simp only [c, if_false, false_and]; exact ih) fN 0 (by decide) (fN0 (by decide))
  exact h
theorem P_somewhere (sc : Nat) (st : St) : F_X6_somewhere sc st = some (nI (mkS (fun p => decide (st.1 (sc + 1) p ≠ -1)) 6), st) := by
  simp only [F_X6_somewhere, F_X6_somewhere_0, P_whoIsIn, Option.bind_some]
  have hx : ∀ s, s < 64 → (63 : Int32) &&& (nI s ^^^ (-1)) = nI (63 - s) ∧ ∀ q, q < 6 → (63 - s).testBit q = !s.testBit q := by decide +kernel
  have hm := mkS_lt (fun p => decide (st.1 (sc + 1) p = -1)) 6 (by omega)
  obtain ⟨h1, h2⟩ := hx _ hm
  rw [h1]
  congr 3
  refine set_ext (by omega) (mkS_lt _ 6 (by omega)) (fun q hq => ?_)
  rw [h2 q hq, mkS_bit _ 6 (by omega) q hq, mkS_bit _ 6 (by omega) q hq]
  simp [hq]
theorem P_whoIsOlderIn (sc : Nat) (r y : Int32) (st : St) : F_X6_whoIsOlderIn sc r y st = some (nI (mkS (fun p => decide (st.1 (sc + 1) p = r) && !decide (st.1 (sc + 4) p ≤ y)) 6), st) := by
  have h := upn (n := 6) (P := fun N i => F_X6_whoIsOlderIn_5 sc N r y (nI (mkS (fun p => decide (st.1 (sc + 1) p = r) && !decide (st.1 (sc + 4) p ≤ y)) i)) (nI i) st = some (nI (mkS (fun p => decide (st.1 (sc + 1) p = r) && !decide (st.1 (sc + 4) p ≤ y)) 6), st))
    (fun N => by simp only [F_X6_whoIsOlderIn_5, t6, if_true]) (fun N i hi ih => by
      simp only [F_X6_whoIsOlderIn_5, f6 hi, if_false, g6 hi, c6 hi, F_X6_whoIsOlderIn_41, nI_1]
      have hm := mkS_lt (fun p => decide (st.1 (sc + 1) p = r) && !decide (st.1 (sc + 4) p ≤ y)) i (by omega)
      by_cases c : st.1 (sc + 1) i = r
      · by_cases c2 : st.1 (sc + 4) i ≤ y
        · rw [if_pos c, if_pos c2]; rw [mkS_f (by simp [c2])] at ih; exact ih
        · rw [if_pos c, if_neg c2, orN hm hi, ← mkS_t (f := fun p => decide (st.1 (sc + 1) p = r) && !decide (st.1 (sc + 4) p ≤ y)) (by simp [c, c2])]; exact ih
      · rw [if_neg c]; rw [mkS_f (by simp [c])] at ih; exact ih) fN 0 (by decide) (fN0 (by decide))
  exact h
theorem P_eldestOf (sc s : Nat) (hs : s < 64) (st : St) : F_X6_eldestOf sc (nI s) st = some (oI (eld (st.1 (sc + 4)) s 6), st) := by
  have h := upn (n := 6) (P := fun N i => F_X6_eldestOf_4 sc N (nI s) (oI (eld (st.1 (sc + 4)) s i)) (nI i) st = some (oI (eld (st.1 (sc + 4)) s 6), st))
    (fun N => by simp only [F_X6_eldestOf_4, t6, if_true]) (fun N i hi ih => by
      simp only [F_X6_eldestOf_4, f6 hi, if_false, bitN hs hi, F_X6_eldestOf_40, F_X6_eldestOf_38, nI_1]
      unfold eld at ih
      by_cases c : s.testBit i = true
      · rw [if_neg (by rw [c]; decide)]
        rw [if_pos c] at ih
        cases he : eld (st.1 (sc + 4)) s i with
        | none => rw [he] at ih; rw [if_pos oI_none]; exact ih
        | some e =>
          have h1 := eld_lt i e he
          rw [he] at ih
          rw [if_neg (show ¬ oI (some e) = -1 from nI_ne1 (by omega))]
          simp only [oI, g6 hi, g6 (show e < 6 by omega), c6 hi, c6 (show e < 6 by omega)]
          dsimp only at ih
          by_cases c2 : st.1 (sc + 4) i ≤ st.1 (sc + 4) e
          · rw [if_pos c2] at ih ⊢; exact ih
          · rw [if_neg c2] at ih ⊢; exact ih
      · rw [if_neg c] at ih
        rw [if_pos (by simpa using c)]; exact ih) fN 0 (by decide) (fN0 (by decide))
  exact h

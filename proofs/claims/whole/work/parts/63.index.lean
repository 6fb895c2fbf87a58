/-! PURE: numbers that are, or are not, of a room, a person, a place -/
theorem idx (x : Int32) {n : Nat} (hn : n < 2 ^ 31) : (∃ j, j < n ∧ x = nI j) ∨ (x < 0 ∨ nI n ≤ x) := by
  rcases pk_ix x hn with h | h | ⟨j, hj, e⟩
  · exact Or.inr (Or.inl h)
  · exact Or.inr (Or.inr h)
  · exact Or.inl ⟨j, hj, e⟩
theorem P_hasRoom_in {k n : Nat} {pc : Nat → Nat} {st : St} (h : HC k n pc st) {r : Nat} (hr : r < k) : F_X3_hasRoom 1 (nI r) st = some (1, st) := by
  have hk := h.1
  simp only [F_X3_hasRoom, F_X3_hasRoom_0, F_X3_hasRoom_17, h.2.2.1]
  rw [if_neg (nI_pos (by omega)), if_neg (nI_ge hr (by omega))]
  rfl
theorem P_hasRoom_out {k n : Nat} {pc : Nat → Nat} {st : St} (h : HC k n pc st) {x : Int32} (hx : x < 0 ∨ nI k ≤ x) : F_X3_hasRoom 1 x st = some (0, st) := by
  simp only [F_X3_hasRoom, F_X3_hasRoom_0, F_X3_hasRoom_17, F_X3_hasRoom_16, h.2.2.1]
  by_cases c : x < 0
  · rw [if_pos c]; rfl
  · rcases hx with hx | hx
    · exact absurd hx c
    · rw [if_neg c, if_pos hx]; rfl
theorem P_hasPerson_in {k n : Nat} {pc : Nat → Nat} {st : St} (h : HC k n pc st) {p : Nat} (hp : p < n) : F_X3_hasPerson 1 (nI p) st = some (1, st) := by
  have hn := h.2.1
  simp only [F_X3_hasPerson, F_X3_hasPerson_0, F_X3_hasPerson_17, h.2.2.2.1]
  rw [if_neg (nI_pos (by omega)), if_neg (nI_ge hp (by omega))]
  rfl
theorem P_hasPerson_out {k n : Nat} {pc : Nat → Nat} {st : St} (h : HC k n pc st) {x : Int32} (hx : x < 0 ∨ nI n ≤ x) : F_X3_hasPerson 1 x st = some (0, st) := by
  simp only [F_X3_hasPerson, F_X3_hasPerson_0, F_X3_hasPerson_17, F_X3_hasPerson_16, h.2.2.2.1]
  by_cases c : x < 0
  · rw [if_pos c]; rfl
  · rcases hx with hx | hx
    · exact absurd hx c
    · rw [if_neg c, if_pos hx]; rfl
theorem P_hasPlace_in {k n : Nat} {pc : Nat → Nat} {st : St} (h : HC k n pc st) {r i : Nat} (hr : r < k) (hi : i < pc r) : F_X3_hasPlace 1 (nI r) (nI i) st = some (1, st) := by
  have hk := h.1
  obtain ⟨h6, h7, h8⟩ := h.2.2.2.2 r hr
  simp only [F_X3_hasPlace, F_X3_hasPlace_0, F_X3_hasPlace_31, h.2.2.1, clN (show r < 2 ^ 31 by omega), Nat.reduceAdd, h6]
  rw [if_neg (nI_pos (by omega)), if_neg (nI_ge hr (by omega)), if_neg (nI_pos (by omega)), gi_in (show r < 3 by omega) (by decide), if_neg (nI_ge hi (by omega))]
  rfl
theorem P_hasPlace_outr {k n : Nat} {pc : Nat → Nat} {st : St} (h : HC k n pc st) {x y : Int32} (hx : x < 0 ∨ nI k ≤ x) : F_X3_hasPlace 1 x y st = some (0, st) := by
  simp only [F_X3_hasPlace, F_X3_hasPlace_0, F_X3_hasPlace_31, F_X3_hasPlace_30, h.2.2.1]
  by_cases c : x < 0
  · rw [if_pos c]; rfl
  · rcases hx with hx | hx
    · exact absurd hx c
    · rw [if_neg c, if_pos hx]; rfl
theorem P_hasPlace_outi {k n : Nat} {pc : Nat → Nat} {st : St} (h : HC k n pc st) {r : Nat} {y : Int32} (hr : r < k) (hy : y < 0 ∨ nI (pc r) ≤ y) : F_X3_hasPlace 1 (nI r) y st = some (0, st) := by
  have hk := h.1
  obtain ⟨h6, h7, h8⟩ := h.2.2.2.2 r hr
  simp only [F_X3_hasPlace, F_X3_hasPlace_0, F_X3_hasPlace_31, F_X3_hasPlace_30, h.2.2.1, clN (show r < 2 ^ 31 by omega), Nat.reduceAdd, h6]
  rw [if_neg (nI_pos (by omega)), if_neg (nI_ge hr (by omega)), gi_in (show r < 3 by omega) (by decide)]
  by_cases c : y < 0
  · rw [if_pos c]; rfl
  · rcases hy with hy | hy
    · exact absurd hy c
    · rw [if_neg c, if_pos hy]; rfl
/-! the reference -/
theorem cmp_lt (x y : Int64) : (lg_cmp x y < 0) = (x.toInt < y.toInt) := by
  have h := lg_cmp_ge x y
  rw [Int64.le_iff_toInt_le] at h
  have h2 : (lg_cmp x y < 0) ↔ ¬ (0 ≤ lg_cmp x y) := Int32.not_le.symm
  rw [h] at h2
  exact propext (h2.trans (by omega))
theorem cmp_gt (x y : Int64) : ((0 : Int32) < lg_cmp x y) = (y.toInt < x.toInt) := by
  unfold lg_cmp
  by_cases c : x > y
  · have c2 := Int64.lt_iff_toInt_lt.mp c
    rw [if_pos c]
    exact propext ⟨fun _ => c2, fun _ => by decide⟩
  · have c2 : ¬ y.toInt < x.toInt := fun q => c (Int64.lt_iff_toInt_lt.mpr q)
    rw [if_neg c]
    refine propext ⟨fun q => ?_, fun q => absurd q c2⟩
    split at q
    · exact absurd q (by decide)
    · exact absurd q (by decide)
theorem M_in (a b c : Int64) (st : St) : F_X8_in a b c st = some (if b.toInt ≤ a.toInt ∧ a.toInt ≤ c.toInt then 1 else 0, st) := by
  simp only [F_X8_in, F_X8_in_0, F_X8_in_17, F_X8_in_18, cmp_lt, cmp_gt]
  by_cases h1 : a.toInt < b.toInt
  · rw [if_pos h1, if_neg (by omega)]; rfl
  · rw [if_neg h1]
    by_cases h2 : c.toInt < a.toInt
    · rw [if_pos h2, if_neg (by omega)]; rfl
    · rw [if_neg h2, if_pos (by omega)]; rfl
theorem wide (x : Int32) : x.toInt64.toInt = x.toInt := Int32.toInt_toInt64 x
theorem m1 {n : Nat} (hn : n < 1000) : (nI n - 1).toInt64.toInt = (n : Int) - 1 := by
  rw [wide, tsub (by rw [nI_toInt (by omega)]; omega) (by have : (1 : Int32).toInt = 1 := rfl; omega), nI_toInt (by omega)]
  rfl
theorem M_in_in {j n : Nat} (h : j < n) (hn : n < 1000) (st : St) : F_X8_in (nI j).toInt64 0 (nI n - 1).toInt64 st = some (1, st) := by
  rw [M_in, m1 hn, wide, nI_toInt (by omega)]
  rw [if_pos]
  have : (0 : Int64).toInt = 0 := rfl
  omega
theorem M_in_out {x : Int32} {n : Nat} (h : x < 0 ∨ nI n ≤ x) (hn : n < 1000) (st : St) : F_X8_in x.toInt64 0 (nI n - 1).toInt64 st = some (0, st) := by
  rw [M_in, m1 hn, wide]
  rw [if_neg]
  have : (0 : Int64).toInt = 0 := rfl
  rw [ilt, ile, nI_toInt (by omega), t0] at h
  omega
theorem M_isRoom_in {k n : Nat} {pc : Nat → Nat} {st : St} (h : HM k n pc st) {r : Nat} (hr : r < k) : F_X8_isRoom (nI r) st = some (1, st) := by
  have hk := h.1
  simp only [F_X8_isRoom, F_X8_isRoom_0, h.2.2.1, M_in_in hr (show k < 1000 by omega), Option.bind_some]
  rfl
theorem M_isRoom_out {k n : Nat} {pc : Nat → Nat} {st : St} (h : HM k n pc st) {x : Int32} (hx : x < 0 ∨ nI k ≤ x) : F_X8_isRoom x st = some (0, st) := by
  have hk := h.1
  simp only [F_X8_isRoom, F_X8_isRoom_0, h.2.2.1, M_in_out hx (show k < 1000 by omega), Option.bind_some]
  rfl
theorem M_isPerson_in {k n : Nat} {pc : Nat → Nat} {st : St} (h : HM k n pc st) {p : Nat} (hp : p < n) : F_X8_isPerson (nI p) st = some (1, st) := by
  have hn := h.2.1
  simp only [F_X8_isPerson, F_X8_isPerson_0, h.2.2.2.1, M_in_in hp (show n < 1000 by omega), Option.bind_some]
  rfl
theorem M_isPerson_out {k n : Nat} {pc : Nat → Nat} {st : St} (h : HM k n pc st) {x : Int32} (hx : x < 0 ∨ nI n ≤ x) : F_X8_isPerson x st = some (0, st) := by
  have hn := h.2.1
  simp only [F_X8_isPerson, F_X8_isPerson_0, h.2.2.2.1, M_in_out hx (show n < 1000 by omega), Option.bind_some]
  rfl
theorem M_isPlace_in {k n : Nat} {pc : Nat → Nat} {st : St} (h : HM k n pc st) {r i : Nat} (hr : r < k) (hi : i < pc r) : F_X8_isPlace (nI r) (nI i) st = some (1, st) := by
  have hk := h.1
  obtain ⟨h6, h7, h8⟩ := h.2.2.2.2 r hr
  simp only [F_X8_isPlace, F_X8_isPlace_0, M_isRoom_in h hr, Option.bind_some, clN (show r < 2 ^ 31 by omega), h6, M_in_in hi (show pc r < 1000 by omega), F_X8_isPlace_31, gi_in (show r < 3 by omega) (show 3 < 2 ^ 31 by decide)]
  rw [if_neg (by decide), if_neg (by decide)]
  rfl
theorem M_isPlace_outr {k n : Nat} {pc : Nat → Nat} {st : St} (h : HM k n pc st) {x y : Int32} (hx : x < 0 ∨ nI k ≤ x) : F_X8_isPlace x y st = some (0, st) := by
  simp only [F_X8_isPlace, F_X8_isPlace_0, M_isRoom_out h hx, Option.bind_some, F_X8_isPlace_30, F_X8_isPlace_31, if_true]
  rfl
theorem M_isPlace_outi {k n : Nat} {pc : Nat → Nat} {st : St} (h : HM k n pc st) {r : Nat} {y : Int32} (hr : r < k) (hy : y < 0 ∨ nI (pc r) ≤ y) : F_X8_isPlace (nI r) y st = some (0, st) := by
  have hk := h.1
  obtain ⟨h6, h7, h8⟩ := h.2.2.2.2 r hr
  simp only [F_X8_isPlace, F_X8_isPlace_0, M_isRoom_in h hr, Option.bind_some, clN (show r < 2 ^ 31 by omega), h6, M_in_out hy (show pc r < 1000 by omega), F_X8_isPlace_30, F_X8_isPlace_31, gi_in (show r < 3 by omega) (show 3 < 2 ^ 31 by decide), if_true]
  rw [if_neg (by decide)]
  rfl
/-! may somebody stand there -/
theorem P_canStandAt {k n : Nat} {pc : Nat → Nat} {v : Vw} {st : St} (h : HC k n pc st) (hV : VV k n pc v) {sc p r i : Nat} (hp : p < n) (hr : r < k) : F_X6_canStandAt sc (nI p) (nI r) (nI i) (setV sc v st) = some (if v.1 p = -1 ∧ freeS v (nI r) (nI i) n = true then 1 else 0, setV sc v st) := by
  have hn := h.2.1
  have hp6 : p < 6 := by omega
  obtain ⟨o, w1, w2, -⟩ := P_whoFree hV hn (sc := sc) (r := r) (by have := h.1; omega) (nI i) st
  simp only [F_X6_canStandAt, F_X6_canStandAt_0, F_X6_canStandAt_24, F_X6_canStandAt_25, g6 hp6, c6 hp6, setV_at1, w1, Option.bind_some]
  by_cases c : v.1 p = -1
  · rw [if_pos c]
    by_cases c2 : freeS v (nI r) (nI i) n = true
    · rw [if_pos (w2.mpr c2), if_pos ⟨c, c2⟩]; rfl
    · rw [if_neg (fun q => c2 (w2.mp q)), if_neg (fun q => c2 q.2)]; rfl
  · rw [if_neg c, if_neg (fun q => c q.1)]; rfl
theorem M_mayCome {k n : Nat} {pc : Nat → Nat} {w : Vw} {st : St} (h : HM k n pc st) (hV : VV k n pc w) {p r i : Nat} (hp : p < n) : F_X8_mayCome (nI p) (nI r) (nI i) (setM w st) = some (if w.1 p = -1 ∧ freeS w (nI r) (nI i) n = true then 1 else 0, setM w st) := by
  have hn := h.2.1
  have hp6 : p < 6 := by omega
  have hw := M_whoAt (HM_M h w) (nI r) (nI i)
  rw [setM_69, setM_70] at hw
  simp only [F_X8_mayCome, F_X8_mayCome_0, F_X8_mayCome_22, F_X8_mayCome_23, g6 hp6, c6 hp6, setM_69, hw, Option.bind_some]
  rcases hV.1 p hp with ⟨r', i', h1, h2, e1, e2⟩ | ⟨e1, e2⟩
  · have hb : r' < 2 ^ 31 := by have := h.1; omega
    rw [if_pos (by rw [e1]; exact nI_pos' hb), if_neg (fun q => nI_ne1 hb (e1 ▸ q.1))]
    rfl
  · rw [if_neg (by rw [e1]; decide)]
    unfold freeS
    cases hl : whoL w.1 w.2.1 (nI r) (nI i) n with
    | none => rw [if_neg (by decide), if_pos ⟨e1, rfl⟩]; rfl
    | some q =>
      have := (whoL_some _ _ hl).1
      rw [if_pos (show (0 : Int32) ≤ oI (some q) from nI_pos' (by omega)), if_neg (fun z => by cases z.2)]; rfl

/-! PURE: calls that only ask -/
theorem M_somewhere {k n : Nat} {pc : Nat → Nat} {st : St} (h : HM k n pc st) (hV : VV k n pc (vM st)) : F_X8_somewhere st = some (nI (mkS (fun p => decide (st.1 69 p ≠ -1)) n), st) := by
  have hn : n ≤ 6 := h.2.1
  have hk : k ≤ 3 := h.1
  have hL := upn (n := n) (P := fun N j => F_X8_somewhere_4 N (nI (mkS (fun p => decide (st.1 69 p ≠ -1)) j)) (nI j) st = some (nI (mkS (fun p => decide (st.1 69 p ≠ -1)) n), st))
    (fun N => by simp only [F_X8_somewhere_4, h.2.2.2.1, tn, if_true]) (fun N j hj ih => by
      have hj6 : j < 6 := by omega
      have hm := mkS_lt (fun p => decide (st.1 69 p ≠ -1)) j (by omega)
      simp only [F_X8_somewhere_4, h.2.2.2.1, fn hn hj, if_false, g6 hj6, c6 hj6, F_X8_somewhere_29, nI_1]
      rcases hV.1 j hj with ⟨r, i, h1, h2, e1, e2⟩ | ⟨e1, e2⟩
      · have e1' : st.1 69 j = nI r := e1
        have hb : r < 2 ^ 31 := by omega
        rw [if_neg (by rw [e1']; exact nI_pos hb), orN hm hj6]
        rw [mkS_t (by rw [e1']; exact decide_eq_true (nI_ne1 hb))] at ih
        exact ih
      · have e1' : st.1 69 j = -1 := e1
        rw [if_pos (by rw [e1']; decide), or0]
        rw [mkS_f (by rw [e1']; decide)] at ih
        exact ih) fN 0 (by omega) (fN0 (by omega))
  exact hL
theorem Ag.vv {k n : Nat} {pc : Nat → Nat} {v w : Vw} (h : Ag n v w) (hV : VV k n pc v) : VV k n pc w := VV_ag (h.x 0) hV
theorem SceneR.vw {k n : Nat} {pc : Nat → Nat} {b : Nat} {st : St} (h : SceneR k n pc b st) : VV k n pc (vM st) := Ag.vv h.1 h.2.1
theorem some_eq {k n : Nat} {pc : Nat → Nat} {v w : Vw} (hn : n ≤ 6) (h : Ag n v w) (hV : VV k n pc v) : mkS (fun p => decide (v.1 p ≠ -1)) 6 = mkS (fun p => decide (w.1 p ≠ -1)) n := by
  refine set_ext (mkS_lt _ 6 (by omega)) (mkS_lt _ n hn) (fun q hq => ?_)
  rw [mkS_bit _ 6 (by omega) q hq, mkS_bit _ n hn q hq]
  by_cases c : q < n
  · rw [(h.1 q c).1]; simp [c, hq]
  · rw [hV.2.2.1 q (by omega) hq]; simp [c]
theorem B_fault : Bo F_X7_fault F_X8_fault := by
  intro k n pc b st hb h
  refine ro h _ rfl ?_
  simp only [F_X8_fault, F_X8_fault_0]
  rw [h.fault]
theorem B_told (x : Int32) : Bo (F_X7_told x) (F_X8_told x) := by
  intro k n pc b st hb h
  obtain ⟨hc, hm, -, -, -, -, ⟨f, -, hf1, hf2⟩, -⟩ := h.house
  obtain ⟨len, -, hl1, hl2, -⟩ := h.text
  obtain ⟨m, -, hb1, hb2, -⟩ := h.book
  obtain ⟨hA, hV, -, -, -, ⟨lw, -, w1, w2⟩, -⟩ := h.scene
  by_cases c0 : x = 0
  · exact ro h (nI k) (by simp only [F_X7_told, F_X7_told_0]; rw [if_pos c0, hc.2.2.1]) (by simp only [F_X8_told, F_X8_told_0]; rw [if_pos c0, hm.2.2.1])
  by_cases c1 : x = 1
  · exact ro h (nI n) (by simp only [F_X7_told, F_X7_told_0]; rw [if_neg c0, if_pos c1, hc.2.2.2.1]) (by simp only [F_X8_told, F_X8_told_0]; rw [if_neg c0, if_pos c1, hm.2.2.2.1])
  by_cases c2 : x = 2
  · exact ro h (nI f) (by simp only [F_X7_told, F_X7_told_0]; rw [if_neg c0, if_neg c1, if_pos c2, hf1]) (by simp only [F_X8_told, F_X8_told_0]; rw [if_neg c0, if_neg c1, if_pos c2, hf2])
  by_cases c3 : x = 3
  · exact ro h (nI len) (by simp only [F_X7_told, F_X7_told_0]; rw [if_neg c0, if_neg c1, if_neg c2, if_pos c3, hl1]) (by simp only [F_X8_told, F_X8_told_0]; rw [if_neg c0, if_neg c1, if_neg c2, if_pos c3, hl2])
  by_cases c4 : x = 4
  · exact ro h (nI lw) (by simp only [F_X7_told, F_X7_told_0]; rw [if_neg c0, if_neg c1, if_neg c2, if_neg c3, if_pos c4, w1]) (by simp only [F_X8_told, F_X8_told_0]; rw [if_neg c0, if_neg c1, if_neg c2, if_neg c3, if_pos c4, w2])
  by_cases c5 : x = 5
  · exact ro h (nI m) (by simp only [F_X7_told, F_X7_told_0]; rw [if_neg c0, if_neg c1, if_neg c2, if_neg c3, if_neg c4, if_pos c5, hb1]) (by simp only [F_X8_told, F_X8_told_0]; rw [if_neg c0, if_neg c1, if_neg c2, if_neg c3, if_neg c4, if_pos c5, hb2])
  by_cases c6 : x = 6
  · refine ro h _ (by simp only [F_X7_told, F_X7_told_0, P_somewhere, Option.bind_some]; rw [if_neg c0, if_neg c1, if_neg c2, if_neg c3, if_neg c4, if_neg c5, if_pos c6]) ?_
    simp only [F_X8_told, F_X8_told_0]
    rw [if_neg c0, if_neg c1, if_neg c2, if_neg c3, if_neg c4, if_neg c5, if_pos c6, M_somewhere hm (SceneR.vw h.scene)]
    have := some_eq hc.2.1 hA hV
    simp only [Option.bind_some]
    rw [show mkS (fun p => decide (st.1 (9 + 1) p ≠ -1)) 6 = mkS (fun p => decide (st.1 69 p ≠ -1)) n from this]
  · exact ro h (-1000000002) (by simp only [F_X7_told, F_X7_told_0]; rw [if_neg c0, if_neg c1, if_neg c2, if_neg c3, if_neg c4, if_neg c5, if_neg c6]) (by simp only [F_X8_told, F_X8_told_0]; rw [if_neg c0, if_neg c1, if_neg c2, if_neg c3, if_neg c4, if_neg c5, if_neg c6])
theorem in01 (x : Int32) (st : St) : F_X8_in x.toInt64 0 1 st = some (if x = 0 ∨ x = 1 then 1 else 0, st) := by
  rw [M_in, wide]
  congr 2
  have a0 : (0 : Int64).toInt = 0 := rfl
  have a1 : (1 : Int64).toInt = 1 := rfl
  by_cases c : x = 0 ∨ x = 1
  · rw [if_pos c]
    rcases c with rfl | rfl
    · rfl
    · rfl
  · rw [if_neg c, if_neg]
    rw [a0, a1]
    rintro ⟨h1, h2⟩
    apply c
    rcases (show x.toInt = 0 ∨ x.toInt = 1 by omega) with e | e
    · exact Or.inl (Int32.toInt_inj.mp e)
    · exact Or.inr (Int32.toInt_inj.mp e)
theorem c01 {x : Int32} (h : ¬ (x = 0 ∨ x = 1)) : x < 0 ∨ ¬ x ≤ 1 := by
  by_cases c : x < 0
  · exact Or.inl c
  · refine Or.inr (fun c2 => h ?_)
    rw [ilt, t0] at c
    rw [ile] at c2
    have : (1 : Int32).toInt = 1 := rfl
    rcases (show x.toInt = 0 ∨ x.toInt = 1 by omega) with e | e
    · exact Or.inl (Int32.toInt_inj.mp e)
    · exact Or.inr (Int32.toInt_inj.mp e)
theorem B_room (x y z : Int32) : Bo (F_X7_room x y z) (F_X8_room x y z) := by
  intro k n pc b st hb h
  obtain ⟨hc, hm, hF, -⟩ := h.house
  obtain ⟨hA, hV, -⟩ := h.scene
  have hk := hc.1
  rcases idx x (n := k) (by omega) with ⟨r, hr, rfl⟩ | hx
  · by_cases cy : y = -1
    · subst cy
      have hp := hm.2.2.2.2 r hr
      refine ro h (nI (pc r)) ?_ ?_
      · simp only [F_X7_room, F_X7_room_0, P_hasRoom_in hc hr, Option.bind_some, P_placesOf hc hr]
        rw [if_neg (by decide), if_pos trivial]
      · simp only [F_X8_room, F_X8_room_0, F_X8_room_25, M_isRoom_in hm hr, Option.bind_some, if_true, gi_in (show r < 3 by omega) (show 3 < 2 ^ 31 by decide), clN (show r < 2 ^ 31 by omega), hp.1]
        rw [if_neg (by decide)]
    · have hp := hc.2.2.2.2 r hr
      rcases idx y (n := pc r) (by omega) with ⟨i, hi, rfl⟩ | hy
      · have e1 : 6 * nI r + nI i = nI (r * 6 + i) := by rw [litN 6, pk_mul, nI_add, Nat.mul_comm]
        have hw := M_whoAt hm (nI r) (nI i)
        have hweq : whoF (st.1 (9 + 1)) (st.1 (9 + 2)) (nI r) (nI i) 0 6 = whoL (st.1 69) (st.1 70) (nI r) (nI i) n := who_eq (v := vC 9 st) hV hc.2.1 (fun p hp => (hA.1 p hp).1.symm) (fun p hp => (hA.1 p hp).2.1.symm) (by omega) _
        have S7 : F_X7_room (nI r) (nI i) z st = if z < 0 then some (-1000000002, st) else if z ≤ 1 then (if z = 0 then some (st.1 3 (r * 6 + i), st) else some (oI (whoL (st.1 69) (st.1 70) (nI r) (nI i) n), st)) else some (-1000000002, st) := by
          simp only [F_X7_room, F_X7_room_0, P_hasRoom_in hc hr, Option.bind_some, P_hasPlace_in hc hr hi, P_floorAt hc hr hi, P_whoIsAt, hweq, F_X7_room_80, F_X7_room_52]
          rw [if_neg (by decide), if_neg cy, if_neg (by decide)]
        have S8 : F_X8_room (nI r) (nI i) z st = if z = 0 then some (st.1 61 (r * 6 + i), st) else if z = 1 then some (oI (whoL (st.1 69) (st.1 70) (nI r) (nI i) n), st) else some (-1000000002, st) := by
          simp only [F_X8_room, F_X8_room_0, F_X8_room_25, F_X8_room_71, M_isRoom_in hm hr, Option.bind_some, M_isPlace_in hm hr hi, hw, e1, gi_in (show r * 6 + i < 18 by omega) (show 18 < 2 ^ 31 by decide), clN (show r * 6 + i < 2 ^ 31 by omega)]
          rw [if_neg (by decide), if_neg cy, if_neg (by decide), if_neg cy]
        by_cases c : z = 0 ∨ z = 1
        · rcases c with rfl | rfl
          · refine ro h (st.1 61 (r * 6 + i)) ?_ ?_
            · rw [S7, if_neg (by decide), if_pos (by decide), if_pos rfl, hF r hr i hi]
            · rw [S8, if_pos rfl]
          · refine ro h (oI (whoL (st.1 69) (st.1 70) (nI r) (nI i) n)) ?_ ?_
            · rw [S7, if_neg (by decide), if_pos (by decide), if_neg (by decide)]
            · rw [S8, if_neg (by decide), if_pos rfl]
        · refine ro h (-1000000002) ?_ ?_
          · rw [S7]
            rcases c01 c with c | c
            · rw [if_pos c]
            · rw [if_neg c]; split <;> rfl
          · rw [S8, if_neg (fun q => c (Or.inl q)), if_neg (fun q => c (Or.inr q))]
      · refine ro h (-1000000001) ?_ ?_
        · simp only [F_X7_room, F_X7_room_0, P_hasRoom_in hc hr, Option.bind_some, P_hasPlace_outi hc hr hy]
          rw [if_neg (by decide), if_neg cy, if_pos trivial]
        · simp only [F_X8_room, F_X8_room_0, F_X8_room_22, M_isRoom_in hm hr, Option.bind_some, M_isPlace_outi hm hr hy]
          rw [if_neg (by decide), if_neg cy, if_pos trivial]
  · refine ro h (-1000000001) ?_ ?_
    · simp only [F_X7_room, F_X7_room_0, P_hasRoom_out hc hx, Option.bind_some, if_true]
    · simp only [F_X8_room, F_X8_room_0, F_X8_room_22, M_isRoom_out hm hx, Option.bind_some, if_true]
theorem B_person (x z : Int32) : Bo (F_X7_person x z) (F_X8_person x z) := by
  intro k n pc b st hb h
  obtain ⟨hc, hm, hF, -, hK, hG, -⟩ := h.house
  obtain ⟨hA, hV, -⟩ := h.scene
  have hk := hc.1
  have hn := hc.2.1
  have hpc : ∀ r, r < k → pc r ≤ 6 := fun r hr => (hc.2.2.2.2 r hr).2.2
  rcases idx x (n := n) (by omega) with ⟨p, hp, rfl⟩ | hx
  · have hp6 : p < 6 := by omega
    obtain ⟨a1, a2, a3, a4, a5⟩ := hA.1 p hp
    have a1' : st.1 10 p = st.1 69 p := a1
    have a2' : st.1 11 p = st.1 70 p := a2
    have a3' : st.1 13 p = st.1 67 p := a3
    have a4' : st.1 14 p = st.1 68 p := a4
    have a5' : st.1 12 p = st.1 71 p := a5
    have e7 := P_hasPerson_in hc hp
    have e8 := M_isPerson_in hm hp
    by_cases c0 : z = 0
    · exact ro h (st.1 67 p) (by simp only [F_X7_person, F_X7_person_0, F_X7_person_155, e7, Option.bind_some, c0, if_true, g6 hp6, c6 hp6, a3']; rw [if_neg (by decide)]) (by simp only [F_X8_person, F_X8_person_0, F_X8_person_127, e8, Option.bind_some, c0, if_true, g6 hp6, c6 hp6]; rw [if_neg (by decide)])
    by_cases c1 : z = 1
    · exact ro h (st.1 68 p) (by simp only [F_X7_person, F_X7_person_0, F_X7_person_155, e7, Option.bind_some, c0, c1, if_true, if_false, g6 hp6, c6 hp6, a4']; rw [if_neg (by decide), if_neg (by decide)]) (by simp only [F_X8_person, F_X8_person_0, F_X8_person_127, e8, Option.bind_some, c0, c1, if_true, g6 hp6, c6 hp6]; rw [if_neg (by decide), if_neg (by decide)])
    by_cases c2 : z = 2
    · exact ro h (st.1 64 p) (by simp only [F_X7_person, F_X7_person_0, F_X7_person_155, e7, Option.bind_some, c0, c1, c2, if_true, if_false, g6 hp6, c6 hp6, (hK p hp).1]; rw [if_neg (by decide), if_neg (by decide), if_neg (by decide)]) (by simp only [F_X8_person, F_X8_person_0, F_X8_person_127, e8, Option.bind_some, c0, c1, c2, if_true, g6 hp6, c6 hp6]; rw [if_neg (by decide), if_neg (by decide), if_neg (by decide)])
    by_cases c3 : z = 3
    · exact ro h (st.1 65 p) (by simp only [F_X7_person, F_X7_person_0, F_X7_person_155, e7, Option.bind_some, c3, if_true, if_false, g6 hp6, c6 hp6, (hG p hp).1]; rw [if_neg (by decide), if_neg (by decide), if_neg (by decide), if_neg (by decide)]) (by simp only [F_X8_person, F_X8_person_0, F_X8_person_127, e8, Option.bind_some, c3, if_true, g6 hp6, c6 hp6]; rw [if_neg (by decide), if_neg (by decide), if_neg (by decide), if_neg (by decide)])
    by_cases c4 : z = 4
    · exact ro h (st.1 69 p) (by simp only [F_X7_person, F_X7_person_0, F_X7_person_155, e7, Option.bind_some, c4, if_true, if_false, g6 hp6, c6 hp6, a1']; rw [if_neg (by decide), if_neg (by decide), if_neg (by decide), if_neg (by decide), if_neg (by decide)]) (by simp only [F_X8_person, F_X8_person_0, F_X8_person_127, e8, Option.bind_some, c4, if_true, g6 hp6, c6 hp6]; rw [if_neg (by decide), if_neg (by decide), if_neg (by decide), if_neg (by decide), if_neg (by decide)])
    by_cases c5 : z = 5
    · exact ro h (st.1 70 p) (by simp only [F_X7_person, F_X7_person_0, F_X7_person_155, e7, Option.bind_some, c5, if_true, if_false, g6 hp6, c6 hp6, a2']; rw [if_neg (by decide), if_neg (by decide), if_neg (by decide), if_neg (by decide), if_neg (by decide), if_neg (by decide)]) (by simp only [F_X8_person, F_X8_person_0, F_X8_person_127, e8, Option.bind_some, c5, if_true, g6 hp6, c6 hp6]; rw [if_neg (by decide), if_neg (by decide), if_neg (by decide), if_neg (by decide), if_neg (by decide), if_neg (by decide)])
    by_cases c6' : z = 6
    · exact ro h (st.1 71 p) (by simp only [F_X7_person, F_X7_person_0, F_X7_person_155, e7, Option.bind_some, c6', if_true, if_false, g6 hp6, c6 hp6, a5']; rw [if_neg (by decide), if_neg (by decide), if_neg (by decide), if_neg (by decide), if_neg (by decide), if_neg (by decide), if_neg (by decide)]) (by simp only [F_X8_person, F_X8_person_0, F_X8_person_127, e8, Option.bind_some, c6', if_true, g6 hp6, c6 hp6]; rw [if_neg (by decide), if_neg (by decide), if_neg (by decide), if_neg (by decide), if_neg (by decide), if_neg (by decide), if_neg (by decide)])
    by_cases c7 : z = 7
    · subst c7
      rcases hV.1 p hp with hin | ⟨e1, e2⟩
      · have hin2 : inP k pc (vM st) p := inP_ag (hA.x 0) hp hin
        obtain ⟨r, i, h1, h2, e1, e2⟩ := hin2
        have e1' : st.1 69 p = nI r := e1
        have hd1 := P_headOf hc hp6 hin
        have hd2 := M_headOf hm hp6 (inP_ag (hA.x 0) hp hin)
        rw [hd_ag hk hpc hF hA hp hin] at hd1
        refine ro h (hd (st.1 61) (vM st) p) ?_ ?_
        · simp only [F_X7_person, F_X7_person_0, F_X7_person_155, e7, Option.bind_some, g6 hp6, c6 hp6, a1', e1', hd1]
          rw [if_neg (by decide), if_neg (by decide), if_neg (by decide), if_neg (by decide), if_neg (by decide), if_neg (by decide), if_neg (by decide), if_neg (by decide), if_pos trivial, if_neg (nI_ne1 (by omega))]
        · simp only [F_X8_person, F_X8_person_0, F_X8_person_127, e8, Option.bind_some, g6 hp6, c6 hp6, e1', hd2]
          rw [if_neg (by decide), if_neg (by decide), if_neg (by decide), if_neg (by decide), if_neg (by decide), if_neg (by decide), if_neg (by decide), if_neg (by decide), if_pos trivial, if_pos (nI_pos' (by omega))]
      · have e1' : st.1 10 p = -1 := e1
        refine ro h (-1) ?_ ?_
        · simp only [F_X7_person, F_X7_person_0, F_X7_person_155, e7, Option.bind_some, g6 hp6, c6 hp6, e1']
          rw [if_neg (by decide), if_neg (by decide), if_neg (by decide), if_neg (by decide), if_neg (by decide), if_neg (by decide), if_neg (by decide), if_neg (by decide), if_pos trivial, if_pos trivial]
        · simp only [F_X8_person, F_X8_person_0, F_X8_person_127, e8, Option.bind_some, g6 hp6, c6 hp6, ← a1', e1']
          rw [if_neg (by decide), if_neg (by decide), if_neg (by decide), if_neg (by decide), if_neg (by decide), if_neg (by decide), if_neg (by decide), if_neg (by decide), if_pos trivial, if_neg (by decide)]
    · exact ro h (-1000000002) (by simp only [F_X7_person, F_X7_person_0, F_X7_person_155, e7, Option.bind_some, c0, c1, c2, c3, c4, c5, c6', c7, if_false]; rw [if_neg (by decide)]) (by simp only [F_X8_person, F_X8_person_0, F_X8_person_127, e8, Option.bind_some, c0, c1, c2, c3, c4, c5, c6', c7, if_false]; rw [if_neg (by decide)])
  · refine ro h (-1000000001) ?_ ?_
    · simp only [F_X7_person, F_X7_person_0, P_hasPerson_out hc hx, Option.bind_some, if_true]
    · simp only [F_X8_person, F_X8_person_0, M_isPerson_out hm hx, Option.bind_some, if_true]
theorem B_friends (x y : Int32) : Bo (F_X7_friends x y) (F_X8_friends x y) := by
  intro k n pc b st hb h
  obtain ⟨hc, hm, -, -, -, -, -, hW⟩ := h.house
  have hn := hc.2.1
  rcases idx x (n := n) (by omega) with ⟨p, hp, rfl⟩ | hx
  · rcases idx y (n := n) (by omega) with ⟨q, hq, rfl⟩ | hy
    · obtain ⟨w, -, w1, w2, -⟩ := hW p q hp hq
      have e1 : 6 * nI p + nI q = nI (p * 6 + q) := by rw [litN 6, pk_mul, nI_add, Nat.mul_comm]
      have e2 : nI p * 6 + nI q = nI (p * 6 + q) := by rw [litN 6, pk_mul, nI_add]
      by_cases c : nI p = nI q
      · refine ro h (-1000000001) ?_ ?_
        · simp only [F_X7_friends, F_X7_friends_0, F_X7_friends_27, P_hasPerson_in hc hp, P_hasPerson_in hc hq, Option.bind_some]
          rw [if_neg (by decide), if_neg (by decide), if_pos c]
        · simp only [F_X8_friends, F_X8_friends_0, F_X8_friends_35, F_X8_friends_37, M_isPerson_in hm hp, M_isPerson_in hm hq, Option.bind_some]
          rw [if_neg (by decide), if_neg (by decide), if_pos c]
      · refine ro h (nI w) ?_ ?_
        · simp only [F_X7_friends, F_X7_friends_0, F_X3_friendship, F_X3_friendship_0, F_X3_friendship_31, P_hasPerson_in hc hp, P_hasPerson_in hc hq, Option.bind_some, e2, gi_in (show p * 6 + q < 36 by omega) (show 36 < 2 ^ 31 by decide), clN (show p * 6 + q < 2 ^ 31 by omega), w1]
          rw [if_neg (by decide), if_neg (by decide), if_neg c]
          rfl
        · simp only [F_X8_friends, F_X8_friends_0, F_X8_friends_37, M_isPerson_in hm hp, M_isPerson_in hm hq, Option.bind_some, e1, gi_in (show p * 6 + q < 36 by omega) (show 36 < 2 ^ 31 by decide), clN (show p * 6 + q < 2 ^ 31 by omega), w2]
          rw [if_neg (by decide), if_neg (by decide), if_neg c]
    · refine ro h (-1000000001) ?_ ?_
      · simp only [F_X7_friends, F_X7_friends_0, F_X7_friends_27, P_hasPerson_in hc hp, P_hasPerson_out hc hy, Option.bind_some, if_true]
        rw [if_neg (by decide)]
      · simp only [F_X8_friends, F_X8_friends_0, F_X8_friends_35, F_X8_friends_37, M_isPerson_in hm hp, M_isPerson_out hm hy, Option.bind_some, if_true]
        rw [if_neg (by decide)]
  · refine ro h (-1000000001) ?_ ?_
    · simp only [F_X7_friends, F_X7_friends_0, F_X7_friends_27, P_hasPerson_out hc hx, Option.bind_some, if_true]
    · simp only [F_X8_friends, F_X8_friends_0, F_X8_friends_35, F_X8_friends_37, M_isPerson_out hm hx, Option.bind_some, if_true]
theorem B_first (x z : Int32) : Bo (F_X7_first x z) (F_X8_first x z) := by
  intro k n pc b st hb h
  obtain ⟨hc, hm, hF, -⟩ := h.house
  have hVM := SceneR.vw h.scene
  obtain ⟨hA, hV, -, -, -, ⟨lw, hlw, w1, w2⟩, -⟩ := h.scene
  have hk := hc.1
  have hn := hc.2.1
  have hpc : ∀ r, r < k → pc r ≤ 6 := fun r hr => (hc.2.2.2.2 r hr).2.2
  rcases idx x (n := k) (by omega) with ⟨r, hr, rfl⟩ | hx
  · by_cases c : z = 0 ∨ z = 1
    · have f1 := P_firstTooHigh hc hV w1 hlw hr
      have f2 := M_firstFault hm hVM w2 hlw hr
      have hff := ff_ag (lw := lw) hk hn hpc hF hV hA hr
      rw [hff] at f1
      have z1 : ¬ z < 0 ∧ z ≤ 1 := by rcases c with rfl | rfl <;> decide
      have S7 : ∀ (o : Int32), F_X1_firstTooHigh 9 (nI r) st = some (o, st) → F_X7_first (nI r) z st = if o = -1 then some (o, st) else if z = 0 then some (o, st) else (F_X1_excessOf 9 o (nI r) st).bind (fun q8 => some (q8.1, q8.2)) := by
        intro o ho
        simp only [F_X7_first, F_X7_first_0, F_X7_first_44, F_X7_first_57, P_hasRoom_in hc hr, Option.bind_some, ho]
        rw [if_neg (by decide), if_neg z1.1, if_pos z1.2]
      have S8 : ∀ (o : Int32), F_X8_firstFault (nI r) st = some (o, st) → F_X8_first (nI r) z st = if (0 : Int32) ≤ o then (if z = 0 then some (o, st) else (F_X8_tooHigh o (nI r) st).bind (fun q8 => some (q8.1, q8.2))) else some (-1, st) := by
        intro o ho
        simp only [F_X8_first, F_X8_first_0, F_X8_first_52, M_isRoom_in hm hr, Option.bind_some, ho, in01, if_pos c]
        rw [if_neg (by decide), if_neg (by decide)]
      rw [show (∃ a s1 s2, F_X7_first (nI r) z st = some (a, s1) ∧ F_X8_first (nI r) z s1 = some (a, s2) ∧ ∃ k n pc, R k n pc (b + 60) s2) = (∃ a s1 s2, F_X7_first (nI r) z st = some (a, s1) ∧ F_X8_first (nI r) z s1 = some (a, s2) ∧ ∃ k n pc, R k n pc (b + 60) s2) from rfl]
      cases hf : ffS lw n (st.1 61) (vM st) (nI r) with
      | none =>
        rw [hf] at f1 f2
        refine ro h (-1) ?_ ?_
        · rw [S7 _ f1, if_pos oI_none]; rfl
        · rw [S8 _ f2, if_neg (by decide)]
      | some p =>
        rw [hf] at f1 f2
        obtain ⟨p1, p2, p3⟩ := ffS_lt hf
        have e69 : st.1 69 p = nI r := p2
        have e10 : st.1 (9 + 1) p = nI r := ((hA.1 p p1).1).trans p2
        have x1 := P_excessOf hc hV w1 hlw p1 hr e10
        have x2 := M_tooHigh hm hVM w2 hlw p1 hr e69
        rw [ex_ag (lw := lw) hk hn hpc hF hV hA hr p1 e10] at x1
        by_cases cz : z = 0
        · refine ro h (nI p) ?_ ?_
          · rw [S7 _ f1, if_neg (show ¬ oI (some p) = -1 from nI_ne1 (by omega)), if_pos cz]; rfl
          · rw [S8 _ f2, if_pos (show (0 : Int32) ≤ oI (some p) from nI_pos' (by omega)), if_pos cz]; rfl
        · refine ro h (exS lw n (st.1 61) (vM st) (nI r) p) ?_ ?_
          · rw [S7 _ f1, if_neg (show ¬ oI (some p) = -1 from nI_ne1 (by omega)), if_neg cz, show oI (some p) = nI p from rfl, x1]; rfl
          · rw [S8 _ f2, if_pos (show (0 : Int32) ≤ oI (some p) from nI_pos' (by omega)), if_neg cz, show oI (some p) = nI p from rfl, x2]; rfl
    · refine ro h (-1000000002) ?_ ?_
      · simp only [F_X7_first, F_X7_first_0, F_X7_first_23, P_hasRoom_in hc hr, Option.bind_some]
        rw [if_neg (by decide)]
        rcases c01 c with c | c
        · rw [if_pos c]
        · rw [if_neg c]; split <;> rfl
      · simp only [F_X8_first, F_X8_first_0, M_isRoom_in hm hr, Option.bind_some, in01, if_neg c, if_true]
        rw [if_neg (by decide)]
  · refine ro h (-1000000001) ?_ ?_
    · simp only [F_X7_first, F_X7_first_0, P_hasRoom_out hc hx, Option.bind_some, if_true]
    · simp only [F_X8_first, F_X8_first_0, M_isRoom_out hm hx, Option.bind_some, if_true]

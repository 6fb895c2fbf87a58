/-! THE WORLD: cells of fixed shape at addresses X.2.1 id; what they hold: st -/
abbrev Sh : Type := (Nat × Nat) ⊕ ((List Nat) ⊕ (Nat × List (Option (Option Nat))))
abbrev St : Type := (Nat → Nat → Int32) × (Nat → Nat → Int64)
/-- the class numbers, the addresses, the array classes, the first address that may change, the addresses of the String constants and of their bytes -/
abbrev Cx : Type := va_G × (Nat → Nat) × (Nat → ClassId) × Nat × (Nat → Nat) × (Nat → Nat)
abbrev classes : List vw_C := [(RX0, TX0, 4), (RX1, TX1, 2), (RX2, TX2, 7), (RX3, TX3, 10), (RX4, TX4, 11), (RX5, TX5, 8), (RX6, TX6, 7), (RX7, TX7, 12), (RX8, TX8, 51)]
def shp : List Sh := [
  .inr (.inr (7, [some (some 1), some (some 9), some (some 15), some (some 16), some (some 22), some (some 23), some (some 33), some (some 38), some (some 41), some (some 45), some (some 58), none])),
  .inr (.inr (3, [none, none, none, some (some 2), some (some 3), some (some 4), some (some 5), some (some 6), some (some 7), some (some 8)])),
  .inl (0, 3),
  .inl (0, 18),
  .inl (0, 6),
  .inl (0, 6),
  .inl (0, 6),
  .inl (0, 6),
  .inl (0, 36),
  .inr (.inr (6, [some (some 10), some (some 11), some (some 12), some (some 13), some (some 14), none, none])),
  .inl (0, 6),
  .inl (0, 6),
  .inl (0, 6),
  .inl (0, 6),
  .inl (0, 6),
  .inr (.inr (1, [some (some 1), some (some 9)])),
  .inr (.inr (6, [some (some 17), some (some 18), some (some 19), some (some 20), some (some 21), none, none])),
  .inl (0, 6),
  .inl (0, 6),
  .inl (0, 6),
  .inl (0, 6),
  .inl (0, 6),
  .inr (.inr (1, [some (some 1), some (some 16)])),
  .inr (.inr (5, [some (some 24), none, none, none, some (some 32), none, none, none])),
  .inr (.inr (3, [none, none, none, some (some 25), some (some 26), some (some 27), some (some 28), some (some 29), some (some 30), some (some 31)])),
  .inl (0, 3),
  .inl (0, 18),
  .inl (0, 6),
  .inl (0, 6),
  .inl (0, 6),
  .inl (0, 6),
  .inl (0, 36),
  .inl (1, 500),
  .inr (.inr (4, [some (some 1), some (some 9), some (some 34), some (some 35), some (some 36), some (some 37), none, none, none, none, none])),
  .inl (0, 6),
  .inl (0, 6),
  .inl (0, 384),
  .inl (0, 6),
  .inr (.inr (2, [some (some 1), some (some 33), some (some 39), some (some 40), none, none, none])),
  .inl (0, 3),
  .inl (0, 3),
  .inr (.inr (0, [some (some 42), some (some 43), some (some 44), none])),
  .inl (0, 20),
  .inl (0, 20),
  .inl (0, 20),
  .inr (.inl [46, 52]),
  .inr (.inr (6, [some (some 47), some (some 48), some (some 49), some (some 50), some (some 51), none, none])),
  .inl (0, 6),
  .inl (0, 6),
  .inl (0, 6),
  .inl (0, 6),
  .inl (0, 6),
  .inr (.inr (6, [some (some 53), some (some 54), some (some 55), some (some 56), some (some 57), none, none])),
  .inl (0, 6),
  .inl (0, 6),
  .inl (0, 6),
  .inl (0, 6),
  .inl (0, 6),
  .inl (2, 2),
  .inr (.inr (8, [none, some (some 60), some (some 61), none, some (some 62), some (some 63), some (some 64), some (some 65), none, some (some 66), none, some (some 67), some (some 68), some (some 69), some (some 70), some (some 71), none, some (some 72), none, none, none, some none, none, none, none, none, some (some 73), some (some 74), none, some (some 75), some (some 76), some (some 77), some (some 78), none, some (some 79), some (some 80), some (some 81), some (some 82), some (some 83), some (some 84), some (some 85), some (some 86), none, some (some 87), some (some 88), none, some (some 89), some (some 90), some (some 91), some (some 92), some (some 93)])),
  .inl (0, 3),
  .inl (0, 18),
  .inl (0, 6),
  .inl (0, 6),
  .inl (0, 6),
  .inl (0, 6),
  .inl (0, 36),
  .inl (0, 6),
  .inl (0, 6),
  .inl (0, 6),
  .inl (0, 6),
  .inl (0, 6),
  .inl (0, 500),
  .inl (0, 3),
  .inl (0, 18),
  .inl (0, 6),
  .inl (0, 6),
  .inl (0, 6),
  .inl (0, 6),
  .inl (0, 36),
  .inl (0, 6),
  .inl (0, 6),
  .inl (0, 6),
  .inl (0, 6),
  .inl (0, 192),
  .inl (0, 6),
  .inl (0, 6),
  .inl (0, 6),
  .inl (0, 6),
  .inl (0, 20),
  .inl (0, 20),
  .inl (0, 20),
  .inl (0, 120),
  .inl (2, 2)]
theorem sh_0 : shp[0]? = some (.inr (.inr (7, [some (some 1), some (some 9), some (some 15), some (some 16), some (some 22), some (some 23), some (some 33), some (some 38), some (some 41), some (some 45), some (some 58), none]))) := rfl
theorem sh_1 : shp[1]? = some (.inr (.inr (3, [none, none, none, some (some 2), some (some 3), some (some 4), some (some 5), some (some 6), some (some 7), some (some 8)]))) := rfl
theorem sh_2 : shp[2]? = some (.inl (0, 3)) := rfl
theorem sh_3 : shp[3]? = some (.inl (0, 18)) := rfl
theorem sh_4 : shp[4]? = some (.inl (0, 6)) := rfl
theorem sh_5 : shp[5]? = some (.inl (0, 6)) := rfl
theorem sh_6 : shp[6]? = some (.inl (0, 6)) := rfl
theorem sh_7 : shp[7]? = some (.inl (0, 6)) := rfl
theorem sh_8 : shp[8]? = some (.inl (0, 36)) := rfl
theorem sh_9 : shp[9]? = some (.inr (.inr (6, [some (some 10), some (some 11), some (some 12), some (some 13), some (some 14), none, none]))) := rfl
theorem sh_10 : shp[10]? = some (.inl (0, 6)) := rfl
theorem sh_11 : shp[11]? = some (.inl (0, 6)) := rfl
theorem sh_12 : shp[12]? = some (.inl (0, 6)) := rfl
theorem sh_13 : shp[13]? = some (.inl (0, 6)) := rfl
theorem sh_14 : shp[14]? = some (.inl (0, 6)) := rfl
theorem sh_15 : shp[15]? = some (.inr (.inr (1, [some (some 1), some (some 9)]))) := rfl
theorem sh_16 : shp[16]? = some (.inr (.inr (6, [some (some 17), some (some 18), some (some 19), some (some 20), some (some 21), none, none]))) := rfl
theorem sh_17 : shp[17]? = some (.inl (0, 6)) := rfl
theorem sh_18 : shp[18]? = some (.inl (0, 6)) := rfl
theorem sh_19 : shp[19]? = some (.inl (0, 6)) := rfl
theorem sh_20 : shp[20]? = some (.inl (0, 6)) := rfl
theorem sh_21 : shp[21]? = some (.inl (0, 6)) := rfl
theorem sh_22 : shp[22]? = some (.inr (.inr (1, [some (some 1), some (some 16)]))) := rfl
theorem sh_23 : shp[23]? = some (.inr (.inr (5, [some (some 24), none, none, none, some (some 32), none, none, none]))) := rfl
theorem sh_24 : shp[24]? = some (.inr (.inr (3, [none, none, none, some (some 25), some (some 26), some (some 27), some (some 28), some (some 29), some (some 30), some (some 31)]))) := rfl
theorem sh_25 : shp[25]? = some (.inl (0, 3)) := rfl
theorem sh_26 : shp[26]? = some (.inl (0, 18)) := rfl
theorem sh_27 : shp[27]? = some (.inl (0, 6)) := rfl
theorem sh_28 : shp[28]? = some (.inl (0, 6)) := rfl
theorem sh_29 : shp[29]? = some (.inl (0, 6)) := rfl
theorem sh_30 : shp[30]? = some (.inl (0, 6)) := rfl
theorem sh_31 : shp[31]? = some (.inl (0, 36)) := rfl
theorem sh_32 : shp[32]? = some (.inl (1, 500)) := rfl
theorem sh_33 : shp[33]? = some (.inr (.inr (4, [some (some 1), some (some 9), some (some 34), some (some 35), some (some 36), some (some 37), none, none, none, none, none]))) := rfl
theorem sh_34 : shp[34]? = some (.inl (0, 6)) := rfl
theorem sh_35 : shp[35]? = some (.inl (0, 6)) := rfl
theorem sh_36 : shp[36]? = some (.inl (0, 384)) := rfl
theorem sh_37 : shp[37]? = some (.inl (0, 6)) := rfl
theorem sh_38 : shp[38]? = some (.inr (.inr (2, [some (some 1), some (some 33), some (some 39), some (some 40), none, none, none]))) := rfl
theorem sh_39 : shp[39]? = some (.inl (0, 3)) := rfl
theorem sh_40 : shp[40]? = some (.inl (0, 3)) := rfl
theorem sh_41 : shp[41]? = some (.inr (.inr (0, [some (some 42), some (some 43), some (some 44), none]))) := rfl
theorem sh_42 : shp[42]? = some (.inl (0, 20)) := rfl
theorem sh_43 : shp[43]? = some (.inl (0, 20)) := rfl
theorem sh_44 : shp[44]? = some (.inl (0, 20)) := rfl
theorem sh_45 : shp[45]? = some (.inr (.inl [46, 52])) := rfl
theorem sh_46 : shp[46]? = some (.inr (.inr (6, [some (some 47), some (some 48), some (some 49), some (some 50), some (some 51), none, none]))) := rfl
theorem sh_47 : shp[47]? = some (.inl (0, 6)) := rfl
theorem sh_48 : shp[48]? = some (.inl (0, 6)) := rfl
theorem sh_49 : shp[49]? = some (.inl (0, 6)) := rfl
theorem sh_50 : shp[50]? = some (.inl (0, 6)) := rfl
theorem sh_51 : shp[51]? = some (.inl (0, 6)) := rfl
theorem sh_52 : shp[52]? = some (.inr (.inr (6, [some (some 53), some (some 54), some (some 55), some (some 56), some (some 57), none, none]))) := rfl
theorem sh_53 : shp[53]? = some (.inl (0, 6)) := rfl
theorem sh_54 : shp[54]? = some (.inl (0, 6)) := rfl
theorem sh_55 : shp[55]? = some (.inl (0, 6)) := rfl
theorem sh_56 : shp[56]? = some (.inl (0, 6)) := rfl
theorem sh_57 : shp[57]? = some (.inl (0, 6)) := rfl
theorem sh_58 : shp[58]? = some (.inl (2, 2)) := rfl
theorem sh_59 : shp[59]? = some (.inr (.inr (8, [none, some (some 60), some (some 61), none, some (some 62), some (some 63), some (some 64), some (some 65), none, some (some 66), none, some (some 67), some (some 68), some (some 69), some (some 70), some (some 71), none, some (some 72), none, none, none, some none, none, none, none, none, some (some 73), some (some 74), none, some (some 75), some (some 76), some (some 77), some (some 78), none, some (some 79), some (some 80), some (some 81), some (some 82), some (some 83), some (some 84), some (some 85), some (some 86), none, some (some 87), some (some 88), none, some (some 89), some (some 90), some (some 91), some (some 92), some (some 93)]))) := rfl
theorem sh_60 : shp[60]? = some (.inl (0, 3)) := rfl
theorem sh_61 : shp[61]? = some (.inl (0, 18)) := rfl
theorem sh_62 : shp[62]? = some (.inl (0, 6)) := rfl
theorem sh_63 : shp[63]? = some (.inl (0, 6)) := rfl
theorem sh_64 : shp[64]? = some (.inl (0, 6)) := rfl
theorem sh_65 : shp[65]? = some (.inl (0, 6)) := rfl
theorem sh_66 : shp[66]? = some (.inl (0, 36)) := rfl
theorem sh_67 : shp[67]? = some (.inl (0, 6)) := rfl
theorem sh_68 : shp[68]? = some (.inl (0, 6)) := rfl
theorem sh_69 : shp[69]? = some (.inl (0, 6)) := rfl
theorem sh_70 : shp[70]? = some (.inl (0, 6)) := rfl
theorem sh_71 : shp[71]? = some (.inl (0, 6)) := rfl
theorem sh_72 : shp[72]? = some (.inl (0, 500)) := rfl
theorem sh_73 : shp[73]? = some (.inl (0, 3)) := rfl
theorem sh_74 : shp[74]? = some (.inl (0, 18)) := rfl
theorem sh_75 : shp[75]? = some (.inl (0, 6)) := rfl
theorem sh_76 : shp[76]? = some (.inl (0, 6)) := rfl
theorem sh_77 : shp[77]? = some (.inl (0, 6)) := rfl
theorem sh_78 : shp[78]? = some (.inl (0, 6)) := rfl
theorem sh_79 : shp[79]? = some (.inl (0, 36)) := rfl
theorem sh_80 : shp[80]? = some (.inl (0, 6)) := rfl
theorem sh_81 : shp[81]? = some (.inl (0, 6)) := rfl
theorem sh_82 : shp[82]? = some (.inl (0, 6)) := rfl
theorem sh_83 : shp[83]? = some (.inl (0, 6)) := rfl
theorem sh_84 : shp[84]? = some (.inl (0, 192)) := rfl
theorem sh_85 : shp[85]? = some (.inl (0, 6)) := rfl
theorem sh_86 : shp[86]? = some (.inl (0, 6)) := rfl
theorem sh_87 : shp[87]? = some (.inl (0, 6)) := rfl
theorem sh_88 : shp[88]? = some (.inl (0, 6)) := rfl
theorem sh_89 : shp[89]? = some (.inl (0, 20)) := rfl
theorem sh_90 : shp[90]? = some (.inl (0, 20)) := rfl
theorem sh_91 : shp[91]? = some (.inl (0, 20)) := rfl
theorem sh_92 : shp[92]? = some (.inl (0, 120)) := rfl
theorem sh_93 : shp[93]? = some (.inl (2, 2)) := rfl

def sA (st : St) (i : Nat) (f : Nat → Int32) : St := (fun a => if a = i then f else st.1 a, st.2)
def sV (st : St) (i k : Nat) (x : Int32) : St := sA st i (upd (st.1 i) k x)
def sJ (st : St) (i k : Nat) (x : Int64) : St := (st.1, fun a => if a = i then vp_updL (st.2 i) k x else st.2 a)
def fv (X : Cx) (st : St) (id k : Nat) (f : Option (Option Nat)) : Value := match f with
  | none => .int (st.1 id k)
  | some none => .long (st.2 id k)
  | some (some r) => .ref (X.2.1 r)
def wc (X : Cx) (st : St) (id : Nat) (c : Sh) : va_E := match c with
  | .inl (t, n) => .inl (X.2.2.1 t, n, .inl (st.1 id))
  | .inr (.inl ids) => .inl (X.2.2.1 3, ids.length, .inr (.inr (.inr (.inr (fun i => (ids[i]?).map X.2.1)))))
  | .inr (.inr (ci, fk)) => .inr (ci, fk.mapIdx (fv X st id))
def wW (X : Cx) (st : St) : va_W := shp.mapIdx (fun id c => (X.2.1 id, wc X st id c))
def cA (X : Cx) : Nat → Prop := fun q => X.2.2.2.1 ≤ q
def tyc (X : Cx) : List (ClassId × FieldType) := [(X.2.2.1 0, .int), (X.2.2.1 1, .byte), (X.2.2.1 2, .boolean), (X.2.2.1 3, .object "LowHeads$Scene")]
def Ok (X : Cx) : Prop := (∀ i j, i < shp.length → j < shp.length → X.2.1 i = X.2.1 j → i = j) ∧ (∀ i, i < shp.length → X.2.2.2.1 ≤ X.2.1 i)
def strLen : List Nat := [4, 6, 7]
def strByt : List (List Int32) := [[114, 111, 111, 109], [112, 101, 114, 115, 111, 110], [102, 114, 105, 101, 110, 100, 115]]
def strRef : List (Nat × String × Nat) := [(48, "room", 0), (64, "person", 1), (72, "friends", 2)]
/-- what else holds of a state: the nest mates' links, the String constants, a static -/
def cNl : List (String × Nat) := [(RX3, 43), (RX6, 35), (RX4, 37), (RX2, 65)]
def cE (X : Cx) (U : State) : Prop := (∀ q ∈ cNl, va_Nw (.methodLinkNest q.1 q.2 yX7_copyRow RX7) U) ∧ vk_S 3 strLen strByt X.2.2.2.2.1 X.2.2.2.2.2 (cA X) U U.heap ∧ (∀ q ∈ strRef, vk_R RX5 q.1 q.2.1 (X.2.2.2.2.1 q.2.2) U) ∧ va_Z "java/lang/String" "COMPACT_STRINGS" "Z" (.int 1) (cA X) U U.heap ∧ va_Zq "jdk/internal/util/Preconditions" "SIOOBE_FORMATTER" "Ljava/util/function/BiFunction;" (cA X) U U.heap
theorem cE_same {X : Cx} {s U : State} (hv : U.vm = s.vm) (hh : U.heap = s.heap) (h : cE X s) : cE X U := by
  obtain ⟨h1, h2, h3, h4, h5⟩ := h
  have ha : s.vm.Alike U.vm := by rw [hv]; exact Vm.Alike.refl _
  exact ⟨fun q hq => va_Nw.same rfl hv.symm (h1 q hq), by rw [hh]; exact h2.moved ha, fun q hq => vk_R.same hv (h3 q hq), by rw [hh]; exact h4.moved ha, by rw [hh]; exact h5.moved ha⟩
theorem cE_warm {X : Cx} {s U : State} (hW : s.WarmedH U.vm) (hk : ∀ q : Nat, q < s.heap.size → ¬ cA X q → U.heap[q]? = s.heap[q]?) (h : cE X s) : cE X U := by
  obtain ⟨h1, h2, h3, h4, h5⟩ := h
  exact ⟨fun q hq => va_Nw.warmM hW (h1 q hq), (h2.moved hW.alike).kept hk, fun q hq => vk_R.warm hW (h3 q hq), (h4.moved hW.alike).kept hk, (h5.moved hW.alike).kept hk⟩
theorem wW_get {X : Cx} {st : St} {id : Nat} {c : Sh} (h : shp[id]? = some c) : (wW X st)[id]? = some (X.2.1 id, wc X st id c) := by
  simp [wW, List.getElem?_mapIdx, h]
theorem wW_at {X : Cx} {st : St} {k : Nat} {q : Nat × va_E} (h : (wW X st)[k]? = some q) : ∃ c, shp[k]? = some c ∧ q = (X.2.1 k, wc X st k c) := by
  simp only [wW, List.getElem?_mapIdx] at h
  cases hc : shp[k]? with
  | none => rw [hc] at h; cases h
  | some c => rw [hc] at h; exact ⟨c, rfl, (Option.some.inj h).symm⟩
theorem wW_D {X : Cx} (hX : Ok X) (st : St) : va_D (cA X) (wW X st) := by
  refine ⟨fun i j p q hi hj e => ?_, fun k q hk => ?_⟩
  · obtain ⟨c, h1, rfl⟩ := wW_at hi
    obtain ⟨d, h2, rfl⟩ := wW_at hj
    exact hX.1 i j (List.getElem?_eq_some_iff.mp h1).1 (List.getElem?_eq_some_iff.mp h2).1 e
  · obtain ⟨c, h1, rfl⟩ := wW_at hk
    exact hX.2 k (List.getElem?_eq_some_iff.mp h1).1
theorem wc_same {X : Cx} {st st2 : St} {j : Nat} (c : Sh) (h1 : st2.1 j = st.1 j) (h2 : st2.2 j = st.2 j) : wc X st2 j c = wc X st j c := by
  rcases c with ⟨t, n⟩ | ids | ⟨ci, fk⟩
  · simp [wc, h1]
  · rfl
  · have : fv X st2 j = fv X st j := by
      funext k f
      rcases f with _ | _ | r
      · simp [fv, h1]
      · simp [fv, h2]
      · rfl
    simp [wc, this]
theorem wW_set {X : Cx} {st st2 : St} {id : Nat} {c : Sh} (h : shp[id]? = some c) {e : va_E} (he : wc X st2 id c = e) (h1 : ∀ j, j ≠ id → st2.1 j = st.1 j) (h2 : ∀ j, j ≠ id → st2.2 j = st.2 j) : (wW X st).set id (X.2.1 id, e) = wW X st2 := by
  have hl : id < (wW X st).length := (List.getElem?_eq_some_iff.mp (wW_get (X := X) (st := st) h)).1
  apply List.ext_getElem?
  intro j
  by_cases hj : j = id
  · subst hj
    rw [List.getElem?_set_self hl, wW_get h, he]
  · rw [List.getElem?_set_ne (Ne.symm hj)]
    cases hc : shp[j]? with
    | none => simp [wW, List.getElem?_mapIdx, hc]
    | some d => rw [wW_get hc, wW_get hc, wc_same d (h1 j hj) (h2 j hj)]
theorem sA_ne {st : St} {i j : Nat} {f : Nat → Int32} (h : j ≠ i) : (sA st i f).1 j = st.1 j := by simp [sA, h]
theorem sA_eq {st : St} {i : Nat} {f : Nat → Int32} : (sA st i f).1 i = f := by simp [sA]
theorem wW_setA {X : Cx} {st : St} {id t n : Nat} (h : shp[id]? = some (.inl (t, n))) (f : Nat → Int32) : (wW X st).set id (X.2.1 id, .inl (X.2.2.1 t, n, .inl f)) = wW X (sA st id f) := wW_set h (by simp [wc, sA_eq]) (fun j hj => sA_ne hj) (fun _ _ => rfl)
theorem wW_setI {X : Cx} {st : St} {id ci k : Nat} {fk : List (Option (Option Nat))} (h : shp[id]? = some (.inr (.inr (ci, fk)))) (hk : fk[k]? = some none) (x : Int32) : (wW X st).set id (X.2.1 id, .inr (ci, (fk.mapIdx (fv X st id)).set k (.int x))) = wW X (sV st id k x) := by
  refine wW_set h ?_ (fun j hj => sA_ne hj) (fun _ _ => rfl)
  have e : fk.mapIdx (fv X (sV st id k x) id) = (fk.mapIdx (fv X st id)).set k (.int x) := by
    apply List.ext_getElem?
    intro j
    have hl : k < (fk.mapIdx (fv X st id)).length := by rw [List.length_mapIdx]; exact (List.getElem?_eq_some_iff.mp hk).1
    by_cases hj : j = k
    · subst hj
      rw [List.getElem?_set_self hl, List.getElem?_mapIdx, hk]
      simp [fv, sV, sA_eq, upd]
    · rw [List.getElem?_set_ne (Ne.symm hj), List.getElem?_mapIdx, List.getElem?_mapIdx]
      cases fk[j]? with
      | none => rfl
      | some f =>
        rcases f with _ | _ | r
        · simp [fv, sV, sA_eq, upd, hj]
        · rfl
        · rfl
  simp [wc, e]
theorem wW_setL {X : Cx} {st : St} {id ci k : Nat} {fk : List (Option (Option Nat))} (h : shp[id]? = some (.inr (.inr (ci, fk)))) (hk : fk[k]? = some (some none)) (x : Int64) : (wW X st).set id (X.2.1 id, .inr (ci, (fk.mapIdx (fv X st id)).set k (.long x))) = wW X (sJ st id k x) := by
  refine wW_set h ?_ (fun _ _ => rfl) (fun j hj => by simp [sJ, hj])
  have e : fk.mapIdx (fv X (sJ st id k x) id) = (fk.mapIdx (fv X st id)).set k (.long x) := by
    apply List.ext_getElem?
    intro j
    have hl : k < (fk.mapIdx (fv X st id)).length := by rw [List.length_mapIdx]; exact (List.getElem?_eq_some_iff.mp hk).1
    by_cases hj : j = k
    · subst hj
      rw [List.getElem?_set_self hl, List.getElem?_mapIdx, hk]
      simp [fv, sJ, vp_updL]
    · rw [List.getElem?_set_ne (Ne.symm hj), List.getElem?_mapIdx, List.getElem?_mapIdx]
      cases fk[j]? with
      | none => rfl
      | some f =>
        rcases f with _ | _ | r
        · rfl
        · simp [fv, sJ, vp_updL, hj]
        · rfl
  simp [wc, e]
def imx (x y : Int32) : Int32 := if x < y then y else x
def imn (x y : Int32) : Int32 := if y < x then y else x
/-! the judgements -/
def rmk (k : Nat) : Room := { frames := k, cells := 0, slots := 0, locals := 40 * k }
def Wd (X : Cx) (st : St) (U : State) : Prop := va_P X.1 classes (wW X st) U.heap ∧ va_K X.1 classes (tyc X) U ∧ X.2.2.2.1 ≤ U.heap.size ∧ cE X U
def Qf (X : Cx) (v : Option Value) (st' : St) : Array Value → State → Outcome → State → Prop := fun _ s o t => (o = .returned v ∧ va_P X.1 classes (wW X st') t.heap) ∧ va_F (cA X) s t
/-- a method's contract: called with these values over st it answers v and leaves st' -/
def Ct (l : Launch) (X : Cx) (k : Nat) (y : MethodName) (cd : Cond) (as : List Value) (st : St) (v : Option Value) (st' : St) : Prop :=
  Met l y (cd :: gtbl) (rmk k) (va_Pc as (Wd X st)) (Qf X v st') 0 0 (cA X)
def Hy (X : Cx) (p : Program) (s : State) (m : MethodId) (args : Array Value) (meth : Method) (c : Code) (cc : ByteArray) (nL : Nat) (own : String) : Prop :=
  p.tables.exec = Jvm.exec ∧ c.code = cc ∧ c.maxLocals = nL ∧ s.vm.findClass own = some m.cls ∧ (∀ w ∈ gtbl, w.before args s = true) ∧ va_K X.1 classes (tyc X) s ∧ X.2.2.2.1 ≤ s.heap.size ∧ cE X s ∧ Ok X ∧ meth.locks = false
def Z (X : Cx) (p : Program) (l : Launch) (e : Env) (R : Room) (s : State) (m : MethodId) (args : Array Value) (below : List Frame) (meth : Method) (c : Code) (nL : Nat) (Q : State → Prop) (pc : Nat) (lv : List (Nat × Value)) (stk : List Value) (st : St) : Prop :=
  ∀ (H : Heap) (locs : List Loc) (ls : Array Slot), va_P X.1 classes (wW X st) H → va_S (cA X) s.heap H locs → lv_has ls nL lv → W p l e R s m args below meth c H locs 0 0 Q (F0 m pc ls stk)
theorem Wd_blind {X : Cx} (hX : Ok X) (as : List Value) (st : St) : FrameBlind (va_Pc as (Wd X st)) := by
  intro a U g mk h
  obtain ⟨h1, h2, h3, h4, h5⟩ := h
  exact ⟨h1, h2, va_K.moved (u := U) (U := U.calling g mk a) (Vm.Alike.refl U.vm) h3, h4, cE_same (s := U) (U := U.calling g mk a) rfl rfl h5⟩
theorem Ct.of {l : Launch} {X : Cx} {k : Nat} {y : MethodName} {cc : ByteArray} {maxL : Nat} {ret : Option FieldType} {as : List Value} {st st' : St} {v : Option Value} (hX : Ok X) (hy : plainName y.cls = true) (hl : (lg_sl as).length ≤ maxL)
    (body : ∀ (p : Program) (e : Env) (s : State) (m : MethodId) (args : Array Value) (below : List Frame) (meth : Method) (c : Code), Hy X p s m args meth c cc maxL y.cls → meth.sig.returnType = ret → Z X p l e (rmk k) s m args below meth c maxL (MQ below (Qf X v st') args s 0 0 (cA X)) 0 (lv_args 0 as) [] st) :
    Ct l X k y (.code y cc maxL ret) as st v st' := by
  refine Met.ofW (cc := cc) (maxL := maxL) (ret := ret) hy rfl ?_
  intro p e s m args below meth c s₁ B hml hv
  obtain ⟨rfl, hP, hK, hh, hE⟩ := hv
  have hts := atoms_spec (ws := .code y cc maxL ret :: gtbl) B.pre
  have hown : s.vm.findClass y.cls = some m.cls := findClass_of_methodNamed B.named
  rw [lg_entry_eq]
  exact body p e s m _ below meth c ⟨B.exec, B.bytes, hml, hown, fun w hw => hts w (List.mem_cons_of_mem _ hw), hK, hh, hE, hX, B.notSynchronized⟩ B.returns s.heap [] _ hP va_S.rf (lv_entry as hl)
section X
variable {X : Cx} {p : Program} {l : Launch} {e : Env} {R : Room} {s : State} {m : MethodId} {args : Array Value} {below : List Frame} {meth : Method} {c : Code} {cc : ByteArray} {nL : Nat} {own : String} {Q : State → Prop} {pc : Nat} {lv : List (Nat × Value)} {rest : List Value} {st : St}
theorem x_iconst (hh : Hy X p s m args meth c cc nL own) {n : Int} (hd : decode cc pc = .ok (.iconst n, 1)) (v : Int32) (hv : Int32.ofInt n = v) (pc' : Nat) (hp : pc + 1 = pc') (k : Z X p l e R s m args below meth c nL Q pc' lv (.int v :: rest) st) : Z X p l e R s m args below meth c nL Q pc lv (rest) st := by
  subst hp
  exact fun H locs ls hP hS hl => lv_iconst hh.1 hh.2.1 hd hv (k H locs ls hP hS hl)
theorem x_bipush (hh : Hy X p s m args meth c cc nL own) {n : Int} (hd : decode cc pc = .ok (.bipush n, 2)) (v : Int32) (hv : (Int8.ofInt n).toInt32 = v) (pc' : Nat) (hp : pc + 2 = pc') (k : Z X p l e R s m args below meth c nL Q pc' lv (.int v :: rest) st) : Z X p l e R s m args below meth c nL Q pc lv (rest) st := by
  subst hp
  exact fun H locs ls hP hS hl => lv_bipush hh.1 hh.2.1 hd hv (k H locs ls hP hS hl)
theorem x_sipush (hh : Hy X p s m args meth c cc nL own) {n : Int} (hd : decode cc pc = .ok (.sipush n, 3)) (v : Int32) (hv : (Int16.ofInt n).toInt32 = v) (pc' : Nat) (hp : pc + 3 = pc') (k : Z X p l e R s m args below meth c nL Q pc' lv (.int v :: rest) st) : Z X p l e R s m args below meth c nL Q pc lv (rest) st := by
  subst hp
  exact fun H locs ls hP hS hl => lv_sipush hh.1 hh.2.1 hd hv (k H locs ls hP hS hl)
theorem x_lconst (hh : Hy X p s m args meth c cc nL own) {n : Fin 2} (hd : decode cc pc = .ok (.lconst n, 1)) (v : Int64) (hv : Int64.ofNat (n : Nat) = v) (pc' : Nat) (hp : pc + 1 = pc') (k : Z X p l e R s m args below meth c nL Q pc' lv (.long v :: rest) st) : Z X p l e R s m args below meth c nL Q pc lv (rest) st := by
  subst hp
  exact fun H locs ls hP hS hl => lv_lconst hh.1 hh.2.1 hd hv (k H locs ls hP hS hl)
theorem x_iload_n (hh : Hy X p s m args meth c cc nL own) {n : Fin 4} {i : Nat} {x : Int32} (hd : decode cc pc = .ok (.iload_n n, 1)) (hi : (n : Nat) = i) (j : Nat) (hj : lv[j]? = some (i, .int x)) (pc' : Nat) (hp : pc + 1 = pc') (k : Z X p l e R s m args below meth c nL Q pc' lv (.int x :: rest) st) : Z X p l e R s m args below meth c nL Q pc lv (rest) st := by
  subst hp
  exact fun H locs ls hP hS hl => lv_iload_n hh.1 hh.2.1 hd hi (lv_at hl j hj) (k H locs ls hP hS hl)
theorem x_iload (hh : Hy X p s m args meth c cc nL own) {i : Nat} {x : Int32} (hd : decode cc pc = .ok (.iload i, 2)) (j : Nat) (hj : lv[j]? = some (i, .int x)) (pc' : Nat) (hp : pc + 2 = pc') (k : Z X p l e R s m args below meth c nL Q pc' lv (.int x :: rest) st) : Z X p l e R s m args below meth c nL Q pc lv (rest) st := by
  subst hp
  exact fun H locs ls hP hS hl => lv_iload hh.1 hh.2.1 hd (lv_at hl j hj) (k H locs ls hP hS hl)
theorem x_istore_n (hh : Hy X p s m args meth c cc nL own) {n : Fin 4} {i : Nat} {x : Int32} (hd : decode cc pc = .ok (.istore_n n, 1)) (hi : (n : Nat) = i) (hn : i < nL) (lv' : List (Nat × Value)) (hl : (i, Value.int x) :: lv.filter (fun q => !(q.1 == i) && !(q.1 + 1 == i && q.2.category == 2)) = lv') (pc' : Nat) (hp : pc + 1 = pc') (k : Z X p l e R s m args below meth c nL Q pc' lv' rest st) : Z X p l e R s m args below meth c nL Q pc lv (.int x :: rest) st := by
  subst hp
  exact fun H locs ls hP hS hl0 => lv_istore_n hh.1 hh.2.1 hd hi hl0 hn hl (fun ls' hl' => k H locs ls' hP hS hl')
theorem x_istore (hh : Hy X p s m args meth c cc nL own) {i : Nat} {x : Int32} (hd : decode cc pc = .ok (.istore i, 2)) (hn : i < nL) (lv' : List (Nat × Value)) (hl : (i, Value.int x) :: lv.filter (fun q => !(q.1 == i) && !(q.1 + 1 == i && q.2.category == 2)) = lv') (pc' : Nat) (hp : pc + 2 = pc') (k : Z X p l e R s m args below meth c nL Q pc' lv' rest st) : Z X p l e R s m args below meth c nL Q pc lv (.int x :: rest) st := by
  subst hp
  exact fun H locs ls hP hS hl0 => lv_istore hh.1 hh.2.1 hd hl0 hn hl (fun ls' hl' => k H locs ls' hP hS hl')
theorem x_lload_n (hh : Hy X p s m args meth c cc nL own) {n : Fin 4} {i : Nat} {x : Int64} (hd : decode cc pc = .ok (.lload_n n, 1)) (hi : (n : Nat) = i) (j : Nat) (hj : lv[j]? = some (i, .long x)) (pc' : Nat) (hp : pc + 1 = pc') (k : Z X p l e R s m args below meth c nL Q pc' lv (.long x :: rest) st) : Z X p l e R s m args below meth c nL Q pc lv (rest) st := by
  subst hp
  exact fun H locs ls hP hS hl => lv_lload_n hh.1 hh.2.1 hd hi (lv_at hl j hj) (k H locs ls hP hS hl)
theorem x_lload (hh : Hy X p s m args meth c cc nL own) {i : Nat} {x : Int64} (hd : decode cc pc = .ok (.lload i, 2)) (j : Nat) (hj : lv[j]? = some (i, .long x)) (pc' : Nat) (hp : pc + 2 = pc') (k : Z X p l e R s m args below meth c nL Q pc' lv (.long x :: rest) st) : Z X p l e R s m args below meth c nL Q pc lv (rest) st := by
  subst hp
  exact fun H locs ls hP hS hl => lv_lload hh.1 hh.2.1 hd (lv_at hl j hj) (k H locs ls hP hS hl)
theorem x_lstore_n (hh : Hy X p s m args meth c cc nL own) {n : Fin 4} {i : Nat} {x : Int64} (hd : decode cc pc = .ok (.lstore_n n, 1)) (hi : (n : Nat) = i) (hn : i + 1 < nL) (lv' : List (Nat × Value)) (hl : (i, Value.long x) :: lv.filter (fun q => !(q.1 == i) && (!(q.1 == i + 1) && !(q.1 + 1 == i && q.2.category == 2))) = lv') (pc' : Nat) (hp : pc + 1 = pc') (k : Z X p l e R s m args below meth c nL Q pc' lv' rest st) : Z X p l e R s m args below meth c nL Q pc lv (.long x :: rest) st := by
  subst hp
  exact fun H locs ls hP hS hl0 => lv_lstore_n hh.1 hh.2.1 hd hi hl0 hn hl (fun ls' hl' => k H locs ls' hP hS hl')
theorem x_lstore (hh : Hy X p s m args meth c cc nL own) {i : Nat} {x : Int64} (hd : decode cc pc = .ok (.lstore i, 2)) (hn : i + 1 < nL) (lv' : List (Nat × Value)) (hl : (i, Value.long x) :: lv.filter (fun q => !(q.1 == i) && (!(q.1 == i + 1) && !(q.1 + 1 == i && q.2.category == 2))) = lv') (pc' : Nat) (hp : pc + 2 = pc') (k : Z X p l e R s m args below meth c nL Q pc' lv' rest st) : Z X p l e R s m args below meth c nL Q pc lv (.long x :: rest) st := by
  subst hp
  exact fun H locs ls hP hS hl0 => lv_lstore hh.1 hh.2.1 hd hl0 hn hl (fun ls' hl' => k H locs ls' hP hS hl')
theorem x_aload_n (hh : Hy X p s m args meth c cc nL own) {n : Fin 4} {i : Nat} {x : Nat} (hd : decode cc pc = .ok (.aload_n n, 1)) (hi : (n : Nat) = i) (j : Nat) (hj : lv[j]? = some (i, .ref x)) (pc' : Nat) (hp : pc + 1 = pc') (k : Z X p l e R s m args below meth c nL Q pc' lv (.ref x :: rest) st) : Z X p l e R s m args below meth c nL Q pc lv (rest) st := by
  subst hp
  exact fun H locs ls hP hS hl => lv_aload_n hh.1 hh.2.1 hd hi (lv_at hl j hj) (k H locs ls hP hS hl)
theorem x_aload (hh : Hy X p s m args meth c cc nL own) {i : Nat} {x : Nat} (hd : decode cc pc = .ok (.aload i, 2)) (j : Nat) (hj : lv[j]? = some (i, .ref x)) (pc' : Nat) (hp : pc + 2 = pc') (k : Z X p l e R s m args below meth c nL Q pc' lv (.ref x :: rest) st) : Z X p l e R s m args below meth c nL Q pc lv (rest) st := by
  subst hp
  exact fun H locs ls hP hS hl => lv_aload hh.1 hh.2.1 hd (lv_at hl j hj) (k H locs ls hP hS hl)
theorem x_astore_n (hh : Hy X p s m args meth c cc nL own) {n : Fin 4} {i : Nat} {x : Nat} (hd : decode cc pc = .ok (.astore_n n, 1)) (hi : (n : Nat) = i) (hn : i < nL) (lv' : List (Nat × Value)) (hl : (i, Value.ref x) :: lv.filter (fun q => !(q.1 == i) && !(q.1 + 1 == i && q.2.category == 2)) = lv') (pc' : Nat) (hp : pc + 1 = pc') (k : Z X p l e R s m args below meth c nL Q pc' lv' rest st) : Z X p l e R s m args below meth c nL Q pc lv (.ref x :: rest) st := by
  subst hp
  exact fun H locs ls hP hS hl0 => lv_astore_n hh.1 hh.2.1 hd hi hl0 hn hl (fun ls' hl' => k H locs ls' hP hS hl')
theorem x_astore (hh : Hy X p s m args meth c cc nL own) {i : Nat} {x : Nat} (hd : decode cc pc = .ok (.astore i, 2)) (hn : i < nL) (lv' : List (Nat × Value)) (hl : (i, Value.ref x) :: lv.filter (fun q => !(q.1 == i) && !(q.1 + 1 == i && q.2.category == 2)) = lv') (pc' : Nat) (hp : pc + 2 = pc') (k : Z X p l e R s m args below meth c nL Q pc' lv' rest st) : Z X p l e R s m args below meth c nL Q pc lv (.ref x :: rest) st := by
  subst hp
  exact fun H locs ls hP hS hl0 => lv_astore hh.1 hh.2.1 hd hl0 hn hl (fun ls' hl' => k H locs ls' hP hS hl')
theorem x_iinc (hh : Hy X p s m args meth c cc nL own) {i : Nat} {n : Int} {x : Int32} (hd : decode cc pc = .ok (.iinc i n, 3)) (j : Nat) (hj : lv[j]? = some (i, .int x)) (v : Int32) (hv : x + Int32.ofInt n = v) (hn : i < nL) (lv' : List (Nat × Value)) (hl : (i, Value.int v) :: lv.filter (fun q => !(q.1 == i) && !(q.1 + 1 == i && q.2.category == 2)) = lv') (pc' : Nat) (hp : pc + 3 = pc') (k : Z X p l e R s m args below meth c nL Q pc' lv' rest st) : Z X p l e R s m args below meth c nL Q pc lv rest st := by
  subst hp
  exact fun H locs ls hP hS hl0 => lv_iinc hh.1 hh.2.1 hd hl0 hj hv hn hl (fun ls' hl' => k H locs ls' hP hS hl')
theorem x_iadd (hh : Hy X p s m args meth c cc nL own) {x y : Int32} (hd : decode cc pc = .ok (.iadd, 1))  (pc' : Nat) (hp : pc + 1 = pc') (k : Z X p l e R s m args below meth c nL Q pc' lv (.int (x + y) :: rest) st) : Z X p l e R s m args below meth c nL Q pc lv (.int y :: .int x :: rest) st := by
  subst hp
  exact fun H locs ls hP hS hl => lv_iadd hh.1 hh.2.1 hd  (k H locs ls hP hS hl)
theorem x_isub (hh : Hy X p s m args meth c cc nL own) {x y : Int32} (hd : decode cc pc = .ok (.isub, 1))  (pc' : Nat) (hp : pc + 1 = pc') (k : Z X p l e R s m args below meth c nL Q pc' lv (.int (x - y) :: rest) st) : Z X p l e R s m args below meth c nL Q pc lv (.int y :: .int x :: rest) st := by
  subst hp
  exact fun H locs ls hP hS hl => lv_isub hh.1 hh.2.1 hd  (k H locs ls hP hS hl)
theorem x_imul (hh : Hy X p s m args meth c cc nL own) {x y : Int32} (hd : decode cc pc = .ok (.imul, 1))  (pc' : Nat) (hp : pc + 1 = pc') (k : Z X p l e R s m args below meth c nL Q pc' lv (.int (x * y) :: rest) st) : Z X p l e R s m args below meth c nL Q pc lv (.int y :: .int x :: rest) st := by
  subst hp
  exact fun H locs ls hP hS hl => lv_imul hh.1 hh.2.1 hd  (k H locs ls hP hS hl)
theorem x_iand (hh : Hy X p s m args meth c cc nL own) {x y : Int32} (hd : decode cc pc = .ok (.iand, 1))  (pc' : Nat) (hp : pc + 1 = pc') (k : Z X p l e R s m args below meth c nL Q pc' lv (.int (x &&& y) :: rest) st) : Z X p l e R s m args below meth c nL Q pc lv (.int y :: .int x :: rest) st := by
  subst hp
  exact fun H locs ls hP hS hl => lv_iand hh.1 hh.2.1 hd  (k H locs ls hP hS hl)
theorem x_ior (hh : Hy X p s m args meth c cc nL own) {x y : Int32} (hd : decode cc pc = .ok (.ior, 1))  (pc' : Nat) (hp : pc + 1 = pc') (k : Z X p l e R s m args below meth c nL Q pc' lv (.int (x ||| y) :: rest) st) : Z X p l e R s m args below meth c nL Q pc lv (.int y :: .int x :: rest) st := by
  subst hp
  exact fun H locs ls hP hS hl => lv_ior hh.1 hh.2.1 hd  (k H locs ls hP hS hl)
theorem x_ixor (hh : Hy X p s m args meth c cc nL own) {x y : Int32} (hd : decode cc pc = .ok (.ixor, 1))  (pc' : Nat) (hp : pc + 1 = pc') (k : Z X p l e R s m args below meth c nL Q pc' lv (.int (x ^^^ y) :: rest) st) : Z X p l e R s m args below meth c nL Q pc lv (.int y :: .int x :: rest) st := by
  subst hp
  exact fun H locs ls hP hS hl => lv_ixor hh.1 hh.2.1 hd  (k H locs ls hP hS hl)
theorem x_ishl (hh : Hy X p s m args meth c cc nL own) {x y : Int32} (hd : decode cc pc = .ok (.ishl, 1))  (pc' : Nat) (hp : pc + 1 = pc') (k : Z X p l e R s m args below meth c nL Q pc' lv (.int (x <<< (y &&& 31)) :: rest) st) : Z X p l e R s m args below meth c nL Q pc lv (.int y :: .int x :: rest) st := by
  subst hp
  exact fun H locs ls hP hS hl => lv_ishl hh.1 hh.2.1 hd  (k H locs ls hP hS hl)
theorem x_ishr (hh : Hy X p s m args meth c cc nL own) {x y : Int32} (hd : decode cc pc = .ok (.ishr, 1))  (pc' : Nat) (hp : pc + 1 = pc') (k : Z X p l e R s m args below meth c nL Q pc' lv (.int (x >>> (y &&& 31)) :: rest) st) : Z X p l e R s m args below meth c nL Q pc lv (.int y :: .int x :: rest) st := by
  subst hp
  exact fun H locs ls hP hS hl => lv_ishr hh.1 hh.2.1 hd  (k H locs ls hP hS hl)
theorem x_idiv (hh : Hy X p s m args meth c cc nL own) {x y : Int32} (hd : decode cc pc = .ok (.idiv, 1)) (hne : ¬ y = 0) (pc' : Nat) (hp : pc + 1 = pc') (k : Z X p l e R s m args below meth c nL Q pc' lv (.int (x / y) :: rest) st) : Z X p l e R s m args below meth c nL Q pc lv (.int y :: .int x :: rest) st := by
  subst hp
  exact fun H locs ls hP hS hl => lv_idiv hh.1 hh.2.1 hd hne (k H locs ls hP hS hl)
theorem x_irem (hh : Hy X p s m args meth c cc nL own) {x y : Int32} (hd : decode cc pc = .ok (.irem, 1)) (hne : ¬ y = 0) (pc' : Nat) (hp : pc + 1 = pc') (k : Z X p l e R s m args below meth c nL Q pc' lv (.int (x - x / y * y) :: rest) st) : Z X p l e R s m args below meth c nL Q pc lv (.int y :: .int x :: rest) st := by
  subst hp
  exact fun H locs ls hP hS hl => lv_irem hh.1 hh.2.1 hd hne (k H locs ls hP hS hl)
theorem x_iushr (hh : Hy X p s m args meth c cc nL own) {x y : Int32} (hd : decode cc pc = .ok (.iushr, 1))  (pc' : Nat) (hp : pc + 1 = pc') (k : Z X p l e R s m args below meth c nL Q pc' lv (.int ((x.toUInt32 >>> (y.toUInt32 &&& Int32.toUInt32 31)).toInt32) :: rest) st) : Z X p l e R s m args below meth c nL Q pc lv (.int y :: .int x :: rest) st := by
  subst hp
  exact fun H locs ls hP hS hl => lv_iushr hh.1 hh.2.1 hd rfl (k H locs ls hP hS hl)
theorem x_ladd (hh : Hy X p s m args meth c cc nL own) {x y : Int64} (hd : decode cc pc = .ok (.ladd, 1))  (pc' : Nat) (hp : pc + 1 = pc') (k : Z X p l e R s m args below meth c nL Q pc' lv (.long (x + y) :: rest) st) : Z X p l e R s m args below meth c nL Q pc lv (.long y :: .long x :: rest) st := by
  subst hp
  exact fun H locs ls hP hS hl => lv_ladd hh.1 hh.2.1 hd  (k H locs ls hP hS hl)
theorem x_lsub (hh : Hy X p s m args meth c cc nL own) {x y : Int64} (hd : decode cc pc = .ok (.lsub, 1))  (pc' : Nat) (hp : pc + 1 = pc') (k : Z X p l e R s m args below meth c nL Q pc' lv (.long (x - y) :: rest) st) : Z X p l e R s m args below meth c nL Q pc lv (.long y :: .long x :: rest) st := by
  subst hp
  exact fun H locs ls hP hS hl => lv_lsub hh.1 hh.2.1 hd  (k H locs ls hP hS hl)
theorem x_lmul (hh : Hy X p s m args meth c cc nL own) {x y : Int64} (hd : decode cc pc = .ok (.lmul, 1))  (pc' : Nat) (hp : pc + 1 = pc') (k : Z X p l e R s m args below meth c nL Q pc' lv (.long (x * y) :: rest) st) : Z X p l e R s m args below meth c nL Q pc lv (.long y :: .long x :: rest) st := by
  subst hp
  exact fun H locs ls hP hS hl => lv_lmul hh.1 hh.2.1 hd  (k H locs ls hP hS hl)
theorem x_land (hh : Hy X p s m args meth c cc nL own) {x y : Int64} (hd : decode cc pc = .ok (.land, 1))  (pc' : Nat) (hp : pc + 1 = pc') (k : Z X p l e R s m args below meth c nL Q pc' lv (.long (x &&& y) :: rest) st) : Z X p l e R s m args below meth c nL Q pc lv (.long y :: .long x :: rest) st := by
  subst hp
  exact fun H locs ls hP hS hl => lv_land hh.1 hh.2.1 hd  (k H locs ls hP hS hl)
theorem x_lor (hh : Hy X p s m args meth c cc nL own) {x y : Int64} (hd : decode cc pc = .ok (.lor, 1))  (pc' : Nat) (hp : pc + 1 = pc') (k : Z X p l e R s m args below meth c nL Q pc' lv (.long (x ||| y) :: rest) st) : Z X p l e R s m args below meth c nL Q pc lv (.long y :: .long x :: rest) st := by
  subst hp
  exact fun H locs ls hP hS hl => lv_lor hh.1 hh.2.1 hd  (k H locs ls hP hS hl)
theorem x_lrem (hh : Hy X p s m args meth c cc nL own) {x y : Int64} (hd : decode cc pc = .ok (.lrem, 1)) (hne : ¬ y = 0) (pc' : Nat) (hp : pc + 1 = pc') (k : Z X p l e R s m args below meth c nL Q pc' lv (.long (x - x / y * y) :: rest) st) : Z X p l e R s m args below meth c nL Q pc lv (.long y :: .long x :: rest) st := by
  subst hp
  exact fun H locs ls hP hS hl => lv_lrem hh.1 hh.2.1 hd hne (k H locs ls hP hS hl)
theorem x_lshl (hh : Hy X p s m args meth c cc nL own) {x : Int64} {y : Int32} (hd : decode cc pc = .ok (.lshl, 1))  (pc' : Nat) (hp : pc + 1 = pc') (k : Z X p l e R s m args below meth c nL Q pc' lv (.long (x <<< (y.toInt64 &&& 63)) :: rest) st) : Z X p l e R s m args below meth c nL Q pc lv (.int y :: .long x :: rest) st := by
  subst hp
  exact fun H locs ls hP hS hl => lv_lshl hh.1 hh.2.1 hd rfl (k H locs ls hP hS hl)
theorem x_lshr (hh : Hy X p s m args meth c cc nL own) {x : Int64} {y : Int32} (hd : decode cc pc = .ok (.lshr, 1))  (pc' : Nat) (hp : pc + 1 = pc') (k : Z X p l e R s m args below meth c nL Q pc' lv (.long (x >>> (y.toInt64 &&& 63)) :: rest) st) : Z X p l e R s m args below meth c nL Q pc lv (.int y :: .long x :: rest) st := by
  subst hp
  exact fun H locs ls hP hS hl => lv_lshr hh.1 hh.2.1 hd rfl (k H locs ls hP hS hl)
theorem x_lcmp (hh : Hy X p s m args meth c cc nL own) {x y : Int64} (hd : decode cc pc = .ok (.lcmp, 1))  (pc' : Nat) (hp : pc + 1 = pc') (k : Z X p l e R s m args below meth c nL Q pc' lv (.int (lg_cmp x y) :: rest) st) : Z X p l e R s m args below meth c nL Q pc lv (.long y :: .long x :: rest) st := by
  subst hp
  exact fun H locs ls hP hS hl => W.lcmp hh.1 hh.2.1 hd  (k H locs ls hP hS hl)
theorem x_i2l (hh : Hy X p s m args meth c cc nL own) {x : Int32} (hd : decode cc pc = .ok (.i2l, 1))  (pc' : Nat) (hp : pc + 1 = pc') (k : Z X p l e R s m args below meth c nL Q pc' lv (.long x.toInt64 :: rest) st) : Z X p l e R s m args below meth c nL Q pc lv (.int x :: rest) st := by
  subst hp
  exact fun H locs ls hP hS hl => lv_i2l hh.1 hh.2.1 hd rfl (k H locs ls hP hS hl)
theorem x_l2i (hh : Hy X p s m args meth c cc nL own) {x : Int64} (hd : decode cc pc = .ok (.l2i, 1))  (pc' : Nat) (hp : pc + 1 = pc') (k : Z X p l e R s m args below meth c nL Q pc' lv (.int x.toInt32 :: rest) st) : Z X p l e R s m args below meth c nL Q pc lv (.long x :: rest) st := by
  subst hp
  exact fun H locs ls hP hS hl => lv_l2i hh.1 hh.2.1 hd rfl (k H locs ls hP hS hl)
theorem x_i2b (hh : Hy X p s m args meth c cc nL own) {x : Int32} (hd : decode cc pc = .ok (.i2b, 1))  (pc' : Nat) (hp : pc + 1 = pc') (k : Z X p l e R s m args below meth c nL Q pc' lv (.int x.toInt8.toInt32 :: rest) st) : Z X p l e R s m args below meth c nL Q pc lv (.int x :: rest) st := by
  subst hp
  exact fun H locs ls hP hS hl => lv_i2b hh.1 hh.2.1 hd rfl (k H locs ls hP hS hl)
theorem x_i2c (hh : Hy X p s m args meth c cc nL own) {x : Int32} (hd : decode cc pc = .ok (.i2c, 1))  (pc' : Nat) (hp : pc + 1 = pc') (k : Z X p l e R s m args below meth c nL Q pc' lv (.int (x.toUInt32 % 65536).toInt32 :: rest) st) : Z X p l e R s m args below meth c nL Q pc lv (.int x :: rest) st := by
  subst hp
  exact fun H locs ls hP hS hl => lv_i2c hh.1 hh.2.1 hd rfl (k H locs ls hP hS hl)
theorem x_dup (hh : Hy X p s m args meth c cc nL own) {va : Value} (hd : decode cc pc = .ok (.dup, 1)) (hc : va.category = 1) (pc' : Nat) (hp : pc + 1 = pc') (k : Z X p l e R s m args below meth c nL Q pc' lv (va :: va :: rest) st) : Z X p l e R s m args below meth c nL Q pc lv (va :: rest) st := by
  subst hp
  exact fun H locs ls hP hS hl => lv_dup hh.1 hh.2.1 hd hc (k H locs ls hP hS hl)
theorem x_pop (hh : Hy X p s m args meth c cc nL own) {va : Value} (hd : decode cc pc = .ok (.pop, 1)) (hc : va.category = 1) (pc' : Nat) (hp : pc + 1 = pc') (k : Z X p l e R s m args below meth c nL Q pc' lv (rest) st) : Z X p l e R s m args below meth c nL Q pc lv (va :: rest) st := by
  subst hp
  exact fun H locs ls hP hS hl => lv_pop hh.1 hh.2.1 hd hc (k H locs ls hP hS hl)
theorem x_dup2 (hh : Hy X p s m args meth c cc nL own) {va vb : Value} (hd : decode cc pc = .ok (.dup2, 1)) (hc : va.category = 1) (hc2 : vb.category = 1) (pc' : Nat) (hp : pc + 1 = pc') (k : Z X p l e R s m args below meth c nL Q pc' lv (va :: vb :: va :: vb :: rest) st) : Z X p l e R s m args below meth c nL Q pc lv (va :: vb :: rest) st := by
  subst hp
  exact fun H locs ls hP hS hl => lv_dup2_11 hh.1 hh.2.1 hd hc hc2 (k H locs ls hP hS hl)
theorem x_ldc (hh : Hy X p s m args meth c cc nL own) {i : Nat} {v : Int32} (hd : decode cc pc = .ok (.ldc i, 2)) (hw : Cond.constant own i v ∈ gtbl) (pc' : Nat) (hp : pc + 2 = pc') (k : Z X p l e R s m args below meth c nL Q pc' lv (.int v :: rest) st) : Z X p l e R s m args below meth c nL Q pc lv (rest) st := by
  subst hp
  exact fun H locs ls hP hS hl => lv_ldc hh.1 hh.2.1 hh.2.2.2.1 (hh.2.2.2.2.1 _ hw) hd  (k H locs ls hP hS hl)
theorem x_ldc_w (hh : Hy X p s m args meth c cc nL own) {i : Nat} {v : Int32} (hd : decode cc pc = .ok (.ldc_w i, 3)) (hw : Cond.constant own i v ∈ gtbl) (pc' : Nat) (hp : pc + 3 = pc') (k : Z X p l e R s m args below meth c nL Q pc' lv (.int v :: rest) st) : Z X p l e R s m args below meth c nL Q pc lv (rest) st := by
  subst hp
  exact fun H locs ls hP hS hl => lv_ldcw hh.1 hh.2.1 hh.2.2.2.1 (hh.2.2.2.2.1 _ hw) hd  (k H locs ls hP hS hl)
theorem x_ldc2_w (hh : Hy X p s m args meth c cc nL own) {i : Nat} {v : Int64} (hd : decode cc pc = .ok (.ldc2_w i, 3)) (hw : Cond.constantLong own i v ∈ gtbl) (pc' : Nat) (hp : pc + 3 = pc') (k : Z X p l e R s m args below meth c nL Q pc' lv (.long v :: rest) st) : Z X p l e R s m args below meth c nL Q pc lv (rest) st := by
  subst hp
  exact fun H locs ls hP hS hl => lv_ldc2 hh.1 hh.2.1 hh.2.2.2.1 (hh.2.2.2.2.1 _ hw) hd  (k H locs ls hP hS hl)
theorem x_if_eq (hh : Hy X p s m args meth c cc nL own) {x : Int32} {off : Int} (hd : decode cc pc = .ok (.ifCond .eq off, 3)) (tgt : Nat) (ht : (pc : Int) + off = (tgt : Int)) (pc' : Nat) (hp : pc + 3 = pc') (kt : x = 0 → Z X p l e R s m args below meth c nL Q tgt lv rest st) (kf : ¬ x = 0 → Z X p l e R s m args below meth c nL Q pc' lv rest st) : Z X p l e R s m args below meth c nL Q pc lv (.int x :: rest) st := by
  subst hp
  exact fun H locs ls hP hS hl => lv_if_eq hh.1 hh.2.1 hd ht (fun q => kt q H locs ls hP hS hl) (fun q => kf q H locs ls hP hS hl)
theorem x_icmp_eq (hh : Hy X p s m args meth c cc nL own) {x y : Int32} {off : Int} (hd : decode cc pc = .ok (.if_icmp .eq off, 3)) (tgt : Nat) (ht : (pc : Int) + off = (tgt : Int)) (pc' : Nat) (hp : pc + 3 = pc') (kt : x = y → Z X p l e R s m args below meth c nL Q tgt lv rest st) (kf : ¬ x = y → Z X p l e R s m args below meth c nL Q pc' lv rest st) : Z X p l e R s m args below meth c nL Q pc lv (.int y :: .int x :: rest) st := by
  subst hp
  exact fun H locs ls hP hS hl => lv_icmp_eq hh.1 hh.2.1 hd ht (fun q => kt q H locs ls hP hS hl) (fun q => kf q H locs ls hP hS hl)
theorem x_if_ne (hh : Hy X p s m args meth c cc nL own) {x : Int32} {off : Int} (hd : decode cc pc = .ok (.ifCond .ne off, 3)) (tgt : Nat) (ht : (pc : Int) + off = (tgt : Int)) (pc' : Nat) (hp : pc + 3 = pc') (kt : ¬ x = 0 → Z X p l e R s m args below meth c nL Q tgt lv rest st) (kf : x = 0 → Z X p l e R s m args below meth c nL Q pc' lv rest st) : Z X p l e R s m args below meth c nL Q pc lv (.int x :: rest) st := by
  subst hp
  exact fun H locs ls hP hS hl => lv_if_ne hh.1 hh.2.1 hd ht (fun q => kt q H locs ls hP hS hl) (fun q => kf q H locs ls hP hS hl)
theorem x_icmp_ne (hh : Hy X p s m args meth c cc nL own) {x y : Int32} {off : Int} (hd : decode cc pc = .ok (.if_icmp .ne off, 3)) (tgt : Nat) (ht : (pc : Int) + off = (tgt : Int)) (pc' : Nat) (hp : pc + 3 = pc') (kt : ¬ x = y → Z X p l e R s m args below meth c nL Q tgt lv rest st) (kf : x = y → Z X p l e R s m args below meth c nL Q pc' lv rest st) : Z X p l e R s m args below meth c nL Q pc lv (.int y :: .int x :: rest) st := by
  subst hp
  exact fun H locs ls hP hS hl => lv_icmp_ne hh.1 hh.2.1 hd ht (fun q => kt q H locs ls hP hS hl) (fun q => kf q H locs ls hP hS hl)
theorem x_if_lt (hh : Hy X p s m args meth c cc nL own) {x : Int32} {off : Int} (hd : decode cc pc = .ok (.ifCond .lt off, 3)) (tgt : Nat) (ht : (pc : Int) + off = (tgt : Int)) (pc' : Nat) (hp : pc + 3 = pc') (kt : x < 0 → Z X p l e R s m args below meth c nL Q tgt lv rest st) (kf : ¬ x < 0 → Z X p l e R s m args below meth c nL Q pc' lv rest st) : Z X p l e R s m args below meth c nL Q pc lv (.int x :: rest) st := by
  subst hp
  exact fun H locs ls hP hS hl => lv_if_lt hh.1 hh.2.1 hd ht (fun q => kt q H locs ls hP hS hl) (fun q => kf q H locs ls hP hS hl)
theorem x_icmp_lt (hh : Hy X p s m args meth c cc nL own) {x y : Int32} {off : Int} (hd : decode cc pc = .ok (.if_icmp .lt off, 3)) (tgt : Nat) (ht : (pc : Int) + off = (tgt : Int)) (pc' : Nat) (hp : pc + 3 = pc') (kt : x < y → Z X p l e R s m args below meth c nL Q tgt lv rest st) (kf : ¬ x < y → Z X p l e R s m args below meth c nL Q pc' lv rest st) : Z X p l e R s m args below meth c nL Q pc lv (.int y :: .int x :: rest) st := by
  subst hp
  exact fun H locs ls hP hS hl => lv_icmp_lt hh.1 hh.2.1 hd ht (fun q => kt q H locs ls hP hS hl) (fun q => kf q H locs ls hP hS hl)
theorem x_if_ge (hh : Hy X p s m args meth c cc nL own) {x : Int32} {off : Int} (hd : decode cc pc = .ok (.ifCond .ge off, 3)) (tgt : Nat) (ht : (pc : Int) + off = (tgt : Int)) (pc' : Nat) (hp : pc + 3 = pc') (kt : 0 ≤ x → Z X p l e R s m args below meth c nL Q tgt lv rest st) (kf : ¬ 0 ≤ x → Z X p l e R s m args below meth c nL Q pc' lv rest st) : Z X p l e R s m args below meth c nL Q pc lv (.int x :: rest) st := by
  subst hp
  exact fun H locs ls hP hS hl => lv_if_ge hh.1 hh.2.1 hd ht (fun q => kt q H locs ls hP hS hl) (fun q => kf q H locs ls hP hS hl)
theorem x_icmp_ge (hh : Hy X p s m args meth c cc nL own) {x y : Int32} {off : Int} (hd : decode cc pc = .ok (.if_icmp .ge off, 3)) (tgt : Nat) (ht : (pc : Int) + off = (tgt : Int)) (pc' : Nat) (hp : pc + 3 = pc') (kt : y ≤ x → Z X p l e R s m args below meth c nL Q tgt lv rest st) (kf : ¬ y ≤ x → Z X p l e R s m args below meth c nL Q pc' lv rest st) : Z X p l e R s m args below meth c nL Q pc lv (.int y :: .int x :: rest) st := by
  subst hp
  exact fun H locs ls hP hS hl => lv_icmp_ge hh.1 hh.2.1 hd ht (fun q => kt q H locs ls hP hS hl) (fun q => kf q H locs ls hP hS hl)
theorem x_if_gt (hh : Hy X p s m args meth c cc nL own) {x : Int32} {off : Int} (hd : decode cc pc = .ok (.ifCond .gt off, 3)) (tgt : Nat) (ht : (pc : Int) + off = (tgt : Int)) (pc' : Nat) (hp : pc + 3 = pc') (kt : 0 < x → Z X p l e R s m args below meth c nL Q tgt lv rest st) (kf : ¬ 0 < x → Z X p l e R s m args below meth c nL Q pc' lv rest st) : Z X p l e R s m args below meth c nL Q pc lv (.int x :: rest) st := by
  subst hp
  exact fun H locs ls hP hS hl => lv_if_gt hh.1 hh.2.1 hd ht (fun q => kt q H locs ls hP hS hl) (fun q => kf q H locs ls hP hS hl)
theorem x_icmp_gt (hh : Hy X p s m args meth c cc nL own) {x y : Int32} {off : Int} (hd : decode cc pc = .ok (.if_icmp .gt off, 3)) (tgt : Nat) (ht : (pc : Int) + off = (tgt : Int)) (pc' : Nat) (hp : pc + 3 = pc') (kt : y < x → Z X p l e R s m args below meth c nL Q tgt lv rest st) (kf : ¬ y < x → Z X p l e R s m args below meth c nL Q pc' lv rest st) : Z X p l e R s m args below meth c nL Q pc lv (.int y :: .int x :: rest) st := by
  subst hp
  exact fun H locs ls hP hS hl => lv_icmp_gt hh.1 hh.2.1 hd ht (fun q => kt q H locs ls hP hS hl) (fun q => kf q H locs ls hP hS hl)
theorem x_if_le (hh : Hy X p s m args meth c cc nL own) {x : Int32} {off : Int} (hd : decode cc pc = .ok (.ifCond .le off, 3)) (tgt : Nat) (ht : (pc : Int) + off = (tgt : Int)) (pc' : Nat) (hp : pc + 3 = pc') (kt : x ≤ 0 → Z X p l e R s m args below meth c nL Q tgt lv rest st) (kf : ¬ x ≤ 0 → Z X p l e R s m args below meth c nL Q pc' lv rest st) : Z X p l e R s m args below meth c nL Q pc lv (.int x :: rest) st := by
  subst hp
  exact fun H locs ls hP hS hl => lv_if_le hh.1 hh.2.1 hd ht (fun q => kt q H locs ls hP hS hl) (fun q => kf q H locs ls hP hS hl)
theorem x_icmp_le (hh : Hy X p s m args meth c cc nL own) {x y : Int32} {off : Int} (hd : decode cc pc = .ok (.if_icmp .le off, 3)) (tgt : Nat) (ht : (pc : Int) + off = (tgt : Int)) (pc' : Nat) (hp : pc + 3 = pc') (kt : x ≤ y → Z X p l e R s m args below meth c nL Q tgt lv rest st) (kf : ¬ x ≤ y → Z X p l e R s m args below meth c nL Q pc' lv rest st) : Z X p l e R s m args below meth c nL Q pc lv (.int y :: .int x :: rest) st := by
  subst hp
  exact fun H locs ls hP hS hl => lv_icmp_le hh.1 hh.2.1 hd ht (fun q => kt q H locs ls hP hS hl) (fun q => kf q H locs ls hP hS hl)
theorem x_goto (hh : Hy X p s m args meth c cc nL own) {off : Int} (hd : decode cc pc = .ok (.goto off, 3)) (tgt : Nat) (ht : (pc : Int) + off = (tgt : Int)) (k : Z X p l e R s m args below meth c nL Q tgt lv rest st) : Z X p l e R s m args below meth c nL Q pc lv rest st := fun H locs ls hP hS hl => lv_goto hh.1 hh.2.1 hd ht (k H locs ls hP hS hl)
theorem x_tableIn (hh : Hy X p s m args meth c cc nL own) {dflt lo hi : Int} {offs : Array Int} {len : Nat} {x : Int32} (hd : decode cc pc = .ok (.tableswitch dflt lo hi offs, len)) (h1 : ¬ x.toInt < lo) (h2 : ¬ hi < x.toInt) (off : Int) (ho : offs[(x.toInt - lo).toNat]? = some off) (tgt : Nat) (ht : (pc : Int) + off = (tgt : Int)) (k : Z X p l e R s m args below meth c nL Q tgt lv rest st) : Z X p l e R s m args below meth c nL Q pc lv (.int x :: rest) st := fun H locs ls hP hS hl => lv_tableIn hh.1 hh.2.1 hd h1 h2 ho ht (k H locs ls hP hS hl)
theorem x_tableOut (hh : Hy X p s m args meth c cc nL own) {dflt lo hi : Int} {offs : Array Int} {len : Nat} {x : Int32} (hd : decode cc pc = .ok (.tableswitch dflt lo hi offs, len)) (h : x.toInt < lo ∨ hi < x.toInt) (tgt : Nat) (ht : (pc : Int) + dflt = (tgt : Int)) (k : Z X p l e R s m args below meth c nL Q tgt lv rest st) : Z X p l e R s m args below meth c nL Q pc lv (.int x :: rest) st := fun H locs ls hP hS hl => lv_tableOut hh.1 hh.2.1 hd h ht (k H locs ls hP hS hl)
theorem x_sub {lv' : List (Nat × Value)} (js : List Nat) (h : lv_pick lv js = lv') (k : Z X p l e R s m args below meth c nL Q pc lv' rest st) : Z X p l e R s m args below meth c nL Q pc lv rest st := fun H locs ls hP hS hl => k H locs ls hP hS (lv_sub hl js h)
theorem x_iaload (hh : Hy X p s m args meth c cc nL own) {id n : Nat} {i : Int32} (hd : decode cc pc = .ok (.iaload, 1)) (hs : shp[id]? = some (.inl (0, n))) (hi : vp_in i n) (pc' : Nat) (hp : pc + 1 = pc') (k : Z X p l e R s m args below meth c nL Q pc' lv (.int (st.1 id i.toNatClampNeg) :: rest) st) : Z X p l e R s m args below meth c nL Q pc lv (.int i :: .ref (X.2.1 id) :: rest) st := by
  subst hp
  exact fun H locs ls hP hS hl => va_iald hh.1 hh.2.1 hh.2.2.2.2.2.1 hP id 0 (wW_get hs) rfl hi hd (k H locs ls hP hS hl)
theorem x_baload (hh : Hy X p s m args meth c cc nL own) {id n : Nat} {i : Int32} (hd : decode cc pc = .ok (.baload, 1)) (hs : shp[id]? = some (.inl (1, n))) (hi : vp_in i n) (pc' : Nat) (hp : pc + 1 = pc') (k : Z X p l e R s m args below meth c nL Q pc' lv (.int (st.1 id i.toNatClampNeg) :: rest) st) : Z X p l e R s m args below meth c nL Q pc lv (.int i :: .ref (X.2.1 id) :: rest) st := by
  subst hp
  exact fun H locs ls hP hS hl => va_bald hh.1 hh.2.1 hh.2.2.2.2.2.1 hP id 1 (wW_get hs) rfl hi hd (k H locs ls hP hS hl)
theorem x_zaload (hh : Hy X p s m args meth c cc nL own) {id n : Nat} {i : Int32} (hd : decode cc pc = .ok (.baload, 1)) (hs : shp[id]? = some (.inl (2, n))) (hi : vp_in i n) (pc' : Nat) (hp : pc + 1 = pc') (k : Z X p l e R s m args below meth c nL Q pc' lv (.int (st.1 id i.toNatClampNeg) :: rest) st) : Z X p l e R s m args below meth c nL Q pc lv (.int i :: .ref (X.2.1 id) :: rest) st := by
  subst hp
  exact fun H locs ls hP hS hl => va_zald hh.1 hh.2.1 hh.2.2.2.2.2.1 hP id 2 (wW_get hs) rfl hi hd (k H locs ls hP hS hl)
theorem x_iastore (hh : Hy X p s m args meth c cc nL own) {id n : Nat} {i x : Int32} (hd : decode cc pc = .ok (.iastore, 1)) (hs : shp[id]? = some (.inl (0, n))) (hi : vp_in i n) (pc' : Nat) (hp : pc + 1 = pc') (st1 : St) (e1 : st1 = sV st id i.toNatClampNeg x) (k : Z X p l e R s m args below meth c nL Q pc' lv rest st1) : Z X p l e R s m args below meth c nL Q pc lv (.int x :: .int i :: .ref (X.2.1 id) :: rest) st := by
  subst hp; subst e1
  exact fun H locs ls hP hS hl => va_iast hh.1 hh.2.1 hh.2.2.2.2.2.1 hP (wW_D hh.2.2.2.2.2.2.2.2.1 st) hS id 0 (wW_get hs) rfl hi hd (fun H1 locs1 hP1 _ hS1 => k H1 locs1 ls (by rw [wW_setA hs] at hP1; exact hP1) hS1 hl)
theorem x_bastore (hh : Hy X p s m args meth c cc nL own) {id n : Nat} {i x : Int32} (hd : decode cc pc = .ok (.bastore, 1)) (hs : shp[id]? = some (.inl (1, n))) (hi : vp_in i n) (pc' : Nat) (hp : pc + 1 = pc') (st1 : St) (e1 : st1 = sV st id i.toNatClampNeg (vp_nar .byte x)) (k : Z X p l e R s m args below meth c nL Q pc' lv rest st1) : Z X p l e R s m args below meth c nL Q pc lv (.int x :: .int i :: .ref (X.2.1 id) :: rest) st := by
  subst hp; subst e1
  exact fun H locs ls hP hS hl => va_bast hh.1 hh.2.1 hh.2.2.2.2.2.1 hP (wW_D hh.2.2.2.2.2.2.2.2.1 st) hS id 1 (wW_get hs) rfl hi hd (fun H1 locs1 hP1 _ hS1 => k H1 locs1 ls (by rw [wW_setA hs] at hP1; exact hP1) hS1 hl)
theorem x_zastore (hh : Hy X p s m args meth c cc nL own) {id n : Nat} {i x : Int32} (hd : decode cc pc = .ok (.bastore, 1)) (hs : shp[id]? = some (.inl (2, n))) (hi : vp_in i n) (pc' : Nat) (hp : pc + 1 = pc') (st1 : St) (e1 : st1 = sV st id i.toNatClampNeg (vp_nar .boolean x)) (k : Z X p l e R s m args below meth c nL Q pc' lv rest st1) : Z X p l e R s m args below meth c nL Q pc lv (.int x :: .int i :: .ref (X.2.1 id) :: rest) st := by
  subst hp; subst e1
  exact fun H locs ls hP hS hl => va_zast hh.1 hh.2.1 hh.2.2.2.2.2.1 hP (wW_D hh.2.2.2.2.2.2.2.2.1 st) hS id 2 (wW_get hs) rfl hi hd (fun H1 locs1 hP1 _ hS1 => k H1 locs1 ls (by rw [wW_setA hs] at hP1; exact hP1) hS1 hl)
theorem x_alen (hh : Hy X p s m args meth c cc nL own) {id n t : Nat} (hd : decode cc pc = .ok (.arraylength, 1)) (hs : shp[id]? = some (.inl (t, n))) (ht : ∃ ty, (tyc X)[t]? = some (X.2.2.1 t, ty)) (v : Int32) (hv : Int32.ofNat n = v) (pc' : Nat) (hp : pc + 1 = pc') (k : Z X p l e R s m args below meth c nL Q pc' lv (.int v :: rest) st) : Z X p l e R s m args below meth c nL Q pc lv (.ref (X.2.1 id) :: rest) st := by
  subst hp
  obtain ⟨ty, ht⟩ := ht
  exact fun H locs ls hP hS hl => va_alen hh.1 hh.2.1 hh.2.2.2.2.2.1 hP id t (wW_get hs) ht hv hd (k H locs ls hP hS hl)
theorem x_aaload (hh : Hy X p s m args meth c cc nL own) {id r : Nat} {ids : List Nat} {i : Int32} (hd : decode cc pc = .ok (.aaload, 1)) (hs : shp[id]? = some (.inr (.inl ids))) (hi : vp_in i ids.length) (hr : ids[i.toNatClampNeg]? = some r) (pc' : Nat) (hp : pc + 1 = pc') (k : Z X p l e R s m args below meth c nL Q pc' lv (.ref (X.2.1 r) :: rest) st) : Z X p l e R s m args below meth c nL Q pc lv (.int i :: .ref (X.2.1 id) :: rest) st := by
  subst hp
  refine fun H locs ls hP hS hl => va_aldq (C := "LowHeads$Scene") (f := fun i => (ids[i]?).map X.2.1) hh.1 hh.2.1 hh.2.2.2.2.2.1 hP id 3 (wW_get hs) rfl hi hd ?_
  rw [hr]
  exact k H locs ls hP hS hl
/-- a class of the world: its number, fields, their types -/
def Cl (ci : Nat) (C : String) (T : u_T) (N : Nat) (ty : Nat → FieldType) : Prop := classes[ci]? = some (C, T, N) ∧ (∀ w ∈ u_ws C T N, w ∈ gtbl) ∧ (∀ k, k < N → parseFieldDescriptor (T k).2.2.1 = some (ty k)) ∧ (∀ a, a < N → ∀ b, b < N → a ≠ b → (T a).2.1 ≠ (T b).2.1)
theorem x_get (hh : Hy X p s m args meth c cc nL own) {id ci N idx : Nat} {C : String} {T : u_T} {ty : Nat → FieldType} {fk : List (Option (Option Nat))} {f : Option (Option Nat)} (hc : Cl ci C T N ty) (hd : decode cc pc = .ok (.getfield idx, 3)) (hs : shp[id]? = some (.inr (.inr (ci, fk)))) (k : Nat) (hf : fk[k]? = some f) (hk : k < N) (hw : Cond.fieldLink own idx (T k).1 (T k).2.1 (T k).2.2.1 ∈ gtbl) (pc' : Nat) (hp : pc + 3 = pc') (kk : Z X p l e R s m args below meth c nL Q pc' lv (fv X st id k f :: rest) st) : Z X p l e R s m args below meth c nL Q pc lv (.ref (X.2.1 id) :: rest) st := by
  subst hp
  exact fun H locs ls hP hS hl => va_get (v := fv X st id k f) hh.1 hh.2.1 hh.2.2.2.2.1 hc.2.1 hh.2.2.2.1 hh.2.2.2.2.2.1 hP id (wW_get hs) hc.1 k hk (hh.2.2.2.2.1 _ hw) (fun _ h9 => h9) (by rw [List.getElem?_mapIdx, hf]; rfl) hd (kk H locs ls hP hS hl)
theorem x_putI (hh : Hy X p s m args meth c cc nL own) {id ci N idx : Nat} {C : String} {T : u_T} {ty : Nat → FieldType} {fk : List (Option (Option Nat))} {x : Int32} (hc : Cl ci C T N ty) (hd : decode cc pc = .ok (.putfield idx, 3)) (hs : shp[id]? = some (.inr (.inr (ci, fk)))) (k : Nat) (hf : fk[k]? = some none) (hk : k < N) (hw : Cond.fieldLink own idx (T k).1 (T k).2.1 (T k).2.2.1 ∈ gtbl) (hfin : (T k).2.2.2 = false) (hn : narrow (ty k) (.int x) = .int x) (hfit : fits (ty k) (.int x) = true) (pc' : Nat) (hp : pc + 3 = pc') (st1 : St) (e1 : st1 = sV st id k x) (kk : Z X p l e R s m args below meth c nL Q pc' lv rest st1) : Z X p l e R s m args below meth c nL Q pc lv (.int x :: .ref (X.2.1 id) :: rest) st := by
  subst hp; subst e1
  exact fun H locs ls hP hS hl => va_put (v := .int x) hh.1 hh.2.1 hh.2.2.2.2.1 hc.2.1 ty hc.2.2.1 hc.2.2.2 hh.2.2.2.1 hh.2.2.2.2.2.1 hP (wW_D hh.2.2.2.2.2.2.2.2.1 st) hS id (wW_get hs) hc.1 k hk (hh.2.2.2.2.1 _ hw) (fun _ h9 => h9) hfin (hc.2.2.1 k hk) hn hfit (by rw [List.length_mapIdx]; exact (List.getElem?_eq_some_iff.mp hf).1) hd (fun H1 locs1 hP1 _ hS1 => kk H1 locs1 ls (by rw [wW_setI hs hf] at hP1; exact hP1) hS1 hl)
theorem x_putJ (hh : Hy X p s m args meth c cc nL own) {id ci N idx : Nat} {C : String} {T : u_T} {ty : Nat → FieldType} {fk : List (Option (Option Nat))} {x : Int64} (hc : Cl ci C T N ty) (hd : decode cc pc = .ok (.putfield idx, 3)) (hs : shp[id]? = some (.inr (.inr (ci, fk)))) (k : Nat) (hf : fk[k]? = some (some none)) (hk : k < N) (hw : Cond.fieldLink own idx (T k).1 (T k).2.1 (T k).2.2.1 ∈ gtbl) (hfin : (T k).2.2.2 = false) (hn : narrow (ty k) (.long x) = .long x) (hfit : fits (ty k) (.long x) = true) (pc' : Nat) (hp : pc + 3 = pc') (st1 : St) (e1 : st1 = sJ st id k x) (kk : Z X p l e R s m args below meth c nL Q pc' lv rest st1) : Z X p l e R s m args below meth c nL Q pc lv (.long x :: .ref (X.2.1 id) :: rest) st := by
  subst hp; subst e1
  exact fun H locs ls hP hS hl => va_put (v := .long x) hh.1 hh.2.1 hh.2.2.2.2.1 hc.2.1 ty hc.2.2.1 hc.2.2.2 hh.2.2.2.1 hh.2.2.2.2.2.1 hP (wW_D hh.2.2.2.2.2.2.2.2.1 st) hS id (wW_get hs) hc.1 k hk (hh.2.2.2.2.1 _ hw) (fun _ h9 => h9) hfin (hc.2.2.1 k hk) hn hfit (by rw [List.length_mapIdx]; exact (List.getElem?_eq_some_iff.mp hf).1) hd (fun H1 locs1 hP1 _ hS1 => kk H1 locs1 ls (by rw [wW_setL hs hf] at hP1; exact hP1) hS1 hl)
/-! returns -/
theorem x_iret (hh : Hy X p s m args meth c cc nL own) {v : Int32} (hr : meth.sig.returnType = some .int) (hd : decode cc pc = .ok (.ireturn, 1)) : Z X p l e R s m args below meth c nL (MQ below (Qf X (some (.int v)) st) args s 0 0 (cA X)) pc lv [.int v] st :=
  fun H locs ls hP hS hl => W.iret hh.1 hh.2.1 hr (fun t ht hW => ⟨⟨rfl, by rw [ht]; exact hP⟩, hS.F ht⟩) hS.2.2 hd hh.2.2.2.2.2.2.2.2.2
theorem x_zret (hh : Hy X p s m args meth c cc nL own) {v : Int32} {ty : FieldType} (hr : meth.sig.returnType = some ty) (hn : narrow ty (.int v) = .int v) (hd : decode cc pc = .ok (.ireturn, 1)) : Z X p l e R s m args below meth c nL (MQ below (Qf X (some (.int v)) st) args s 0 0 (cA X)) pc lv [.int v] st :=
  fun H locs ls hP hS hl => W.zret hh.1 hh.2.1 hr hn (fun t ht hW => ⟨⟨rfl, by rw [ht]; exact hP⟩, hS.F ht⟩) hS.2.2 hd hh.2.2.2.2.2.2.2.2.2
theorem x_lret (hh : Hy X p s m args meth c cc nL own) {v : Int64} (hr : meth.sig.returnType = some .long) (hd : decode cc pc = .ok (.lreturn, 1)) : Z X p l e R s m args below meth c nL (MQ below (Qf X (some (.long v)) st) args s 0 0 (cA X)) pc lv [.long v] st :=
  fun H locs ls hP hS hl => W.lret hh.1 hh.2.1 hr (fun t ht hW => ⟨⟨rfl, by rw [ht]; exact hP⟩, hS.F ht⟩) hS.2.2 hd hh.2.2.2.2.2.2.2.2.2
theorem x_vret (hh : Hy X p s m args meth c cc nL own) (hr : meth.sig.returnType = none) (hd : decode cc pc = .ok (.return_, 1)) : Z X p l e R s m args below meth c nL (MQ below (Qf X none st) args s 0 0 (cA X)) pc lv [] st :=
  fun H locs ls hP hS hl => W.vret hh.1 hh.2.1 hr (fun t ht hW => ⟨⟨rfl, by rw [ht]; exact hP⟩, hS.F ht⟩) hS.2.2 hd hh.2.2.2.2.2.2.2.2.2
/-! calls -/
theorem x_back {H : Heap} {locs : List Loc} {ls : Array Slot} {stk : List Value} {a : Array Value} {v : Option Value} {st' : St} (hr : va_Run p l e R s m args below meth c H locs 0 0 0 0 (F0 m pc ls stk) rest (Qf X v st' a) (cA X)) (hS : va_S (cA X) s.heap H locs) (hl : lv_has ls nL lv) (k : Z X p l e R s m args below meth c nL Q (pc + 3) lv (v.toList ++ rest) st') : W p l e R s m args below meth c H locs 0 0 Q (F0 m pc ls stk) := by
  intro T hT X0
  obtain ⟨v1, st₀, t, T', L, h0, X', hL, e1, e2, ⟨⟨hv, hP1⟩, hz, hk⟩, go⟩ := hr T hT X0
  cases hv
  rw [h0] at hz hk
  obtain ⟨t2, a1, b1⟩ := k T'.heap (locs ++ L) ls (by rw [e1]; exact hP1) ⟨Nat.le_trans hS.1 (by rw [e1]; exact hz), fun q h1 h2 => by rw [e1, hk q (Nat.lt_of_lt_of_le h1 hS.1) h2]; exact hS.2.1 q h1 h2, fun q hq => by
      rcases List.mem_append.mp hq with h | h
      · exact hS.2.2 q h
      · exact hL q h⟩ hl T' rfl X'
  exact ⟨t2, go t2 a1, b1⟩
theorem x_pre (hh : Hy X p s m args meth c cc nL own) {H : Heap} {locs : List Loc} (as : List Value) (hP : va_P X.1 classes (wW X st) H) (hS : va_S (cA X) s.heap H locs) : ∀ U : State, U.heap = H → s.WarmedH U.vm → va_Pc as (Wd X st) as.toArray U := by
  intro U hU hW
  obtain ⟨-, -, -, -, -, hK, hh0, hE, hX, -⟩ := hh
  exact ⟨rfl, by rw [hU]; exact hP, va_K.moved hW.alike hK, by rw [hU]; exact Nat.le_trans hh0 hS.1, cE_warm hW (fun q h1 h2 => by rw [hU]; exact hS.2.1 q h1 h2) hE⟩
/-- an instance method that may be called: its code, class and number of arguments -/
def Mi (y : MethodName) (bytes : ByteArray) (maxL : Nat) (ret : Option FieldType) (n ci : Nat) : Prop := Cond.instanceMethod y ∈ gtbl ∧ Cond.selects y.cls y y ∈ gtbl ∧ Cond.initialized y.cls ∈ gtbl ∧ Cond.code y bytes maxL ret ∈ gtbl ∧ (y.cls ≠ "java/lang/invoke/MethodHandle" ∧ y.cls ≠ "java/lang/invoke/VarHandle" ∧ (parseMethodDescriptor y.desc).map (fun d => d.parameters.length) = some n) ∧ classes[ci]?.map (fun r => r.1) = some y.cls
theorem x_callV (hh : Hy X p s m args meth c cc nL own) {id ci n k idx maxL : Nat} {y : MethodName} {bytes : ByteArray} {ret : Option FieldType} {fk : List (Option (Option Nat))} {v : Option Value} {st' : St} {stk : List Value} (hM : Mi y bytes maxL ret n ci) (As : List Value) (hd : decode cc pc = .ok (.invokevirtual idx, 3)) (hs : shp[id]? = some (.inr (.inr (ci, fk)))) (hw : Cond.methodLink own idx y ∈ gtbl) (hC : Ct l X k y (.code y bytes maxL ret) (.ref (X.2.1 id) :: As) st v st') (hst : As.reverse ++ .ref (X.2.1 id) :: rest = stk) (hn : As.length = n) (hR : k + 1 ≤ R.frames ∧ 8 + (maxL + 11) + 40 * k ≤ R.locals) (hrest : (rest.map fun v => v.category).sum ≤ 8) (pc' : Nat) (hp : pc + 3 = pc') (stk' : List Value) (hst' : v.toList ++ rest = stk') (kk : Z X p l e R s m args below meth c nL Q pc' lv stk' st') : Z X p l e R s m args below meth c nL Q pc lv stk st := by
  subst hp; subst hst; subst hst'
  intro H locs ls hP hS hl
  obtain ⟨m1, m2, m3, m4, m5, m6⟩ := hM
  have hts := hh.2.2.2.2.1
  obtain ⟨r, hr1, hr2⟩ : ∃ r : vw_C, classes[ci]? = some r ∧ r.1 = y.cls := by
    cases hq : classes[ci]? with
    | none => rw [hq] at m6; cases m6
    | some r => rw [hq] at m6; exact ⟨r, rfl, Option.some.inj m6⟩
  have hrec := va_recv hh.2.2.2.2.2.1 hP hr1 (wW_get (X := X) (st := st) hs)
  rw [hr2] at hrec
  refine x_back (va_runV (C := y.cls) (Ts := gtbl) (cc := cc) (nL := nL) (As := As) (rest := rest) (n := n) ⟨hh.1, hh.2.1, hh.2.2.1, hh.2.2.2.1, hts⟩ hC ⟨callB_of n hts (gt_goodIn m4 (fun _ h => h)) rfl rfl rfl (hts _ m3) (hts _ hw) m5 hR, hts _ m1, hts _ m2⟩ ⟨Wd_blind hh.2.2.2.2.2.2.2.2.1 _ _, hrec, x_pre hh _ hP hS⟩ rfl hn hl.1 rfl (lv_room hrest) hd ⟨Nat.zero_le _, Nat.zero_le _⟩) hS hl kk
def Ms (y : MethodName) (bytes : ByteArray) (maxL : Nat) (ret : Option FieldType) (n : Nat) : Prop := Cond.static y ∈ gtbl ∧ Cond.initialized y.cls ∈ gtbl ∧ Cond.code y bytes maxL ret ∈ gtbl ∧ (y.cls ≠ "java/lang/invoke/MethodHandle" ∧ y.cls ≠ "java/lang/invoke/VarHandle" ∧ (parseMethodDescriptor y.desc).map (fun d => d.parameters.length) = some n)
theorem x_callS (hh : Hy X p s m args meth c cc nL own) {n k idx maxL : Nat} {y : MethodName} {bytes : ByteArray} {ret : Option FieldType} {v : Option Value} {st' : St} {stk : List Value} (hM : Ms y bytes maxL ret n) (As : List Value) (hd : decode cc pc = .ok (.invokestatic idx, 3)) (hw : Cond.methodLink own idx y ∈ gtbl) (hC : Ct l X k y (.code y bytes maxL ret) As st v st') (hst : As.reverse ++ rest = stk) (hn : As.length = n) (hR : k + 1 ≤ R.frames ∧ 8 + (maxL + 11) + 40 * k ≤ R.locals) (hrest : (rest.map fun v => v.category).sum ≤ 8) (pc' : Nat) (hp : pc + 3 = pc') (stk' : List Value) (hst' : v.toList ++ rest = stk') (kk : Z X p l e R s m args below meth c nL Q pc' lv stk' st') : Z X p l e R s m args below meth c nL Q pc lv stk st := by
  subst hp; subst hst; subst hst'
  intro H locs ls hP hS hl
  obtain ⟨m1, m3, m4, m5⟩ := hM
  have hts := hh.2.2.2.2.1
  refine x_back (va_runS (Ts := gtbl) (cc := cc) (nL := nL) (As := As) (rest := rest) (n := n) ⟨hh.1, hh.2.1, hh.2.2.1, hh.2.2.2.1, hts⟩ hC ⟨callB_of n hts (gt_goodIn m4 (fun _ h => h)) rfl rfl rfl (hts _ m3) (hts _ hw) m5 hR, hts _ m1⟩ ⟨Wd_blind hh.2.2.2.2.2.2.2.2.1 _ _, x_pre hh _ hP hS⟩ rfl hn hl.1 rfl (lv_room hrest) hd ⟨Nat.zero_le _, Nat.zero_le _⟩) hS hl kk
theorem x_getI (hh : Hy X p s m args meth c cc nL own) {id ci N idx : Nat} {C : String} {T : u_T} {ty : Nat → FieldType} {fk : List (Option (Option Nat))} (hc : Cl ci C T N ty) (hd : decode cc pc = .ok (.getfield idx, 3)) (hs : shp[id]? = some (.inr (.inr (ci, fk)))) (k : Nat) (hf : fk[k]? = some none) (hk : k < N) (hw : Cond.fieldLink own idx (T k).1 (T k).2.1 (T k).2.2.1 ∈ gtbl) (pc' : Nat) (hp : pc + 3 = pc') (kk : Z X p l e R s m args below meth c nL Q pc' lv (.int (st.1 id k) :: rest) st) : Z X p l e R s m args below meth c nL Q pc lv (.ref (X.2.1 id) :: rest) st := x_get hh hc hd hs k hf hk hw pc' hp kk
theorem x_getJ (hh : Hy X p s m args meth c cc nL own) {id ci N idx : Nat} {C : String} {T : u_T} {ty : Nat → FieldType} {fk : List (Option (Option Nat))} (hc : Cl ci C T N ty) (hd : decode cc pc = .ok (.getfield idx, 3)) (hs : shp[id]? = some (.inr (.inr (ci, fk)))) (k : Nat) (hf : fk[k]? = some (some none)) (hk : k < N) (hw : Cond.fieldLink own idx (T k).1 (T k).2.1 (T k).2.2.1 ∈ gtbl) (pc' : Nat) (hp : pc + 3 = pc') (kk : Z X p l e R s m args below meth c nL Q pc' lv (.long (st.2 id k) :: rest) st) : Z X p l e R s m args below meth c nL Q pc lv (.ref (X.2.1 id) :: rest) st := x_get hh hc hd hs k hf hk hw pc' hp kk
theorem x_getR (hh : Hy X p s m args meth c cc nL own) {id ci N idx : Nat} {C : String} {T : u_T} {ty : Nat → FieldType} {fk : List (Option (Option Nat))} (hc : Cl ci C T N ty) (hd : decode cc pc = .ok (.getfield idx, 3)) (hs : shp[id]? = some (.inr (.inr (ci, fk)))) (k : Nat) (r : Nat) (hf : fk[k]? = some (some (some r))) (hk : k < N) (hw : Cond.fieldLink own idx (T k).1 (T k).2.1 (T k).2.2.1 ∈ gtbl) (pc' : Nat) (hp : pc + 3 = pc') (kk : Z X p l e R s m args below meth c nL Q pc' lv (.ref (X.2.1 r) :: rest) st) : Z X p l e R s m args below meth c nL Q pc lv (.ref (X.2.1 id) :: rest) st := x_get hh hc hd hs k hf hk hw pc' hp kk
theorem x_nmi {x x' : Int32} (ee : x' = x) (k : Z X p l e R s m args below meth c nL Q pc lv (.int x' :: rest) st) : Z X p l e R s m args below meth c nL Q pc lv (.int x :: rest) st := by rw [← ee]; exact k
theorem x_nml {x x' : Int64} (ee : x' = x) (k : Z X p l e R s m args below meth c nL Q pc lv (.long x' :: rest) st) : Z X p l e R s m args below meth c nL Q pc lv (.long x :: rest) st := by rw [← ee]; exact k
theorem x_ldcS (hh : Hy X p s m args meth c cc nL own) (hown : own = RX5) {i w : Nat} {tx : String} (hd : decode cc pc = .ok (.ldc i, 2)) (hw : (i, tx, w) ∈ strRef) (pc' : Nat) (hp : pc + 2 = pc') (k : Z X p l e R s m args below meth c nL Q pc' lv (.ref (X.2.2.2.2.1 w) :: rest) st) : Z X p l e R s m args below meth c nL Q pc lv rest st := by
  subst hp; subst hown
  exact fun H locs ls hP hS hl => va_ldcS hh.1 hh.2.1 hh.2.2.2.1 (hh.2.2.2.2.2.2.2.1.2.2.1 _ hw) hd (k H locs ls hP hS hl)
theorem x_callSN (hh : Hy X p s m args meth c cc nL own) {n k idx maxL : Nat} {bytes : ByteArray} {ret : Option FieldType} {v : Option Value} {st' : St} {stk : List Value} (hM : Ms yX7_copyRow bytes maxL ret n) (As : List Value) (hd : decode cc pc = .ok (.invokestatic idx, 3)) (hw : (own, idx) ∈ cNl) (hC : Ct l X k yX7_copyRow (.code yX7_copyRow bytes maxL ret) As st v st') (hst : As.reverse ++ rest = stk) (hn : As.length = n) (hR : k + 1 ≤ R.frames ∧ 8 + (maxL + 11) + 40 * k ≤ R.locals) (hrest : (rest.map fun v => v.category).sum ≤ 8) (pc' : Nat) (hp : pc + 3 = pc') (stk' : List Value) (hst' : v.toList ++ rest = stk') (kk : Z X p l e R s m args below meth c nL Q pc' lv stk' st') : Z X p l e R s m args below meth c nL Q pc lv stk st := by
  subst hp; subst hst; subst hst'
  intro H locs ls hP hS hl
  obtain ⟨m1, m3, m4, m5⟩ := hM
  have hts := hh.2.2.2.2.1
  refine x_back (va_runSN (host := RX7) (Ts := gtbl) (cc := cc) (nL := nL) (As := As) (rest := rest) (n := n) ⟨hh.1, hh.2.1, hh.2.2.1, hh.2.2.2.1, hts⟩ hC ⟨va_cnB n hts (gt_goodIn m4 (fun _ h => h)) rfl rfl rfl (hh.2.2.2.2.2.2.2.1.1 _ hw) (hts _ m3) m5 hR, hts _ m1, trivial⟩ ⟨Wd_blind hh.2.2.2.2.2.2.2.2.1 _ _, x_pre hh _ hP hS⟩ rfl hn hl.1 rfl (lv_room hrest) hd ⟨Nat.zero_le _, Nat.zero_le _⟩) hS hl kk
theorem x_copyi (hh : Hy X p s m args meth c cc nL own) {a b n : Nat} {idx : Nat} {x : Int32} (hd : decode cc pc = .ok (.invokestatic idx, 3)) (hw : Cond.methodLink own idx arraycopyName ∈ gtbl) (hnat : Cond.native arraycopyName ∈ gtbl) (hstat : Cond.static arraycopyName ∈ gtbl) (hini : Cond.initialized "java/lang/System" ∈ gtbl) (ha : shp[a]? = some (.inl (0, n))) (hb : shp[b]? = some (.inl (0, n))) (hx : x = Int32.ofNat n) (hn : n < 2 ^ 31) (hR : 1 ≤ R.frames ∧ (rest.map fun v => v.category).sum + (nativeFrameWords "java/lang/System" "arraycopy" 5 + 11) ≤ R.locals) (pc' : Nat) (hp : pc + 3 = pc') (st1 : St) (e1 : st1 = sA st b (va_cpy (st.1 a) (st.1 b) 0 0 n)) (k : Z X p l e R s m args below meth c nL Q pc' lv rest st1) : Z X p l e R s m args below meth c nL Q pc lv (.int x :: .int 0 :: .ref (X.2.1 b) :: .int 0 :: .ref (X.2.1 a) :: rest) st := by
  subst hp; subst e1
  have hx2 : x.toNatClampNeg = n := by rw [hx]; exact nI_clamp hn
  have hts := hh.2.2.2.2.1
  intro H locs ls hP hS hl
  refine va_copyi (ty := .int) hh.1 hh.2.1 (hh.2.2.1.trans hl.1.symm) hh.2.2.2.1 (hts _ hw) (hts _ hnat) (hts _ hstat) (hts _ hini) hh.2.2.2.2.2.1 hP (wW_D hh.2.2.2.2.2.2.2.2.1 st) hS a b 0 0 (wW_get ha) (wW_get hb) rfl rfl rfl (by decide) (by decide) (by rw [hx]; exact nI_pos hn) (by rw [hx2]; simp [sb_cl0]) (by rw [hx2]; simp [sb_cl0]) (fun i _ => rfl) hR.1 hR.2 hd ?_
  intro H1 locs1 hP1 _ hS1
  rw [hx2, sb_cl0, wW_setA hb] at hP1
  exact k H1 locs1 ls hP1 hS1 hl
theorem x_mmax (hh : Hy X p s m args meth c cc nL own) {idx : Nat} {x y : Int32} (hd : decode cc pc = .ok (.invokestatic idx, 3)) (hw : Cond.methodLink own idx Lib.Math.max.name ∈ gtbl) (hst : Cond.static Lib.Math.max.name ∈ gtbl) (hi : Cond.initialized "java/lang/Math" ∈ gtbl) (hcd : Cond.code Lib.Math.max.name Lib.Math.max.code 2 (some .int) ∈ gtbl) (hR : 1 ≤ R.frames ∧ (rest.map fun v => v.category).sum + 13 ≤ R.locals) (pc' : Nat) (hp : pc + 3 = pc') (k : Z X p l e R s m args below meth c nL Q pc' lv (.int (imx x y) :: rest) st) : Z X p l e R s m args below meth c nL Q pc lv (.int y :: .int x :: rest) st := by
  subst hp
  exact fun H locs ls hP hS hl => va_mmax hh.1 hh.2.1 (hh.2.2.1.trans hl.1.symm) hh.2.2.2.1 (hh.2.2.2.2.1 _ hw) (hh.2.2.2.2.1 _ hst) (hh.2.2.2.2.1 _ hi) (hh.2.2.2.2.1 _ hcd) hR.1 hR.2 (Nat.zero_le _) (Nat.zero_le _) hd (k H locs ls hP hS hl)
theorem x_mmin (hh : Hy X p s m args meth c cc nL own) {idx : Nat} {x y : Int32} (hd : decode cc pc = .ok (.invokestatic idx, 3)) (hw : Cond.methodLink own idx Lib.Math.min.name ∈ gtbl) (hst : Cond.static Lib.Math.min.name ∈ gtbl) (hi : Cond.initialized "java/lang/Math" ∈ gtbl) (hcd : Cond.code Lib.Math.min.name Lib.Math.min.code 2 (some .int) ∈ gtbl) (hR : 1 ≤ R.frames ∧ (rest.map fun v => v.category).sum + 13 ≤ R.locals) (pc' : Nat) (hp : pc + 3 = pc') (k : Z X p l e R s m args below meth c nL Q pc' lv (.int (imn x y) :: rest) st) : Z X p l e R s m args below meth c nL Q pc lv (.int y :: .int x :: rest) st := by
  subst hp
  exact fun H locs ls hP hS hl => va_mmin hh.1 hh.2.1 (hh.2.2.1.trans hl.1.symm) hh.2.2.2.1 (hh.2.2.2.2.1 _ hw) (hh.2.2.2.2.1 _ hst) (hh.2.2.2.2.1 _ hi) (hh.2.2.2.2.1 _ hcd) hR.1 hR.2 (Nat.zero_le _) (Nat.zero_le _) hd (k H locs ls hP hS hl)
def Wo (w : Nat) : Prop := w < 3
def MiS (y : MethodName) (bytes : ByteArray) (maxL : Nat) (ret : Option FieldType) (n : Nat) : Prop := Cond.instanceMethod y ∈ gtbl ∧ Cond.selects y.cls y y ∈ gtbl ∧ Cond.initialized y.cls ∈ gtbl ∧ Cond.code y bytes maxL ret ∈ gtbl ∧ (y.cls = "java/lang/String" ∧ y.cls ≠ "java/lang/invoke/MethodHandle" ∧ y.cls ≠ "java/lang/invoke/VarHandle" ∧ (parseMethodDescriptor y.desc).map (fun d => d.parameters.length) = some n)
theorem x_callVS (hh : Hy X p s m args meth c cc nL own) {w n k idx maxL : Nat} {y : MethodName} {bytes : ByteArray} {ret : Option FieldType} {v : Option Value} {st' : St} {stk : List Value} (hwo : Wo w) (hM : MiS y bytes maxL ret n) (As : List Value) (hd : decode cc pc = .ok (.invokevirtual idx, 3)) (hw : Cond.methodLink own idx y ∈ gtbl) (hC : Ct l X k y (.code y bytes maxL ret) (.ref (X.2.2.2.2.1 w) :: As) st v st') (hst : As.reverse ++ .ref (X.2.2.2.2.1 w) :: rest = stk) (hn : As.length = n) (hR : k + 1 ≤ R.frames ∧ 8 + (maxL + 11) + 40 * k ≤ R.locals) (hrest : (rest.map fun v => v.category).sum ≤ 8) (pc' : Nat) (hp : pc + 3 = pc') (stk' : List Value) (hst' : v.toList ++ rest = stk') (kk : Z X p l e R s m args below meth c nL Q pc' lv stk' st') : Z X p l e R s m args below meth c nL Q pc lv stk st := by
  subst hp; subst hst; subst hst'
  intro H locs ls hP hS hl
  obtain ⟨m1, m2, m3, m4, m6, m5⟩ := hM
  have hts := hh.2.2.2.2.1
  have hrec := vk_recv hh.2.2.2.2.2.2.2.1.2.1 hwo hS
  rw [← m6] at hrec
  refine x_back (va_runV (C := y.cls) (Ts := gtbl) (cc := cc) (nL := nL) (As := As) (rest := rest) (n := n) ⟨hh.1, hh.2.1, hh.2.2.1, hh.2.2.2.1, hts⟩ hC ⟨callB_of n hts (gt_goodIn m4 (fun _ h => h)) rfl rfl rfl (hts _ m3) (hts _ hw) m5 hR, hts _ m1, hts _ m2⟩ ⟨Wd_blind hh.2.2.2.2.2.2.2.2.1 _ _, hrec, x_pre hh _ hP hS⟩ rfl hn hl.1 rfl (lv_room hrest) hd ⟨Nat.zero_le _, Nat.zero_le _⟩) hS hl kk
theorem x_strV (hh : Hy X p s m args meth c cc nL own) {w idx : Nat} (hwo : Wo w) (hd : decode cc pc = .ok (.getfield idx, 3)) (hw : Cond.fieldLink own idx "java/lang/String" "value" "[B" ∈ gtbl) (pc' : Nat) (hp : pc + 3 = pc') (k : Z X p l e R s m args below meth c nL Q pc' lv (.ref (X.2.2.2.2.2 w) :: rest) st) : Z X p l e R s m args below meth c nL Q pc lv (.ref (X.2.2.2.2.1 w) :: rest) st := by
  subst hp
  exact fun H locs ls hP hS hl => vk_getf hh.1 hh.2.1 (hh.2.2.2.2.2.2.2.1.2.1.1 w hwo).2.2.1 hS hh.2.2.2.1 (hh.2.2.2.2.1 _ hw) (fun _ h => h) hd (k H locs ls hP hS hl)
theorem x_strC (hh : Hy X p s m args meth c cc nL own) {w idx : Nat} (hwo : Wo w) (hd : decode cc pc = .ok (.getfield idx, 3)) (hw : Cond.fieldLink own idx "java/lang/String" "coder" "B" ∈ gtbl) (pc' : Nat) (hp : pc + 3 = pc') (k : Z X p l e R s m args below meth c nL Q pc' lv (.int 0 :: rest) st) : Z X p l e R s m args below meth c nL Q pc lv (.ref (X.2.2.2.2.1 w) :: rest) st := by
  subst hp
  exact fun H locs ls hP hS hl => vk_getf hh.1 hh.2.1 (hh.2.2.2.2.2.2.2.1.2.1.1 w hwo).2.1 hS hh.2.2.2.1 (hh.2.2.2.2.1 _ hw) (fun _ h => h) hd (k H locs ls hP hS hl)
theorem x_strL (hh : Hy X p s m args meth c cc nL own) {w : Nat} (hwo : Wo w) (hd : decode cc pc = .ok (.arraylength, 1)) (pc' : Nat) (hp : pc + 1 = pc') (k : Z X p l e R s m args below meth c nL Q pc' lv (.int (Int32.ofNat (strLen.getD w 0)) :: rest) st) : Z X p l e R s m args below meth c nL Q pc lv (.ref (X.2.2.2.2.2 w) :: rest) st := by
  subst hp
  intro H locs ls hP hS hl
  obtain ⟨cell, h1, h2, h3, h4, h5, h6, h7⟩ := (hh.2.2.2.2.2.2.2.1.2.1.1 w hwo).2.2.2
  exact W.alen hh.1 hh.2.1 (by rw [hS.2.1 _ (Array.getElem?_eq_some_iff.mp h1).1 h7]; exact h1) h2 h5 rfl rfl hd (k H locs ls hP hS hl)
theorem x_strB (hh : Hy X p s m args meth c cc nL own) {w : Nat} {i : Int32} (hwo : Wo w) (hd : decode cc pc = .ok (.baload, 1)) (hi : vp_in i (strLen.getD w 0)) (pc' : Nat) (hp : pc + 1 = pc') (k : Z X p l e R s m args below meth c nL Q pc' lv (.int ((strByt.getD w []).getD i.toNatClampNeg 0) :: rest) st) : Z X p l e R s m args below meth c nL Q pc lv (.int i :: .ref (X.2.2.2.2.2 w) :: rest) st := by
  subst hp
  exact fun H locs ls hP hS hl => va_tb hh.1 hh.2.1 (hh.2.2.2.2.2.2.2.1.2.1.1 w hwo).2.2.2 hS hi rfl hd (k H locs ls hP hS hl)
theorem x_gets (hh : Hy X p s m args meth c cc nL own) {idx : Nat} (hd : decode cc pc = .ok (.getstatic idx, 3)) (hw : Cond.fieldLink own idx "java/lang/String" "COMPACT_STRINGS" "Z" ∈ gtbl) (pc' : Nat) (hp : pc + 3 = pc') (k : Z X p l e R s m args below meth c nL Q pc' lv (.int 1 :: rest) st) : Z X p l e R s m args below meth c nL Q pc lv rest st := by
  subst hp
  exact fun H locs ls hP hS hl => va_gets hh.1 hh.2.1 hh.2.2.2.2.2.2.2.1.2.2.2.1 hS hh.2.2.2.1 (hh.2.2.2.2.1 _ hw) (fun _ h => h) hd (k H locs ls hP hS hl)
theorem x_getsq (hh : Hy X p s m args meth c cc nL own) {idx : Nat} (hd : decode cc pc = .ok (.getstatic idx, 3)) (hw : Cond.fieldLink own idx "jdk/internal/util/Preconditions" "SIOOBE_FORMATTER" "Ljava/util/function/BiFunction;" ∈ gtbl) (pc' : Nat) (hp : pc + 3 = pc') (k : ∀ v : Value, v.category = 1 → Z X p l e R s m args below meth c nL Q pc' lv (v :: rest) st) : Z X p l e R s m args below meth c nL Q pc lv rest st := by
  subst hp
  intro H locs ls hP hS hl
  rcases hh.2.2.2.2.2.2.2.1.2.2.2.2 with h | ⟨t, h⟩
  · exact va_gets hh.1 hh.2.1 h hS hh.2.2.2.1 (hh.2.2.2.2.1 _ hw) (fun _ h => h) hd (k _ rfl H locs ls hP hS hl)
  · exact va_gets hh.1 hh.2.1 h hS hh.2.2.2.1 (hh.2.2.2.2.1 _ hw) (fun _ h => h) hd (k _ rfl H locs ls hP hS hl)
end X
theorem cl_0 : Cl 0 RX0 TX0 4 tyX0 := ⟨rfl, uws_0, tyX0_ok, nmX0⟩
theorem cl_1 : Cl 1 RX1 TX1 2 tyX1 := ⟨rfl, uws_1, tyX1_ok, nmX1⟩
theorem cl_2 : Cl 2 RX2 TX2 7 tyX2 := ⟨rfl, uws_2, tyX2_ok, nmX2⟩
theorem cl_3 : Cl 3 RX3 TX3 10 tyX3 := ⟨rfl, uws_3, tyX3_ok, nmX3⟩
theorem cl_4 : Cl 4 RX4 TX4 11 tyX4 := ⟨rfl, uws_4, tyX4_ok, nmX4⟩
theorem cl_5 : Cl 5 RX5 TX5 8 tyX5 := ⟨rfl, uws_5, tyX5_ok, nmX5⟩
theorem cl_6 : Cl 6 RX6 TX6 7 tyX6 := ⟨rfl, uws_6, tyX6_ok, nmX6⟩
theorem cl_7 : Cl 7 RX7 TX7 12 tyX7 := ⟨rfl, uws_7, tyX7_ok, nmX7⟩
theorem cl_8 : Cl 8 RX8 TX8 51 tyX8 := ⟨rfl, uws_8, tyX8_ok, nmX8⟩

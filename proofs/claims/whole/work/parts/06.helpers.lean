/-! helpers of the functional texts -/
def fN : Nat := 1000000
def gi {α : Type} (i : Int32) (n : Nat) (a : Option α) : Option α := if 0 ≤ i.toInt ∧ i.toInt < (n : Int) then a else none
def gz {α : Type} (y : Int32) (a : Option α) : Option α := if y = 0 then none else a
def gb {α : Type} (y : Int32) (a : Option α) : Option α := if y = 0 ∨ y = 1 then a else none
def bs {α β : Type} (a : β) (f : β → Option α) : Option α := f a
theorem gi_some {α : Type} {i : Int32} {n : Nat} {a : Option α} {r : α} (h : gi i n a = some r) : vp_in i n ∧ a = some r := by
  unfold gi at h
  by_cases c : 0 ≤ i.toInt ∧ i.toInt < (n : Int)
  · rw [if_pos c] at h; exact ⟨vp_in_iff.mpr c, h⟩
  · rw [if_neg c] at h; cases h
theorem gz_some {α : Type} {y : Int32} {a : Option α} {r : α} (h : gz y a = some r) : ¬ y = 0 ∧ a = some r := by
  unfold gz at h
  by_cases c : y = 0
  · rw [if_pos c] at h; cases h
  · rw [if_neg c] at h; exact ⟨c, h⟩
theorem gb_some {α : Type} {y : Int32} {a : Option α} {r : α} (h : gb y a = some r) : (y = 0 ∨ y = 1) ∧ a = some r := by
  unfold gb at h
  by_cases c : y = 0 ∨ y = 1
  · rw [if_pos c] at h; exact ⟨c, h⟩
  · rw [if_neg c] at h; cases h
theorem bs_some {α β : Type} {a : β} {f : β → Option α} {r : α} (h : bs a f = some r) : ∃ x, x = a ∧ f x = some r := ⟨a, rfl, h⟩
theorem b_some {α β : Type} {o : Option β} {f : β → Option α} {r : α} (h : o.bind f = some r) : ∃ q, o = some q ∧ f q = some r := by
  cases o with
  | none => cases h
  | some q => exact ⟨q, rfl, h⟩
theorem t_pos {α : Type} {c : Prop} [Decidable c] {a b : Option α} {r : α} (hc : c) (h : (if c then a else b) = some r) : a = some r := by rw [if_pos hc] at h; exact h
theorem t_neg {α : Type} {c : Prop} [Decidable c] {a b : Option α} {r : α} (hc : ¬ c) (h : (if c then a else b) = some r) : b = some r := by rw [if_neg hc] at h; exact h
theorem nb_n {v : Int32} (h : v = 0 ∨ v = 1) : narrow .boolean (.int v) = .int v := by rcases h with rfl | rfl <;> rfl
theorem nb_f {v : Int32} (h : v = 0 ∨ v = 1) : fits .boolean (.int v) = true := by rcases h with rfl | rfl <;> rfl
/-- a scene, a house, an evening among the cells -/
def Sc (a : Nat) : Prop := shp[a]? = some (.inr (.inr (6, [some (some (a + 1)), some (some (a + 2)), some (some (a + 3)), some (some (a + 4)), some (some (a + 5)), none, none]))) ∧ shp[a + 1]? = some (.inl (0, 6)) ∧ shp[a + 2]? = some (.inl (0, 6)) ∧ shp[a + 3]? = some (.inl (0, 6)) ∧ shp[a + 4]? = some (.inl (0, 6)) ∧ shp[a + 5]? = some (.inl (0, 6))
def Ho (a : Nat) : Prop := shp[a]? = some (.inr (.inr (3, [none, none, none, some (some (a + 1)), some (some (a + 2)), some (some (a + 3)), some (some (a + 4)), some (some (a + 5)), some (some (a + 6)), some (some (a + 7))]))) ∧ shp[a + 1]? = some (.inl (0, 3)) ∧ shp[a + 2]? = some (.inl (0, 18)) ∧ shp[a + 3]? = some (.inl (0, 6)) ∧ shp[a + 4]? = some (.inl (0, 6)) ∧ shp[a + 5]? = some (.inl (0, 6)) ∧ shp[a + 6]? = some (.inl (0, 6)) ∧ shp[a + 7]? = some (.inl (0, 36))
def Ev (a : Nat) : Prop := shp[a + 6]? = some (.inr (.inr (1, [some (some 1), some (some a)]))) ∧ Sc a
theorem sc_9 : Sc 9 := ⟨rfl, rfl, rfl, rfl, rfl, rfl⟩
theorem sc_16 : Sc 16 := ⟨rfl, rfl, rfl, rfl, rfl, rfl⟩
theorem sc_46 : Sc 46 := ⟨rfl, rfl, rfl, rfl, rfl, rfl⟩
theorem sc_52 : Sc 52 := ⟨rfl, rfl, rfl, rfl, rfl, rfl⟩
theorem ho_1 : Ho 1 := ⟨rfl, rfl, rfl, rfl, rfl, rfl, rfl, rfl⟩
theorem ho_24 : Ho 24 := ⟨rfl, rfl, rfl, rfl, rfl, rfl, rfl, rfl⟩
theorem ev_9 : Ev 9 := ⟨rfl, sc_9⟩
theorem ev_16 : Ev 16 := ⟨rfl, sc_16⟩
theorem Z.at0 {X : Cx} {p : Program} {l : Launch} {e : Env} {R : Room} {s : State} {m : MethodId} {args : Array Value} {below : List Frame} {meth : Method} {c : Code} {nL : Nat} {Q : State → Prop} {pc : Nat} {lv lv' : List (Nat × Value)} {stk : List Value} {st : St} (h : lv = lv') (k : Z X p l e R s m args below meth c nL Q pc lv' stk st) : Z X p l e R s m args below meth c nL Q pc lv stk st := by rw [h]; exact k
def imgId (i : Int32) : Nat := if i = 0 then 46 else 52
theorem img_2 {i : Int32} (h : vp_in i 2) : i = 0 ∨ i = 1 := by
  obtain ⟨j, hj, rfl⟩ := vp_in_of h (by decide)
  rcases (show j = 0 ∨ j = 1 by omega) with rfl | rfl
  · exact Or.inl rfl
  · exact Or.inr rfl
theorem img_r {i : Int32} (h : vp_in i 2) : ([46, 52] : List Nat)[i.toNatClampNeg]? = some (imgId i) := by
  rcases img_2 h with rfl | rfl <;> rfl
theorem img_sc {i : Int32} (h : vp_in i 2) : Sc (imgId i) := by
  rcases img_2 h with rfl | rfl
  · exact sc_46
  · exact sc_52
def lenOf (a : Nat) : Nat := match shp[a]? with
  | some (.inl (_, n)) => n
  | _ => 0
def Ar (a : Nat) : Prop := shp[a]? = some (.inl (0, lenOf a))
theorem ret2 {α β : Type} {a c : α} {b d : β} (h : some (a, b) = some (c, d)) : c = a ∧ d = b := by
  injection h with h
  injection h with h1 h2
  exact ⟨h1.symm, h2.symm⟩
theorem ret1 {α : Type} {a c : α} (h : some a = some c) : c = a := by
  injection h with h
  exact h.symm

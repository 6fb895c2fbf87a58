def st0A : Nat → Nat → Int32 := fun id => if id = 0 then (upd (fun _ => 0) 11 (-1)) else if id = 10 then (upd (upd (upd (upd (upd (upd (fun _ => 0) 0 (-1)) 1 (-1)) 2 (-1)) 3 (-1)) 4 (-1)) 5 (-1)) else if id = 11 then (upd (upd (upd (upd (upd (upd (fun _ => 0) 0 (-1)) 1 (-1)) 2 (-1)) 3 (-1)) 4 (-1)) 5 (-1)) else if id = 17 then (upd (upd (upd (upd (upd (upd (fun _ => 0) 0 (-1)) 1 (-1)) 2 (-1)) 3 (-1)) 4 (-1)) 5 (-1)) else if id = 18 then (upd (upd (upd (upd (upd (upd (fun _ => 0) 0 (-1)) 1 (-1)) 2 (-1)) 3 (-1)) 4 (-1)) 5 (-1)) else if id = 47 then (upd (upd (upd (upd (upd (upd (fun _ => 0) 0 (-1)) 1 (-1)) 2 (-1)) 3 (-1)) 4 (-1)) 5 (-1)) else if id = 48 then (upd (upd (upd (upd (upd (upd (fun _ => 0) 0 (-1)) 1 (-1)) 2 (-1)) 3 (-1)) 4 (-1)) 5 (-1)) else if id = 53 then (upd (upd (upd (upd (upd (upd (fun _ => 0) 0 (-1)) 1 (-1)) 2 (-1)) 3 (-1)) 4 (-1)) 5 (-1)) else if id = 54 then (upd (upd (upd (upd (upd (upd (fun _ => 0) 0 (-1)) 1 (-1)) 2 (-1)) 3 (-1)) 4 (-1)) 5 (-1)) else if id = 59 then (upd (fun _ => 0) 19 (-1)) else if id = 67 then (upd (upd (upd (upd (upd (upd (fun _ => 0) 0 0) 1 0) 2 0) 3 0) 4 0) 5 0) else if id = 68 then (upd (upd (upd (upd (upd (upd (fun _ => 0) 0 0) 1 0) 2 0) 3 0) 4 0) 5 0) else if id = 69 then (upd (upd (upd (upd (upd (upd (fun _ => 0) 0 (-1)) 1 (-1)) 2 (-1)) 3 (-1)) 4 (-1)) 5 (-1)) else if id = 70 then (upd (upd (upd (upd (upd (upd (fun _ => 0) 0 (-1)) 1 (-1)) 2 (-1)) 3 (-1)) 4 (-1)) 5 (-1)) else if id = 71 then (upd (upd (upd (upd (upd (upd (fun _ => 0) 0 0) 1 0) 2 0) 3 0) 4 0) 5 0) else (fun _ => 0)
def st0 : St := (st0A, fun _ _ => 0)
def mi {α β : Type} (f : Nat → α → β) : Nat → List α → List β
  | _, [] => []
  | k, a :: l => f k a :: mi f (k + 1) l
theorem mi_eq {α β : Type} : ∀ (l : List α) (k : Nat) (f : Nat → α → β), mi f k l = l.mapIdx (fun i a => f (i + k) a) := by
  intro l
  induction l with
  | nil => intro k f; rfl
  | cons a l ih =>
    intro k f
    rw [mi, ih, List.mapIdx_cons]
    simp only [Nat.zero_add]
    congr 1
    apply List.ext_getElem?
    intro j
    simp only [List.getElem?_mapIdx]
    congr 1
    funext a
    congr 1
    omega
theorem wc_obj {X : Cx} {st : St} {id ci : Nat} {fk : List (Option (Option Nat))} : wc X st id (.inr (.inr (ci, fk))) = .inr (ci, mi (fv X st id) 0 fk) := by
  rw [mi_eq]
  rfl
theorem img_f (a b : Nat) {ad : Nat → Nat} (ha : ad 46 = a := by rfl) (hb : ad 52 = b := by rfl) : va_up (va_up (fun _ => none) 0 (some a)) 1 (some b) = fun i => (([46, 52] : List Nat)[i]?).map ad := by
  subst ha; subst hb
  funext i
  match i with
  | 0 => rfl
  | 1 => rfl
  | n + 2 => simp [va_up]
theorem Ok_of {X : Cx} {st : St} (hD : va_D (cA X) (wW X st)) : Ok X := by
  refine ⟨fun i j hi hj e => ?_, fun i hi => ?_⟩
  · exact hD.1 i j _ _ (wW_get (List.getElem?_eq_getElem hi)) (wW_get (List.getElem?_eq_getElem hj)) e
  · exact hD.2 i _ (wW_get (List.getElem?_eq_getElem hi))
theorem Y_to_ZL {X : Cx} {st : St} {wv : va_W} {kc ks h0 : Nat} {D : va_G} {p : Program} {l : Launch} {e : Env} {R : Room} {s : State} {m : MethodId} {args : Array Value} {below : List Frame} {meth : Method} {c : Code} {nL : Nat} {Q : State → Prop} {pc : Nat} {lv : List (Nat × Value)} {stk : List Value} (hw : ∀ (k : Nat) (q : Nat × va_E), (wW X st)[k]? = some q → wv[k]? = some q) (h1 : X.1 = D) (h2 : X.2.2.2.1 = h0) (hk : kc ≤ 600000) (hs : ks ≤ 7302250) (k : Ok X → ZL X p l e R s m args below meth c nL Q pc lv stk st) : Y D h0 [] p l e R s m args below meth c nL Q pc lv stk wv kc ks := by
  subst h1; subst h2
  intro H locs ls hP hD hS hl
  rw [List.nil_append] at hP hD
  have hP2 : va_P X.1 classes (wW X st) H := fun k q h => hP k q (hw k q h)
  have hD2 : va_D (cA X) (wW X st) := ⟨fun i j x y hi hj e => hD.1 i j x y (hw i x hi) (hw j y hj) e, fun k q h => hD.2 k q (hw k q h)⟩
  refine W.widen (k := 600000) (n := 7302250) hk hs ?_
  exact k (Ok_of (st := st) hD2) H locs ls hP2 hS hl
theorem arr_k {s : State} {args : Array Value} {ty : FieldType} (h : (Cond.arrayClass ty).before args s = true) : ∃ cA : ClassId, ArrOfT s cA ty ∧ s.vm.findClass ("[" ++ ty.toString) = some cA := by
  obtain ⟨cA, kA, comp, h1, h2, h3⟩ := Cond.arrayClass_spec h
  exact ⟨cA, fun n z => ⟨fun k h => (by cases h), kA, h2, comp, h3⟩, h1⟩
theorem arr_o {s : State} (h : va_AO "LowHeads$Scene" s) : ∃ cA : ClassId, ArrOfT s cA (.object "LowHeads$Scene") ∧ va_RA s cA (.object "LowHeads$Scene") := by
  obtain ⟨comp, cA, kA, h1, _, h2, h3, h4⟩ := Cond.arrayOver_spec h
  exact ⟨cA, fun n z => ⟨fun k h => (by cases h), kA, h2, comp, h3⟩, kA, comp, h2, h3, h1, h4⟩

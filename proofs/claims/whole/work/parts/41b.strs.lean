/-- the String constants' terms -/
def strTm (i : Nat) : Term := .string "LowHeads$Reader" (match i with | 0 => 48 | 1 => 64 | _ => 72)
set_option maxRecDepth 100000 in
set_option maxHeartbeats 40000000 in
theorem strs_of {s : State} {b : Nat} {A : Nat → Prop} (hgv : (Jvm.Cond.and given_1 narrow_1).before #[Value.ref b] s = true) (hA : ∀ a : Nat, a < s.heap.size → ¬ A a) : ∃ adK adV : Nat → Nat, vk_S 3 strLen strByt adK adV A s s.heap ∧ ∀ i : Nat, i < 3 → (strTm i).eval #[Value.ref b] s none [] s = some (.ref (adK i)) := by
  have hs := flat_of_before _ hgv
  have c3 : ∀ {P : Nat → Prop}, P 0 → P 1 → P 2 → ∀ i, i < 3 → P i := by
    intro P h0 h1 h2 i hi
    rcases (show i = 0 ∨ i = 1 ∨ i = 2 by omega) with rfl | rfl | rfl
    · exact h0
    · exact h1
    · exact h2
  refine vk_Sof (tm := strTm) (c3 (by decide) (by decide) (by decide)) (c3 (hs _ (by decide +kernel)) (hs _ (by decide +kernel)) (hs _ (by decide +kernel))) (c3 (hs _ (by decide +kernel)) (hs _ (by decide +kernel)) (hs _ (by decide +kernel))) (c3 (hs _ (by decide +kernel)) (hs _ (by decide +kernel)) (hs _ (by decide +kernel))) (c3 (hs _ (by decide +kernel)) (hs _ (by decide +kernel)) (hs _ (by decide +kernel))) (c3 (fun j hj => ?_) (fun j hj => ?_) (fun j hj => ?_)) (fun i j hi hj hij => ?_) hA
  · have hj : j < 4 := hj
    rcases (show j = 0 ∨ j = 1 ∨ j = 2 ∨ j = 3 by omega) with rfl | rfl | rfl | rfl <;> exact hs _ (by decide +kernel)
  · have hj : j < 6 := hj
    rcases (show j = 0 ∨ j = 1 ∨ j = 2 ∨ j = 3 ∨ j = 4 ∨ j = 5 by omega) with rfl | rfl | rfl | rfl | rfl | rfl <;> exact hs _ (by decide +kernel)
  · have hj : j < 7 := hj
    rcases (show j = 0 ∨ j = 1 ∨ j = 2 ∨ j = 3 ∨ j = 4 ∨ j = 5 ∨ j = 6 by omega) with rfl | rfl | rfl | rfl | rfl | rfl | rfl <;> exact hs _ (by decide +kernel)
  · rcases (show i = 0 ∨ i = 1 ∨ i = 2 by omega) with rfl | rfl | rfl <;> rcases (show j = 0 ∨ j = 1 ∨ j = 2 by omega) with rfl | rfl | rfl
    · exact absurd rfl hij
    · exact Or.inl (hs _ (by decide +kernel))
    · exact Or.inl (hs _ (by decide +kernel))
    · exact Or.inr (hs _ (by decide +kernel))
    · exact absurd rfl hij
    · exact Or.inl (hs _ (by decide +kernel))
    · exact Or.inr (hs _ (by decide +kernel))
    · exact Or.inr (hs _ (by decide +kernel))
    · exact absurd rfl hij

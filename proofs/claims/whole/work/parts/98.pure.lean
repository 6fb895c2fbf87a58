theorem law_pure : ∀ (L : Nat) (xs : Nat → Int32), L ≤ 2048 → ∃ st' : St, F_L_law_18 L xs fN 0 st0 = some (1, st') := sorry

/-! PURE: the law -/
theorem law_call {f g : St → Option (Int32 × St)} (h : Bo f g) {k n : Nat} {pc : Nat → Nat} {b : Nat} {st : St} (hb : b < 2 ^ 20) (hR : R k n pc b st) {K : St → Option (Int32 × St)} (hK : ∀ st' k n pc, R k n pc (b + 60) st' → ∃ st'', K st' = some (1, st'')) : ∃ st'', (f st).bind (fun q => (g q.2).bind (fun q' => if q.1 = q'.1 then K q'.2 else some (0, q'.2))) = some (1, st'') := by
  obtain ⟨a, s1, s2, e1, e2, k', n', pc', hR'⟩ := h k n pc b st hb hR
  obtain ⟨st'', e3⟩ := hK s2 k' n' pc' hR'
  refine ⟨st'', ?_⟩
  rw [e1, obs]
  dsimp only
  rw [e2, obs]
  dsimp only
  rw [if_pos rfl, e3]
theorem R_start : R 0 0 (fun _ => 0) 1 st0 := by
  have e10 : ∀ p, p < 6 → st0.1 10 p = -1 := by decide +kernel
  have e69 : ∀ p, p < 6 → st0.1 69 p = -1 := by decide +kernel
  refine ⟨⟨⟨by omega, by omega, by decide +kernel, by decide +kernel, fun r hr => by omega⟩, ⟨by omega, by omega, by decide +kernel, by decide +kernel, fun r hr => by omega⟩, fun r hr => by omega, fun r hr => by omega, fun p hp => by omega, fun p hp => by omega, ⟨0, by omega, by decide +kernel, by decide +kernel⟩, fun p q hp => by omega⟩, ⟨⟨fun p hp => by omega, fun p _ h6 => e69 p h6⟩, ⟨fun p hp => by omega, fun p q hp => by omega, fun p _ h6 => e10 p h6, fun p q hp => by omega⟩, ⟨0, by omega, fun p hp => by omega⟩, fun p hp => by omega, fun p hp => by omega, ⟨0, by omega, by decide +kernel, by decide +kernel⟩, ⟨0, by omega, by decide +kernel, by decide +kernel⟩⟩, ⟨0, by omega, by decide +kernel, by decide +kernel, fun j hj => by omega⟩, by decide +kernel, ⟨0, by omega, by decide +kernel, by decide +kernel, fun j hj => by omega⟩, ⟨Or.inl ⟨by decide +kernel, by decide +kernel⟩, Or.inl ⟨by decide +kernel, by decide +kernel⟩⟩, fun lw hlw r hr => by omega⟩
theorem law_loop {L : Nat} (xs : Nat → Int32) (hL : L ≤ 2048) : ∀ N i st k n pc b, L + 4 - 4 * i < N → 4 * i ≤ L + 3 → b ≤ 60 * i + 1 → R k n pc b st → ∃ st', F_L_law_18 L xs N (nI (4 * i)) st = some (1, st') := by
  intro N
  induction N with
  | zero => intro i st k n pc b h; omega
  | succ N ih =>
    intro i st k n pc b hN hi hb hR
    have hb20 : b < 2 ^ 20 := by omega
    have e4 : (Int32.ofNat L - 4).toInt = (L : Int) - 4 := by
      show (nI L - nI 4).toInt = _
      rw [pk_sub_toInt (by omega) (by omega)]
      rfl
    by_cases c : L < 4 * i + 4
    · refine ⟨st, ?_⟩
      rw [F_L_law_18, if_pos (by rw [ilt, e4, nI_toInt (by omega)]; omega)]
    · have a1 : nI (4 * i) + 1 = nI (4 * i + 1) := nI_add _ 1
      have a2 : nI (4 * i) + 2 = nI (4 * i + 2) := nI_add _ 2
      have a3 : nI (4 * i) + 3 = nI (4 * i + 3) := nI_add _ 3
      have g0 : ∀ {α : Type} {x : Option α}, gi (nI (4 * i)) L x = x := gi_in (by omega) (by omega)
      have g1 : ∀ {α : Type} {x : Option α}, gi (nI (4 * i + 1)) L x = x := gi_in (by omega) (by omega)
      have g2 : ∀ {α : Type} {x : Option α}, gi (nI (4 * i + 2)) L x = x := gi_in (by omega) (by omega)
      have g3 : ∀ {α : Type} {x : Option α}, gi (nI (4 * i + 3)) L x = x := gi_in (by omega) (by omega)
      have hK : ∀ st' k n pc, R k n pc (b + 60) st' → ∃ st'', F_L_law_964 L xs (F_L_law_18 L xs N) (nI (4 * i)) st' = some (1, st'') := by
        intro st' k' n' pc' hR'
        have e : nI (4 * i) + 4 = nI (4 * (i + 1)) := nI_add _ 4
        rw [F_L_law_964, e]
        exact ih (i + 1) st' k' n' pc' (b + 60) (by omega) (by omega) (by omega) hR'
      have h0 : ∃ st'', F_L_law_964 L xs (F_L_law_18 L xs N) (nI (4 * i)) st = some (1, st'') := hK st k n pc (hR.mono (by omega))
      rw [F_L_law_18, if_neg (by rw [ilt, e4, nI_toInt (by omega)]; omega), g0]
      simp only [a1, a2, a3, g1, g2, g3]
      generalize xs (nI (4 * i)).toNatClampNeg &&& 31 = w
      by_cases c0 : w = 0
      · rw [if_pos c0]
        exact law_call (B_feed _ _) hb20 hR (K := F_L_law_964 L xs (F_L_law_18 L xs N) (nI (4 * i))) hK
      rw [if_neg c0]
      by_cases c1 : w = 1
      · rw [if_pos c1]
        exact law_call (B_house) hb20 hR (K := F_L_law_964 L xs (F_L_law_18 L xs N) (nI (4 * i))) hK
      rw [if_neg c1]
      by_cases c2 : w = 2
      · rw [if_pos c2]
        exact law_call (B_fault) hb20 hR (K := F_L_law_964 L xs (F_L_law_18 L xs N) (nI (4 * i))) hK
      rw [if_neg c2]
      by_cases c3 : w = 3
      · rw [if_pos c3]
        exact law_call (B_told _) hb20 hR (K := F_L_law_964 L xs (F_L_law_18 L xs N) (nI (4 * i))) hK
      rw [if_neg c3]
      by_cases c4 : w = 4
      · rw [if_pos c4]
        exact law_call (B_room _ _ _) hb20 hR (K := F_L_law_964 L xs (F_L_law_18 L xs N) (nI (4 * i))) hK
      rw [if_neg c4]
      by_cases c5 : w = 5
      · rw [if_pos c5]
        exact law_call (B_person _ _) hb20 hR (K := F_L_law_964 L xs (F_L_law_18 L xs N) (nI (4 * i))) hK
      rw [if_neg c5]
      by_cases c6 : w = 6
      · rw [if_pos c6]
        exact law_call (B_friends _ _) hb20 hR (K := F_L_law_964 L xs (F_L_law_18 L xs N) (nI (4 * i))) hK
      rw [if_neg c6]
      by_cases c7 : w = 7
      · rw [if_pos c7]
        exact law_call (B_law _) hb20 hR (K := F_L_law_964 L xs (F_L_law_18 L xs N) (nI (4 * i))) hK
      rw [if_neg c7]
      by_cases c8 : w = 8
      · rw [if_pos c8]
        exact law_call (B_put _ _ _) hb20 hR (K := F_L_law_964 L xs (F_L_law_18 L xs N) (nI (4 * i))) hK
      rw [if_neg c8]
      by_cases c9 : w = 9
      · rw [if_pos c9]
        exact law_call (B_leave _) hb20 hR (K := F_L_law_964 L xs (F_L_law_18 L xs N) (nI (4 * i))) hK
      rw [if_neg c9]
      by_cases c10 : w = 10
      · rw [if_pos c10]
        exact law_call (B_bend _ _) hb20 hR (K := F_L_law_964 L xs (F_L_law_18 L xs N) (nI (4 * i))) hK
      rw [if_neg c10]
      by_cases c11 : w = 11
      · rw [if_pos c11]
        exact law_call (B_first _ _) hb20 hR (K := F_L_law_964 L xs (F_L_law_18 L xs N) (nI (4 * i))) hK
      rw [if_neg c11]
      by_cases c12 : w = 12
      · rw [if_pos c12]
        exact law_call (B_bow _) hb20 hR (K := F_L_law_964 L xs (F_L_law_18 L xs N) (nI (4 * i))) hK
      rw [if_neg c12]
      by_cases c13 : w = 13
      · rw [if_pos c13]
        exact law_call (B_year _) hb20 hR (K := F_L_law_964 L xs (F_L_law_18 L xs N) (nI (4 * i))) hK
      rw [if_neg c13]
      by_cases c14 : w = 14
      · rw [if_pos c14]
        exact law_call (B_come _ _ _) hb20 hR (K := F_L_law_964 L xs (F_L_law_18 L xs N) (nI (4 * i))) hK
      rw [if_neg c14]
      by_cases c15 : w = 15
      · rw [if_pos c15]
        exact law_call (B_party _ _ _) hb20 hR (K := F_L_law_964 L xs (F_L_law_18 L xs N) (nI (4 * i))) hK
      rw [if_neg c15]
      by_cases c16 : w = 16
      · rw [if_pos c16]
        exact law_call (B_feast _ _) hb20 hR (K := F_L_law_964 L xs (F_L_law_18 L xs N) (nI (4 * i))) hK
      rw [if_neg c16]
      by_cases c17 : w = 17
      · rw [if_pos c17]
        exact law_call (B_cuts _ _) hb20 hR (K := F_L_law_964 L xs (F_L_law_18 L xs N) (nI (4 * i))) hK
      rw [if_neg c17]
      by_cases c18 : w = 18
      · rw [if_pos c18]
        exact law_call (B_till) hb20 hR (K := F_L_law_964 L xs (F_L_law_18 L xs N) (nI (4 * i))) hK
      rw [if_neg c18]
      by_cases c19 : w = 19
      · rw [if_pos c19]
        exact law_call (B_seen _ _) hb20 hR (K := F_L_law_964 L xs (F_L_law_18 L xs N) (nI (4 * i))) hK
      rw [if_neg c19]
      by_cases c20 : w = 20
      · rw [if_pos c20]
        exact law_call (B_write _ _ _) hb20 hR (K := F_L_law_964 L xs (F_L_law_18 L xs N) (nI (4 * i))) hK
      rw [if_neg c20]
      by_cases c21 : w = 21
      · rw [if_pos c21]
        exact law_call (B_tear) hb20 hR (K := F_L_law_964 L xs (F_L_law_18 L xs N) (nI (4 * i))) hK
      rw [if_neg c21]
      by_cases c22 : w = 22
      · rw [if_pos c22]
        exact law_call (B_judge _) hb20 hR (K := F_L_law_964 L xs (F_L_law_18 L xs N) (nI (4 * i))) hK
      rw [if_neg c22]
      by_cases c23 : w = 23
      · rw [if_pos c23]
        exact law_call (B_drift _) hb20 hR (K := F_L_law_964 L xs (F_L_law_18 L xs N) (nI (4 * i))) hK
      rw [if_neg c23]
      by_cases c24 : w = 24
      · rw [if_pos c24]
        exact law_call (B_empty) hb20 hR (K := F_L_law_964 L xs (F_L_law_18 L xs N) (nI (4 * i))) hK
      rw [if_neg c24]
      by_cases c25 : w = 25
      · rw [if_pos c25]
        exact law_call (B_seed _) hb20 hR (K := F_L_law_964 L xs (F_L_law_18 L xs N) (nI (4 * i))) hK
      rw [if_neg c25]
      by_cases c26 : w = 26
      · rw [if_pos c26]
        exact law_call (B_keep _) hb20 hR (K := F_L_law_964 L xs (F_L_law_18 L xs N) (nI (4 * i))) hK
      rw [if_neg c26]
      by_cases c27 : w = 27
      · rw [if_pos c27]
        exact law_call (B_goBack _) hb20 hR (K := F_L_law_964 L xs (F_L_law_18 L xs N) (nI (4 * i))) hK
      rw [if_neg c27]
      exact h0
theorem law_pure : ∀ (L : Nat) (xs : Nat → Int32), L ≤ 2048 → ∃ st' : St, F_L_law_18 L xs fN 0 st0 = some (1, st') := by
  intro L xs hL
  exact law_loop xs hL fN 0 st0 0 0 (fun _ => 0) 1 (by have := fN_big; omega) (by omega) (by omega) R_start

/-! PURE: the class's search of places -/
theorem nI_eqI {x : Int32} {m : Nat} (hm : m < 2 ^ 31) (h : x.toInt = (m : Int)) : x = nI m := by
  apply Int32.toInt_inj.mp
  rw [h, nI_toInt hm]
def OrdR (A : Nat → Int32) (n : Nat) (ar : Nat → Int32) (g : Nat) : Nat → Nat → Nat → Prop
  | 0, k, _ => g = k
  | d + 1, k, s => match eld A s n with
    | none => g = k
    | some p => k < g ∧ ar k = nI p ∧ OrdR A n ar g d (k + 1) (rmb s p)
def FF (S : St) (r : Nat) : Nat → Int := fun i => (S.1 3 (r * 6 + i)).toInt
def II (S : St) : Nat → Int := fun p => (S.1 14 p).toInt
def KK (S : St) : Nat → Int := fun p => (S.1 6 p).toInt
def wP (pm : Bool) : Nat → Nat → Nat := fun p i => if pm = true then i * 8 ^ (5 - p) else 0
/-- floors, inches, knees are small -/
def Bd3 (k n : Nat) (pc : Nat → Nat) (S : St) : Prop := (∀ r, r < k → ∀ i, i < pc r → 0 ≤ FF S r i ∧ FF S r i ≤ 40) ∧ ∀ p, p < n → 20 ≤ II S p ∧ II S p ≤ 90 ∧ 0 ≤ KK S p ∧ KK S p ≤ 40
def PSt (k n : Nat) (pc : Nat → Nat) (lw r g : Nat) (pm : Bool) (S : St) : Prop := HC k n pc S ∧ r < k ∧ lw ≤ 1 ∧ S.1 9 5 = nI lw ∧ S.1 33 6 = nI g ∧ g ≤ 6 ∧ S.1 33 7 = nI r ∧ Bd3 k n pc S ∧ (∀ i, i < pc r → (S.1 33 8).toInt ≤ FF S r i) ∧ 0 ≤ (S.1 33 8).toInt ∧ S.1 33 9 = (if pm = true then 1 else 0) ∧ ∀ i, i < pc r → ∃ x, x < 64 ∧ S.1 35 i = nI x ∧ ∀ j, j < 6 → (x.testBit j = true ↔ pm = false ∧ j < i ∧ FF S r j = FF S r i)
theorem P_leastOfRest {k n : Nat} {pc : Nat → Nat} {lw r g : Nat} {pm : Bool} {S : St} (h : PSt k n pc lw r g pm S) {A : Nat → Int32} {L32 : Int32} (hL : 0 ≤ L32.toInt ∧ L32.toInt ≤ 200) (b : Nat) : ∀ d j s m0 N, OrdR A n (S.1 34) g d j s → j + d ≤ 6 → d < N → m0 ≤ 100 * j → F_X4_leastOfRest_5 N L32 (nI m0) (nI j) (sV S 33 10 (nI b)) = some ((match lrS n A (II S) (KK S) (S.1 33 8).toInt d s L32.toInt with | none => -1 | some m => nI (m0 + m)), sV S 33 10 (nI b)) := by
  obtain ⟨hc, hr, hlw, e5, e6, hg, e7, ⟨hF, hB⟩, hlo, hlo0, e9, hla⟩ := h
  have hn := hc.2.1
  have hpc := hc.2.2.2.2 r hr
  have hlo40 : (S.1 33 8).toInt ≤ 40 := by
    have := hlo 0 (by omega)
    have := (hF r hr 0 (by omega)).2
    omega
  have f6' : (sV S 33 10 (nI b)).1 33 6 = nI g := by rw [sV_f (by omega)]; exact e6
  have f8' : (sV S 33 10 (nI b)).1 33 8 = S.1 33 8 := sV_f (by omega)
  have f34 : (sV S 33 10 (nI b)).1 34 = S.1 34 := sV_off (by omega)
  have f14 : (sV S 33 10 (nI b)).1 14 = S.1 14 := sV_off (by omega)
  have f6k : (sV S 33 10 (nI b)).1 6 = S.1 6 := sV_off (by omega)
  intro d
  induction d with
  | zero =>
    intro j s m0 N ho hj hN hm
    obtain ⟨N, rfl⟩ : ∃ M, N = M + 1 := ⟨N - 1, by omega⟩
    have hgj : g = j := ho
    rw [F_X4_leastOfRest_5, f6', hgj, if_pos (by rw [leN (by omega) (by omega)]; omega), lrS]
    rfl
  | succ d ih =>
    intro j s m0 N ho hj hN hm
    obtain ⟨N, rfl⟩ : ∃ M, N = M + 1 := ⟨N - 1, by omega⟩
    rw [OrdR] at ho
    rw [F_X4_leastOfRest_5, f6', lrS]
    cases he : eld A s n with
    | none =>
      rw [he] at ho
      have hgj : g = j := ho
      rw [hgj, if_pos (by rw [leN (by omega) (by omega)]; omega)]
      rfl
    | some p =>
      rw [he] at ho
      obtain ⟨o1, o2, o3⟩ := ho
      have hp := (eld_lt _ _ he).1
      obtain ⟨b1, b2, b3, b4⟩ := hB p hp
      have hj6 : j < 6 := by omega
      have hp6 : p < 6 := by omega
      have t1 : (S.1 33 8 + S.1 14 p).toInt = (S.1 33 8).toInt + II S p := tadd (by omega) (by unfold II at b1 b2; omega)
      have t2 : (S.1 33 8 + S.1 14 p - L32).toInt = (S.1 33 8).toInt + II S p - L32.toInt := by rw [tsub (by rw [t1]; omega) (by omega), t1]
      have t3 : (imx 0 (S.1 33 8 + S.1 14 p - L32)).toInt = max 0 ((S.1 33 8).toInt + II S p - L32.toInt) := by rw [imx_toInt, t2]; rfl
      have t4 : imx 0 (S.1 33 8 + S.1 14 p - L32) = nI (max 0 ((S.1 33 8).toInt + II S p - L32.toInt)).toNat := nI_eqI (by omega) (by rw [t3]; omega)
      rw [if_neg (nI_ge o1 (by omega)), if_neg (by rw [f6 hj6]; exact not_false), g6 hj6, c6 hj6, f34, o2, g6 hp6, g6 hp6, c6 hp6, f8', f14, f6k]
      dsimp only
      by_cases c : max 0 ((S.1 33 8).toInt + II S p - L32.toInt) ≤ KK S p
      · rw [if_pos (show imx 0 (S.1 33 8 + S.1 14 p - L32) ≤ S.1 6 p by rw [ile, t3]; exact c), if_pos c, t4, nI_add, nI_1, ih (j + 1) (rmb s p) _ N o3 (by omega) (by omega) (by omega)]
        cases hm' : lrS n A (II S) (KK S) (S.1 33 8).toInt d (rmb s p) L32.toInt with
        | none => rfl
        | some m =>
          dsimp only [Option.map]
          rw [show m0 + (max 0 ((S.1 33 8).toInt + II S p - L32.toInt)).toNat + m = m0 + (m + (max 0 ((S.1 33 8).toInt + II S p - L32.toInt)).toNat) by omega]
      · rw [if_neg (show ¬ imx 0 (S.1 33 8 + S.1 14 p - L32) ≤ S.1 6 p by rw [ile, t3]; exact c), if_neg c]
theorem lrS_le {n : Nat} {A : Nat → Int32} {I K : Nat → Int} {lo : Int} (hK : ∀ p, p < n → K p ≤ 40) : ∀ d s L m, lrS n A I K lo d s L = some m → m ≤ 40 * d := by
  intro d
  induction d with
  | zero => intro s L m h; rw [lrS] at h; cases h; omega
  | succ d ih =>
    intro s L m h
    rw [lrS] at h
    cases he : eld A s n with
    | none => rw [he] at h; cases h; omega
    | some p =>
      rw [he] at h
      have hp := (eld_lt _ _ he).1
      have := hK p hp
      dsimp only at h
      by_cases c : max 0 (lo + I p - L) ≤ K p
      · rw [if_pos c] at h
        cases hm : lrS n A I K lo d (rmb s p) L with
        | none => rw [hm] at h; cases h
        | some m' =>
          rw [hm] at h
          have e : m' + (max 0 (lo + I p - L)).toNat = m := Option.some.inj h
          have := ih _ _ _ hm
          omega
      · rw [if_neg c] at h; cases h
theorem la_and : ∀ a, a < 64 → ∀ t, t < 64 → ((nI a &&& (nI t ^^^ (-1))) = 0 ↔ ∀ j, j < 6 → a.testBit j = true → t.testBit j = true) := by decide +kernel
theorem shP : ∀ p, p < 6 → ∀ i, i < 6 → nI i <<< ((3 * (5 - nI p)) &&& 31) = nI (i * 8 ^ (5 - p)) ∧ i * 8 ^ (5 - p) ≤ 163840 := by decide +kernel
theorem sh18 {m : Nat} (h : m ≤ 1000) : nI m <<< (18 &&& 31) = nI (m * 262144) := pk_shlN (18 &&& 31) 18 (by decide) (by omega)
/-- the choices that go on from a place -/
def PlC (lw n : Nat) (A : Nat → Int32) (F I K : Nat → Int) (pcr : Nat) (w : Nat → Nat → Nat) (d s p : Nat) (Lo : Option Int) (tk ch x c : Nat) : Prop := tk.testBit x = false ∧ bndP F I Lo p x ≤ K p ∧ ∃ c', Att lw n A F I K pcr w d (rmb s p) (some (nxtP lw F I Lo p x)) (tk ||| 2 ^ x) c' ∧ c = ch + (c' + (bndP F I Lo p x).toNat * 262144 + w p x)
theorem P_189 {k n : Nat} {pc : Nat → Nat} {lw r g : Nat} {pm : Bool} {S : St} (h : PSt k n pc lw r g pm S) {A : Nat → Int32} {self : Int32 → Int32 → Int32 → Int32 → St → Option St} {k32 : Int32 → Int32 → Int32 → Int32 → Int32 → Int32 → St → Option St} {K0 d s' tk i nx b : Nat} {nl v2 v4 v5 : Int32} (ho : OrdR A n (S.1 34) g d (K0 + 1) s') (hd : K0 + 1 + d ≤ 6) (hi : i < pc r) (htk : tk < 64) (hnl : 0 ≤ nl.toInt ∧ nl.toInt ≤ 200) (hnx : nx ≤ (K0 + 1) * 41 * 262144) (hb : b ≤ 2147483647)
    (hself : nx < b → ∃ b', self (nI (K0 + 1)) nl (nI (tk ||| 2 ^ i)) (nI nx) (sV S 33 10 (nI b)) = some (sV S 33 10 (nI b')) ∧ MinB b b' (fun c => ∃ c', Att lw n A (FF S r) (II S) (KK S) (pc r) (wP pm) d s' (some nl.toInt) (tk ||| 2 ^ i) c' ∧ c = nx + c')) :
    ∃ b', F_X4_placeFrom_189 self k32 (nI K0) v2 (nI tk) v4 v5 (nI i) (nI nx) nl (sV S 33 10 (nI b)) = k32 (nI K0) v2 (nI tk) v4 v5 (nI (i + 1)) (sV S 33 10 (nI b')) ∧ MinB b b' (fun c => ∃ c', Att lw n A (FF S r) (II S) (KK S) (pc r) (wP pm) d s' (some nl.toInt) (tk ||| 2 ^ i) c' ∧ c = nx + c') := by
  have hpc := h.1.2.2.2.2 r h.2.1
  have q := P_leastOfRest h (A := A) (L32 := nl) hnl b d (K0 + 1) s' 0 fN ho (by omega) (by have := fN_big; omega) (by omega)
  have lb := Att_lb (lw := lw) (n := n) (A := A) (F := FF S r) (I := II S) (K := KK S) (pcr := pc r) (w := wP pm) (lo := (S.1 33 8).toInt) h.2.2.2.2.2.2.2.2.1
  rw [F_X4_placeFrom_189, F_X4_leastOfRest, F_X4_leastOfRest_0, nI_1, show (0 : Int32) = nI 0 from rfl, q, obs]
  dsimp only
  cases hm : lrS n A (II S) (KK S) (S.1 33 8).toInt d s' nl.toInt with
  | none =>
    dsimp only
    rw [if_pos rfl, F_X4_placeFrom_240, nI_1]
    refine ⟨b, rfl, MinB.refl (fun c hc => ?_)⟩
    obtain ⟨c', a1, a2⟩ := hc
    obtain ⟨m, m1, m2⟩ := lb d s' nl.toInt nl.toInt _ c' (Int.le_refl _) a1
    rw [hm] at m1; cases m1
  | some m =>
    have hm40 := lrS_le (fun p hp => (h.2.2.2.2.2.2.2.1.2 p hp).2.2.2) d s' _ m hm
    dsimp only
    have ec : ((sV S 33 10 (nI b)).1 33 10 ≤ nI nx + nI (0 + m) <<< (18 &&& 31)) = (b ≤ nx + m * 262144) := by
      rw [sV_g, Nat.zero_add, sh18 (by omega), nI_add, leN (by omega) (by omega)]
    rw [if_neg (show ¬ nI (0 + m) = -1 from nI_ne1 (by omega))]
    by_cases c : b ≤ nx + m * 262144
    · rw [if_pos (by rw [ec]; exact c), F_X4_placeFrom_240, nI_1]
      refine ⟨b, rfl, MinB.refl (fun c0 hc => ?_)⟩
      obtain ⟨c', a1, a2⟩ := hc
      obtain ⟨m', m1, m2⟩ := lb d s' nl.toInt nl.toInt _ c' (Int.le_refl _) a1
      rw [hm] at m1
      cases m1
      omega
    · rw [if_neg (by rw [ec]; exact c)]
      obtain ⟨b', z1, z2⟩ := hself (by omega)
      rw [orN htk (by omega), z1, obs, F_X4_placeFrom_240, nI_1]
      exact ⟨b', rfl, z2⟩

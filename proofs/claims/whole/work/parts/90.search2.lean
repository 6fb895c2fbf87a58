/-! PURE: the class's search of places: all choices -/
theorem P_tall {k n : Nat} {pc : Nat → Nat} {lw r g : Nat} {pm : Bool} {S : St} (h : PSt k n pc lw r g pm S) {i p : Nat} (hi : i < pc r) (hp : p < n) : (S.1 3 (r * 6 + i) + S.1 14 p).toInt = FF S r i + II S p := by
  obtain ⟨a1, a2⟩ := h.2.2.2.2.2.2.2.1.1 r h.2.1 i hi
  obtain ⟨b1, b2, -⟩ := h.2.2.2.2.2.2.2.1.2 p hp
  unfold FF at a1 a2
  unfold II at b1 b2
  exact tadd (by omega) (by omega)
/-- one place tried: from the tall on -/
theorem P_123 {k n : Nat} {pc : Nat → Nat} {lw r g : Nat} {pm : Bool} {S : St} (h : PSt k n pc lw r g pm S) {A : Nat → Int32} {self : Int32 → Int32 → Int32 → Int32 → St → Option St} {k32 : Int32 → Int32 → Int32 → Int32 → Int32 → Int32 → St → Option St} {K0 d s p tk i ch b : Nat} {Lo : Option Int} {v2 t0 : Int32} (ho : OrdR A n (S.1 34) g d (K0 + 1) (rmb s p)) (hd : K0 + 1 + d ≤ 6) (hi : i < pc r) (hp : p < n) (htk : tk < 64) (hfree : tk.testBit i = false) (hLo : (K0 = 0 ∧ Lo = none) ∨ (0 < K0 ∧ Lo = some v2.toInt ∧ 0 ≤ v2.toInt ∧ v2.toInt ≤ 200)) (ht0 : t0.toInt = bndP (FF S r) (II S) Lo p i) (hch : ch ≤ K0 * 41 * 262144) (hb : b ≤ 2147483647)
    (hself : ∀ (nl : Int32) (nx b : Nat), 0 ≤ nl.toInt → nl.toInt ≤ 200 → nx ≤ (K0 + 1) * 41 * 262144 → nx < b → b ≤ 2147483647 → ∃ b', self (nI (K0 + 1)) nl (nI (tk ||| 2 ^ i)) (nI nx) (sV S 33 10 (nI b)) = some (sV S 33 10 (nI b')) ∧ MinB b b' (fun c => ∃ c', Att lw n A (FF S r) (II S) (KK S) (pc r) (wP pm) d (rmb s p) (some nl.toInt) (tk ||| 2 ^ i) c' ∧ c = nx + c')) :
    ∃ b', F_X4_placeFrom_123 self k32 (nI K0) v2 (nI tk) (nI ch) (nI p) (nI i) (S.1 3 (r * 6 + i) + S.1 14 p) t0 (sV S 33 10 (nI b)) = k32 (nI K0) v2 (nI tk) (nI ch) (nI p) (nI (i + 1)) (sV S 33 10 (nI b')) ∧ MinB b b' (PlC lw n A (FF S r) (II S) (KK S) (pc r) (wP pm) d s p Lo tk ch i) := by
  have hPS := h
  obtain ⟨hc, hr, hlw, e5, e6, hg, e7, ⟨hF, hB⟩, hlo, hlo0, e9, hla⟩ := h
  have hn := hc.2.1
  have hpc := hc.2.2.2.2 r hr
  have hp6 : p < 6 := by omega
  have hi6 : i < 6 := by omega
  obtain ⟨b1, b2, b3, b4⟩ := hB p hp
  obtain ⟨a1, a2⟩ := hF r hr i hi
  have tt := P_tall hPS hi hp
  have fS6 : (sV S 33 10 (nI b)).1 6 = S.1 6 := sV_off (by omega)
  have f9 : (sV S 33 10 (nI b)).1 33 9 = S.1 33 9 := sV_f (by omega)
  have f5 : (sV S 33 10 (nI b)).1 9 5 = nI lw := by rw [sV_off (by omega)]; exact e5
  rw [F_X4_placeFrom_123, g6 hp6, c6 hp6, fS6]
  have bpos : 0 ≤ bndP (FF S r) (II S) Lo p i := by
    rcases hLo with ⟨-, rfl⟩ | ⟨-, rfl, -⟩
    · exact Int.le_refl 0
    · show 0 ≤ max 0 _; omega
  by_cases cb : bndP (FF S r) (II S) Lo p i ≤ KK S p
  · rw [if_pos (show t0 ≤ S.1 6 p by rw [ile, ht0]; exact cb), f9, e9]
    obtain ⟨bn, hbn⟩ : ∃ bn, bn = (bndP (FF S r) (II S) Lo p i).toNat := ⟨_, rfl⟩
    have et0 : t0 = nI bn := nI_eqI (by omega) (by rw [ht0]; omega)
    have hbn40 : bn ≤ 40 := by omega
    obtain ⟨sp1, sp2⟩ := shP p hp6 i hi6
    obtain ⟨nx, hnx⟩ : ∃ nx, nx = ch + bn * 262144 + wP pm p i := ⟨_, rfl⟩
    have hw : wP pm p i ≤ 163840 := by unfold wP; split <;> omega
    have hnxb : nx ≤ (K0 + 1) * 41 * 262144 := by omega
    obtain ⟨nl, hnl1, hnl2⟩ : ∃ nl : Int32, nl.toInt = nxtP lw (FF S r) (II S) Lo p i ∧ nl = (if K0 = 0 then S.1 3 (r * 6 + i) + S.1 14 p else if lw = 1 then imn v2 (S.1 3 (r * 6 + i) + S.1 14 p) else v2) := by
      refine ⟨_, ?_, rfl⟩
      rcases hLo with ⟨c0, rfl⟩ | ⟨c0, rfl, -⟩
      · rw [if_pos c0, tt]; rfl
      · rw [if_neg (by omega)]
        show _ = if lw = 1 then min v2.toInt (FF S r i + II S p) else v2.toInt
        by_cases cl : lw = 1
        · rw [if_pos cl, if_pos cl, imn_toInt, tt]
        · rw [if_neg cl, if_neg cl]
    have hnl : 0 ≤ nl.toInt ∧ nl.toInt ≤ 200 := by
      rw [hnl1]
      rcases hLo with ⟨c0, rfl⟩ | ⟨c0, rfl, d1, d2⟩
      · show 0 ≤ FF S r i + II S p ∧ FF S r i + II S p ≤ 200; omega
      · show 0 ≤ (if lw = 1 then min v2.toInt (FF S r i + II S p) else v2.toInt) ∧ (if lw = 1 then min v2.toInt (FF S r i + II S p) else v2.toInt) ≤ 200
        split <;> omega
    have step : F_X4_placeFrom_170 self k32 (nI K0) v2 (nI tk) (nI ch) (nI p) (nI i) (S.1 3 (r * 6 + i) + S.1 14 p) (nI (wP pm p i)) (nI (ch + bn * 262144)) (sV S 33 10 (nI b)) = F_X4_placeFrom_189 self k32 (nI K0) v2 (nI tk) (nI ch) (nI p) (nI i) (nI nx) nl (sV S 33 10 (nI b)) := by
      rw [F_X4_placeFrom_170, nI_add, ← hnx, hnl2]
      by_cases c0 : K0 = 0
      · rw [if_pos (show nI K0 = 0 by rw [c0]; rfl), if_pos c0]
      · rw [if_neg (nI_ne0 (by omega) (by omega)), if_neg c0, F_X4_limitBehind, F_X4_limitBehind_0, f5]
        by_cases cl : lw = 1
        · rw [if_pos (show nI lw = 1 by rw [cl]; rfl), if_pos cl, F_X4_limitBehind_20, obs]
        · rw [if_neg (show ¬ nI lw = 1 by rw [show lw = 0 by omega]; decide), if_neg cl, F_X4_limitBehind_20, obs]
    have e1 : (if (if pm = true then (1 : Int32) else 0) = 0 then F_X4_placeFrom_170 self k32 (nI K0) v2 (nI tk) (nI ch) (nI p) (nI i) (S.1 3 (r * 6 + i) + S.1 14 p) 0 (nI ch + t0 <<< (18 &&& 31)) (sV S 33 10 (nI b)) else (F_X4_shiftOf (nI p) (sV S 33 10 (nI b))).bind (fun q16 => F_X4_placeFrom_170 self k32 (nI K0) v2 (nI tk) (nI ch) (nI p) (nI i) (S.1 3 (r * 6 + i) + S.1 14 p) (nI i <<< (q16.1 &&& 31)) (nI ch + t0 <<< (18 &&& 31)) q16.2)) = F_X4_placeFrom_189 self k32 (nI K0) v2 (nI tk) (nI ch) (nI p) (nI i) (nI nx) nl (sV S 33 10 (nI b)) := by
      rw [← step, et0, sh18 (by omega), nI_add]
      cases pm with
      | false => rw [if_neg (show ¬ (false = true) by decide), if_pos (show (0 : Int32) = 0 from rfl)]; rfl
      | true =>
        rw [if_pos (show true = true from rfl), if_neg (show ¬ (1 : Int32) = 0 by decide), F_X4_shiftOf, F_X4_shiftOf_0, obs]
        dsimp only
        rw [sp1]
        rfl
    rw [e1]
    obtain ⟨b', z1, z2⟩ := P_189 hPS (A := A) (self := self) (k32 := k32) (v2 := v2) (v4 := nI ch) (v5 := nI p) ho hd hi htk hnl hnxb hb (fun hlt => hself nl nx b hnl.1 hnl.2 hnxb hlt hb)
    refine ⟨b', z1, ?_⟩
    refine z2.skip (fun c hc => Or.inl ?_) (fun c hc => ?_)
    · obtain ⟨-, -, c', y1, y2⟩ := hc
      refine ⟨c', by rw [hnl1]; exact y1, ?_⟩
      rw [y2, hnx, hbn]; omega
    · obtain ⟨c', y1, y2⟩ := hc
      refine ⟨hfree, cb, c', by rw [← hnl1]; exact y1, ?_⟩
      rw [y2, hnx, hbn]; omega
  · rw [if_neg (show ¬ t0 ≤ S.1 6 p by rw [ile, ht0]; exact cb), F_X4_placeFrom_240, nI_1]
    exact ⟨b, rfl, MinB.refl (fun c hc => absurd hc.2.1 cb)⟩
theorem MinB_le {b b' : Nat} {P : Nat → Prop} (h : MinB b b' P) : b' ≤ b := h.2.1
/-- of free places with like floors the first stands for all -/
theorem PlC_first {lw n : Nat} {A : Nat → Int32} {F I K : Nat → Int} {pcr d s p : Nat} {Lo : Option Int} {tk ch x y c : Nat} (hxy : F x = F y) (hx : x < pcr) (hy : y < pcr) (hfy : tk.testBit y = false) (h : PlC lw n A F I K pcr w0 d s p Lo tk ch x c) : PlC lw n A F I K pcr w0 d s p Lo tk ch y c := by
  obtain ⟨h1, h2, c', h3, h4⟩ := h
  have eb : bndP F I Lo p y = bndP F I Lo p x := by unfold bndP; rw [hxy]
  have en : nxtP lw F I Lo p y = nxtP lw F I Lo p x := by unfold nxtP; rw [hxy]
  refine ⟨hfy, by rw [eb]; exact h2, c', ?_, by rw [eb]; exact h4⟩
  rw [en]
  refine Att_swap hxy hx hy d _ _ _ _ c' (fun z => ?_) h3
  rw [tb_or, tb_or]
  unfold swp
  by_cases c1 : z = x
  · subst c1
    rw [if_pos rfl, h1, hfy]
    by_cases c2 : y = z
    · subst c2; rfl
    · rw [decide_eq_false c2, decide_eq_false (fun q => c2 q.symm)]
  · rw [if_neg c1]
    by_cases c2 : z = y
    · subst c2
      rw [if_pos rfl, h1, hfy, decide_eq_true rfl, decide_eq_true rfl]
    · rw [if_neg c2, decide_eq_false (show ¬ x = z from fun q => c1 q.symm), decide_eq_false (show ¬ y = z from fun q => c2 q.symm)]
theorem wP_false : wP false = w0 := by
  funext p i
  rfl
theorem P_placeFrom {k n : Nat} {pc : Nat → Nat} {lw r g : Nat} {pm : Bool} {S : St} (h : PSt k n pc lw r g pm S) {A : Nat → Int32} : ∀ d K0 s Lo (v2 : Int32) tk ch b D, OrdR A n (S.1 34) g d K0 s → K0 + d = 6 → ((K0 = 0 ∧ Lo = none) ∨ (0 < K0 ∧ Lo = some v2.toInt ∧ 0 ≤ v2.toInt ∧ v2.toInt ≤ 200)) → tk < 64 → ch ≤ K0 * 41 * 262144 → ch < b → b ≤ 2147483647 → d < D → ∃ b', F_X4_placeFrom D (nI K0) v2 (nI tk) (nI ch) (sV S 33 10 (nI b)) = some (sV S 33 10 (nI b')) ∧ MinB b b' (fun c => ∃ c', Att lw n A (FF S r) (II S) (KK S) (pc r) (wP pm) d s Lo tk c' ∧ c = ch + c') := by
  have hPS := h
  obtain ⟨hc, hr, hlw, e5, e6, hg, e7, ⟨hF, hB⟩, hlo, hlo0, e9, hla⟩ := h
  have hn := hc.2.1
  have hpc := hc.2.2.2.2 r hr
  intro d
  induction d with
  | zero =>
    intro K0 s Lo v2 tk ch b D ho hK hLo htk hch hcb hb hD
    obtain ⟨D, rfl⟩ : ∃ M, D = M + 1 := ⟨D - 1, by omega⟩
    have hgk : g = K0 := ho
    rw [F_X4_placeFrom, F_X4_placeFrom_0, sV_f (show 6 ≠ 10 by omega), e6, if_pos (by rw [leN (by omega) (by omega)]; omega), F_X4_placeFrom_14, bse, sV_sV]
    exact ⟨ch, rfl, Or.inr ⟨0, rfl, by omega⟩, by omega, fun c hc => by obtain ⟨c', -, e⟩ := hc; omega⟩
  | succ d ih =>
    intro K0 s Lo v2 tk ch b D ho hK hLo htk hch hcb hb hD
    obtain ⟨D, rfl⟩ : ∃ M, D = M + 1 := ⟨D - 1, by omega⟩
    rw [OrdR] at ho
    rw [F_X4_placeFrom, F_X4_placeFrom_0, sV_f (show 6 ≠ 10 by omega), e6]
    cases he : eld A s n with
    | none =>
      rw [he] at ho
      have hgk : g = K0 := ho
      rw [if_pos (by rw [leN (by omega) (by omega)]; omega), F_X4_placeFrom_14, bse, sV_sV]
      have key : ∀ c', Att lw n A (FF S r) (II S) (KK S) (pc r) (wP pm) (d + 1) s Lo tk c' ↔ c' = 0 := fun c' => by rw [Att, he]
      exact ⟨ch, rfl, Or.inr ⟨0, (key 0).mpr rfl, by omega⟩, by omega, fun c hc => by obtain ⟨c', -, e⟩ := hc; omega⟩
    | some p =>
      rw [he] at ho
      obtain ⟨o1, o2, o3⟩ := ho
      have hp := (eld_lt _ _ he).1
      have hp6 : p < 6 := by omega
      have hK6 : K0 < 6 := by omega
      rw [if_neg (nI_ge o1 (by omega)), if_pos (show nI K0 < 6 by rw [litN 6, ltN (by omega) (by omega)]; exact hK6), g6 hK6, c6 hK6, sV_off (show 34 ≠ 33 by omega), o2]
      have hself : ∀ i, i < pc r → ∀ (nl : Int32) (nx b : Nat), 0 ≤ nl.toInt → nl.toInt ≤ 200 → nx ≤ (K0 + 1) * 41 * 262144 → nx < b → b ≤ 2147483647 → ∃ b', F_X4_placeFrom D (nI (K0 + 1)) nl (nI (tk ||| 2 ^ i)) (nI nx) (sV S 33 10 (nI b)) = some (sV S 33 10 (nI b')) ∧ MinB b b' (fun c => ∃ c', Att lw n A (FF S r) (II S) (KK S) (pc r) (wP pm) d (rmb s p) (some nl.toInt) (tk ||| 2 ^ i) c' ∧ c = nx + c') :=
        fun i hi nl nx b h1 h2 h3 h4 h5 => ih (K0 + 1) (rmb s p) (some nl.toInt) nl (tk ||| 2 ^ i) nx b D o3 (by omega) (Or.inr ⟨by omega, rfl, h1, h2⟩) (or_lt htk (by omega)) h3 h4 h5 (by omega)
      have loop : ∀ N i, i ≤ pc r → pc r - i < N → ∀ bi, MinB b bi (fun c => ∃ x, x < i ∧ PlC lw n A (FF S r) (II S) (KK S) (pc r) (wP pm) d s p Lo tk ch x c) → ∃ b', F_X4_placeFrom_32 (F_X4_placeFrom D) N (nI K0) v2 (nI tk) (nI ch) (nI p) (nI i) (sV S 33 10 (nI bi)) = some (sV S 33 10 (nI b')) ∧ MinB b b' (fun c => ∃ x, x < pc r ∧ PlC lw n A (FF S r) (II S) (KK S) (pc r) (wP pm) d s p Lo tk ch x c) := by
        refine upn (n := pc r) (P := fun N i => ∀ bi, MinB b bi (fun c => ∃ x, x < i ∧ PlC lw n A (FF S r) (II S) (KK S) (pc r) (wP pm) d s p Lo tk ch x c) → ∃ b', F_X4_placeFrom_32 (F_X4_placeFrom D) N (nI K0) v2 (nI tk) (nI ch) (nI p) (nI i) (sV S 33 10 (nI bi)) = some (sV S 33 10 (nI b')) ∧ MinB b b' (fun c => ∃ x, x < pc r ∧ PlC lw n A (FF S r) (II S) (KK S) (pc r) (wP pm) d s p Lo tk ch x c)) ?_ ?_
        · intro N bi hbi
          have hcS : HC k n pc (sV S 33 10 (nI bi)) := hc.cg (sV_off (by omega)) (sV_off (by omega))
          rw [F_X4_placeFrom_32, sV_f (show 7 ≠ 10 by omega), e7, P_placesOf hcS hr, obs]
          dsimp only
          rw [if_pos (by rw [leN (by omega) (by omega)]; omega), F_X4_placeFrom_246]
          exact ⟨bi, rfl, hbi⟩
        · intro N i hi ihi bi hbi
          have hcS : HC k n pc (sV S 33 10 (nI bi)) := hc.cg (sV_off (by omega)) (sV_off (by omega))
          have hi6 : i < 6 := by omega
          have hble := MinB_le hbi
          obtain ⟨x, x1, x2, x3⟩ := hla i hi
          have fl := P_floorAt hcS hr hi
          rw [sV_off (show 3 ≠ 33 by omega)] at fl
          rw [F_X4_placeFrom_32, sV_f (show 7 ≠ 10 by omega), e7, P_placesOf hcS hr, obs]
          dsimp only
          rw [if_neg (nI_ge hi (by omega)), if_neg (by rw [f6 hi6]; exact not_false)]
          have skip : (∀ c, PlC lw n A (FF S r) (II S) (KK S) (pc r) (wP pm) d s p Lo tk ch i c → (∃ x, x < i ∧ PlC lw n A (FF S r) (II S) (KK S) (pc r) (wP pm) d s p Lo tk ch x c) ∨ bi ≤ c) → ∃ b', F_X4_placeFrom_240 (F_X4_placeFrom D) (F_X4_placeFrom_32 (F_X4_placeFrom D) N) (nI K0) v2 (nI tk) (nI ch) (nI p) (nI i) (sV S 33 10 (nI bi)) = some (sV S 33 10 (nI b')) ∧ MinB b b' (fun c => ∃ x, x < pc r ∧ PlC lw n A (FF S r) (II S) (KK S) (pc r) (wP pm) d s p Lo tk ch x c) := by
            intro hq
            rw [F_X4_placeFrom_240, nI_1]
            refine ihi bi (hbi.skip (fun c hc => ?_) (fun c hc => ?_))
            · obtain ⟨y, y1, y2⟩ := hc
              by_cases cy : y = i
              · subst cy; exact hq c y2
              · exact Or.inl ⟨y, by omega, y2⟩
            · obtain ⟨y, y1, y2⟩ := hc
              exact ⟨y, by omega, y2⟩
          cases ht : tk.testBit i with
          | true =>
            rw [if_neg (by rw [bitN htk hi6, ht]; decide)]
            exact skip (fun c hc => by rw [hc.1] at ht; cases ht)
          | false =>
            rw [if_pos (by rw [bitN htk hi6]; exact ht), g6 hi6, c6 hi6, sV_off (show 35 ≠ 33 by omega), x2]
            by_cases cl : ∀ j, j < 6 → x.testBit j = true → tk.testBit j = true
            · rw [if_pos ((la_and x x1 tk htk).mpr cl), sV_f (show 7 ≠ 10 by omega), e7, fl, obs]
              dsimp only
              rw [g6 hp6, c6 hp6, sV_off (show 14 ≠ 33 by omega)]
              have tt := P_tall hPS hi hp
              have go : ∀ t0 : Int32, t0.toInt = bndP (FF S r) (II S) Lo p i → ∃ b', F_X4_placeFrom_123 (F_X4_placeFrom D) (F_X4_placeFrom_32 (F_X4_placeFrom D) N) (nI K0) v2 (nI tk) (nI ch) (nI p) (nI i) (S.1 3 (r * 6 + i) + S.1 14 p) t0 (sV S 33 10 (nI bi)) = some (sV S 33 10 (nI b')) ∧ MinB b b' (fun c => ∃ x, x < pc r ∧ PlC lw n A (FF S r) (II S) (KK S) (pc r) (wP pm) d s p Lo tk ch x c) := by
                intro t0 ht0
                obtain ⟨b2, z1, z2⟩ := P_123 hPS (A := A) (self := F_X4_placeFrom D) (k32 := F_X4_placeFrom_32 (F_X4_placeFrom D) N) (b := bi) o3 (by omega) hi hp htk ht hLo ht0 hch (by omega) (hself i hi)
                rw [z1]
                refine ihi b2 (hbi.comp z2 (fun c => ⟨fun hc => ?_, fun hc => ?_⟩))
                · obtain ⟨y, y1, y2⟩ := hc
                  by_cases cy : y = i
                  · subst cy; exact Or.inr y2
                  · exact Or.inl ⟨y, by omega, y2⟩
                · rcases hc with ⟨y, y1, y2⟩ | hc
                  · exact ⟨y, by omega, y2⟩
                  · exact ⟨i, by omega, hc⟩
              rcases hLo with ⟨c0, rfl⟩ | ⟨c0, rfl, d1, d2⟩
              · rw [if_pos (show nI K0 = 0 by rw [c0]; rfl)]
                exact go 0 rfl
              · rw [if_neg (nI_ne0 (by omega) (by omega))]
                refine go _ ?_
                obtain ⟨a1, a2⟩ := hF r hr i hi
                obtain ⟨b1, b2, -⟩ := hB p hp
                rw [imx_toInt, tsub (by rw [tt]; omega) (by omega), tt]
                rfl
            · rw [if_neg (fun q => cl ((la_and x x1 tk htk).mp q))]
              refine skip (fun c hc => ?_)
              have hpm : pm = false ∧ ∃ j, j < i ∧ FF S r j = FF S r i ∧ tk.testBit j = false := by
                refine Classical.byContradiction (fun hno => cl (fun j hj hb => ?_))
                obtain ⟨q1, q2, q3⟩ := (x3 j hj).mp hb
                cases htj : tk.testBit j with
                | true => rfl
                | false => exact absurd ⟨q1, j, q2, q3, htj⟩ hno
              obtain ⟨rfl, j, j1, j2, j3⟩ := hpm
              rw [wP_false] at hc ⊢
              exact Or.inl ⟨j, j1, PlC_first j2.symm hi (by omega) j3 hc⟩
      obtain ⟨b', z1, z2⟩ := loop fN 0 (by omega) (by have := fN_big; omega) b (MinB.refl (fun c hc => by obtain ⟨y, y1, -⟩ := hc; omega))
      refine ⟨b', z1, z2.skip (fun c hc => Or.inl ?_) (fun c hc => ?_)⟩
      · obtain ⟨c', y1, y2⟩ := hc
        rw [Att, he] at y1
        obtain ⟨i, c2, i1, i2, i3, i4, i5⟩ := y1
        exact ⟨i, i1, i2, i3, c2, i4, by rw [y2, i5]⟩
      · obtain ⟨y, y1, y2, y3, c', y4, y5⟩ := hc
        refine ⟨_, ?_, y5⟩
        rw [Att, he]
        exact ⟨y, c', y1, y2, y3, y4, rfl⟩

/-! PURE: places for a party, said purely; the relation of both sides -/
def bndP (F I : Nat → Int) (L : Option Int) (p i : Nat) : Int := match L with
  | none => 0
  | some L => max 0 (F i + I p - L)
def nxtP (lw : Nat) (F I : Nat → Int) (L : Option Int) (p i : Nat) : Int := match L with
  | none => F i + I p
  | some L => if lw = 1 then min L (F i + I p) else L
/-- a number that places for those of s, from the eldest on, attain -/
def Att (lw n : Nat) (A : Nat → Int32) (F I K : Nat → Int) (pcr : Nat) (w : Nat → Nat → Nat) : Nat → Nat → Option Int → Nat → Nat → Prop
  | 0, _, _, _, c => c = 0
  | d + 1, s, L, tk, c => match eld A s n with
    | none => c = 0
    | some p => ∃ i c', i < pcr ∧ tk.testBit i = false ∧ bndP F I L p i ≤ K p ∧ Att lw n A F I K pcr w d (rmb s p) (some (nxtP lw F I L p i)) (tk ||| 2 ^ i) c' ∧ c = c' + (bndP F I L p i).toNat * 262144 + w p i
def w0 : Nat → Nat → Nat := fun _ _ => 0
/-- the least sum of bends of a party, or -1 -/
def SumIs (lw n : Nat) (A : Nat → Int32) (F I K : Nat → Int) (pcr s : Nat) (x : Int32) : Prop := (x = -1 ∧ (pcr < pop s ∨ ∀ c, ¬ Att lw n A F I K pcr w0 6 s none 0 c)) ∨ (pop s ≤ pcr ∧ ∃ c, c < 1000 ∧ x = nI c ∧ Att lw n A F I K pcr w0 6 s none 0 (c * 262144) ∧ ∀ c', Att lw n A F I K pcr w0 6 s none 0 c' → c * 262144 ≤ c')
def CacheR (k n : Nat) (pc : Nat → Nat) (r3 r4 r6 r36 r37 : Nat → Int32) : Prop := ∀ lw, lw ≤ 1 → ∀ r, r < k → ∀ s, s < 2 ^ n → r36 ((lw * 3 + r) * 64 + s) = -2 ∨ SumIs lw n r4 (fun i => (r3 (r * 6 + i)).toInt) (fun p => (r37 p).toInt) (fun p => (r6 p).toInt) (pc r) s (r36 ((lw * 3 + r) * 64 + s))
def HouseR (k n : Nat) (pc : Nat → Nat) (st : St) : Prop := HC k n pc st ∧ HM k n pc st ∧ FlA k pc (st.1 3) (st.1 61) ∧ (∀ r, r < k → ∀ i, i < pc r → 0 ≤ (st.1 61 (r * 6 + i)).toInt ∧ (st.1 61 (r * 6 + i)).toInt ≤ 40) ∧ (∀ p, p < n → st.1 6 p = st.1 64 p ∧ 0 ≤ (st.1 64 p).toInt ∧ (st.1 64 p).toInt ≤ 40) ∧ (∀ p, p < n → st.1 7 p = st.1 65 p ∧ 0 ≤ (st.1 65 p).toInt ∧ (st.1 65 p).toInt ≤ 9) ∧ (∃ f, f ≤ 15 ∧ st.1 1 2 = nI f ∧ st.1 59 8 = nI f) ∧ (∀ p q, p < n → q < n → ∃ x, x ≤ 99 ∧ st.1 8 (p * 6 + q) = nI x ∧ st.1 66 (p * 6 + q) = nI x ∧ st.1 66 (q * 6 + p) = nI x)
/-- one scene of both sides -/
def ScR (k n : Nat) (pc : Nat → Nat) (b : Nat) (A0 : Nat → Int32) (v w : Vw) (lc lm sc sm : Int32) : Prop :=
  Ag n v w ∧ VV k n pc v ∧ (∃ y, y < b ∧ ∀ p, p < n → ∃ a, a ≤ 99 ∧ A0 p = nI a ∧ v.2.2.2.1 p = nI (a + y)) ∧ (∀ p, p < n → 20 ≤ (v.2.2.2.2 p).toInt ∧ (v.2.2.2.2 p).toInt ≤ 90) ∧ (∀ p, p < n → v.1 p = -1 → v.2.2.1 p = 0) ∧ (∃ lw, lw ≤ 1 ∧ lc = nI lw ∧ lm = nI lw) ∧ (∃ sd, sd < 2 ^ 31 ∧ sc = nI sd ∧ sm = nI sd)
def vI (i : Nat) (f : Nat → Int32) : Vw := ((fun p => f (40 * i + p)), (fun p => f (40 * i + 6 + p)), (fun p => f (40 * i + 12 + p)), (fun p => f (40 * i + 18 + p)), (fun p => f (40 * i + 24 + p)))
def SceneR (k n : Nat) (pc : Nat → Nat) (b : Nat) (st : St) : Prop := ScR k n pc b (st.1 4) (vC 9 st) (vM st) (st.1 9 5) (st.1 59 10) (st.1 9 6) (st.1 59 16)
def ImgR (k n : Nat) (pc : Nat → Nat) (b : Nat) (st : St) (i : Nat) : Prop := (st.1 58 i = 0 ∧ st.1 93 i = 0) ∨ (st.1 58 i = 1 ∧ st.1 93 i = 1 ∧ ScR k n pc b (st.1 4) (vC (46 + 6 * i) st) (vI i (st.1 92)) (st.1 (46 + 6 * i) 5) (st.1 92 (40 * i + 30)) (st.1 (46 + 6 * i) 6) (st.1 92 (40 * i + 31)))
def TextR (st : St) : Prop := ∃ len, len ≤ 500 ∧ st.1 23 1 = nI len ∧ st.1 59 18 = nI len ∧ ∀ j, j < len → ∃ c, c < 256 ∧ st.1 72 j = nI c ∧ st.1 32 j = if c < 128 then nI c else nI c - 256
def BookR (k n : Nat) (pc : Nat → Nat) (st : St) : Prop := ∃ m, m ≤ 20 ∧ st.1 41 3 = nI m ∧ st.1 59 45 = nI m ∧ ∀ j, j < m → ∃ p r i, p < n ∧ r < k ∧ i < pc r ∧ st.1 42 j = nI p ∧ st.1 89 j = nI p ∧ st.1 43 j = nI r ∧ st.1 90 j = nI r ∧ st.1 44 j = nI i ∧ st.1 91 j = nI i
def R (k n : Nat) (pc : Nat → Nat) (b : Nat) (st : St) : Prop := HouseR k n pc st ∧ SceneR k n pc b st ∧ TextR st ∧ st.1 0 11 = st.1 59 19 ∧ BookR k n pc st ∧ (ImgR k n pc b st 0 ∧ ImgR k n pc b st 1) ∧ CacheR k n pc (st.1 3) (st.1 4) (st.1 6) (st.1 36) (st.1 37)
theorem R.house {k n : Nat} {pc : Nat → Nat} {b : Nat} {st : St} (h : R k n pc b st) : HouseR k n pc st := h.1
theorem R.scene {k n : Nat} {pc : Nat → Nat} {b : Nat} {st : St} (h : R k n pc b st) : SceneR k n pc b st := h.2.1
theorem R.text {k n : Nat} {pc : Nat → Nat} {b : Nat} {st : St} (h : R k n pc b st) : TextR st := h.2.2.1
theorem R.fault {k n : Nat} {pc : Nat → Nat} {b : Nat} {st : St} (h : R k n pc b st) : st.1 0 11 = st.1 59 19 := h.2.2.2.1
theorem R.book {k n : Nat} {pc : Nat → Nat} {b : Nat} {st : St} (h : R k n pc b st) : BookR k n pc st := h.2.2.2.2.1
theorem R.imgs {k n : Nat} {pc : Nat → Nat} {b : Nat} {st : St} (h : R k n pc b st) : ImgR k n pc b st 0 ∧ ImgR k n pc b st 1 := h.2.2.2.2.2.1
theorem R.cache {k n : Nat} {pc : Nat → Nat} {b : Nat} {st : St} (h : R k n pc b st) : CacheR k n pc (st.1 3) (st.1 4) (st.1 6) (st.1 36) (st.1 37) := h.2.2.2.2.2.2
theorem ScR.mono {k n : Nat} {pc : Nat → Nat} {b b' : Nat} {A0 : Nat → Int32} {v w : Vw} {lc lm sc sm : Int32} (h : ScR k n pc b A0 v w lc lm sc sm) (hb : b ≤ b') : ScR k n pc b' A0 v w lc lm sc sm := by
  obtain ⟨h1, h2, ⟨y, h3, h4⟩, h5⟩ := h
  exact ⟨h1, h2, ⟨y, by omega, h4⟩, h5⟩
theorem ImgR.mono {k n : Nat} {pc : Nat → Nat} {b b' : Nat} {st : St} {i : Nat} (h : ImgR k n pc b st i) (hb : b ≤ b') : ImgR k n pc b' st i := by
  rcases h with h | ⟨h1, h2, h3⟩
  · exact Or.inl h
  · exact Or.inr ⟨h1, h2, h3.mono hb⟩
theorem R.mono {k n : Nat} {pc : Nat → Nat} {b b' : Nat} {st : St} (h : R k n pc b st) (hb : b ≤ b') : R k n pc b' st := ⟨h.house, ScR.mono h.scene hb, h.text, h.fault, h.book, ⟨h.imgs.1.mono hb, h.imgs.2.mono hb⟩, h.cache⟩
/-- a call of both sides -/
def Bo (f g : St → Option (Int32 × St)) : Prop := ∀ k n pc b st, b < 2 ^ 20 → R k n pc b st → ∃ a s1 s2, f st = some (a, s1) ∧ g s1 = some (a, s2) ∧ ∃ k n pc, R k n pc (b + 60) s2
theorem ro {k n : Nat} {pc : Nat → Nat} {b : Nat} {st : St} {f g : St → Option (Int32 × St)} (h : R k n pc b st) (a : Int32) (h1 : f st = some (a, st)) (h2 : g st = some (a, st)) : ∃ a s1 s2, f st = some (a, s1) ∧ g s1 = some (a, s2) ∧ ∃ k n pc, R k n pc (b + 60) s2 := ⟨a, st, st, h1, h2, k, n, pc, h.mono (by omega)⟩
/-- what a change of the scene leaves -/
theorem HouseR.cg {k n : Nat} {pc : Nat → Nat} {st st' : St} (h : HouseR k n pc st) (e : ∀ i, (1 ≤ i ∧ i ≤ 8) ∨ (60 ≤ i ∧ i ≤ 66) → st'.1 i = st.1 i) (e0 : st'.1 59 0 = st.1 59 0) (e3 : st'.1 59 3 = st.1 59 3) (e8 : st'.1 59 8 = st.1 59 8) : HouseR k n pc st' := by
  unfold HouseR HC HM at h ⊢
  rw [e 1 (by omega), e 2 (by omega), e 3 (by omega), e 6 (by omega), e 7 (by omega), e 8 (by omega), e 60 (by omega), e 61 (by omega), e 64 (by omega), e 65 (by omega), e 66 (by omega), e0, e3, e8]
  exact h
theorem ImgR.cg {k n : Nat} {pc : Nat → Nat} {b : Nat} {st st' : St} {i : Nat} (hn : n ≤ 6) (hi : i < 2) (h : ImgR k n pc b st i) (e : ∀ i, (46 ≤ i ∧ i ≤ 58) ∨ i = 4 ∨ i = 93 → st'.1 i = st.1 i) (e92 : ∀ j, j < 80 → st'.1 92 j = st.1 92 j) : ImgR k n pc b st' i := by
  rcases h with h | ⟨h1, h2, h3⟩
  · refine Or.inl ⟨?_, ?_⟩
    · rw [e 58 (by omega)]; exact h.1
    · rw [e 93 (by omega)]; exact h.2
  · refine Or.inr ⟨?_, ?_, ?_⟩
    · rw [e 58 (by omega)]; exact h1
    · rw [e 93 (by omega)]; exact h2
    · obtain ⟨a1, a2, a3, a4, a5, a6, a7⟩ := h3
      have ev : vC (46 + 6 * i) st' = vC (46 + 6 * i) st := by
        unfold vC
        rw [e (46 + 6 * i + 1) (by omega), e (46 + 6 * i + 2) (by omega), e (46 + 6 * i + 3) (by omega), e (46 + 6 * i + 4) (by omega), e (46 + 6 * i + 5) (by omega)]
      unfold ScR
      rw [ev, e 4 (by omega), e (46 + 6 * i) (by omega), e92 _ (by omega), e92 _ (by omega)]
      refine ⟨⟨fun p hp => ?_, fun p h1 h2 => ?_⟩, a2, a3, a4, a5, a6, a7⟩
      · obtain ⟨b1, b2, b3, b4, b5⟩ := a1.1 p hp
        refine ⟨b1.trans ?_, b2.trans ?_, b3.trans ?_, b4.trans ?_, b5.trans ?_⟩ <;> exact (e92 _ (by omega)).symm
      · exact (e92 _ (by omega)).trans (a1.2 p h1 h2)
/-- only the scene and what lies about has changed -/
theorem R.cg {k n : Nat} {pc : Nat → Nat} {b b' : Nat} {st st' : St} (h : R k n pc b st) (hb : b ≤ b') (e : ∀ i, i ≤ 8 ∨ i = 23 ∨ i = 32 ∨ i = 36 ∨ i = 37 ∨ (41 ≤ i ∧ i ≤ 58) ∨ (60 ≤ i ∧ i ≤ 66) ∨ i = 72 ∨ (89 ≤ i ∧ i ≤ 91) ∨ i = 93 → st'.1 i = st.1 i) (e59 : ∀ j, j = 0 ∨ j = 3 ∨ j = 8 ∨ j = 18 ∨ j = 19 ∨ j = 45 → st'.1 59 j = st.1 59 j) (e92 : ∀ j, j < 80 → st'.1 92 j = st.1 92 j) (hs : SceneR k n pc b' st') : R k n pc b' st' := by
  have hn : n ≤ 6 := h.1.1.2.1
  refine ⟨h.house.cg (fun i hi => e i (by omega)) (e59 0 (by omega)) (e59 3 (by omega)) (e59 8 (by omega)), hs, ?_, ?_, ?_, ⟨((h.imgs.1).cg hn (by omega) (fun i hi => e i (by omega)) e92).mono hb, ((h.imgs.2).cg hn (by omega) (fun i hi => e i (by omega)) e92).mono hb⟩, ?_⟩
  · obtain ⟨len, t⟩ := h.text
    refine ⟨len, ?_⟩
    rw [e 23 (by omega), e 32 (by omega), e 72 (by omega), e59 18 (by omega)]
    exact t
  · rw [e 0 (by omega), e59 19 (by omega)]; exact h.fault
  · obtain ⟨m, t⟩ := h.book
    refine ⟨m, ?_⟩
    rw [e 41 (by omega), e 42 (by omega), e 43 (by omega), e 44 (by omega), e 89 (by omega), e 90 (by omega), e 91 (by omega), e59 45 (by omega)]
    exact t
  · rw [e 3 (by omega), e 4 (by omega), e 6 (by omega), e 36 (by omega), e 37 (by omega)]
    exact h.cache

/-! PURE: by draws -/
/-- as obs, but no matter of computing -/
theorem obs {α β : Type} (a : α) (f : α → Option β) : (some a).bind f = f a := by
  have h : ∀ o : Option α, o = some a → o.bind f = f a := by
    intro o e
    subst e
    rfl
  exact h _ rfl
theorem lN_and31 (a : Nat) : (lN a &&& 2147483647).toInt32 = nI (a % 2 ^ 31) := by
  have e : lN a &&& 2147483647 = lN (a % 2 ^ 31) := by
    apply Int64.toBitVec_inj.mp
    apply BitVec.eq_of_toNat_eq
    rw [Int64.toBitVec_and, BitVec.toNat_and, show (2147483647 : Int64).toBitVec.toNat = 2 ^ 31 - 1 from rfl, Nat.and_two_pow_sub_one_eq_mod]
    show (BitVec.ofNat 64 a).toNat % 2 ^ 31 = (BitVec.ofNat 64 (a % 2 ^ 31)).toNat
    rw [BitVec.toNat_ofNat, BitVec.toNat_ofNat]
    omega
  rw [e, lN_i]
/-- THE SEED behind a DRAW; a DRAW of m -/
def nxS (s : Nat) : Nat := (s * 1103515245 + 12345) % 2 ^ 31
def dwS (s m : Nat) : Nat := s / 65536 % m
theorem nxS_lt (s : Nat) : nxS s < 2 ^ 31 := Nat.mod_lt _ (by decide)
theorem seedC {s : Nat} (hs : s < 2 ^ 31) : (((((nI s).toInt64) * 1103515245) + 12345) &&& 2147483647).toInt32 = nI (nxS s) := by
  rw [nI_l hs, show (1103515245 : Int64) = lN 1103515245 from rfl, show (12345 : Int64) = lN 12345 from rfl, lN_mul, lN_add, lN_and31]
  rfl
theorem seedM {s : Nat} (hs : s < 2 ^ 31) : (((((nI s).toInt64) * 1103515245) + 12345) - ((((nI s).toInt64) * 1103515245) + 12345) / 2147483648 * 2147483648).toInt32 = nI (nxS s) := by
  rw [nI_l hs, show (1103515245 : Int64) = lN 1103515245 from rfl, show (12345 : Int64) = lN 12345 from rfl, lN_mul, lN_add, show (2147483648 : Int64) = lN 2147483648 from rfl, pk_lRem (by omega) (by omega) (by omega), lN_i]
  rfl
theorem drawV {s m : Nat} (hs : s < 2 ^ 31) (h0 : 0 < m) (hm : m < 2 ^ 31) : (nI s / 65536) - (nI s / 65536) / nI m * nI m = nI (dwS s m) := by
  rw [show (65536 : Int32) = nI 65536 from rfl, pk_div hs (by omega) (by omega), pk_rem (by omega) h0 hm]
  rfl
theorem sA_Voff {sc i : Nat} (h : i ≤ sc ∨ sc + 6 ≤ i) (v : Vw) (st : St) (f : Nat → Int32) : sA (setV sc v st) i f = setV sc v (sA st i f) := by
  refine St_ext (fun j => ?_) rfl
  simp only [setV, sA]
  by_cases c : j = i
  · subst c
    rw [if_pos rfl, if_neg (by omega), if_neg (by omega), if_neg (by omega), if_neg (by omega), if_neg (by omega), if_pos rfl]
  · simp [c]
def ssd (st : St) (s : Nat) : St := sV st 9 6 (nI s)
theorem ssd_sV (v : Vw) (st : St) (s s' : Nat) : sV (setV 9 v (ssd st s)) 9 6 (nI s') = setV 9 v (ssd st s') := by
  unfold ssd sV
  rw [setV_off (by omega), sA_Voff (by omega), sA_sA, sA_at]
  congr 2
  funext j
  by_cases c : j = 6
  · subst c; rw [upd_at, upd_at]
  · rw [upd_off c, upd_off c, upd_off c]
theorem ssd_6 (v : Vw) (st : St) (s : Nat) : (setV 9 v (ssd st s)).1 9 6 = nI s := by
  rw [setV_off (by omega), ssd, sV_at, upd_at]
theorem ssd_off {st : St} {s a : Nat} (h : a ≠ 9) : (ssd st s).1 a = st.1 a := by rw [ssd, sV_off h]
theorem ssd_5 (st : St) (s : Nat) : (ssd st s).1 9 5 = st.1 9 5 := by rw [ssd, sV_at, upd_off (by omega)]
theorem P_drawOf {v : Vw} {st : St} {s m : Nat} (hs : s < 2 ^ 31) (h0 : 0 < m) (hm : m < 2 ^ 31) : F_X1_drawOf 9 (nI m) (setV 9 v (ssd st s)) = some (nI (dwS (nxS s) m), setV 9 v (ssd st (nxS s))) := by
  simp only [F_X1_drawOf, F_X1_drawOf_0, F_X1_drawOf_48, ssd_6, seedC hs, ssd_sV, bs]
  rw [if_neg (nI_nle h0 hm), gz, if_neg (nI_ne0 h0 hm), drawV (nxS_lt s) h0 hm]
/-- one time BY DRAWS: MOVES, who is where, THE SEED; who, which room, which place were drawn -/
def drP (lw : Nat) (fl K : Nat → Int32) (n : Nat) (pc : Nat → Nat) (v : Vw) (p r i s1 s3 : Nat) : Nat × Vw × Nat :=
  if v.1 p = -1 then
    if freeS v (nI r) (nI i) n = true then ((cmS lw fl K n r (pc r) 43 (stS v p (nI r) (nI i)) 0).1, (cmS lw fl K n r (pc r) 43 (stS v p (nI r) (nI i)) 0).2, s3)
    else (0, v, s3)
  else (0, wB lw fl K n (v.1 p).toNatClampNeg (ouS v p), s1)
theorem drP_in {lw : Nat} {fl K : Nat → Int32} {n : Nat} {pc : Nat → Nat} {v : Vw} {p r i s1 s3 : Nat} (c : v.1 p = -1) (cf : freeS v (nI r) (nI i) n = true) : drP lw fl K n pc v p r i s1 s3 = ((cmS lw fl K n r (pc r) 43 (stS v p (nI r) (nI i)) 0).1, (cmS lw fl K n r (pc r) 43 (stS v p (nI r) (nI i)) 0).2, s3) := by
  unfold drP
  rw [if_pos c, if_pos cf]
theorem drP_no {lw : Nat} {fl K : Nat → Int32} {n : Nat} {pc : Nat → Nat} {v : Vw} {p r i s1 s3 : Nat} (c : v.1 p = -1) (cf : ¬ freeS v (nI r) (nI i) n = true) : drP lw fl K n pc v p r i s1 s3 = (0, v, s3) := by
  unfold drP
  rw [if_pos c, if_neg cf]
theorem drP_out {lw : Nat} {fl K : Nat → Int32} {n : Nat} {pc : Nat → Nat} {v : Vw} {p r i s1 s3 q : Nat} (c : v.1 p = nI q) (hq : q < 2 ^ 31) : drP lw fl K n pc v p r i s1 s3 = (0, wB lw fl K n q (ouS v p), s1) := by
  unfold drP
  rw [if_neg (by rw [c]; exact nI_ne1 hq), c, clN hq]
def drS (lw : Nat) (fl K : Nat → Int32) (n k : Nat) (pc : Nat → Nat) (v : Vw) (s : Nat) : Nat × Vw × Nat := drP lw fl K n pc v (dwS (nxS s) n) (dwS (nxS (nxS s)) k) (dwS (nxS (nxS (nxS s))) (pc (dwS (nxS (nxS s)) k))) (nxS s) (nxS (nxS (nxS s)))
theorem dwS_lt {s m : Nat} (h : 0 < m) : dwS s m < m := Nat.mod_lt _ h
theorem drP_ok {k n : Nat} {pc : Nat → Nat} {fl K : Nat → Int32} {lw p r i s1 s3 : Nat} {v : Vw} (hk : k ≤ 3) (hn : n ≤ 6) (hpc : ∀ r, r < k → pc r ≤ 6) (hp : p < n) (hr : r < k) (hi : i < pc r) (hV : VV k n pc v) (h0 : ∀ p, p < n → v.1 p = -1 → v.2.2.1 p = 0) (h1 : s1 < 2 ^ 31) (h3 : s3 < 2 ^ 31) : VV k n pc (drP lw fl K n pc v p r i s1 s3).2.1 ∧ (∀ q, q < n → (drP lw fl K n pc v p r i s1 s3).2.1.1 q = -1 → (drP lw fl K n pc v p r i s1 s3).2.1.2.2.1 q = 0) ∧ (drP lw fl K n pc v p r i s1 s3).2.1.2.2.2 = v.2.2.2 ∧ (drP lw fl K n pc v p r i s1 s3).2.2 < 2 ^ 31 := by
  rcases hV.1 _ hp with ⟨q, j, c1, c2, c3, c4⟩ | ⟨c1, -⟩
  · rw [drP_out c3 (by omega)]
    exact ⟨VV_B (VV_out hV hp) _, wB_nw hk hn hpc c1 (VV_out hV hp) (st_nw h0 _ _ _), rfl, h1⟩
  · by_cases cf : freeS v (nI r) (nI i) n = true
    · rw [drP_in c1 cf]
      have hV1 := VV_st hV hk hr hi (hpc _ hr) hp cf
      exact ⟨VV_cm hk hn hpc hr _ _ _ hV1, cm_nw hk hn hpc hr _ _ _ hV1 (st_nw h0 _ _ _), cm_AI _ _ _, h3⟩
    · rw [drP_no c1 cf]
      exact ⟨hV, h0, rfl, h3⟩
theorem drS_ok {k n : Nat} {pc : Nat → Nat} {fl K : Nat → Int32} {lw s : Nat} {v : Vw} (hk : k ≤ 3) (hn : n ≤ 6) (hpc : ∀ r, r < k → 1 ≤ pc r ∧ pc r ≤ 6) (k0 : 0 < k) (n0 : 0 < n) (hV : VV k n pc v) (h0 : ∀ p, p < n → v.1 p = -1 → v.2.2.1 p = 0) : VV k n pc (drS lw fl K n k pc v s).2.1 ∧ (∀ p, p < n → (drS lw fl K n k pc v s).2.1.1 p = -1 → (drS lw fl K n k pc v s).2.1.2.2.1 p = 0) ∧ (drS lw fl K n k pc v s).2.1.2.2.2 = v.2.2.2 ∧ (drS lw fl K n k pc v s).2.2 < 2 ^ 31 := by
  unfold drS
  exact drP_ok hk hn (fun r hr => (hpc r hr).2) (dwS_lt n0) (dwS_lt k0) (dwS_lt (by have := (hpc _ (dwS_lt (s := nxS (nxS s)) k0)).1; omega)) hV h0 (nxS_lt _) (nxS_lt _)
theorem P_passByDraw {k n : Nat} {pc : Nat → Nat} {v : Vw} {st : St} {lw s : Nat} (h : HC k n pc st) (k0 : 0 < k) (n0 : 0 < n) (hl : st.1 9 5 = nI lw) (hlw : lw ≤ 1) (hs : s < 2 ^ 31) (hV : VV k n pc v) : F_X1_passByDraw 9 (setV 9 v (ssd st s)) = some (nI (drS lw (st.1 3) (st.1 6) n k pc v s).1, setV 9 (drS lw (st.1 3) (st.1 6) n k pc v s).2.1 (ssd st (drS lw (st.1 3) (st.1 6) n k pc v s).2.2)) := by
  have hk := h.1
  have hn := h.2.1
  have hp := dwS_lt (s := nxS s) n0
  have hr := dwS_lt (s := nxS (nxS s)) k0
  have hi := dwS_lt (s := nxS (nxS (nxS s))) (m := pc (dwS (nxS (nxS s)) k)) (by have := (h.2.2.2.2 _ hr).2.1; omega)
  have d1 := P_drawOf (v := v) (st := st) hs n0 (show n < 2 ^ 31 by omega)
  have d2 := P_drawOf (v := v) (st := st) (nxS_lt s) k0 (show k < 2 ^ 31 by omega)
  have d3 := P_drawOf (v := v) (st := st) (nxS_lt (nxS s)) (m := pc (dwS (nxS (nxS s)) k)) (by omega) (by have := (h.2.2.2.2 _ hr).2.2; omega)
  have z1 := nxS_lt s
  have z3 := nxS_lt (nxS (nxS s))
  unfold drS
  generalize nxS (nxS (nxS s)) = s3 at *
  generalize nxS (nxS s) = s2 at *
  generalize nxS s = s1 at *
  generalize dwS s3 (pc (dwS s2 k)) = i at *
  generalize dwS s2 k = r at *
  generalize dwS s1 n = p at *
  have hpc : ∀ r, r < k → pc r ≤ 6 := fun r hr => (h.2.2.2.2 r hr).2.2
  have hd : ∀ s, HC k n pc (ssd st s) := fun s => h.cg (ssd_off (by omega)) (ssd_off (by omega))
  have ea : ∀ u s, (setV 9 u (ssd st s)).1 1 = st.1 1 := fun u s => by rw [setV_off (by omega), ssd_off (by omega)]
  have e3 : ∀ s, (ssd st s).1 3 = st.1 3 := fun s => ssd_off (by omega)
  have e6 : ∀ s, (ssd st s).1 6 = st.1 6 := fun s => ssd_off (by omega)
  have e10 : ∀ u s, (setV 9 u (ssd st s)).1 (9 + 1) = u.1 := fun u s => setV_at1 9 u _
  have n1 : st.1 1 1 = nI n := h.2.2.2.1
  have k1 : st.1 1 0 = nI k := h.2.2.1
  have g : ∀ {α : Type} {a : Option α}, gi (nI p) 6 a = a := g6 (by omega)
  have cc : (nI p).toNatClampNeg = p := c6 (by omega)
  simp only [F_X1_passByDraw, F_X1_passByDraw_0, F_X1_passByDraw_92, ea, n1, k1, d1, obs, g, cc, e10]
  rcases hV.1 _ hp with ⟨q, j, c1, c2, c3, c4⟩ | ⟨c, -⟩
  · have q4 := P_allBowV (sc := 9) (lw := lw) (hd s1) (by omega) (VV_out hV hp) (by rw [ssd_5]; exact hl) hlw c1
    rw [e3, e6] at q4
    rw [drP_out c3 (by omega), c3, if_neg (nI_ne1 (by omega)), P_goOut (sc := 9) (show p < 6 by omega), obs, q4, obs]
    rfl
  · have q2 := P_placesOf (HC_V (hd s2) (show 9 ≤ 9 by omega) v) hr
    have q3 := P_canStandAt (sc := 9) (i := i) (hd s3) hV hp hr
    rw [if_pos c]
    simp only [d2, obs, q2, d3, q3]
    by_cases cf : freeS v (nI r) (nI i) n = true
    · have q4 := P_comesIn (sc := 9) (lw := lw) (hd s3) (by omega) hV (by rw [ssd_5]; exact hl) hlw hr hi hp cf
      rw [e3, e6] at q4
      rw [drP_in c cf, if_pos (show v.1 p = -1 ∧ freeS v (nI r) (nI i) n = true from ⟨c, cf⟩), if_neg (by decide), q4, obs]
    · rw [drP_no c cf, if_neg (show ¬ (v.1 p = -1 ∧ freeS v (nI r) (nI i) n = true) from fun q => cf q.2), if_pos rfl]
      rfl
def drN (lw : Nat) (fl K : Nat → Int32) (n k : Nat) (pc : Nat → Nat) : Nat → Vw → Nat → Nat → Nat × Vw × Nat
  | 0, v, s, a => (a, v, s)
  | d + 1, v, s, a => drN lw fl K n k pc d (drS lw fl K n k pc v s).2.1 (drS lw fl K n k pc v s).2.2 (a + (drS lw fl K n k pc v s).1)
theorem drN_ok {k n : Nat} {pc : Nat → Nat} {fl K : Nat → Int32} {lw : Nat} (hk : k ≤ 3) (hn : n ≤ 6) (hpc : ∀ r, r < k → 1 ≤ pc r ∧ pc r ≤ 6) (k0 : 0 < k) (n0 : 0 < n) : ∀ d v s a, s < 2 ^ 31 → VV k n pc v → (∀ p, p < n → v.1 p = -1 → v.2.2.1 p = 0) → VV k n pc (drN lw fl K n k pc d v s a).2.1 ∧ (∀ p, p < n → (drN lw fl K n k pc d v s a).2.1.1 p = -1 → (drN lw fl K n k pc d v s a).2.1.2.2.1 p = 0) ∧ (drN lw fl K n k pc d v s a).2.1.2.2.2 = v.2.2.2 ∧ (drN lw fl K n k pc d v s a).2.2 < 2 ^ 31 := by
  intro d
  induction d with
  | zero => intro v s a hs hV h0; exact ⟨hV, h0, rfl, hs⟩
  | succ d ih =>
    intro v s a hs hV h0
    obtain ⟨a1, a2, a3, a4⟩ := drS_ok (lw := lw) (fl := fl) (K := K) (s := s) hk hn hpc k0 n0 hV h0
    obtain ⟨b1, b2, b3, b4⟩ := ih _ _ (a + (drS lw fl K n k pc v s).1) a4 a1 a2
    exact ⟨b1, b2, b3.trans a3, b4⟩
theorem P_driftLoop {k n : Nat} {pc : Nat → Nat} {st : St} {lw m : Nat} (h : HC k n pc st) (k0 : 0 < k) (n0 : 0 < n) (hl : st.1 9 5 = nI lw) (hlw : lw ≤ 1) (hm : m < 1000) : ∀ N i, i ≤ m → m - i < N → ∀ v s a, s < 2 ^ 31 → VV k n pc v → (∀ p, p < n → v.1 p = -1 → v.2.2.1 p = 0) → F_X7_drift_41 N (nI m) (nI a) (nI i) (setV 9 v (ssd st s)) = some (nI (drN lw (st.1 3) (st.1 6) n k pc (m - i) v s a).1, setV 9 (drN lw (st.1 3) (st.1 6) n k pc (m - i) v s a).2.1 (ssd st (drN lw (st.1 3) (st.1 6) n k pc (m - i) v s a).2.2)) := by
  refine upn (n := m) (P := fun N i => ∀ v s a, s < 2 ^ 31 → VV k n pc v → (∀ p, p < n → v.1 p = -1 → v.2.2.1 p = 0) → F_X7_drift_41 N (nI m) (nI a) (nI i) (setV 9 v (ssd st s)) = some (nI (drN lw (st.1 3) (st.1 6) n k pc (m - i) v s a).1, setV 9 (drN lw (st.1 3) (st.1 6) n k pc (m - i) v s a).2.1 (ssd st (drN lw (st.1 3) (st.1 6) n k pc (m - i) v s a).2.2))) ?_ ?_
  · intro N v s a hs hV h0
    rw [Nat.sub_self, drN, F_X7_drift_41, if_pos (by rw [leN (by omega) (by omega)]; omega)]
  · intro N i hi ih v s a hs hV h0
    obtain ⟨a1, a2, a3, a4⟩ := drS_ok (lw := lw) (fl := st.1 3) (K := st.1 6) (s := s) h.1 h.2.1 (fun r hr => (h.2.2.2.2 r hr).2) k0 n0 hV h0
    rw [F_X7_drift_41, if_neg (nI_ge hi (by omega)), P_passByDraw h k0 n0 hl hlw hs hV, obs]
    dsimp only
    rw [nI_add, nI_1, ih _ _ _ a4 a1 a2, show m - i = (m - (i + 1)) + 1 by omega, drN]
/-! the reference -/
theorem scr_sA {st : St} {t b f : Nat → Int32} {i : Nat} (h : i ≠ 80 ∧ i ≠ 81) : sA (scr st t b) i f = scr (sA st i f) t b := by
  unfold scr
  rw [sA_comm _ (Ne.symm h.2), sA_comm _ (Ne.symm h.1)]
def smd (st : St) (s : Nat) : St := sV st 59 16 (nI s)
theorem smd_sV (w : Vw) (st : St) (s s' : Nat) (t b : Nat → Int32) : sV (setM w (scr (smd st s) t b)) 59 16 (nI s') = setM w (scr (smd st s') t b) := by
  unfold sV
  rw [sA_Moff (by omega), scr_sA (by omega), setM_off (by omega), scr_off (by omega)]
  unfold smd sV
  rw [sA_sA, sA_at]
  congr 3
  funext j
  by_cases c : j = 16
  · subst c; rw [upd_at, upd_at]
  · rw [upd_off c, upd_off c, upd_off c]
theorem smd_16 (w : Vw) (st : St) (s : Nat) (t b : Nat → Int32) : (setM w (scr (smd st s) t b)).1 59 16 = nI s := by
  rw [setM_off (by omega), scr_off (by omega), smd, sV_at, upd_at]
theorem smd_off {st : St} {s a : Nat} (h : a ≠ 59) : (smd st s).1 a = st.1 a := by rw [smd, sV_off h]
theorem smd_59 {st : St} {s j : Nat} (h : j ≠ 16) : (smd st s).1 59 j = st.1 59 j := by rw [smd, sV_at, upd_off h]
theorem M_draw {w : Vw} {st : St} {s m : Nat} {t b : Nat → Int32} (hs : s < 2 ^ 31) (h0 : 0 < m) (hm : m < 2 ^ 31) : F_X8_draw (nI m) (setM w (scr (smd st s) t b)) = some (nI (dwS (nxS s) m), setM w (scr (smd st (nxS s)) t b)) := by
  simp only [F_X8_draw, F_X8_draw_0, smd_16, seedM hs, smd_sV, bs]
  rw [gz, if_neg (nI_ne0 h0 hm), drawV (nxS_lt s) h0 hm]
theorem M_driftStep {k n : Nat} {pc : Nat → Nat} {fl K : Nat → Int32} {v w : Vw} {st : St} {lw s : Nat} {t b : Nat → Int32} (h : HM k n pc st) (k0 : 0 < k) (n0 : 0 < n) (hl : st.1 59 10 = nI lw) (hlw : lw ≤ 1) (hf : FlA k pc fl (st.1 61)) (hK : ∀ p, p < n → K p = st.1 64 p) (hs : s < 2 ^ 31) (hV : VV k n pc v) (hA : Ag n v w) (hB : BdM k n pc (st.1 61) (st.1 64) w) (N : Nat) {m j a : Nat} (hj : j < m) (hm : m < 1000) : ∃ w' t' b', F_X8_drift_37 (N + 1) (nI m) (nI a) (nI j) (setM w (scr (smd st s) t b)) = F_X8_drift_37 N (nI m) (nI (a + (drS lw fl K n k pc v s).1)) (nI (j + 1)) (setM w' (scr (smd st (drS lw fl K n k pc v s).2.2) t' b')) ∧ Ag n (drS lw fl K n k pc v s).2.1 w' ∧ w'.2.2.2 = w.2.2.2 := by
  have hk := h.1
  have hn := h.2.1
  have hp := dwS_lt (s := nxS s) n0
  have hr := dwS_lt (s := nxS (nxS s)) k0
  have hi := dwS_lt (s := nxS (nxS (nxS s))) (m := pc (dwS (nxS (nxS s)) k)) (by have := (h.2.2.2.2 _ hr).2.1; omega)
  have d1 := M_draw (w := w) (st := st) (t := t) (b := b) hs n0 (show n < 2 ^ 31 by omega)
  have d2 := M_draw (w := w) (st := st) (t := t) (b := b) (nxS_lt s) k0 (show k < 2 ^ 31 by omega)
  have d3 := M_draw (w := w) (st := st) (t := t) (b := b) (nxS_lt (nxS s)) (m := pc (dwS (nxS (nxS s)) k)) (by omega) (by have := (h.2.2.2.2 _ hr).2.2; omega)
  unfold drS
  generalize nxS (nxS (nxS s)) = s3 at *
  generalize nxS (nxS s) = s2 at *
  generalize nxS s = s1 at *
  generalize dwS s3 (pc (dwS s2 k)) = i at *
  generalize dwS s2 k = r at *
  generalize dwS s1 n = p at *
  have hpc : ∀ r, r < k → pc r ≤ 6 := fun r hr => (h.2.2.2.2 r hr).2.2
  have hd : ∀ s, HM k n pc (smd st s) := fun s => h.cg (smd_59 (by omega)) (smd_59 (by omega)) (smd_off (by omega))
  have ea3 : ∀ u s t b, (setM u (scr (smd st s) t b)).1 59 3 = nI n := fun u s t b => by rw [setM_off (by omega), scr_off (by omega), smd_59 (by omega)]; exact h.2.2.2.1
  have ea0 : ∀ u s t b, (setM u (scr (smd st s) t b)).1 59 0 = nI k := fun u s t b => by rw [setM_off (by omega), scr_off (by omega), smd_59 (by omega)]; exact h.2.2.1
  have p60 : ∀ u s t b, (setM u (scr (smd st s) t b)).1 60 r = nI (pc r) := fun u s t b => by
    rw [setM_off (by omega), scr_off (by omega), smd_off (by omega)]
    exact (h.2.2.2.2 _ hr).1
  have g : ∀ {α : Type} {a : Option α}, gi (nI p) 6 a = a := g6 (by omega)
  have cc : (nI p).toNatClampNeg = p := c6 (by omega)
  have g3 : ∀ {α : Type} {a : Option α}, gi (nI r) 3 a = a := gi_in (by omega) (by decide)
  have c3' : (nI r).toNatClampNeg = r := clN (by omega)
  have ewp := (hA.1 _ hp).1
  have m1 := M_mayCome (w := w) (st := scr (smd st s3) t b) (r := r) (i := i) (HM_scr (hd _) t b) (Ag.vv hA hV) hp
  rw [← free_ag (hA.x 0), ← ewp] at m1
  rw [F_X8_drift_37, if_neg (nI_ge hj (by omega))]
  simp only [ea3, ea0, d1, obs, g, cc, setM_69, ← ewp]
  rcases hV.1 _ hp with ⟨q, j', c1, c2, c3, c4⟩ | ⟨c, -⟩
  · have hV1 := VV_out hV hp
    have hA1 := Ag_ou hA _ hp
    obtain ⟨t', b', q1⟩ := M_bowNowV (w := ouS w p) (st := scr (smd st s1) t b) (lw := lw) (r := q) (HM_scr (hd _) t b) (Ag.vv hA1 hV1) (by rw [scr_off (by omega), smd_59 (by omega)]; exact hl) hlw c1 (by rw [scr_off (by omega), scr_off (by omega), smd_off (by omega), smd_off (by omega)]; exact BdM_I hB rfl)
    rw [scr_scr, scr_off (by omega), scr_off (by omega), smd_off (by omega), smd_off (by omega)] at q1
    rw [drP_out c3 (by omega)]
    refine ⟨_, t', b', ?_, Ag_bow hk hn hpc hf hK c1 hV1 hA1, rfl⟩
    rw [c3, if_neg (nI_pos (by omega)), M_leaveNow (show p < 6 by omega), obs, q1, obs, F_X8_drift_141, nI_1]
    rfl
  · rw [c, if_pos (by decide)]
    simp only [d2, obs, g3, c3', p60, d3, m1]
    by_cases cf : freeS v (nI r) (nI i) n = true
    · obtain ⟨t', b', w', q1, q2, q3⟩ := M_comeNow (w := w) (st := scr (smd st s3) t b) (fl := fl) (K := K) (lw := lw) (HM_scr (hd _) t b) (by rw [scr_off (by omega), smd_59 (by omega)]; exact hl) hlw (by rw [scr_off (by omega), smd_off (by omega)]; exact hf) (fun p hp => by rw [scr_off (by omega), smd_off (by omega)]; exact hK p hp) hV hA (by rw [scr_off (by omega), scr_off (by omega), smd_off (by omega), smd_off (by omega)]; exact hB) hr hi hp cf
      rw [scr_scr] at q1
      rw [drP_in c cf]
      refine ⟨w', t', b', ?_, q2, q3⟩
      rw [if_pos (show v.1 p = -1 ∧ freeS v (nI r) (nI i) n = true from ⟨c, cf⟩), if_neg (by decide), q1, obs, F_X8_drift_139, F_X8_drift_141, nI_add, nI_1]
    · rw [drP_no c cf]
      refine ⟨w, t, b, ?_, hA, rfl⟩
      rw [if_neg (show ¬ (v.1 p = -1 ∧ freeS v (nI r) (nI i) n = true) from fun q => cf q.2), if_pos rfl, F_X8_drift_139, F_X8_drift_141, nI_1, show (0 : Int32) = nI 0 from rfl, nI_add]
theorem M_driftLoop {k n : Nat} {pc : Nat → Nat} {fl K : Nat → Int32} {st : St} {lw m : Nat} (h : HM k n pc st) (k0 : 0 < k) (n0 : 0 < n) (hl : st.1 59 10 = nI lw) (hlw : lw ≤ 1) (hf : FlA k pc fl (st.1 61)) (hK : ∀ p, p < n → K p = st.1 64 p) (hm : m < 1000) : ∀ N i, i ≤ m → m - i < N → ∀ v w s a t b, s < 2 ^ 31 → VV k n pc v → (∀ p, p < n → v.1 p = -1 → v.2.2.1 p = 0) → Ag n v w → BdM k n pc (st.1 61) (st.1 64) w → ∃ w' t' b', F_X8_drift_37 N (nI m) (nI a) (nI i) (setM w (scr (smd st s) t b)) = some (nI (drN lw fl K n k pc (m - i) v s a).1, setM w' (scr (smd st (drN lw fl K n k pc (m - i) v s a).2.2) t' b')) ∧ Ag n (drN lw fl K n k pc (m - i) v s a).2.1 w' ∧ w'.2.2.2 = w.2.2.2 := by
  refine upn (n := m) (P := fun N i => ∀ v w s a t b, s < 2 ^ 31 → VV k n pc v → (∀ p, p < n → v.1 p = -1 → v.2.2.1 p = 0) → Ag n v w → BdM k n pc (st.1 61) (st.1 64) w → ∃ w' t' b', F_X8_drift_37 N (nI m) (nI a) (nI i) (setM w (scr (smd st s) t b)) = some (nI (drN lw fl K n k pc (m - i) v s a).1, setM w' (scr (smd st (drN lw fl K n k pc (m - i) v s a).2.2) t' b')) ∧ Ag n (drN lw fl K n k pc (m - i) v s a).2.1 w' ∧ w'.2.2.2 = w.2.2.2) ?_ ?_
  · intro N v w s a t b hs hV h0 hA hB
    refine ⟨w, t, b, ?_, ?_, rfl⟩
    · rw [Nat.sub_self, drN, F_X8_drift_37, if_pos (by rw [leN (by omega) (by omega)]; omega)]
    · rw [Nat.sub_self]; exact hA
  · intro N i hi ih v w s a t b hs hV h0 hA hB
    obtain ⟨a1, a2, a3, a4⟩ := drS_ok (lw := lw) (fl := fl) (K := K) (s := s) h.1 h.2.1 (fun r hr => (h.2.2.2.2 r hr).2) k0 n0 hV h0
    obtain ⟨w1, t1, b1, q1, q2, q3⟩ := M_driftStep (s := s) (t := t) (b := b) (a := a) h k0 n0 hl hlw hf hK hs hV hA hB N hi hm
    obtain ⟨w2, t2, b2, r1, r2, r3⟩ := ih _ w1 _ (a + (drS lw fl K n k pc v s).1) t1 b1 a4 a1 a2 q2 (BdM_I hB (by rw [q3]))
    rw [show m - i = (m - (i + 1)) + 1 by omega, drN]
    exact ⟨w2, t2, b2, by rw [q1, r1], r2, r3.trans q3⟩
theorem B_drift (x : Int32) : Bo (F_X7_drift x) (F_X8_drift x) := by
  intro k n pc b st hb h
  have hH := h.house
  obtain ⟨hc, hm, hF, -, hK, hG, -⟩ := h.house
  have hS := h.scene
  have hB := ScR.bd h.scene hH
  obtain ⟨hA, hV, hAg, hI, h0, ⟨lw, hlw, w1, w2⟩, ⟨sd, hsd, s1, s2⟩⟩ := h.scene
  have hk := hc.1
  have hn := hc.2.1
  have n1 : st.1 1 1 = nI n := hc.2.2.2.1
  have k1 : st.1 1 0 = nI k := hc.2.2.1
  have n2 : st.1 59 3 = nI n := hm.2.2.2.1
  have k2 : st.1 59 0 = nI k := hm.2.2.1
  have hpc1 : ∀ r, r < k → 1 ≤ pc r ∧ pc r ≤ 6 := fun r hr => (hc.2.2.2.2 r hr).2
  rcases in1 (h := 99) (by omega) (H := 99) rfl x with ⟨m, m1, m2, rfl, c1, c2, e1⟩ | ⟨c, e1⟩
  · by_cases cn : n = 0
    · subst cn
      refine ro h (-1000000003) ?_ ?_
      · simp only [F_X7_drift, F_X7_drift_0, F_X7_drift_34, n1]
        rw [if_neg c1, litN 99, if_pos c2, if_pos (show nI 0 = (0 : Int32) from rfl)]
      · simp only [F_X8_drift, F_X8_drift_0, F_X8_drift_29, e1, obs, n2]
        rw [if_neg (by decide), if_pos (show nI 0 = (0 : Int32) from rfl)]
        split <;> rfl
    by_cases ck : k = 0
    · subst ck
      refine ro h (-1000000003) ?_ ?_
      · simp only [F_X7_drift, F_X7_drift_0, F_X7_drift_34, k1]
        rw [if_neg c1, litN 99, if_pos c2, if_pos (show nI 0 = (0 : Int32) from rfl)]
        split <;> rfl
      · simp only [F_X8_drift, F_X8_drift_0, F_X8_drift_29, e1, obs, k2]
        rw [if_neg (by decide), if_pos (show nI 0 = (0 : Int32) from rfl)]
    have k0 : 0 < k := by omega
    have n0 : 0 < n := by omega
    have q1 := P_driftLoop (lw := lw) (m := m) hc k0 n0 w1 hlw (by omega) fN 0 (by omega) (fN0 (by omega)) (vC 9 st) sd 0 hsd hV h0
    have eS0 : setV 9 (vC 9 st) (ssd st sd) = st := by
      have : ssd st sd = st := by
        unfold ssd sV
        rw [← s1, upd_self, sA_id]
      rw [this, setV_self]
    obtain ⟨D, hD⟩ : ∃ D, D = drN lw (st.1 3) (st.1 6) n k pc m (vC 9 st) sd 0 := ⟨_, rfl⟩
    rw [Nat.sub_zero, eS0, ← hD] at q1
    obtain ⟨S, hSS⟩ : ∃ S, S = setV 9 D.2.1 (ssd st D.2.2) := ⟨_, rfl⟩
    rw [← hSS] at q1
    have eo : ∀ a, (a < 9 ∨ 14 < a) → S.1 a = st.1 a := fun a ha => by rw [hSS, setV_off (by omega), ssd_off (by omega)]
    have hmS : HM k n pc S := hm.cg (by rw [eo 59 (by omega)]) (by rw [eo 59 (by omega)]) (eo 60 (by omega))
    have evM : vM S = vM st := vM_cg (fun a a1 a2 => eo a (by omega))
    have eS1 : setM (vM st) (scr (smd S sd) (S.1 80) (S.1 81)) = S := by
      have e2 : smd S sd = S := by
        unfold smd sV
        rw [← s2, eo 59 (by omega), upd_self, ← eo 59 (by omega), sA_id]
      rw [e2, scr_self, ← evM, setM_self]
    obtain ⟨d1, d2, d3, d4⟩ := drN_ok (lw := lw) (fl := st.1 3) (K := st.1 6) hk hn hpc1 k0 n0 m (vC 9 st) sd 0 hsd hV h0
    rw [← hD] at d1 d2 d3 d4
    obtain ⟨w', t', b', q2, q3, q4⟩ := M_driftLoop (fl := st.1 3) (K := st.1 6) (lw := lw) (m := m) hmS k0 n0 (by rw [eo 59 (by omega)]; exact w2) hlw (by rw [eo 61 (by omega)]; exact hF) (fun p hp => by rw [eo 64 (by omega)]; exact (hK p hp).1) (by omega) fN 0 (by omega) (fN0 (by omega)) (vC 9 st) (vM st) sd 0 (S.1 80) (S.1 81) hsd hV h0 hA (by rw [eo 61 (by omega), eo 64 (by omega)]; exact hB)
    rw [Nat.sub_zero, eS1, ← hD] at q2
    rw [Nat.sub_zero, ← hD] at q3
    obtain ⟨S', hS'⟩ : ∃ S', S' = setM w' (scr (smd S D.2.2) t' b') := ⟨_, rfl⟩
    rw [← hS'] at q2
    have eo' : ∀ a, (a ≤ 66 ∨ 72 ≤ a) → a ≠ 80 → a ≠ 81 → a ≠ 59 → S'.1 a = S.1 a := fun a a1 a2 a3 a4 => by rw [hS', setM_off a1, scr_off ⟨a2, a3⟩, smd_off a4]
    have e59 : ∀ j, j ≠ 16 → S'.1 59 j = st.1 59 j := fun j hj => by rw [hS', setM_off (by omega), scr_off (by omega), smd_59 hj, eo 59 (by omega)]
    refine ⟨nI D.1, S, S', ?_, ?_, k, n, pc, ?_⟩
    · simp only [F_X7_drift, F_X7_drift_0, n1, k1]
      rw [if_neg c1, litN 99, if_pos c2, if_neg (nI_ne0 n0 (by omega)), if_neg (nI_ne0 k0 (by omega))]
      exact q1
    · simp only [F_X8_drift, F_X8_drift_0, e1, obs, eo 59 (show 59 < 9 ∨ 14 < 59 by omega), n2, k2]
      rw [if_neg (by decide), if_neg (nI_ne0 k0 (by omega)), if_neg (nI_ne0 n0 (by omega))]
      exact q2
    · refine h.cg (by omega) (fun a ha => by rw [eo' a (by omega) (by omega) (by omega) (by omega), eo a (by omega)]) (fun j hj => e59 j (by omega)) (fun j _ => by rw [eo' 92 (by omega) (by omega) (by omega) (by omega), eo 92 (by omega)]) ?_
      have ev : vC 9 S' = D.2.1 := by
        rw [vC_cg (s := S) (fun a a1 a2 => eo' a (by omega) (by omega) (by omega) (by omega)), hSS, vC_setV]
      have e5 : S'.1 9 5 = st.1 9 5 := by rw [eo' 9 (by omega) (by omega) (by omega) (by omega), hSS, setV_off (by omega), ssd_5]
      have e6 : S'.1 9 6 = nI D.2.2 := by rw [eo' 9 (by omega) (by omega) (by omega) (by omega), hSS, ssd_6]
      have e16 : S'.1 59 16 = nI D.2.2 := by rw [hS', smd_16]
      unfold SceneR
      rw [ev, show vM S' = w' by rw [hS', vM_setM], e5, e6, e16, e59 10 (by omega), eo' 4 (by omega) (by omega) (by omega) (by omega), eo 4 (by omega)]
      obtain ⟨y1, y2, y3, y4, y5, y6, y7⟩ := hS.rpb q3 d1 d3 d2
      exact ScR.mono ⟨y1, y2, y3, y4, y5, y6, D.2.2, d4, rfl, rfl⟩ (by omega)
  · refine ro h (-1000000002) ?_ ?_
    · simp only [F_X7_drift, F_X7_drift_0, F_X7_drift_11]
      rcases c with c | c
      · rw [if_pos c]
      · rw [litN 99, if_neg c]; split <;> rfl
    · simp only [F_X8_drift, F_X8_drift_0, e1, obs, if_true]

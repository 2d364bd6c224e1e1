/-! nets of the model, and the small methods of both sides -/
theorem toInt_lit (n : Nat) (h : n < 2 ^ 63) : (OfNat.ofNat n : Int64).toInt = (n : Int) := by
  show (lN n).toInt = _
  exact pk_lT h
theorem isNet_in (N : Nat) {s : Nat} (hs : s < 4) (μ : Mem) : f_X_isNet N (nI s) μ = some (1, μ) := by
  simp (disch := omega) [f_X_isNet, lt', bnd_some, ck_tt, inb_nI, tn_nI, fa_lit, nI_add, pk_mul, nI_ltI, nI_eq, hs]
theorem isNet_out (N : Nat) {x : Int32} (hx : x < 0 ∨ nI 4 ≤ x) (μ : Mem) : f_X_isNet N x μ = some (0, μ) := by
  rcases hx with hx | hx
  · simp [f_X_isNet, hx]
  · have : ¬ x < 4 := nle_lt hx
    simp [f_X_isNet, this]
theorem out_int {x : Int32} {n : Nat} (hn : n < 2 ^ 31) (hx : x < 0 ∨ nI n ≤ x) : x.toInt < 0 ∨ (n : Int) ≤ x.toInt := by
  rcases hx with hx | hx
  · exact Or.inl (Int32.lt_iff_toInt_lt.mp hx)
  · refine Or.inr ?_
    have := Int32.le_iff_toInt_le.mp hx
    rwa [nI_toInt hn] at this
theorem mIn_in (N : Nat) {j n : Nat} (hj : j < n) (hn : n < 2 ^ 31) (μ : Mem) {b : Int64} (hb : b.toInt = (n : Int) - 1) : f_M_in N (nI j).toInt64 0 b μ = some (1, μ) := by
  rw [sM_in, if_pos]
  rw [nI_toInt (by omega), hb]
  have : (0 : Int64).toInt = 0 := rfl
  omega
theorem mIn_out (N : Nat) {x : Int32} {n : Nat} (hn : n < 2 ^ 31) (hx : x < 0 ∨ nI n ≤ x) (μ : Mem) {b : Int64} (hb : b.toInt = (n : Int) - 1) : f_M_in N x.toInt64 0 b μ = some (0, μ) := by
  rw [sM_in, if_neg]
  have := out_int hn hx
  have h0 : (0 : Int64).toInt = 0 := rfl
  omega
theorem mNet_in (N : Nat) {s : Nat} (hs : s < 4) (μ : Mem) : f_M_isNet N (nI s) μ = some (1, μ) := by
  simp only [f_M_isNet, mIn_in N hs (n := 4) (by omega) μ (b := 3) rfl, bnd_some]
  rfl
theorem mNet_out (N : Nat) {x : Int32} (hx : x < 0 ∨ nI 4 ≤ x) (μ : Mem) : f_M_isNet N x μ = some (0, μ) := by
  simp only [f_M_isNet, mIn_out N (n := 4) (by omega) hx μ (b := 3) rfl, bnd_some]
  rfl
theorem m1_int {n : Nat} (h1 : 1 ≤ n) (hn : n < 2 ^ 31) : (nI n - 1).toInt64.toInt = (n : Int) - 1 := by
  have : nI n - 1 = nI (n - 1) := pk_sub (b := 1) h1
  rw [this, Int32.toInt_toInt64, nI_toInt (by omega)]
  omega
theorem mWire_in (N : Nat) {s n j : Nat} {cs : List (Nat × Nat)} {μ : Mem} (h : NM μ s n cs) (hs : s < 4) (hj : j < n) (hn : n < 2 ^ 31) : f_M_isWire N (nI s) (nI j) μ = some (1, μ) := by
  simp (disch := omega) only [f_M_isWire, i10, i00, reduceIte, lt', bnd_some, ck_tt, inb_nI, tn_nI, nI_add, pk_mul, nI_ltI, nI_eq, h.1]
  rw [mIn_in N hj hn μ (m1_int (by omega) hn), bnd_some]
  rfl
theorem mWire_out (N : Nat) {s n : Nat} {x : Int32} {cs : List (Nat × Nat)} {μ : Mem} (h : NM μ s n cs) (hs : s < 4) (h1 : 1 ≤ n) (hn : n < 2 ^ 31) (hx : x < 0 ∨ nI n ≤ x) : f_M_isWire N (nI s) x μ = some (0, μ) := by
  simp (disch := omega) only [f_M_isWire, i10, i00, reduceIte, lt', bnd_some, ck_tt, inb_nI, tn_nI, nI_add, pk_mul, nI_ltI, nI_eq, h.1]
  rw [mIn_out N hn hx μ (m1_int (by omega) hn), bnd_some]
  rfl
theorem m1_int0 {n : Nat} (hn : n < 2 ^ 31) : (nI n - 1).toInt64.toInt = (n : Int) - 1 := by
  rcases Nat.eq_zero_or_pos n with h | h
  · subst h; rfl
  · exact m1_int h hn
theorem mComp_in (N : Nat) {s n k : Nat} {cs : List (Nat × Nat)} {μ : Mem} (h : NM μ s n cs) (hs : s < 4) (hk : k < cs.length) (hl : cs.length ≤ 60) : f_M_isComparer N (nI s) (nI k) μ = some (1, μ) := by
  simp (disch := omega) only [f_M_isComparer, i10, i00, reduceIte, lt', bnd_some, ck_tt, inb_nI, tn_nI, nI_add, pk_mul, nI_ltI, nI_eq, h.2.1]
  rw [mIn_in N hk (by omega) μ (m1_int0 (by omega)), bnd_some]
  rfl
theorem mComp_out (N : Nat) {s n : Nat} {x : Int32} {cs : List (Nat × Nat)} {μ : Mem} (h : NM μ s n cs) (hs : s < 4) (hl : cs.length ≤ 60) (hx : x < 0 ∨ nI cs.length ≤ x) : f_M_isComparer N (nI s) x μ = some (0, μ) := by
  simp (disch := omega) only [f_M_isComparer, i10, i00, reduceIte, lt', bnd_some, ck_tt, inb_nI, tn_nI, nI_add, pk_mul, nI_ltI, nI_eq, h.2.1]
  rw [mIn_out N (by omega) hx μ (m1_int0 (by omega)), bnd_some]
  rfl
theorem xComp_in (N : Nat) {s n k : Nat} {cs : List (Nat × Nat)} {μ : Mem} (h : NX μ (2 + 3 * s) n cs) (hs : s < 4) (hk : k < cs.length) (hl : cs.length ≤ 60) : f_X_isComparer N (nI s) (nI k) μ = some (1, μ) := by
  simp (disch := omega) [f_X_isComparer, isNet_in N hs, lt', bnd_some, ck_tt, inb_nI, tn_nI, fa_lit, nI_add, pk_mul, nI_ltI, nI_eq, h.2.1, hk]
theorem xComp_out (N : Nat) {s n : Nat} {x : Int32} {cs : List (Nat × Nat)} {μ : Mem} (h : NX μ (2 + 3 * s) n cs) (hs : s < 4) (hl : cs.length ≤ 60) (hx : x < 0 ∨ nI cs.length ≤ x) : f_X_isComparer N (nI s) x μ = some (0, μ) := by
  unfold f_X_isComparer
  rw [isNet_in N hs, bnd_some, if_neg (by decide)]
  rcases hx with hx | hx
  · rw [if_pos hx]
  · by_cases h0 : x < 0
    · rw [if_pos h0]
    · rw [if_neg h0, inb_nI hs (by omega), ck_tt, tn_nI (by omega), h.2.1, if_neg (nle_lt hx)]
/-- what may change with net s of the model -/
def mN (s : Nat) : Nat → Nat → Prop := fun q k => (q = 46 ∧ k = s) ∨ (q = 47 ∧ k = s) ∨ ((q = 48 ∨ q = 49) ∧ 60 * s ≤ k ∧ k < 60 * s + 60)
theorem NM.off {s t n : Nat} {cs : List (Nat × Nat)} {μ μ' : Mem} (h : NM μ t n cs) (f : Fr (mN s) μ μ') (hst : t ≠ s) (hl : cs.length ≤ 60) : NM μ' t n cs := ⟨by rw [f.I (fun z => by unfold mN at z; omega)]; exact h.1, by rw [f.I (fun z => by unfold mN at z; omega)]; exact h.2.1, fun k hk => ⟨by rw [f.I (fun z => by unfold mN at z; omega)]; exact (h.2.2 k hk).1, by rw [f.I (fun z => by unfold mN at z; omega)]; exact (h.2.2 k hk).2⟩⟩
theorem frN {s : Nat} {μ μ' : Mem} (f : Fr (mN s) μ μ') : Fr (rg 44 63) μ μ' := f.mono (fun q k z => ⟨by unfold mN at z; omega, by unfold mN at z; omega⟩)
theorem sM_sets (N : Nat) {s k : Nat} (i j : Int32) (μ : Mem) (hs : s < 4) (hk : k < 60) : f_M_sets N (nI s) (nI k) i j μ = some ((), sI (sI μ 48 (60 * s + k) i) 49 (60 * s + k) j) := by
  simp (disch := omega) [f_M_sets, lt', bnd_some, ck_tt, inb_nI, tn_nI, fa_lit, nI_add, pk_mul, nI_ltI, nI_eq]
theorem sM_lowOf (N : Nat) {s k n : Nat} {cs : List (Nat × Nat)} {μ : Mem} (h : NM μ s n cs) (hs : s < 4) (hk : k < cs.length) (hl : cs.length ≤ 60) : f_M_lowOf N (nI s) (nI k) μ = some (nI (cl cs k), μ) := by
  simp (disch := omega) [f_M_lowOf, lt', bnd_some, ck_tt, inb_nI, tn_nI, fa_lit, nI_add, pk_mul, nI_ltI, nI_eq, h.2.2 k hk]
theorem sM_highOf (N : Nat) {s k n : Nat} {cs : List (Nat × Nat)} {μ : Mem} (h : NM μ s n cs) (hs : s < 4) (hk : k < cs.length) (hl : cs.length ≤ 60) : f_M_highOf N (nI s) (nI k) μ = some (nI (ch cs k), μ) := by
  simp (disch := omega) [f_M_highOf, lt', bnd_some, ck_tt, inb_nI, tn_nI, fa_lit, nI_add, pk_mul, nI_ltI, nI_eq, h.2.2 k hk]
theorem sM_begins (N : Nat) {s n : Nat} (hs : s < 4) (μ : Mem) : ∃ μ', f_M_begins N (nI s) (nI n) μ = some ((), μ') ∧ NM μ' s n [] ∧ Fr (mN s) μ μ' := by
  refine ⟨_, by simp (disch := omega) [f_M_begins, lt', bnd_some, ck_tt, inb_nI, tn_nI, fa_lit, nI_add, pk_mul, nI_ltI, nI_eq]; rfl, ⟨by simp [gI_sI, gL_sL, gR_sR, gI_sL, gI_sR, gL_sI, gL_sR, gR_sI, gR_sL], by simp [gI_sI, gL_sL, gR_sR, gI_sL, gI_sR, gL_sI, gL_sR, gR_sI, gR_sL], fun k hk => by simp at hk⟩, ((Fr.rf μ).sI ?_).sI ?_⟩
  · exact Or.inl ⟨rfl, rfl⟩
  · exact Or.inr (Or.inl ⟨rfl, rfl⟩)
theorem sM_comes (N : Nat) {s n i j : Nat} {cs : List (Nat × Nat)} {μ : Mem} (h : NM μ s n cs) (hs : s < 4) (hl : cs.length < 60) : ∃ μ', f_M_comes3 N (nI s) (nI i) (nI j) μ = some ((), μ') ∧ NM μ' s n (cs ++ [(i, j)]) ∧ Fr (mN s) μ μ' := by
  obtain ⟨h0, h1, h2⟩ := h
  refine ⟨_, by simp (disch := omega) [f_M_comes3, lt', bnd_some, ck_tt, inb_nI, tn_nI, fa_lit, nI_add, pk_mul, nI_ltI, nI_eq, h1, sM_sets, gI_sI, gL_sL, gR_sR, gI_sL, gI_sR, gL_sI, gL_sR, gR_sI, gR_sL]; rfl, ⟨by simp [gI_sI, gL_sL, gR_sR, gI_sL, gI_sR, gL_sI, gL_sR, gR_sI, gR_sL, h0], by simp [gI_sI, gL_sL, gR_sR, gI_sL, gI_sR, gL_sI, gL_sR, gR_sI, gR_sL], fun k hk => ?_⟩, (((Fr.rf μ).sI ?_).sI ?_).sI ?_⟩
  · rw [List.length_append, List.length_singleton] at hk
    rw [cl_app, ch_app]
    by_cases hk2 : k < cs.length
    · have hne : k ≠ cs.length := (by omega)
      simp [gI_sI, gL_sL, gR_sR, gI_sL, gI_sR, gL_sI, gL_sR, gR_sI, gR_sL, hk2, hne, h2 k hk2]
    · have he : k = cs.length := (by omega)
      subst he
      simp [gI_sI, gL_sL, gR_sR, gI_sL, gI_sR, gL_sI, gL_sR, gR_sI, gR_sL]
  · unfold mN; omega
  · unfold mN; omega
  · unfold mN; omega

/-! nets of the class -/
theorem sNet_append (N : Nat) {μ : Mem} {p n i j : Nat} {cs : List (Nat × Nat)} (h : NX μ p n cs) (hl : cs.length < 60) : ∃ μ', f_Net_append N p (nI i) (nI j) μ = some (1, μ') ∧ NX μ' p n (cs ++ [(i, j)]) ∧ Fr (rg p (p + 2)) μ μ' := by
  obtain ⟨h0, h1, h2⟩ := h
  refine ⟨_, by simp (disch := omega) [f_Net_append, lt', bnd_some, ck_tt, inb_nI, tn_nI, fa_lit, nI_add, pk_mul, nI_ltI, nI_eq, h1, gI_sI, gL_sL, gR_sR, gI_sL, gI_sR, gL_sI, gL_sR, gR_sI, gR_sL, hl]; rfl, ⟨?_, ?_, ?_⟩, ?_⟩
  · simp [gI_sI, gL_sL, gR_sR, gI_sL, gI_sR, gL_sI, gL_sR, gR_sI, gR_sL, h0]
  · simp [gI_sI, gL_sL, gR_sR, gI_sL, gI_sR, gL_sI, gL_sR, gR_sI, gR_sL]
  · intro k hk
    rw [List.length_append, List.length_singleton] at hk
    rw [cl_app, ch_app]
    by_cases hk2 : k < cs.length
    · have hne : k ≠ cs.length := by omega
      simp [gI_sI, gL_sL, gR_sR, gI_sL, gI_sR, gL_sI, gL_sR, gR_sI, gR_sL, hk2, hne, h2 k hk2]
    · have he : k = cs.length := by omega
      subst he
      simp [gI_sI, gL_sL, gR_sR, gI_sL, gI_sR, gL_sI, gL_sR, gR_sI, gR_sL]
  · exact (((Fr.rf μ).sI (rgi (by omega) (by omega))).sI (rgi (by omega) (by omega))).sI (rgi (by omega) (by omega))
theorem sNet_appendFull (N : Nat) {μ : Mem} {p n : Nat} {i j : Int32} {cs : List (Nat × Nat)} (h : NX μ p n cs) (hl : cs.length = 60) : f_Net_append N p i j μ = some (0, μ) := by
  obtain ⟨h0, h1, h2⟩ := h
  simp (disch := omega) [f_Net_append, lt', bnd_some, ck_tt, inb_nI, tn_nI, fa_lit, nI_add, pk_mul, nI_ltI, nI_eq, h1, hl]
theorem sNet_clear (N : Nat) {μ : Mem} {p : Nat} {n : Nat} : ∃ μ', f_Net_clear N p (nI n) μ = some ((), μ') ∧ NX μ' p n [] ∧ Fr (rg p p) μ μ' := by
  refine ⟨_, rfl, ⟨?_, ?_, ?_⟩, ((Fr.rf μ).sI (rgi (by omega) (by omega))).sI (rgi (by omega) (by omega))⟩
  · simp [gI_sI, gL_sL, gR_sR, gI_sL, gI_sR, gL_sI, gL_sR, gR_sI, gR_sL]
  · simp [gI_sI, gL_sL, gR_sR, gI_sL, gI_sR, gL_sI, gL_sR, gR_sI, gR_sL]; rfl
  · intro k hk; simp at hk
theorem sNet_isWire (N : Nat) {μ : Mem} {p n : Nat} {cs : List (Nat × Nat)} (h : NX μ p n cs) (x : Int32) : f_Net_isWire N p x μ = some (if 0 ≤ x.toInt ∧ x.toInt < n then 1 else 0, μ) := by
  sorry

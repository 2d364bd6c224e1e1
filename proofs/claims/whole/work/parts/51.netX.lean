/-! nets of the class -/
theorem sNet_append (N : Nat) {μ : Mem} {p n i j : Nat} {cs : List (Nat × Nat)} (h : NX μ p n cs) (hl : cs.length < 60) : ∃ μ', f_Net_append N p (nI i) (nI j) μ = some (1, μ') ∧ NX μ' p n (cs ++ [(i, j)]) ∧ Fr (rg p (p + 2)) μ μ' := by
  obtain ⟨h0, h1, h2⟩ := h
  refine ⟨_, by simp (disch := omega) [f_Net_append, lt', bnd_some, ck_tt, inb_nI, tn_nI, fa_lit, nI_add, pk_mul, nI_ltI, nI_eq, h1, gI_sI, gL_sL, gR_sR, gI_sL, gI_sR, gL_sI, gL_sR, gR_sI, gR_sL, hl]; rfl, ⟨?_, ?_, ?_⟩, ?_⟩
  · simp [gI_sI, gL_sL, gR_sR, gI_sL, gI_sR, gL_sI, gL_sR, gR_sI, gR_sL, h0]
  · simp [gI_sI, gL_sL, gR_sR, gI_sL, gI_sR, gL_sI, gL_sR, gR_sI, gR_sL]
  · intro k hk
    rw [List.length_append, List.length_singleton] at hk
    rw [cl_app, ch_app]
    by_cases hk2 : k < cs.length
    · have hne : k ≠ cs.length := by omega
      simp [gI_sI, gL_sL, gR_sR, gI_sL, gI_sR, gL_sI, gL_sR, gR_sI, gR_sL, hk2, hne, h2 k hk2]
    · have he : k = cs.length := by omega
      subst he
      simp [gI_sI, gL_sL, gR_sR, gI_sL, gI_sR, gL_sI, gL_sR, gR_sI, gR_sL]
  · exact (((Fr.rf μ).sI (rgi (by omega) (by omega))).sI (rgi (by omega) (by omega))).sI (rgi (by omega) (by omega))
theorem sNet_appendFull (N : Nat) {μ : Mem} {p n : Nat} {i j : Int32} {cs : List (Nat × Nat)} (h : NX μ p n cs) (hl : cs.length = 60) : f_Net_append N p i j μ = some (0, μ) := by
  obtain ⟨h0, h1, h2⟩ := h
  simp (disch := omega) [f_Net_append, lt', bnd_some, ck_tt, inb_nI, tn_nI, fa_lit, nI_add, pk_mul, nI_ltI, nI_eq, h1, hl]
theorem sNet_clear (N : Nat) {μ : Mem} {p : Nat} {n : Nat} : ∃ μ', f_Net_clear N p (nI n) μ = some ((), μ') ∧ NX μ' p n [] ∧ Fr (rg p p) μ μ' := by
  refine ⟨_, rfl, ⟨?_, ?_, ?_⟩, ((Fr.rf μ).sI (rgi (by omega) (by omega))).sI (rgi (by omega) (by omega))⟩
  · simp [gI_sI, gL_sL, gR_sR, gI_sL, gI_sR, gL_sI, gL_sR, gR_sI, gR_sL]
  · simp [gI_sI, gL_sL, gR_sR, gI_sL, gI_sR, gL_sI, gL_sR, gR_sI, gR_sL]; rfl
  · intro k hk; simp at hk
theorem sNet_isWire (N : Nat) {μ : Mem} {p n j : Nat} {cs : List (Nat × Nat)} (h : NX μ p n cs) (hj : j < n) (hn : n < 2 ^ 31) : f_Net_isWire N p (nI j) μ = some (1, μ) := by
  simp (disch := omega) [f_Net_isWire, lt', bnd_some, ck_tt, inb_nI, tn_nI, fa_lit, nI_add, pk_mul, nI_ltI, nI_eq, h.1, hj]
theorem sNet_isWireNo (N : Nat) {μ : Mem} {p n : Nat} {x : Int32} {cs : List (Nat × Nat)} (h : NX μ p n cs) (hx : x < 0 ∨ nI n ≤ x) : f_Net_isWire N p x μ = some (0, μ) := by
  rcases hx with hx | hx
  · simp [f_Net_isWire, hx]
  · simp [f_Net_isWire, h.1, nle_lt hx]
theorem sNet_remove (N : Nat) (hN : 10000 ≤ N) {μ : Mem} {p n k : Nat} {cs : List (Nat × Nat)} (h : NX μ p n cs) (hl : cs.length ≤ 60) (hk : k < cs.length) : ∃ μ', f_Net_remove N p (nI k) μ = some ((), μ') ∧ NX μ' p n (cs.eraseIdx k) ∧ Fr (rg p (p + 2)) μ μ' := by
  obtain ⟨h0, h1, h2⟩ := h
  have hlen : (cs.eraseIdx k).length = cs.length - 1 := by rw [List.length_eraseIdx, if_pos hk]
  have e1 : nI cs.length - 1 = nI (cs.length - 1) := pk_sub (b := 1) (by omega)
  unfold f_Net_remove
  simp only [lt', h1, e1]
  obtain ⟨μ', ⟨i1, ik, i2, i3, i4⟩, e⟩ := for_up (fun n i s => lp_Net_remove_12 N p (fun μ10 => some ((), μ10)) n i s) (fun μ => some ((), μ)) (cs.length - 1)
    (fun i ν => Fr (rg p (p + 2)) μ ν ∧ k ≤ i ∧ gI ν p 0 = nI n ∧ gI ν p 1 = nI (cs.length - 1) ∧ ∀ j, j < cs.length → (gI ν (p + 1) j = nI (if j < k ∨ i ≤ j then cl cs j else cl cs (j + 1)) ∧ gI ν (p + 2) j = nI (if j < k ∨ i ≤ j then ch cs j else ch cs (j + 1))))
    (by
      intro n' i ν hi ⟨i1, ik, i2, i3, i4⟩
      refine ⟨_, ?_, by simp (disch := omega) [lp_Net_remove_12, lt', bnd_some, ck_tt, inb_nI, tn_nI, fa_lit, nI_add, pk_mul, nI_ltI, nI_eq, i3, gI_sI, gL_sL, gR_sR, gI_sL, gI_sR, gL_sI, gL_sR, gR_sI, gR_sL, hi]; rfl⟩
      refine ⟨(i1.sI (rgi (by omega) (by omega))).sI (rgi (by omega) (by omega)), by omega, by simp [gI_sI, gL_sL, gR_sR, gI_sL, gI_sR, gL_sI, gL_sR, gR_sI, gR_sL, i2], by simp [gI_sI, gL_sL, gR_sR, gI_sL, gI_sR, gL_sI, gL_sR, gR_sI, gR_sL, i3], fun j hj => ?_⟩
      have a := i4 j hj
      have b := i4 (i + 1) (by omega)
      by_cases hji : j = i
      · subst hji
        simp [gI_sI, gL_sL, gR_sR, gI_sL, gI_sR, gL_sI, gL_sR, gR_sI, gR_sL, b.1, b.2]
        constructor <;> ((repeat' split) <;> first | rfl | omega | (exfalso; omega) | (congr 1; omega))
      · simp [gI_sI, gL_sL, gR_sR, gI_sL, gI_sR, gL_sI, gL_sR, gR_sI, gR_sL, hji, a.1, a.2]
        constructor <;> ((repeat' split) <;> first | rfl | omega | (exfalso; omega) | (congr 1; omega)))
    (by
      intro n' ν ⟨i1, ik, i2, i3, i4⟩
      simp (disch := omega) [lp_Net_remove_12, lt', bnd_some, ck_tt, inb_nI, tn_nI, fa_lit, nI_add, pk_mul, nI_ltI, nI_eq, i3])
    (cs.length - 1 - k) k N (sI μ p 1 (nI (cs.length - 1))) (by omega) (by omega) ⟨(Fr.rf μ).sI (rgi (by omega) (by omega)), Nat.le_refl _, by simp [gI_sI, gL_sL, gR_sR, gI_sL, gI_sR, gL_sI, gL_sR, gR_sI, gR_sL, h0], by simp [gI_sI, gL_sL, gR_sR, gI_sL, gI_sR, gL_sI, gL_sR, gR_sI, gR_sL], fun j hj => by
      have := h2 j hj
      rw [if_pos (by omega), if_pos (by omega)]; simp [gI_sI, gL_sL, gR_sR, gI_sL, gI_sR, gL_sI, gL_sR, gR_sI, gR_sL, this]⟩
  exact ⟨μ', e, ⟨i2, by rw [hlen]; exact i3, fun j hj => by
    rw [hlen] at hj
    have := i4 j (by omega)
    rw [this.1, this.2, cl_erase, ch_erase]
    constructor <;> ((repeat' split) <;> first | rfl | omega | (exfalso; omega) | (congr 1; omega))⟩, i1⟩

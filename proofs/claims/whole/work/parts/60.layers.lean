/-! layers -/
def cn (P : Nat → Bool) : Nat → Nat
  | 0 => 0
  | n + 1 => cn P n + if P n then 1 else 0
theorem cn_le (P : Nat → Bool) : ∀ n, cn P n ≤ n
  | 0 => Nat.le_refl 0
  | n + 1 => by have := cn_le P n; rw [cn]; split <;> omega
def lst (cs : List (Nat × Nat)) : Nat → Nat → Nat
  | 0, _ => 0
  | k + 1, w => if w = cl cs k ∨ w = ch cs k then max (lst cs k (cl cs k)) (lst cs k (ch cs k)) + 1 else lst cs k w
def lay (cs : List (Nat × Nat)) (k : Nat) : Nat := max (lst cs k (cl cs k)) (lst cs k (ch cs k)) + 1
def dep (cs : List (Nat × Nat)) : Nat → Nat
  | 0 => 0
  | k + 1 => max (dep cs k) (lay cs k)
theorem lst_le (cs : List (Nat × Nat)) : ∀ k w, lst cs k w ≤ k
  | 0, _ => Nat.le_refl 0
  | k + 1, w => by
    have h1 := lst_le cs k (cl cs k)
    have h2 := lst_le cs k (ch cs k)
    have h3 := lst_le cs k w
    rw [lst]; split <;> omega
theorem lay_le (cs : List (Nat × Nat)) (k : Nat) : lay cs k ≤ k + 1 := by
  have h1 := lst_le cs k (cl cs k)
  have h2 := lst_le cs k (ch cs k)
  unfold lay; omega
theorem lay_pos (cs : List (Nat × Nat)) (k : Nat) : 1 ≤ lay cs k := by unfold lay; omega
theorem dep_le (cs : List (Nat × Nat)) : ∀ k, dep cs k ≤ k
  | 0 => Nat.le_refl 0
  | k + 1 => by
    have h1 := dep_le cs k
    have h2 := lay_le cs k
    rw [dep]; omega
theorem lay_dep (cs : List (Nat × Nat)) : ∀ {k j : Nat}, j < k → lay cs j ≤ dep cs k
  | k + 1, j, h => by
    rw [dep]
    by_cases e : j = k
    · subst e; omega
    · have := lay_dep cs (show j < k by omega); omega
theorem sLay_read (N : Nat) (hN : 10000 ≤ N) {μ : Mem} {p n : Nat} {cs : List (Nat × Nat)} (h : NX μ p n cs) (w : WN n cs) (hp : p + 2 < 23) : ∃ μ', f_Layers_read N p μ = some ((), μ') ∧ Fr (rg 23 26) μ μ' ∧ gI μ' 23 1 = nI (dep cs cs.length) ∧ (∀ k, k < cs.length → gI μ' 24 k = nI (lay cs k)) ∧ ∀ l, l ≤ 60 → gI μ' 25 l = nI (cn (fun k => lay cs k == l) cs.length) := by
  have hl := w.2.2.1
  have h8 := w.2.1
  have L1 : ∀ (K : Mem → Option (Unit × Mem)) (ν : Mem), Fr (rg 23 26) μ ν → gI ν 23 1 = nI 0 → ∃ ν', (Fr (rg 23 26) μ ν' ∧ gI ν' 23 1 = nI 0 ∧ ∀ w, w < 8 → gI ν' 26 w = nI 0) ∧ lp_Layers_read_7 N p K N (nI 0) ν = K ν' := by
    intro K ν f g
    exact for_up (fun n i ν => lp_Layers_read_7 N p K n i ν) K 8 (fun i κ => Fr (rg 23 26) μ κ ∧ gI κ 23 1 = nI 0 ∧ ∀ w, w < i → gI κ 26 w = nI 0)
      (by
        intro n' i κ hi ⟨i1, i2, i3⟩
        refine ⟨_, ?_, by simp (disch := omega) [lp_Layers_read_7, lt', bnd_some, ck_tt, inb_nI, tn_nI, fa_lit, nI_add, pk_mul, nI_ltI, nI_eq, hi]; rfl⟩
        refine ⟨i1.sI (rgi (by omega) (by omega)), by simp [gI_sI, gL_sL, gR_sR, gI_sL, gI_sR, gL_sI, gL_sR, gR_sI, gR_sL, i2], fun w hw => ?_⟩
        by_cases e : w = i
        · subst e; simp [gI_sI, gL_sL, gR_sR, gI_sL, gI_sR, gL_sI, gL_sR, gR_sI, gR_sL]
        · simp [gI_sI, gL_sL, gR_sR, gI_sL, gI_sR, gL_sI, gL_sR, gR_sI, gR_sL, e, i3 w (by omega)])
      (by
        intro n' κ _
        simp (disch := omega) [lp_Layers_read_7, lt', bnd_some, ck_tt, inb_nI, tn_nI, fa_lit, nI_add, pk_mul, nI_ltI, nI_eq])
      8 0 N ν (by omega) (by omega) ⟨f, g, fun w hw => by omega⟩
  have L2 : ∀ (K : Mem → Option (Unit × Mem)) (ν : Mem), (Fr (rg 23 26) μ ν ∧ gI ν 23 1 = nI 0 ∧ ∀ w, w < 8 → gI ν 26 w = nI 0) → ∃ ν', (Fr (rg 23 26) μ ν' ∧ gI ν' 23 1 = nI 0 ∧ (∀ w, w < 8 → gI ν' 26 w = nI 0) ∧ ∀ l, l < 61 → gI ν' 25 l = nI 0) ∧ lp_Layers_read_28 N p K N (nI 0) ν = K ν' := by
    intro K ν ⟨f, g, g2⟩
    exact for_up (fun n i ν => lp_Layers_read_28 N p K n i ν) K 61 (fun i κ => Fr (rg 23 26) μ κ ∧ gI κ 23 1 = nI 0 ∧ (∀ w, w < 8 → gI κ 26 w = nI 0) ∧ ∀ l, l < i → gI κ 25 l = nI 0)
      (by
        intro n' i κ hi ⟨i1, i2, i3, i4⟩
        have hi' : ¬ 60 < i := (by omega)
        refine ⟨_, ?_, by simp (disch := omega) [lp_Layers_read_28, lt', bnd_some, ck_tt, inb_nI, tn_nI, fa_lit, nI_add, pk_mul, nI_ltI, nI_eq, hi']; rfl⟩
        refine ⟨i1.sI (rgi (by omega) (by omega)), by simp [gI_sI, gL_sL, gR_sR, gI_sL, gI_sR, gL_sI, gL_sR, gR_sI, gR_sL, i2], fun w hw => by simp [gI_sI, gL_sL, gR_sR, gI_sL, gI_sR, gL_sI, gL_sR, gR_sI, gR_sL, i3 w hw], fun l hl => ?_⟩
        by_cases e : l = i
        · subst e; simp [gI_sI, gL_sL, gR_sR, gI_sL, gI_sR, gL_sI, gL_sR, gR_sI, gR_sL]
        · simp [gI_sI, gL_sL, gR_sR, gI_sL, gI_sR, gL_sI, gL_sR, gR_sI, gR_sL, e, i4 l (by omega)])
      (by
        intro n' κ _
        simp (disch := omega) [lp_Layers_read_28, lt', bnd_some, ck_tt, inb_nI, tn_nI, fa_lit, nI_add, pk_mul, nI_ltI, nI_eq])
      61 0 N ν (by omega) (by omega) ⟨f, g, g2, fun w hw => by omega⟩
  have L3 : ∀ (ν : Mem), (Fr (rg 23 26) μ ν ∧ gI ν 23 1 = nI 0 ∧ (∀ w, w < 8 → gI ν 26 w = nI 0) ∧ ∀ l, l < 61 → gI ν 25 l = nI 0) → ∃ ν', (Fr (rg 23 26) μ ν' ∧ gI ν' 23 1 = nI (dep cs cs.length) ∧ (∀ w, w < 8 → gI ν' 26 w = nI (lst cs cs.length w)) ∧ (∀ l, l < 61 → gI ν' 25 l = nI (cn (fun k => lay cs k == l) cs.length)) ∧ ∀ k, k < cs.length → gI ν' 24 k = nI (lay cs k)) ∧ lp_Layers_read_49 N p (fun μ31 => some ((), μ31)) N (nI 0) ν = some ((), ν') := by
    intro ν ⟨f, g, g2, g3⟩
    exact for_up (fun n i ν => lp_Layers_read_49 N p (fun μ31 => some ((), μ31)) n i ν) (fun ν => some ((), ν)) cs.length (fun i κ => Fr (rg 23 26) μ κ ∧ gI κ 23 1 = nI (dep cs i) ∧ (∀ w, w < 8 → gI κ 26 w = nI (lst cs i w)) ∧ (∀ l, l < 61 → gI κ 25 l = nI (cn (fun k => lay cs k == l) i)) ∧ ∀ k, k < i → gI κ 24 k = nI (lay cs k))
      (by
        intro n' i κ hi ⟨i1, i2, i3, i4, i5⟩
        have a0 : gI κ p 1 = nI cs.length := by rw [i1.I (rgo (by omega))]; exact h.2.1
        have a1 : gI κ (p + 1) i = nI (cl cs i) := by rw [i1.I (rgo (by omega))]; exact (h.2.2 i hi).1
        have a2 : gI κ (p + 2) i = nI (ch cs i) := by rw [i1.I (rgo (by omega))]; exact (h.2.2 i hi).2
        have b := w.2.2.2 i hi
        have c1 := lst_le cs i (cl cs i)
        have c2 := lst_le cs i (ch cs i)
        have c3 := lay_le cs i
        have c4 := dep_le cs i
        have c5 := i3 (cl cs i) (by omega)
        have c6 := i3 (ch cs i) (by omega)
        have c7 := i4 (lay cs i) (by omega)
        have e1 : nI (max (lst cs i (cl cs i)) (lst cs i (ch cs i)) + 1) = nI (lay cs i) := rfl
        have z1 : ¬ p + 2 = 26 := (by omega)
        refine ⟨_, ?_, by simp (disch := omega) [lp_Layers_read_49, lt', bnd_some, ck_tt, inb_nI, tn_nI, fa_lit, nI_add, pk_mul, nI_ltI, nI_eq, a0, hi, a1, a2, c5, c6, mxI_nI, e1, gI_sI, gL_sL, gR_sR, gI_sL, gI_sR, gL_sI, gL_sR, gR_sI, gR_sL, c7, z1, i2]; rfl⟩
        refine ⟨((((i1.sI (rgi (by omega) (by omega))).sI (rgi (by omega) (by omega))).sI (rgi (by omega) (by omega))).sI (rgi (by omega) (by omega))).sI (rgi (by omega) (by omega)), by simp [gI_sI, gL_sL, gR_sR, gI_sL, gI_sR, gL_sI, gL_sR, gR_sI, gR_sL, dep], fun w hw => ?_, fun l hl => ?_, fun k hk => ?_⟩
        · have := i3 w hw
          simp [gI_sI, gL_sL, gR_sR, gI_sL, gI_sR, gL_sI, gL_sR, gR_sI, gR_sL]
          rw [lst, this]
          ((repeat' split) <;> first | rfl | omega | (exfalso; omega) | (congr 1; omega))
        · have := i4 l hl
          by_cases e : l = lay cs i
          · subst e; simp [gI_sI, gL_sL, gR_sR, gI_sL, gI_sR, gL_sI, gL_sR, gR_sI, gR_sL, cn]
          · have e' : ¬ lay cs i = l := fun z => e z.symm
            simp [gI_sI, gL_sL, gR_sR, gI_sL, gI_sR, gL_sI, gL_sR, gR_sI, gR_sL, e, e', cn, this]
        · by_cases e : k = i
          · subst e; simp [gI_sI, gL_sL, gR_sR, gI_sL, gI_sR, gL_sI, gL_sR, gR_sI, gR_sL]
          · simp [gI_sI, gL_sL, gR_sR, gI_sL, gI_sR, gL_sI, gL_sR, gR_sI, gR_sL, e, i5 k (by omega)])
      (by
        intro n' κ ⟨i1, i2, i3, i4, i5⟩
        have a0 : gI κ p 1 = nI cs.length := by rw [i1.I (rgo (by omega))]; exact h.2.1
        simp (disch := omega) [lp_Layers_read_49, lt', bnd_some, ck_tt, inb_nI, tn_nI, fa_lit, nI_add, pk_mul, nI_ltI, nI_eq, a0])
      cs.length 0 N ν (by omega) (by omega) ⟨f, g, g2, g3, fun w hw => by omega⟩
  unfold f_Layers_read
  simp only [lt']
  obtain ⟨ν1, h1, e1⟩ := L1 (fun μ6 => lp_Layers_read_28 N p (fun μ11 => lp_Layers_read_49 N p (fun μ31 => some ((), μ31)) N 0 μ11) N 0 μ6) (sI μ 23 1 0) ((Fr.rf μ).sI (rgi (by omega) (by omega))) (by simp [gI_sI, gL_sL, gR_sR, gI_sL, gI_sR, gL_sI, gL_sR, gR_sI, gR_sL]; rfl)
  obtain ⟨ν2, h2, e2⟩ := L2 (fun μ11 => lp_Layers_read_49 N p (fun μ31 => some ((), μ31)) N 0 μ11) ν1 h1
  obtain ⟨ν3, ⟨k1, k2, k3, k4, k5⟩, e3⟩ := L3 ν2 h2
  exact ⟨ν3, e1.trans (e2.trans e3), k1, k2, k5, fun l hl => k4 l (by omega)⟩

/-! the row of numbers -/
theorem mxI_nI {a b : Nat} (ha : a < 2 ^ 31) (hb : b < 2 ^ 31) : mxI (nI a) (nI b) = nI (max a b) := by
  unfold mxI
  by_cases h : a < b
  · rw [if_pos (nI_lt h hb), Nat.max_eq_right (by omega)]
  · rw [if_neg (nI_nlt (by omega) ha), Nat.max_eq_left (by omega)]
theorem mnI_nI {a b : Nat} (ha : a < 2 ^ 31) (hb : b < 2 ^ 31) : mnI (nI a) (nI b) = nI (min a b) := by
  unfold mnI
  by_cases h : b < a
  · rw [if_pos (nI_lt h ha), Nat.min_eq_right (by omega)]
  · rw [if_neg (nI_nlt (by omega) hb), Nat.min_eq_left (by omega)]
theorem getD_app1 (t : List Int64) (v : Int64) (k : Nat) : (t ++ [v]).getD k 0 = if k < t.length then t.getD k 0 else if k = t.length then v else 0 := by
  rw [List.getD_eq_getElem?_getD, List.getD_eq_getElem?_getD]
  by_cases h : k < t.length
  · rw [if_pos h, List.getElem?_append_left h]
  · rw [if_neg h, List.getElem?_append_right (by omega)]
    by_cases h2 : k = t.length
    · subst h2; simp
    · rw [if_neg h2, List.getElem?_eq_none (by simp; omega)]; rfl
theorem sNum_clear (N : Nat) (μ : Mem) : ∃ μ', f_Numbers_clear N μ = some ((), μ') ∧ RX μ' [] ∧ Fr (rg 16 17) μ μ' :=
  ⟨_, rfl, ⟨by simp [gI_sI, gL_sL, gR_sR, gI_sL, gI_sR, gL_sI, gL_sR, gR_sI, gR_sL]; rfl, fun k hk => by simp at hk⟩, (Fr.rf μ).sI (rgi (by omega) (by omega))⟩
theorem sNum_append (N : Nat) {μ : Mem} {rw : List Int64} (v : Int64) (h : RX μ rw) (hl : rw.length < 64) : ∃ μ', f_Numbers_append N v μ = some ((), μ') ∧ RX μ' (rw ++ [v]) ∧ Fr (rg 16 17) μ μ' := by
  refine ⟨_, by simp (disch := omega) [f_Numbers_append, lt', bnd_some, ck_tt, inb_nI, tn_nI, fa_lit, nI_add, pk_mul, nI_ltI, nI_eq, h.1, gI_sI, gL_sL, gR_sR, gI_sL, gI_sR, gL_sI, gL_sR, gR_sI, gR_sL, hl]; rfl, ⟨by simp [gI_sI, gL_sL, gR_sR, gI_sL, gI_sR, gL_sI, gL_sR, gR_sI, gR_sL], fun k hk => ?_⟩, ((Fr.rf μ).sL (rgi (by omega) (by omega))).sI (rgi (by omega) (by omega))⟩
  rw [List.length_append, List.length_singleton] at hk
  rw [getD_app1]
  by_cases hk2 : k < rw.length
  · have hne : k ≠ rw.length := (by omega)
    simp [gI_sI, gL_sL, gR_sR, gI_sL, gI_sR, gL_sI, gL_sR, gR_sI, gR_sL, hk2, hne, h.2 k hk2]
  · have he : k = rw.length := (by omega)
    subst he
    simp [gI_sI, gL_sL, gR_sR, gI_sL, gI_sR, gL_sI, gL_sR, gR_sI, gR_sL]
/-- what may change in the model when a number is told -/
def mR : Nat → Nat → Prop := fun q k => q = 45 ∨ (q = 44 ∧ k = 1)
theorem sM_enters (N : Nat) {μ : Mem} {rw : List Int64} (v : Int64) (h : RM μ rw) (hl : rw.length < 64) : ∃ μ', f_M_enters N v μ = some ((), μ') ∧ RM μ' (rw ++ [v]) ∧ Fr mR μ μ' := by
  refine ⟨_, by simp (disch := omega) [f_M_enters, lt', bnd_some, ck_tt, inb_nI, tn_nI, fa_lit, nI_add, pk_mul, nI_ltI, nI_eq, h.1, gI_sI, gL_sL, gR_sR, gI_sL, gI_sR, gL_sI, gL_sR, gR_sI, gR_sL, hl]; rfl, ⟨by simp [gI_sI, gL_sL, gR_sR, gI_sL, gI_sR, gL_sI, gL_sR, gR_sI, gR_sL], fun k hk => ?_⟩, ((Fr.rf μ).sL (by unfold mR; omega)).sI (by unfold mR; omega)⟩
  rw [List.length_append, List.length_singleton] at hk
  rw [getD_app1]
  by_cases hk2 : k < rw.length
  · have hne : k ≠ rw.length := (by omega)
    simp [gI_sI, gL_sL, gR_sR, gI_sL, gI_sR, gL_sI, gL_sR, gR_sI, gR_sL, hk2, hne, h.2 k hk2]
  · have he : k = rw.length := (by omega)
    subst he
    simp [gI_sI, gL_sL, gR_sR, gI_sL, gI_sR, gL_sI, gL_sR, gR_sI, gR_sL]
theorem sM_told0 (μ : Mem) : RM (sI μ 44 1 0) [] ∧ Fr mR μ (sI μ 44 1 0) := ⟨⟨by simp [gI_sI, gL_sL, gR_sR, gI_sL, gI_sR, gL_sI, gL_sR, gR_sI, gR_sL]; rfl, fun k hk => by simp at hk⟩, (Fr.rf μ).sI (by unfold mR; omega)⟩
theorem sM_tellsOne (N : Nat) (μ : Mem) (v : Int64) : ∃ μ', f_M_tellsOne N v μ = some ((), μ') ∧ RM μ' [v] ∧ Fr mR μ μ' := by
  obtain ⟨h1, f1⟩ := sM_told0 μ
  obtain ⟨μ', e, r, f⟩ := sM_enters N v h1 (by decide)
  exact ⟨μ', by simp only [f_M_tellsOne, lt', e, bnd_some], r, f1.tr f⟩
/-- what a question may change in the model -/
def mQ : Nat → Nat → Prop := fun q k => (q = 44 ∧ k ≠ 8 ∧ k ≠ 27 ∧ k ≠ 28) ∨ q = 45 ∨ (51 ≤ q ∧ q ≤ 63)
theorem mR_mQ {μ μ' : Mem} (f : Fr mR μ μ') : Fr mQ μ μ' := f.mono (fun q k z => by unfold mR at z; unfold mQ; omega)
theorem frQ {μ μ' : Mem} (f : Fr mQ μ μ') : Fr (rg 44 63) μ μ' := f.mono (fun q k z => ⟨by unfold mQ at z; omega, by unfold mQ at z; omega⟩)
theorem thrQ {μ : Mem} {v : Int32} : Fr mQ μ (sI μ 44 0 v) := (Fr.rf μ).sI (by unfold mQ; omega)
theorem rgQ {a b : Nat} {μ μ' : Mem} (f : Fr (rg a b) μ μ') (h1 : 51 ≤ a) (h2 : b ≤ 63) : Fr mQ μ μ' := f.mono (fun q k z => by unfold rg at z; unfold mQ; omega)
theorem SX.row {μ μ' : Mem} {σ : Ab} {r : List Int64} (h : SX μ σ) (f : Fr (rg 16 43) μ μ') (hr : RX μ' r) : SX μ' (σ.1, σ.2.1, r) := ⟨h.1.frg f (by omega), h.2.1.fr f (rgo (by omega)) (fun _ => rgo (by omega)), hr⟩
theorem SM.row {μ μ' : Mem} {σ : Ab} {r : List Int64} (h : SM μ σ) (f : Fr mQ μ μ') (hr : RM μ' r) : SM μ' (σ.1, σ.2.1, r) := ⟨h.1.fr f (fun q k h1 h2 z => by unfold mQ at z; omega), h.2.1.fr f (fun z => by unfold mQ at z; omega) (fun k z => by unfold mQ at z; omega), hr, h.2.2.2.fr f (fun z => by unfold mQ at z; omega) (fun z => by unfold mQ at z; omega)⟩
theorem SM.q {μ μ' : Mem} {σ : Ab} (h : SM μ σ) (f : Fr mQ μ μ') (hr : RM μ' σ.2.2) : SM μ' σ := h.row f hr
/-- a question that tells: both sides give the answer r and the row rw -/
theorem op_q {ρ : Type} {fX fM : Mem → Option (ρ × Mem)} {μ : Mem} {σ : Ab} (hw : Wf σ) (hx : SX μ σ) (r : ρ) (rw : List Int64) (hl : rw.length ≤ 64) (h1 : ∃ μ', fX μ = some (r, μ') ∧ RX μ' rw ∧ Fr (rg 16 43) μ μ') (h2 : ∀ μ, SM μ σ → ∃ μ2, fM μ = some (r, μ2) ∧ RM μ2 rw ∧ Fr mQ μ μ2) : ∃ r σ' μ', fX μ = some (r, μ') ∧ SX μ' σ' ∧ Fr (rg 2 43) μ μ' ∧ Wf σ' ∧ ∀ μ, SM μ σ → ∃ μ2, fM μ = some (r, μ2) ∧ SM μ2 σ' ∧ Fr (rg 44 63) μ μ2 := by
  obtain ⟨μ', e, r1, f⟩ := h1
  refine ⟨r, (σ.1, σ.2.1, rw), μ', e, hx.row f r1, f.wide (by omega) (by omega), ⟨hw.1, hw.2.1, hw.2.2.1, hl⟩, fun μ hm => ?_⟩
  obtain ⟨μ2, e2, r2, f2⟩ := h2 μ hm
  exact ⟨μ2, e2, hm.row f2 r2, frQ f2⟩

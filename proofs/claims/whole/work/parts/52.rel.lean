/-! the state that both sides hold -/
abbrev Nets : Type := Nat → Nat × List (Nat × Nat)
abbrev Ab : Type := Nets × List Nat × List Int64
def XN (μ : Mem) (ν : Nets) : Prop := ∀ s, s < 4 → NX μ (2 + 3 * s) (ν s).1 (ν s).2
def MNs (μ : Mem) (ν : Nets) : Prop := ∀ s, s < 4 → NM μ s (ν s).1 (ν s).2
def TX (μ : Mem) (tx : List Nat) : Prop := gI μ 14 1 = nI tx.length ∧ ∀ k, k < tx.length → gI μ 15 k = nI (tx.getD k 0)
def TM (μ : Mem) (tx : List Nat) : Prop := gI μ 44 8 = nI tx.length ∧ ∀ k, k < tx.length → gI μ 50 k = nI (tx.getD k 0)
def RX (μ : Mem) (rw : List Int64) : Prop := gI μ 16 1 = nI rw.length ∧ ∀ k, k < rw.length → gL μ 17 k = rw.getD k 0
def RM (μ : Mem) (rw : List Int64) : Prop := gI μ 44 1 = nI rw.length ∧ ∀ k, k < rw.length → gL μ 45 k = rw.getD k 0
def KM (μ : Mem) : Prop := (gR μ 44 27 = 61 ∧ gR μ 44 28 = 62) ∨ (gR μ 44 27 = 62 ∧ gR μ 44 28 = 61)
def SX (μ : Mem) (σ : Ab) : Prop := XN μ σ.1 ∧ TX μ σ.2.1 ∧ RX μ σ.2.2
def SM (μ : Mem) (σ : Ab) : Prop := MNs μ σ.1 ∧ TM μ σ.2.1 ∧ RM μ σ.2.2 ∧ KM μ
def Wf (σ : Ab) : Prop := (∀ s, s < 4 → WN (σ.1 s).1 (σ.1 s).2) ∧ σ.2.1.length ≤ 200 ∧ (∀ k, σ.2.1.getD k 0 < 256) ∧ σ.2.2.length ≤ 64
def Rel (μ : Mem) : Prop := ∃ σ, Wf σ ∧ SX μ σ ∧ SM μ σ
def OpEq {ρ : Type} (fX fM : Mem → Option (ρ × Mem)) : Prop := ∀ μ, Rel μ → ∃ r μ1 μ2, fX μ = some (r, μ1) ∧ fM μ1 = some (r, μ2) ∧ Rel μ2
def SXs (μ : Mem) (σ : Ab) (r0 : Mem) : Prop := SX μ σ ∧ Fr (rg 2 43) r0 μ
theorem TX.fr {A : Nat → Nat → Prop} {μ μ' : Mem} {t : List Nat} (h : TX μ t) (f : Fr A μ μ') (h0 : ¬ A 14 1) (h1 : ∀ k, ¬ A 15 k) : TX μ' t := ⟨by rw [f.I h0]; exact h.1, fun k hk => by rw [f.I (h1 k)]; exact h.2 k hk⟩
theorem TM.fr {A : Nat → Nat → Prop} {μ μ' : Mem} {t : List Nat} (h : TM μ t) (f : Fr A μ μ') (h0 : ¬ A 44 8) (h1 : ∀ k, ¬ A 50 k) : TM μ' t := ⟨by rw [f.I h0]; exact h.1, fun k hk => by rw [f.I (h1 k)]; exact h.2 k hk⟩
theorem RX.fr {A : Nat → Nat → Prop} {μ μ' : Mem} {t : List Int64} (h : RX μ t) (f : Fr A μ μ') (h0 : ¬ A 16 1) (h1 : ∀ k, ¬ A 17 k) : RX μ' t := ⟨by rw [f.I h0]; exact h.1, fun k hk => by rw [f.L (h1 k)]; exact h.2 k hk⟩
theorem RM.fr {A : Nat → Nat → Prop} {μ μ' : Mem} {t : List Int64} (h : RM μ t) (f : Fr A μ μ') (h0 : ¬ A 44 1) (h1 : ∀ k, ¬ A 45 k) : RM μ' t := ⟨by rw [f.I h0]; exact h.1, fun k hk => by rw [f.L (h1 k)]; exact h.2 k hk⟩
theorem KM.fr {A : Nat → Nat → Prop} {μ μ' : Mem} (h : KM μ) (f : Fr A μ μ') (h0 : ¬ A 44 27) (h1 : ¬ A 44 28) : KM μ' := by
  unfold KM
  rw [f.R h0, f.R h1]
  exact h
theorem XN.frg {a b : Nat} {μ μ' : Mem} {ν : Nets} (h : XN μ ν) (f : Fr (rg a b) μ μ') (h0 : 13 < a ∨ b < 2) : XN μ' ν := fun s hs => (h s hs).frg f (by omega)
theorem MNs.fr {A : Nat → Nat → Prop} {μ μ' : Mem} {ν : Nets} (h : MNs μ ν) (f : Fr A μ μ') (h0 : ∀ q k, 46 ≤ q → q ≤ 49 → ¬ A q k) : MNs μ' ν := fun s hs => (h s hs).fr f h0
theorem SX.fr {μ μ' : Mem} {σ : Ab} (h : SX μ σ) (f : Fr (rg 44 63) μ μ') : SX μ' σ := ⟨h.1.frg f (by omega), h.2.1.fr f (rgo (by omega)) (fun _ => rgo (by omega)), h.2.2.fr f (rgo (by omega)) (fun _ => rgo (by omega))⟩
theorem SM.fr {μ μ' : Mem} {σ : Ab} (h : SM μ σ) (f : Fr (rg 2 43) μ μ') : SM μ' σ := ⟨h.1.fr f (fun q k h1 h2 => rgo (by omega)), h.2.1.fr f (rgo (by omega)) (fun _ => rgo (by omega)), h.2.2.1.fr f (rgo (by omega)) (fun _ => rgo (by omega)), h.2.2.2.fr f (rgo (by omega)) (rgo (by omega))⟩
theorem op_mk {ρ : Type} {fX fM : Mem → Option (ρ × Mem)} (h : ∀ μ σ, Wf σ → SX μ σ → ∃ r σ' μ', fX μ = some (r, μ') ∧ SX μ' σ' ∧ Fr (rg 2 43) μ μ' ∧ Wf σ' ∧ ∀ μ, SM μ σ → ∃ μ2, fM μ = some (r, μ2) ∧ SM μ2 σ' ∧ Fr (rg 44 63) μ μ2) : OpEq fX fM := by
  intro μ ⟨σ, hw, hx, hm⟩
  obtain ⟨r, σ', μ1, e1, hx1, f1, hw1, k⟩ := h μ σ hw hx
  obtain ⟨μ2, e2, hm2, f2⟩ := k μ1 (hm.fr f1)
  exact ⟨r, μ1, μ2, e1, e2, σ', hw1, hx1.fr f2, hm2⟩
/-- a fresh value of m.thrown -/
theorem SM.thr {μ : Mem} {σ : Ab} {v : Int32} (h : SM μ σ) : SM (sI μ 44 0 v) σ := by
  have f : Fr (fun q k => q = 44 ∧ k = 0) μ (sI μ 44 0 v) := (Fr.rf μ).sI ⟨rfl, rfl⟩
  exact ⟨h.1.fr f (fun q k h1 h2 z => by omega), h.2.1.fr f (fun z => by omega) (fun k z => by omega), h.2.2.1.fr f (fun z => by omega) (fun k z => by omega), h.2.2.2.fr f (fun z => by omega) (fun z => by omega)⟩
theorem frT {μ : Mem} {v : Int32} : Fr (rg 44 63) μ (sI μ 44 0 v) := (Fr.rf μ).sI (rgi (by omega) (by omega))
/-- the answer of a refused call -/
theorem op_no {ρ : Type} {fM : Mem → Option (ρ × Mem)} {r : ρ} {σ : Ab} (h : ∀ μ, SM μ σ → fM μ = some (r, sI μ 44 0 0)) : ∀ μ, SM μ σ → ∃ μ2, fM μ = some (r, μ2) ∧ SM μ2 σ ∧ Fr (rg 44 63) μ μ2 := fun μ hm => ⟨_, h μ hm, hm.thr, frT⟩
-- small methods
theorem lg_lt {x y : Int64} : (lg_cmp x y < 0) ↔ x < y := by
  unfold lg_cmp
  by_cases h1 : y < x
  · have : ¬ x < y := Int64.not_lt.mpr (Int64.le_of_lt h1)
    simp [h1, this]
  · by_cases h2 : x = y
    · simp [h2]
    · have : x < y := by
        rcases Int64.lt_or_eq_of_le (Int64.not_lt.mp h1) with h | h
        · exact h
        · exact absurd h h2
      simp only [gt_iff_lt, h1, h2, this, if_false, iff_true]
      decide
theorem lg_gt {x y : Int64} : (0 < lg_cmp x y) ↔ y < x := by
  unfold lg_cmp
  by_cases h1 : y < x
  · simp [h1]
  · by_cases h2 : x = y
    · simp [h2]
    · simp only [gt_iff_lt, h1, h2, if_false, iff_false]
      decide
theorem lg_eq {x y : Int64} : (lg_cmp x y = 0) ↔ x = y := by
  unfold lg_cmp
  by_cases h1 : y < x
  · have : ¬ x = y := fun e => by subst e; exact Int64.lt_irrefl h1
    simp [h1, this]
  · by_cases h2 : x = y
    · simp [h2]
    · simp only [gt_iff_lt, h1, h2, if_false, iff_false]
      decide
theorem sM_in (N : Nat) (x : Int32) (a b : Int64) (μ : Mem) : f_M_in N x.toInt64 a b μ = some (if a.toInt ≤ x.toInt ∧ x.toInt ≤ b.toInt then 1 else 0, μ) := by
  unfold f_M_in
  simp only [lg_lt, lg_gt, Int64.lt_iff_toInt_lt, Int32.toInt_toInt64]
  by_cases h1 : x.toInt < a.toInt
  · rw [if_pos h1, if_neg (by omega)]
  · rw [if_neg h1]
    by_cases h2 : b.toInt < x.toInt
    · rw [if_pos h2, if_neg (by omega)]
    · rw [if_neg h2, if_pos (by omega)]

/-! lays -/
section Lays
variable (cs : List (Nat × Nat)) (n : Nat)
def bk (l i : Nat) : Nat → List (Nat × Nat)
  | 0 => []
  | k + 1 => bk l i k ++ if lay cs k = l ∧ cl cs k = i then [(i, ch cs k)] else []
def bi (l : Nat) : Nat → List (Nat × Nat)
  | 0 => []
  | i + 1 => bi l i ++ bk cs l i cs.length
def bl : Nat → List (Nat × Nat)
  | 0 => []
  | l + 1 => bl l ++ bi cs (l + 1) n
end Lays
theorem cn_cong {P Q : Nat → Bool} : ∀ {n : Nat}, (∀ k, k < n → P k = Q k) → cn P n = cn Q n
  | 0, _ => rfl
  | n + 1, h => by rw [cn, cn, cn_cong (fun k hk => h k (by omega)), h n (by omega)]
theorem cn_add {P Q R : Nat → Bool} : ∀ {n : Nat}, (∀ k, k < n → (if R k then 1 else 0) = (if P k then 1 else 0) + (if Q k then 1 else 0 : Nat)) → cn R n = cn P n + cn Q n
  | 0, _ => rfl
  | n + 1, h => by
    have h1 := cn_add (P := P) (Q := Q) (R := R) (n := n) (fun k hk => h k (by omega))
    have h2 := h n (by omega)
    rw [cn, cn, cn, h1, h2]; omega
theorem cn_zero {P : Nat → Bool} : ∀ {n : Nat}, (∀ k, k < n → P k = false) → cn P n = 0
  | 0, _ => rfl
  | n + 1, h => by rw [cn, cn_zero (fun k hk => h k (by omega)), h n (by omega)]; rfl
theorem cn_all {P : Nat → Bool} : ∀ {n : Nat}, (∀ k, k < n → P k = true) → cn P n = n
  | 0, _ => rfl
  | n + 1, h => by rw [cn, cn_all (fun k hk => h k (by omega)), h n (by omega)]; rfl
theorem cn_mono {P Q : Nat → Bool} : ∀ {n : Nat}, (∀ k, k < n → P k = true → Q k = true) → cn P n ≤ cn Q n
  | 0, _ => Nat.le_refl _
  | n + 1, h => by
    have h1 := cn_mono (fun k hk => h k (Nat.lt_succ_of_lt hk))
    have h2 := h n (by omega)
    rw [cn, cn]
    cases hp : P n with
    | false => simp; omega
    | true => rw [h2 hp]; simp; omega
theorem bk_len (cs : List (Nat × Nat)) (l i : Nat) : ∀ k, (bk cs l i k).length = cn (fun k => decide (lay cs k = l ∧ cl cs k = i)) k
  | 0 => rfl
  | k + 1 => by
    rw [bk, List.length_append, bk_len cs l i k, cn]
    by_cases h : lay cs k = l ∧ cl cs k = i <;> simp [h]
theorem bi_len (cs : List (Nat × Nat)) (l : Nat) : ∀ i, (bi cs l i).length = cn (fun k => decide (lay cs k = l ∧ cl cs k < i)) cs.length
  | 0 => by rw [bi, cn_zero (fun k _ => by simp)]; rfl
  | i + 1 => by
    rw [bi, List.length_append, bi_len cs l i, bk_len]
    refine (cn_add (fun k _ => ?_)).symm
    by_cases h1 : lay cs k = l
    · by_cases h2 : cl cs k < i
      · have h3 : cl cs k < i + 1 := (by omega)
        have h4 : ¬ cl cs k = i := (by omega)
        simp [h1, h2, h3, h4]
      · by_cases h3 : cl cs k = i
        · simp [h1, h3]
        · have h4 : ¬ cl cs k < i + 1 := (by omega)
          simp [h1, h2, h3, h4]
    · simp [h1]
theorem bl_len (cs : List (Nat × Nat)) (n : Nat) (hw : WN n cs) : ∀ l, (bl cs n l).length = cn (fun k => decide (lay cs k ≤ l)) cs.length
  | 0 => by rw [bl, cn_zero (fun k _ => by have := lay_pos cs k; simp; omega)]; rfl
  | l + 1 => by
    rw [bl, List.length_append, bl_len cs n hw l, bi_len]
    refine (cn_add (fun k hk => ?_)).symm
    have hc := hw.2.2.2 k hk
    have h0 : cl cs k < n := (by omega)
    by_cases h1 : lay cs k ≤ l
    · have h2 : lay cs k ≤ l + 1 := (by omega)
      have h3 : ¬ lay cs k = l + 1 := (by omega)
      simp [h1, h2, h3]
    · by_cases h2 : lay cs k = l + 1
      · simp [h2, h0]
      · have h3 : ¬ lay cs k ≤ l + 1 := (by omega)
        simp [h1, h2, h3]
theorem bl_full (cs : List (Nat × Nat)) (n : Nat) (hw : WN n cs) : (bl cs n (dep cs cs.length)).length = cs.length := by
  rw [bl_len cs n hw, cn_all (fun k hk => by have := lay_dep cs hk; simp; exact this)]
/-- on the way no more than all comparers are there -/
theorem way_le (cs : List (Nat × Nat)) (n : Nat) (hw : WN n cs) {l i k : Nat} (hl : l + 1 ≤ dep cs cs.length) (hi : i < n) (hk : k ≤ cs.length) : (bl cs n l).length + (bi cs (l + 1) i).length + (bk cs (l + 1) i k).length ≤ cs.length := by
  have h1 : cn (fun k => decide (lay cs k = l + 1 ∧ cl cs k < i)) cs.length + cn (fun k => decide (lay cs k = l + 1 ∧ cl cs k = i)) cs.length ≤ cn (fun k => decide (lay cs k = l + 1)) cs.length := by
    rw [← cn_add (R := fun k => decide (lay cs k = l + 1 ∧ cl cs k < i + 1))]
    · exact cn_mono (fun k _ h => by simp at h ⊢; exact h.1)
    · intro k _
      by_cases h1 : lay cs k = l + 1
      · by_cases h2 : cl cs k < i
        · have h3 : cl cs k < i + 1 := (by omega)
          have h4 : ¬ cl cs k = i := (by omega)
          simp [h1, h2, h3, h4]
        · by_cases h3 : cl cs k = i
          · simp [h1, h3]
          · have h4 : ¬ cl cs k < i + 1 := (by omega)
            simp [h1, h2, h3, h4]
      · simp [h1]
  have h2 : cn (fun k => decide (lay cs k ≤ l)) cs.length + cn (fun k => decide (lay cs k = l + 1)) cs.length ≤ cs.length := by
    rw [← cn_add (R := fun k => decide (lay cs k ≤ l + 1))]
    · exact cn_le _ _
    · intro k _
      by_cases h1 : lay cs k ≤ l
      · have h2 : lay cs k ≤ l + 1 := (by omega)
        have h3 : ¬ lay cs k = l + 1 := (by omega)
        simp [h1, h2, h3]
      · by_cases h2 : lay cs k = l + 1
        · simp [h2]
        · have h3 : ¬ lay cs k ≤ l + 1 := (by omega)
          simp [h1, h2, h3]
  have h3 : ∀ a b, a ≤ b → cn (fun k => decide (lay cs k = l + 1 ∧ cl cs k = i)) a ≤ cn (fun k => decide (lay cs k = l + 1 ∧ cl cs k = i)) b := by
    intro a b hab
    induction b with
    | zero => have : a = 0 := (by omega)
              subst this; exact Nat.le_refl _
    | succ b ih =>
      by_cases e : a = b + 1
      · subst e; exact Nat.le_refl _
      · have := ih (by omega)
        rw [cn]; omega
  have h4 := h3 k cs.length hk
  rw [bl_len cs n hw, bi_len, bk_len]
  omega
theorem bk_in (cs : List (Nat × Nat)) (n : Nat) (hw : WN n cs) (l i : Nat) : ∀ k, k ≤ cs.length → ∀ c ∈ bk cs l i k, c.1 < c.2 ∧ c.2 < n
  | 0, _, c, h => by simp [bk] at h
  | k + 1, hk, c, h => by
    rw [bk] at h
    rcases List.mem_append.mp h with h | h
    · exact bk_in cs n hw l i k (by omega) c h
    · by_cases e : lay cs k = l ∧ cl cs k = i
      · rw [if_pos e] at h
        have := hw.2.2.2 k (by omega)
        rw [List.mem_singleton.mp h]
        exact ⟨by rw [← e.2]; exact this.1, this.2⟩
      · rw [if_neg e] at h; simp at h
theorem bi_in (cs : List (Nat × Nat)) (n : Nat) (hw : WN n cs) (l : Nat) : ∀ i, ∀ c ∈ bi cs l i, c.1 < c.2 ∧ c.2 < n
  | 0, c, h => by simp [bi] at h
  | i + 1, c, h => by
    rw [bi] at h
    rcases List.mem_append.mp h with h | h
    · exact bi_in cs n hw l i c h
    · exact bk_in cs n hw l i _ (Nat.le_refl _) c h
theorem bl_in (cs : List (Nat × Nat)) (n : Nat) (hw : WN n cs) : ∀ l, ∀ c ∈ bl cs n l, c.1 < c.2 ∧ c.2 < n
  | 0, c, h => by simp [bl] at h
  | l + 1, c, h => by
    rw [bl] at h
    rcases List.mem_append.mp h with h | h
    · exact bl_in cs n hw l c h
    · exact bi_in cs n hw _ _ c h
theorem wn_of {n : Nat} {cs : List (Nat × Nat)} (h1 : 2 ≤ n) (h2 : n ≤ 8) (h3 : cs.length ≤ 60) (h4 : ∀ c ∈ cs, c.1 < c.2 ∧ c.2 < n) : WN n cs := ⟨h1, h2, h3, fun k hk => by
  have e : (cl cs k, ch cs k) = cs[k] := by rw [cl_def, ch_def, List.getElem?_eq_getElem hk]; rfl
  have := h4 cs[k] (List.getElem_mem hk)
  rw [← e] at this
  exact this⟩

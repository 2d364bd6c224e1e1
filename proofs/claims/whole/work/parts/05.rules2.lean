/-! More rules: names for values, joins, merges; words for the printed proofs. -/
def isK (q : Nat) : Bool := q == 61 || q == 62
theorem isK_sh {q : Nat} (h : isK q = true) : sh[q]? = some (.inl (2000, 1)) := by
  unfold isK at h
  rw [Bool.or_eq_true] at h
  rcases h with h | h <;> (rw [beq_iff_eq] at h; subst h; rfl)
theorem isN_2 : isN 2 := Or.inl rfl
theorem isN_5 : isN 5 := Or.inr (Or.inl rfl)
theorem isN_8 : isN 8 := Or.inr (Or.inr (Or.inl rfl))
theorem isN_11 : isN 11 := Or.inr (Or.inr (Or.inr (Or.inl rfl)))
theorem isN_18 : isN 18 := Or.inr (Or.inr (Or.inr (Or.inr rfl)))
theorem isT_27 : isT 27 := Or.inl rfl
theorem isT_29 : isT 29 := Or.inr rfl
theorem sw_out {x : Int32} {lo hi : Int} (n : Nat) (h : ∀ k : Nat, k < n → ¬ x = Int32.ofInt (lo + k)) (hh : hi = lo + n - 1 := by decide) : x.toInt < lo ∨ hi < x.toInt := by
  rcases Int.lt_or_le x.toInt lo with h1 | h1
  · exact Or.inl h1
  · rcases Int.lt_or_le hi x.toInt with h2 | h2
    · exact Or.inr h2
    · exfalso
      refine h (x.toInt - lo).toNat (by omega) ?_
      have e : lo + ((x.toInt - lo).toNat : Int) = x.toInt := by omega
      rw [e]
      exact (Int32.ofInt_toInt x).symm
section Rules2
variable {ρ : Type} {Γ : Cx ρ} {ow : String} {cc : ByteArray} {nL pc : Nat} {lv lv' : List (Nat × Value)} {st : List Value} {μ : Mem} {o : Option (ρ × Mem)}
theorem go_sub' (h : lv'.map (fun q => lv.find? (fun z => z.1 == q.1)) = lv'.map some) (k : Go Γ nL pc lv' st μ o) : Go Γ nL pc lv st μ o := by
  intro H locs ls r μ' ho hP hS hl
  refine k H locs ls r μ' ho hP hS ⟨hl.1, hl.2.1, fun q hq => ?_⟩
  obtain ⟨q0, h0, rfl⟩ := List.mem_map.mp hq
  obtain ⟨i, hi⟩ := List.getElem?_of_mem h0
  have h1 : (lv'.map (fun q => lv.find? (fun z => z.1 == q.1)))[i]? = (lv'.map some)[i]? := by rw [h]
  rw [List.getElem?_map, List.getElem?_map, hi] at h1
  have h2 : lv.find? (fun z => z.1 == q0.1) = some q0 := Option.some.inj h1
  exact hl.2.2 (cvp (xad Γ) q0) (List.mem_map.mpr ⟨q0, List.mem_of_find?_eq_some h2, rfl⟩)
theorem go_letI {a : Int32} {f : Int32 → Option (ρ × Mem)} (k : ∀ x, Go Γ nL pc lv (.int x :: st) μ (f x)) : Go Γ nL pc lv (.int a :: st) μ (lt' a f) := k a
theorem go_letL {a : Int64} {f : Int64 → Option (ρ × Mem)} (k : ∀ x, Go Γ nL pc lv (.long x :: st) μ (f x)) : Go Γ nL pc lv (.long a :: st) μ (lt' a f) := k a
theorem go_letM {f : Mem → Option (ρ × Mem)} (k : ∀ ν, Go Γ nL pc lv st ν (f ν)) : Go Γ nL pc lv st μ (lt' μ f) := k μ
theorem go_incI {i q : Nat} {n : Int} {x c : Int32} {f : Int32 → Option (ρ × Mem)} (hΓ : Ok Γ ow cc nL) (hd : decode cc pc = .ok (.iinc i n, 3)) (hq : lv[q]? = some (i, .int x)) (hc : Int32.ofInt n = c) (hn : i < nL) (kk : ∀ v, Go Γ nL (pc + 3) ((i, .int v) :: lv.filter (stP i)) st μ (f v)) : Go Γ nL pc lv st μ (lt' (x + c) f) := go_iinc hΓ hd hq (by rw [hc]) hn rfl (kk (x + c))
theorem go_join {κ : Type} {k : κ} {f : κ → Option (ρ × Mem)} (P : κ → Prop) (hk : P k) (hb : ∀ k', P k' → Go Γ nL pc lv st μ (f k')) : Go Γ nL pc lv st μ (lt' k f) := hb k hk
theorem go_mg {α : Type} {a : α} {f : α → Option (ρ × Mem)} (J : Nat) (lvJ : α → List (Nat × Value)) (stJ : α → List Value) (hJ : ∀ x, Go Γ nL J (lvJ x) (stJ x) μ (f x)) (hb : ∀ g : α → Option (ρ × Mem), (∀ x, Go Γ nL J (lvJ x) (stJ x) μ (g x)) → Go Γ nL pc lv st μ (g a)) : Go Γ nL pc lv st μ (lt' a f) := hb f hJ
theorem go_ldc_w {index : Nat} {v : Int32} (hΓ : Ok Γ ow cc nL) (hc : Cond.constant ow index v ∈ TB) (hd : decode cc pc = .ok (.ldc_w index, 3)) (kk : Go Γ nL (pc + 3) lv (.int v :: st) μ o) : Go Γ nL pc lv st μ o := fun H locs ls r μ' ho hP hS hl => lv_ldcw hΓ.1 hΓ.2.1 hΓ.2.2.2.1 (hΓ.2.2.2.2.1 _ hc) hd (kk H locs ls r μ' ho hP hS hl)
end Rules2
theorem tb_0 {w : Cond} (h : w ∈ k2_sels lw_privs) (hg : goodWord w = true) : w ∈ TB := TB_of (List.mem_append_left _ h) hg
theorem tb_1 {w : Cond} (h : w ∈ tables_1_1) (hg : goodWord w = true) : w ∈ TB := TB_of (List.mem_append_right _ (List.mem_append_left _ h)) hg
theorem tb_2 {w : Cond} (h : w ∈ tables_1_2) (hg : goodWord w = true) : w ∈ TB := TB_of (List.mem_append_right _ (List.mem_append_right _ (List.mem_append_left _ h))) hg
theorem tb_3 {w : Cond} (h : w ∈ tables_1_3) (hg : goodWord w = true) : w ∈ TB := TB_of (List.mem_append_right _ (List.mem_append_right _ (List.mem_append_right _ (List.mem_append_left _ h)))) hg
theorem tb_4 {w : Cond} (h : w ∈ tables_1_4) (hg : goodWord w = true) : w ∈ TB := TB_of (List.mem_append_right _ (List.mem_append_right _ (List.mem_append_right _ (List.mem_append_right _ (List.mem_append_left _ h))))) hg
theorem tb_5 {w : Cond} (h : w ∈ tables_1_5) (hg : goodWord w = true) : w ∈ TB := TB_of (List.mem_append_right _ (List.mem_append_right _ (List.mem_append_right _ (List.mem_append_right _ (List.mem_append_right _ (List.mem_append_left _ h)))))) hg
theorem tb_6 {w : Cond} (h : w ∈ tables_1_6) (hg : goodWord w = true) : w ∈ TB := TB_of (List.mem_append_right _ (List.mem_append_right _ (List.mem_append_right _ (List.mem_append_right _ (List.mem_append_right _ (List.mem_append_right _ h)))))) hg
def mxI (x y : Int32) : Int32 := if x < y then y else x
def mnI (x y : Int32) : Int32 := if y < x then y else x
theorem wMax : Cond.static Lib.Math.max.name ∈ TB ∧ Cond.initialized "java/lang/Math" ∈ TB ∧ Cond.code Lib.Math.max.name Lib.Math.max.code 2 (some .int) ∈ TB := ⟨TB_of (by decide +kernel) rfl, TB_of (by decide +kernel) rfl, TB_of (by decide +kernel) rfl⟩
theorem wMin : Cond.static Lib.Math.min.name ∈ TB ∧ Cond.initialized "java/lang/Math" ∈ TB ∧ Cond.code Lib.Math.min.name Lib.Math.min.code 2 (some .int) ∈ TB := ⟨TB_of (by decide +kernel) rfl, TB_of (by decide +kernel) rfl, TB_of (by decide +kernel) rfl⟩
section Rules3
variable {ρ : Type} {Γ : Cx ρ} {ow : String} {cc : ByteArray} {nL pc : Nat} {lv lv' : List (Nat × Value)} {st : List Value} {μ : Mem} {o : Option (ρ × Mem)}
theorem go_max {x y : Int32} {index d : Nat} (hΓ : Ok Γ ow cc nL) (hR : Rm Γ d) (hl : Cond.methodLink ow index Lib.Math.max.name ∈ TB) (hd : decode cc pc = .ok (.invokestatic index, 3)) (hW : Nat.ble (st.map fun v => v.category).sum 8 = true) (kk : Go Γ nL (pc + 3) lv (.int (mxI x y) :: st) μ o) : Go Γ nL pc lv (.int y :: .int x :: st) μ o := fun H locs ls r μ' ho hP hS hlv => va_mmax hΓ.1 hΓ.2.1 (hΓ.2.2.1.trans hlv.1.symm) hΓ.2.2.2.1 (hΓ.2.2.2.2.1 _ hl) (hΓ.2.2.2.2.1 _ wMax.1) (hΓ.2.2.2.2.1 _ wMax.2.1) (hΓ.2.2.2.2.1 _ wMax.2.2) (by have := hR.1; omega) (by have := hR.2.1; have := Nat.le_of_ble_eq_true hW; rw [cat_map]; omega) hR.2.2.1 hR.2.2.2 hd (kk H locs ls r μ' ho hP hS hlv)
theorem go_min {x y : Int32} {index d : Nat} (hΓ : Ok Γ ow cc nL) (hR : Rm Γ d) (hl : Cond.methodLink ow index Lib.Math.min.name ∈ TB) (hd : decode cc pc = .ok (.invokestatic index, 3)) (hW : Nat.ble (st.map fun v => v.category).sum 8 = true) (kk : Go Γ nL (pc + 3) lv (.int (mnI x y) :: st) μ o) : Go Γ nL pc lv (.int y :: .int x :: st) μ o := fun H locs ls r μ' ho hP hS hlv => va_mmin hΓ.1 hΓ.2.1 (hΓ.2.2.1.trans hlv.1.symm) hΓ.2.2.2.1 (hΓ.2.2.2.2.1 _ hl) (hΓ.2.2.2.2.1 _ wMin.1) (hΓ.2.2.2.2.1 _ wMin.2.1) (hΓ.2.2.2.2.1 _ wMin.2.2) (by have := hR.1; omega) (by have := hR.2.1; have := Nat.le_of_ble_eq_true hW; rw [cat_map]; omega) hR.2.2.1 hR.2.2.2 hd (kk H locs ls r μ' ho hP hS hlv)
end Rules3

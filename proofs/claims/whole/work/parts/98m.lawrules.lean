/-! the law: rules -/
/-- the law's locals at the head of its loop -/
def lvL (i : Nat) : List (Nat × Value) := [(0, .ref 66), (1, .ref 0), (2, .ref 44), (3, .ref 64), (4, .int (nI i))]
def LH (Γ : Cx Unit) (L : Nat) (sc : Nat → Int32) : Prop := Ok Γ "SortingNetsLaw" code 8 ∧ Rm Γ 40 ∧ va_X (xad Γ 66) L sc (xs Γ) (xs Γ).heap ∧ xad Γ 66 < (xs Γ).heap.size ∧ ¬ xA Γ (xad Γ 66)
theorem go_arg {Γ : Cx Unit} {i L pc : Nat} {sc : Nat → Int32} {st : List Value} {μ : Mem} {o : Option (Unit × Mem)} (h : LH Γ L sc) (hi : i + 5 ≤ L) (hL : L ≤ 2560) (k : Nat) (hk : k < 5) (hc : Int32.ofInt (k : Int) = nI k) (d0 : decode code pc = .ok (.aload_n 0, 1)) (d1 : decode code (pc + 1) = .ok (.iload 4, 2)) (d3 : decode code (pc + 3) = .ok (.iconst (k : Int), 1)) (d4 : decode code (pc + 4) = .ok (.iadd, 1)) (d5 : decode code (pc + 5) = .ok (.iaload, 1)) (kk : Go Γ 8 (pc + 6) (lvL i) (.int (sc (i + k)) :: st) μ o) : Go Γ 8 pc (lvL i) st μ o := by
  refine go_aload_n h.1 d0 rfl (q := 0) rfl ?_
  refine go_iload h.1 d1 (q := 4) rfl ?_
  refine go_iconst h.1 d3 hc ?_
  refine go_iadd h.1 d4 ?_
  intro H locs ls r μ' ho hP hS hl
  have e : nI i + nI k = nI (i + k) := nI_add i k
  have hin : vp_in (nI (i + k)) L := inb_in (inb_nI (by omega) (by omega))
  have kk' := kk H locs ls r μ' ho hP hS hl
  rw [← tn_nI (show i + k < 2 ^ 31 by omega)] at kk'
  rw [e]
  exact va_sld h.1.1 h.1.2.1 h.2.2.1 h.2.2.2.1 h.2.2.2.2 hS hin d5 kk'
theorem go_runV {ρ σ : Type} {Γ : Cx ρ} {em : σ → Option Value} {y : MethodName} {bytes : ByteArray} {maxL : Nat} {rt : Option FieldType} {d : Nat} {As : List Value} {F1 : Mem → Option (σ × Mem)} {ow : String} {cc : ByteArray} {nL pc : Nat} {lv : List (Nat × Value)} {st : List Value} {μ μ1 : Mem} {x : σ} {o : Option (ρ × Mem)} {n index ci p N : Nat} {ks : List Nat} {T : u_T} (hem : ∀ x, em x = none ∨ (∃ z, em x = some (.int z)) ∨ ∃ z, em x = some (.long z)) (hΓ : Ok Γ ow cc nL) (hR : Rm Γ d) (hM : CallF em y bytes maxL rt d (.ref p :: As) F1) (hm : MV y bytes maxL rt n) (hl : Cond.methodLink ow index y ∈ TB) (hd : decode cc pc = .ok (.invokevirtual index, 3)) (hn : As.length = n) (hs : sh[p]? = some (.inr (ci, ks))) (hc : classes[ci]? = some (y.cls, T, N)) {stk : List Value} (hst : stk = As.reverse ++ .ref p :: st) (hW : Nat.ble (st.map fun v => v.category).sum 8 = true) (h1 : F1 μ = some (x, μ1)) (kk : Go Γ nL (pc + 3) lv ((em x).toList ++ st) μ1 o) : Go Γ nL pc lv stk μ o := by
  classical
  refine go_eq (o' := bnd (F1 μ) (fun x' μ' => if x' = x ∧ μ' = μ1 then o else none)) (by rw [h1]; show o = if x = x ∧ μ1 = μ1 then o else none; rw [if_pos ⟨rfl, rfl⟩]) (go_callV hem hΓ hR hM hm hl hd hn hs hc hst hW (fun x' μ' => ?_))
  by_cases z : x' = x ∧ μ' = μ1
  · obtain ⟨rfl, rfl⟩ := z
    rw [if_pos ⟨rfl, rfl⟩]; exact kk
  · rw [if_neg z]; exact go_none

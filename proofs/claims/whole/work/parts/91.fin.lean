/-! all orders -/
def nrm {β : Type} : List Nat → (List Nat → β) → β
  | [], k => k []
  | x :: l, k => match x with
    | 0 => nrm l (fun m => k (0 :: m))
    | y + 1 => nrm l (fun m => k ((y + 1) :: m))
theorem nrm_eq {β : Type} : ∀ (l : List Nat) (k : List Nat → β), nrm l k = k l
  | [], k => rfl
  | 0 :: l, k => by rw [nrm, nrm_eq l]
  | (y + 1) :: l, k => by rw [nrm, nrm_eq l]
/-- whether the orders behind l end within f -/
def fin (n : Nat) : Nat → List Nat → Bool
  | 0, _ => false
  | f + 1, l => match nx n l with
    | none => true
    | some l' => nrm l' (fun m => fin n f m)
theorem fin_7 : fin 7 5040 (List.range 7) = true := by decide +kernel
theorem fin_s : ∀ n, n < 7 → 1 ≤ n → fin n 5040 (List.range n) = true := by decide +kernel
theorem fin_ok {n : Nat} (h1 : 1 ≤ n) (h7 : n ≤ 7) : fin n 5040 (List.range n) = true := by
  by_cases e : n = 7
  · subst e; exact fin_7
  · exact fin_s n (by omega) h1

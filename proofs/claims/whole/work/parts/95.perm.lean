/-! all orders, twice: as the model finds them, and by exchanges of wires -/
def itr (n : Nat) : Nat → List Nat → List (List Nat)
  | 0, _ => []
  | f + 1, l => l :: (match nx n l with
    | none => []
    | some l' => nrm l' (fun m => itr n f m))
def enc : List Nat → Nat
  | [] => 0
  | x :: l => x + 8 * enc l
def dec : Nat → Nat → List Nat
  | 0, _ => []
  | n + 1, c => c % 8 :: dec n (c / 8)
theorem dec_enc : ∀ (l : List Nat), (∀ x ∈ l, x < 8) → dec l.length (enc l) = l
  | [], _ => rfl
  | x :: l, h => by
    have hx := h x List.mem_cons_self
    have ih := dec_enc l (fun y hy => h y (List.mem_cons_of_mem _ hy))
    rw [List.length_cons, dec, enc, show (x + 8 * enc l) % 8 = x by omega, show (x + 8 * enc l) / 8 = enc l by omega, ih]
def bs : List Nat → Nat → Option Nat
  | [], X => some X
  | a :: l, X => if X.testBit a then none else bs l (X ||| 2 ^ a)
def gl (n : Nat) (l : List Nat) : Bool := (l.length == n) && l.all (fun x => decide (x < 8))
theorem fin_s720 : ∀ n, n < 7 → 1 ≤ n → fin n 720 (List.range n) = true := by decide +kernel
theorem bs_ok : ∀ n, n < 7 → 1 ≤ n → bs ((itr n 720 (List.range n)).map enc) 0 = bs ((pl n (n - 1)).map enc) 0 := by decide +kernel
theorem bs_some : ∀ n, n < 7 → 1 ≤ n → (bs ((pl n (n - 1)).map enc) 0).isSome = true := by decide +kernel
theorem gl_1 : ∀ n, n < 7 → 1 ≤ n → (itr n 720 (List.range n)).all (gl n) = true := by decide +kernel
theorem gl_2 : ∀ n, n < 7 → 1 ≤ n → (pl n (n - 1)).all (gl n) = true := by decide +kernel

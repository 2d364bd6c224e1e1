/-! how few comparers and layers: the pure course, run by the kernel -/
def frc {β : Type} (x : Nat) (k : Nat → β) : β := match x with
  | 0 => k 0
  | y + 1 => k (y + 1)
theorem frc_eq {β : Type} (x : Nat) (k : Nat → β) : frc x k = k x := by cases x <;> rfl
def pf1 (x : Nat) : Nat := x - (x / 2 &&& 6148914691236517205)
def pf2 (a : Nat) : Nat := (a &&& 3689348814741910323) + (a / 4 &&& 3689348814741910323)
def pf (x : Nat) : Nat := ((pf2 (pf1 x) + pf2 (pf1 x) / 16) &&& 1085102592571150095) % 255
def fitb (t g k : Nat) : Bool := Nat.ble (pf (t &&& colN k)) (pf (g &&& colN k)) && Nat.ble (pf (t &&& (colN k ^^^ M64))) (pf (g &&& (colN k ^^^ M64)))
def anyk (P : Nat → Bool) : Nat → Bool
  | 0 => false
  | m + 1 => P m || anyk P m
def wx (n g : Nat) : Nat → Nat → Bool
  | 0, s => Nat.beq (s &&& g) s
  | d + 1, s => anyk (fun k => frc (exN s (n - 1 - (d + 1)) (n - 1 - (d + 1) + k)) (fun t => fitb t g (n - 1 - (d + 1)) && wx n g d t)) (d + 2)
def Wx (n a b : Nat) : Bool := Nat.ble (pf a) (pf b) && wx n b (n - 1) a
def prs (n : Nat) : List (Nat × Nat) := (List.range (n - 1)).flatMap fun i => (List.range (n - (i + 1))).map fun k => (i, i + 1 + k)
/-- the comparers of all, by number, that the mask takes -/
def tk : List (Nat × Nat) → Nat → List (Nat × Nat)
  | [], _ => []
  | c :: l, m => if m % 2 = 1 then c :: tk l (m / 2) else tk l (m / 2)
/-- no two have a wire in common: 'u' tells which are taken -/
def dis : List (Nat × Nat) → Nat → Bool
  | [], _ => true
  | c :: l, u => ((u &&& (2 ^ c.1 ||| 2 ^ c.2)) == 0) && dis l (u ||| (2 ^ c.1 ||| 2 ^ c.2))
def mvs (n : Nat) (lay : Bool) : List (List (Nat × Nat)) := if lay then ((List.range (2 ^ (prs n).length - 1)).map fun m => tk (prs n) (m + 1)).filter fun l => dis l 0 else (prs n).map fun c => [c]
def cns (n : Nat) (W : Nat → Nat → Bool) (fr : List Nat) (S : Nat) : List Nat := if fr.any (fun f => W f S) then fr else (fr.filter (fun f => !W S f)) ++ [S]
def foldC (n : Nat) : List Nat → List Nat → (List Nat → Bool) → Bool
  | [], fr, k => k fr
  | S :: l, fr, k => frc S fun s => nrm (cns n (Wx n) fr s) fun fr' => Nat.ble fr'.length 60 && foldC n l fr' k
def cnd1 (ms : List (List (Nat × Nat))) (S : Nat) : List Nat := ms.map fun l => stS l S
def foldK (n : Nat) (ms : List (List (Nat × Nat))) : List Nat → List Nat → (List Nat → Bool) → Bool
  | [], fr, k => k fr
  | S :: l, fr, k => foldC n (cnd1 ms S) fr fun fr' => foldK n ms l fr' k
def chk (n : Nat) (ms : List (List (Nat × Nat))) : Nat → List Nat → Bool
  | 0, _ => false
  | f + 1, kept => if kept.any (fun s => Nat.beq (pf s) (n + 1)) then true else foldK n ms kept [] fun fr => chk n ms f fr
theorem chk_s : ∀ n, n < 5 → 1 ≤ n → chk n (mvs n false) 15 [2 ^ 2 ^ n - 1] = true ∧ chk n (mvs n true) 15 [2 ^ 2 ^ n - 1] = true := by decide +kernel

/-! what a trial holds: by patterns -/
theorem tb_xr {q i j : Nat} (hij : i ≠ j) (w : Nat) : tb (xr q i j) w = if w = i ∨ w = j then 1 - tb q w else tb q w := by
  have h1 := tb_bit (xr q i j) w
  have h2 := tb_bit q w
  have t1 := tb_lt (xr q i j) w
  have t2 := tb_lt q w
  unfold xr at h1
  rw [Nat.testBit_xor, Nat.testBit_or, Nat.testBit_two_pow, Nat.testBit_two_pow, h2] at h1
  have e : (tb (q ^^^ (2 ^ i ||| 2 ^ j)) w) = tb (xr q i j) w := rfl
  rw [e] at h1
  generalize tb (xr q i j) w = A at h1 t1 ⊢
  generalize tb q w = B at h1 t2 ⊢
  have e3 : (A = 1) ↔ ¬ ((B = 1) ↔ (i = w ∨ j = w)) := by
    by_cases a : A = 1 <;> by_cases b : B = 1 <;> by_cases c : i = w <;> by_cases d : j = w <;> simp [a, b, c, d] at h1 ⊢ <;> omega
  by_cases a : w = i ∨ w = j
  · rw [if_pos a]
    have : i = w ∨ j = w := (by omega)
    simp only [this, iff_true] at e3
    omega
  · rw [if_neg a]
    have : ¬ (i = w ∨ j = w) := (by omega)
    simp only [this, iff_false, Decidable.not_not] at e3
    omega
theorem xr_comm (q i j : Nat) : xr q i j = xr q j i := by unfold xr; rw [Nat.or_comm]
/-- the lesser comes to i -/
def cmp (q i j : Nat) : Nat := if tb q j < tb q i then xr q i j else q
theorem tb_cmp {q i j : Nat} (hij : i ≠ j) (w : Nat) : tb (cmp q i j) w = if w = i then min (tb q i) (tb q j) else if w = j then max (tb q i) (tb q j) else tb q w := by
  unfold cmp
  have t1 := tb_lt q i
  have t2 := tb_lt q j
  by_cases h : tb q j < tb q i
  · rw [if_pos h, tb_xr hij]
    by_cases a : w = i
    · subst a; simp; omega
    · by_cases b : w = j
      · subst b; simp [a]; omega
      · simp [a, b]
  · rw [if_neg h]
    by_cases a : w = i
    · subst a; simp; omega
    · by_cases b : w = j
      · subst b; simp [a]; omega
      · simp [a, b]
def Bits (n : Nat) (W : Nat → Nat → Int64) (P : Nat → Nat) : Prop := ∀ w, w < n → ∀ b, b < bks n → ∀ t, t < 64 → lb (W w b) t = (decide (64 * b + t < 2 ^ n) && decide (tb (P (64 * b + t)) w = 1))
theorem bits_start : ∀ n, n < 9 → 2 ≤ n → ∀ w, w < n → ∀ b, b < bks n → ∀ t, t < 64 → lb (col w b &&& msk n) t = (decide (64 * b + t < 2 ^ n) && decide (tb (64 * b + t) w = 1)) := by decide +kernel
theorem Bits.start {n : Nat} (h2 : 2 ≤ n) (h8 : n ≤ 8) : Bits n (fun w b => col w b &&& msk n) (fun x => x) := fun w hw b hb t ht => bits_start n (by omega) h2 w hw b hb t ht
theorem Bits.cm {n i j : Nat} {W : Nat → Nat → Int64} {P : Nat → Nat} (h : Bits n W P) (hi : i < n) (hj : j < n) (hij : i ≠ j) : Bits n (cmW W i j) (fun x => cmp (P x) i j) := by
  intro w hw b hb t ht
  have a1 := h i hi b hb t ht
  have a2 := h j hj b hb t ht
  have t1 := tb_lt (P (64 * b + t)) i
  have t2 := tb_lt (P (64 * b + t)) j
  rw [tb_cmp hij]
  unfold cmW
  by_cases z1 : w = i
  · rw [if_pos z1, if_pos z1, lb_and, a1, a2]
    by_cases y : 64 * b + t < 2 ^ n
    · simp only [y, decide_true, Bool.true_and]
      have : (min (tb (P (64 * b + t)) i) (tb (P (64 * b + t)) j) = 1) ↔ (tb (P (64 * b + t)) i = 1 ∧ tb (P (64 * b + t)) j = 1) := (by omega)
      simp [this]
    · simp [y]
  · by_cases z2 : w = j
    · rw [if_neg z1, if_pos z2, if_neg z1, if_pos z2, lb_or, a1, a2]
      by_cases y : 64 * b + t < 2 ^ n
      · simp only [y, decide_true, Bool.true_and]
        have : (max (tb (P (64 * b + t)) i) (tb (P (64 * b + t)) j) = 1) ↔ (tb (P (64 * b + t)) i = 1 ∨ tb (P (64 * b + t)) j = 1) := (by omega)
        simp [this]
      · simp [y]
    · rw [if_neg z1, if_neg z2, if_neg z1, if_neg z2]
      exact h w hw b hb t ht
theorem rs_succ0 {cs : List (Nat × Nat)} {b : Nat → Bool} {how p k : Nat} (hb : b k = false) : rs cs b how p (k + 1) = cmp (rs cs b how p k) (cl cs k) (ch cs k) := by
  rw [rs]
  unfold swp cmp
  simp [hb]
theorem Bits.rp {n a : Nat} {cs : List (Nat × Nat)} {W : Nat → Nat → Int64} {b : Nat → Bool} {how : Nat} (w : WN n cs) (h : Bits n W (fun x => rs cs b how x a)) : ∀ m, a + m ≤ cs.length → (∀ k, a ≤ k → k < a + m → b k = false) → Bits n (rpW cs W a m) (fun x => rs cs b how x (a + m))
  | 0, _, _ => h
  | m + 1, hm, hb => by
    have ih := Bits.rp w h m (by omega) (fun k h1 h2 => hb k h1 (by omega))
    have c := w.2.2.2 (a + m) (by omega)
    have := ih.cm (i := cl cs (a + m)) (j := ch cs (a + m)) (by omega) (by omega) (by omega)
    rw [rpW]
    have e : (fun x => rs cs b how x (a + (m + 1))) = (fun x => cmp (rs cs b how x (a + m)) (cl cs (a + m)) (ch cs (a + m))) := funext fun x => rs_succ0 (hb (a + m) (by omega) (by omega))
    rw [e]
    exact this
theorem lb_uo {n b t : Nat} {W : Nat → Nat → Int64} {P : Nat → Nat} (h : Bits n W P) (hb : b < bks n) (ht : t < 64) : ∀ k, k < n → lb (uo W b k) t = (decide (64 * b + t < 2 ^ n) && !soK (P (64 * b + t)) k)
  | 0, _ => by simp [uo, soK, lb_zero]
  | k + 1, hk => by
    have ih := lb_uo h hb ht k (by omega)
    have a1 := h k (by omega) b hb t ht
    have a2 := h (k + 1) hk b hb t ht
    have t1 := tb_lt (P (64 * b + t)) k
    have t2 := tb_lt (P (64 * b + t)) (k + 1)
    rw [uo, lb_or, ih, lb_and, lb_not _ ht, a1, a2, soK]
    by_cases y : 64 * b + t < 2 ^ n
    · simp only [y, decide_true, Bool.true_and]
      have : (tb (P (64 * b + t)) k ≤ tb (P (64 * b + t)) (k + 1)) ↔ ¬ (tb (P (64 * b + t)) k = 1 ∧ ¬ tb (P (64 * b + t)) (k + 1) = 1) := (by omega)
      simp only [this]
      by_cases z1 : tb (P (64 * b + t)) k = 1
      · by_cases z2 : tb (P (64 * b + t)) (k + 1) = 1
        · simp [z1, z2]
        · simp [z1, z2]
      · simp [z1]
    · simp [y]
/-- the set that 'found' holds -/
def PS (μ : Mem) (S : Nat → Bool) : Prop := ∀ b, b < 4 → ∀ t, t < 64 → lb (gL μ 32 b) t = S (64 * b + t)
theorem PS.fr {A : Nat → Nat → Prop} {μ μ' : Mem} {S : Nat → Bool} (h : PS μ S) (f : Fr A μ μ') (h0 : ∀ k, ¬ A 32 k) : PS μ' S := fun b hb t ht => by rw [f.L (h0 b)]; exact h b hb t ht
theorem PS.un {n : Nat} {μ : Mem} {W : Nat → Nat → Int64} {P : Nat → Nat} (h : Bits n W P) (h2 : 2 ≤ n) (h8 : n ≤ 8) (g : FW μ (fun b => if b < bks n then uo W b (n - 1) else 0)) : PS μ (fun x => decide (x < 2 ^ n) && !so n (P x)) := by
  intro b hb t ht
  rw [g b hb]
  dsimp only
  have := bks_64 n (by omega)
  by_cases z : b < bks n
  · rw [if_pos z, lb_uo h z ht (n - 1) (by omega)]
    rfl
  · rw [if_neg z, lb_zero]
    have : ¬ 64 * b + t < 2 ^ n := (by omega)
    simp [this]
theorem cn_256 (S : Nat → Bool) : cn S 256 = ((cn S 64 + cn (fun t => S (64 + t)) 64) + cn (fun t => S (128 + t)) 64) + cn (fun t => S (192 + t)) 64 := by
  rw [show (256 : Nat) = 192 + 64 from rfl, cn_split, show (192 : Nat) = 128 + 64 from rfl, cn_split, show (128 : Nat) = 64 + 64 from rfl, cn_split]
theorem cn_congr {P Q : Nat → Bool} : ∀ m, (∀ t, t < m → P t = Q t) → cn P m = cn Q m
  | 0, _ => rfl
  | m + 1, h => by rw [cn, cn, cn_congr m (fun t ht => h t (by omega)), h m (by omega)]
theorem sPS_size (N : Nat) (hN : 10000 ≤ N) {μ : Mem} {S : Nat → Bool} (h : PS μ S) : f_PatternSet_size N μ = some (nI (cn S 256), μ) := by
  have cb : ∀ i, cn S i ≤ i := fun i => cn_le _ _
  obtain ⟨⟨r, μ'⟩, ⟨k1, k2⟩, e⟩ := for_up (fun n' i (q : Int32 × Mem) => lp_PatternSet_size_4 N (fun v7 μ8 => some (v7, μ8)) n' q.1 i q.2) (fun q => some (q.1, q.2)) 4 (fun i q => q.1 = nI (cn S (64 * i)) ∧ q.2 = μ)
    (by
      intro n' i ⟨r, κ⟩ hi ⟨i1, i2⟩
      dsimp only at i1 i2
      subst i1; subst i2
      refine ⟨(nI (cn S (64 * (i + 1))), κ), ⟨rfl, rfl⟩, ?_⟩
      have e : cn (lb (gL κ 32 i)) 64 = cn (fun t => S (64 * i + t)) 64 := cn_congr 64 (fun t ht => h i hi t ht)
      have := cn_split S (64 * i) 64
      dsimp only
      rw [lp_PatternSet_size_4, if_pos (show nI i < 4 from nI_lt (b := 4) hi (by omega)), inb_nI hi (by omega), ck_tt, sPop, bnd_some, tn_nI (by omega), e]
      simp only [lt']
      rw [nI_add, nI_1, ← this]; rfl)
    (by
      intro n' ⟨r, κ⟩ ⟨i1, i2⟩
      dsimp only
      rw [lp_PatternSet_size_4, if_neg (show ¬ nI 4 < 4 from nI_nlt (b := 4) (Nat.le_refl _) (by omega))])
    4 0 N (0, μ) (by omega) (by omega) ⟨rfl, rfl⟩
  dsimp only at k1 k2 e
  subst k1; subst k2
  exact e

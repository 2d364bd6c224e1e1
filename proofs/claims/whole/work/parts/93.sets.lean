/-! sets of patterns of few wires, as numbers -/
abbrev M64 : Nat := 18446744073709551615
theorem M64_t (t : Nat) : M64.testBit t = decide (t < 64) := by
  have : M64 = 2 ^ 64 - 1 := rfl
  rw [this, Nat.testBit_two_pow_sub_one]
theorem lN_and (a b : Nat) : lN a &&& lN b = lN (a &&& b) := lb_ext (fun t ht => by rw [lb_and, lb_lN _ _ ht, lb_lN _ _ ht, lb_lN _ _ ht, Nat.testBit_and])
theorem lN_or (a b : Nat) : lN a ||| lN b = lN (a ||| b) := lb_ext (fun t ht => by rw [lb_or, lb_lN _ _ ht, lb_lN _ _ ht, lb_lN _ _ ht, Nat.testBit_or])
theorem lN_xor (a b : Nat) : lN a ^^^ lN b = lN (a ^^^ b) := lb_ext (fun t ht => by rw [lb_xor, lb_lN _ _ ht, lb_lN _ _ ht, lb_lN _ _ ht, Nat.testBit_xor])
theorem lN_m1 : (-1 : Int64) = lN M64 := lb_ext (fun t ht => by rw [lb_m1 ht, lb_lN _ _ ht, M64_t]; simp [ht])
theorem lN_not (a : Nat) : lN a ^^^ (-1) = lN (a ^^^ M64) := by rw [lN_m1, lN_xor]
theorem lN_shl (a : Nat) {k : Nat} (hk : k < 64) : shlL (lN a) (nI k) = lN (a <<< k) := lb_ext (fun t ht => by
  rw [lb_shl _ hk ht, lb_lN _ _ ht, Nat.testBit_shiftLeft]
  by_cases z : k ≤ t
  · rw [lb_lN _ _ (show t - k < 64 by omega)]
  · simp [z])
theorem tb_big {a t : Nat} (h : a < 2 ^ 64) (ht : 64 ≤ t) : a.testBit t = false := Nat.testBit_lt_two_pow (Nat.lt_of_lt_of_le h (Nat.pow_le_pow_right (by decide) ht))
theorem lN_ush {a : Nat} (ha : a < 2 ^ 64) {k : Nat} (hk : k < 64) : ushL (lN a) (nI k) = lN (a >>> k) := lb_ext (fun t ht => by
  rw [lb_ush _ hk, lb_lN _ _ ht, Nat.testBit_shiftRight]
  by_cases z : k + t < 64
  · rw [lb_lN _ _ z]
  · rw [lb_out _ (by omega), tb_big ha (by omega)])
theorem lN_mod (a : Nat) : lN (a % 2 ^ 64) = lN a := lb_ext (fun t ht => by rw [lb_lN _ _ ht, lb_lN _ _ ht, Nat.testBit_mod_two_pow]; simp [ht])
def colN (i : Nat) : Nat := [0xAAAAAAAAAAAAAAAA, 0xCCCCCCCCCCCCCCCC, 0xF0F0F0F0F0F0F0F0, 0xFF00FF00FF00FF00, 0xFFFF0000FFFF0000, 0xFFFFFFFF00000000].getD i 0
theorem colf_N : ∀ i, i < 6 → colf i = lN (colN i) := by decide +kernel
theorem colN_t : ∀ i, i < 6 → ∀ q, q < 64 → (colN i).testBit q = decide (tb q i = 1) := by decide +kernel
theorem colN_lt : ∀ i, i < 6 → colN i < 2 ^ 64 := by decide
def lo (i j : Nat) : Nat := colN i &&& (colN j ^^^ M64)
def exN (s i j : Nat) : Nat := if i = j then s else (((s &&& ((lo i j ||| lo j i) ^^^ M64)) ||| ((s &&& lo i j) <<< (2 ^ j - 2 ^ i))) ||| ((s &&& lo j i) >>> (2 ^ j - 2 ^ i))) % 2 ^ 64
def sp (q i j : Nat) : Nat := if tb q i = 1 ∧ tb q j = 0 then q + (2 ^ j - 2 ^ i) else if tb q j = 1 ∧ tb q i = 0 then q - (2 ^ j - 2 ^ i) else q
theorem fA : ∀ i, i < 6 → ∀ j, j < 6 → i < j → ∀ q, q < 64 → (decide (2 ^ j - 2 ^ i ≤ q) && (lo i j).testBit (q - (2 ^ j - 2 ^ i))) = (decide (tb q j = 1) && decide (tb q i = 0)) := by decide +kernel
theorem fB : ∀ i, i < 6 → ∀ j, j < 6 → i < j → ∀ q, q < 64 → (lo j i).testBit ((2 ^ j - 2 ^ i) + q) = (decide (tb q i = 1) && decide (tb q j = 0)) := by decide +kernel
theorem fC : ∀ i, i < 6 → ∀ j, j < 6 → i < j → ∀ q, q < 64 → ((lo i j ||| lo j i) ^^^ M64).testBit q = decide (tb q i = tb q j) := by decide +kernel
theorem exN_t {s i j q : Nat} (hi : i < j) (hj : j < 6) (hq : q < 64) : (exN s i j).testBit q = s.testBit (sp q i j) := by
  have a := fA i (by omega) j hj hi q hq
  have b := fB i (by omega) j hj hi q hq
  have c := fC i (by omega) j hj hi q hq
  have t1 := tb_lt q i
  have t2 := tb_lt q j
  unfold exN sp
  rw [if_neg (by omega), Nat.testBit_mod_two_pow, Nat.testBit_or, Nat.testBit_or, Nat.testBit_and, c, Nat.testBit_shiftLeft, Nat.testBit_and, Nat.testBit_shiftRight, Nat.testBit_and, b]
  simp only [hq, decide_true, Bool.true_and]
  have a' : (decide (q ≥ 2 ^ j - 2 ^ i) && (s.testBit (q - (2 ^ j - 2 ^ i)) && (lo i j).testBit (q - (2 ^ j - 2 ^ i)))) = (s.testBit (q - (2 ^ j - 2 ^ i)) && (decide (tb q j = 1) && decide (tb q i = 0))) := by
    rw [← a]
    cases s.testBit (q - (2 ^ j - 2 ^ i)) <;> simp
  rw [a']
  by_cases x : tb q i = 1
  · by_cases y : tb q j = 1
    · rw [if_neg (by omega), if_neg (by omega)]; simp [x, y]
    · have y0 : tb q j = 0 := (by omega)
      rw [if_pos ⟨x, y0⟩]; simp [x, y0, Nat.add_comm]
  · have x0 : tb q i = 0 := (by omega)
    by_cases y : tb q j = 1
    · rw [if_neg (by omega), if_pos ⟨y, x0⟩]; simp [x0, y]
    · have y0 : tb q j = 0 := (by omega)
      rw [if_neg (by omega), if_neg (by omega)]; simp [x0, y0]
def sg (i j w : Nat) : Nat := if w = i then j else if w = j then i else w
theorem sp_tb : ∀ i, i < 6 → ∀ j, j < 6 → i < j → ∀ q, q < 64 → ∀ w, w < 6 → tb (sp q i j) w = tb q (sg i j w) := by decide +kernel
theorem sp_b1 : ∀ n, n < 7 → ∀ j, j < n → ∀ i, i < j → ∀ q, q < 64 → decide (q < 2 ^ n) = decide (sp q i j < 2 ^ n) := by decide +kernel
theorem sp_b2 : ∀ j, j < 6 → ∀ i, i < j → ∀ q, q < 64 → sp q i j < 64 ∧ sp (sp q i j) i j = q := by decide +kernel
theorem sp_b {n j i q : Nat} (hn : n ≤ 6) (hj : j < n) (hi : i < j) (hq : q < 64) : (q < 2 ^ n ↔ sp q i j < 2 ^ n) ∧ sp q i j < 64 ∧ sp (sp q i j) i j = q := ⟨decide_eq_decide.mp (sp_b1 n (by omega) j hj i hi q hq), sp_b2 j (by omega) i hi q hq⟩
theorem sp_perm : ∀ i, i < 6 → ∀ j, j < 6 → i < j → ((List.range 64).map (fun q => sp q i j)).isPerm (List.range 64) = true := by decide +kernel
theorem cn_sp {i j : Nat} (hi : i < j) (hj : j < 6) (P : Nat → Bool) : cn (fun q => P (sp q i j)) 64 = cn P 64 := by
  have := (List.isPerm_iff.mp (sp_perm i (by omega) j hj hi)).countP_eq P
  rw [List.countP_map] at this
  rw [cn_cP, cn_cP]
  exact this
theorem lo_lt {i j : Nat} (hi : i < 6) : lo i j < 2 ^ 64 := Nat.lt_of_le_of_lt Nat.and_le_left (colN_lt i hi)
theorem sX_exchanged (N : Nat) {s i j : Nat} (hij : i ≤ j) (hj : j < 6) (μ : Mem) : f_Sets_exchanged N (lN s) (nI i) (nI j) μ = some (lN (exN s i j), μ) := by
  unfold f_Sets_exchanged exN
  by_cases z : i = j
  · subst z; rw [if_pos rfl, if_pos rfl]
  · have p1 : 2 ^ i ≤ 2 ^ j := Nat.pow_le_pow_right (by decide) hij
    have p2 : 2 ^ j ≤ 2 ^ 5 := Nat.pow_le_pow_right (by decide) (by omega)
    have dlt : 2 ^ j - 2 ^ i < 64 := Nat.lt_of_le_of_lt (Nat.sub_le _ _) (Nat.lt_of_le_of_lt p2 (by decide))
    have ne : ¬ nI i = nI j := fun q => z ((nI_eq (by omega) (by omega)).mp q)
    rw [if_neg ne, if_neg z, one_shl (by omega), one_shl (by omega), pk_sub p1, ltE, inb_nI (show i < 6 by omega) (by omega), inb_nI hj (by omega), ckE, ckE, tn_nI (show i < 2 ^ 31 by omega), tn_nI (show j < 2 ^ 31 by omega), colf_N i (by omega), colf_N j hj, lN_not, lN_not, lN_and, lN_and, ltE, ckE, ckE, ltE]
    have e1 : colN i &&& (colN j ^^^ M64) = lo i j := rfl
    have e2 : colN j &&& (colN i ^^^ M64) = lo j i := rfl
    have l2 : s % 2 ^ 64 &&& lo j i < 2 ^ 64 := Nat.lt_of_le_of_lt Nat.and_le_right (lo_lt hj)
    have l3 : s &&& lo j i < 2 ^ 64 := Nat.lt_of_le_of_lt Nat.and_le_right (lo_lt hj)
    rw [e1, e2, lN_or, lN_not, lN_and, lN_and, lN_and, lN_shl _ dlt, lN_ush l3 dlt, lN_or, lN_or, lN_mod]
def cmpN (s i j : Nat) : Nat := ((s ^^^ ((s &&& colN i) &&& (colN j ^^^ M64))) ||| (((s &&& colN i) &&& (colN j ^^^ M64)) <<< (2 ^ j - 2 ^ i))) % 2 ^ 64
theorem sX_compared (N : Nat) {s i j : Nat} (hij : i < j) (hj : j < 6) (μ : Mem) : f_Sets_compared N (lN s) (nI i) (nI j) μ = some (lN (cmpN s i j), μ) := by
  have p1 : 2 ^ i ≤ 2 ^ j := Nat.pow_le_pow_right (by decide) (by omega)
  have p2 : 2 ^ j ≤ 2 ^ 5 := Nat.pow_le_pow_right (by decide) (by omega)
  have dlt : 2 ^ j - 2 ^ i < 64 := Nat.lt_of_le_of_lt (Nat.sub_le _ _) (Nat.lt_of_le_of_lt p2 (by decide))
  unfold f_Sets_compared cmpN
  rw [inb_nI (show i < 6 by omega) (by omega), inb_nI hj (by omega), ckE, ckE, tn_nI (show i < 2 ^ 31 by omega), tn_nI (show j < 2 ^ 31 by omega), colf_N i (by omega), colf_N j hj, lN_not, lN_and, lN_and, ltE, lN_xor, one_shl (by omega), one_shl (by omega), pk_sub p1, lN_shl _ dlt, lN_or, lN_mod]
theorem fD : ∀ i, i < 6 → ∀ j, j < 6 → i < j → ∀ q, q < 64 → (decide (2 ^ j - 2 ^ i ≤ q) && ((colN i).testBit (q - (2 ^ j - 2 ^ i)) && (colN j ^^^ M64).testBit (q - (2 ^ j - 2 ^ i)))) = (decide (tb q j = 1) && decide (tb q i = 0)) := by decide +kernel
theorem cmp_v : ∀ i, i < 6 → ∀ j, j < 6 → i < j → ∀ p, p < 64 → cmp p i j = if tb p i = 1 ∧ tb p j = 0 then p + (2 ^ j - 2 ^ i) else p := by decide +kernel
theorem cmp_u' : ∀ i, i < 6 → ∀ j, j < 6 → i < j → ∀ q, q < 64 → (!(decide (tb q j = 1) && decide (tb q i = 0)) || (decide (2 ^ j - 2 ^ i ≤ q) && (decide (tb (q - (2 ^ j - 2 ^ i)) i = 1) && decide (tb (q - (2 ^ j - 2 ^ i)) j = 0)))) = true := by decide +kernel
theorem cmp_u {i j q : Nat} (hi : i < j) (hj : j < 6) (hq : q < 64) (h : tb q j = 1 ∧ tb q i = 0) : 2 ^ j - 2 ^ i ≤ q ∧ tb (q - (2 ^ j - 2 ^ i)) i = 1 ∧ tb (q - (2 ^ j - 2 ^ i)) j = 0 := by
  have := cmp_u' i (by omega) j hj hi q hq
  simpa [h.1, h.2] using this
theorem cmp_w' : ∀ i, i < 6 → ∀ j, j < 6 → i < j → ∀ p, p < 64 → (!(decide (tb p i = 1) && decide (tb p j = 0)) || (decide (tb (p + (2 ^ j - 2 ^ i)) j = 1) && decide (tb (p + (2 ^ j - 2 ^ i)) i = 0))) = true := by decide +kernel
theorem cmp_w {i j p : Nat} (hi : i < j) (hj : j < 6) (hp : p < 64) (h : tb p i = 1 ∧ tb p j = 0) : tb (p + (2 ^ j - 2 ^ i)) j = 1 ∧ tb (p + (2 ^ j - 2 ^ i)) i = 0 := by
  have := cmp_w' i (by omega) j hj hi p hp
  simpa [h.1, h.2] using this
/-- what the comparer i, j makes of the set s: a pattern q is in it, where one of s becomes it -/
theorem cmpN_t {s i j q : Nat} (hi : i < j) (hj : j < 6) (hq : q < 64) : (cmpN s i j).testBit q = true ↔ ∃ p, p < 64 ∧ s.testBit p = true ∧ cmp p i j = q := by
  have d := fD i (by omega) j hj hi q hq
  have t1 := tb_lt q i
  have t2 := tb_lt q j
  have c1 := colN_t i (by omega) q hq
  have c2 := colN_t j hj q hq
  unfold cmpN
  rw [Nat.testBit_mod_two_pow, Nat.testBit_or, Nat.testBit_xor, Nat.testBit_and, Nat.testBit_and, Nat.testBit_shiftLeft, Nat.testBit_and, Nat.testBit_and, Nat.testBit_xor, c1, c2, M64_t]
  simp only [hq, decide_true, Bool.true_and]
  have a' : (decide (q ≥ 2 ^ j - 2 ^ i) && ((s.testBit (q - (2 ^ j - 2 ^ i)) && (colN i).testBit (q - (2 ^ j - 2 ^ i))) && (colN j ^^^ M64).testBit (q - (2 ^ j - 2 ^ i)))) = (s.testBit (q - (2 ^ j - 2 ^ i)) && (decide (tb q j = 1) && decide (tb q i = 0))) := by
    rw [← d]
    cases s.testBit (q - (2 ^ j - 2 ^ i)) <;> simp
  rw [a']
  have key : (∃ p, p < 64 ∧ s.testBit p = true ∧ cmp p i j = q) ↔ ((s.testBit q = true ∧ ¬ (tb q i = 1 ∧ tb q j = 0)) ∨ (s.testBit (q - (2 ^ j - 2 ^ i)) = true ∧ tb q j = 1 ∧ tb q i = 0)) := by
    constructor
    · rintro ⟨p, h1, h2, h3⟩
      rw [cmp_v i (by omega) j hj hi p h1] at h3
      by_cases z : tb p i = 1 ∧ tb p j = 0
      · rw [if_pos z] at h3
        have w := cmp_w hi hj h1 z
        rw [h3] at w
        refine Or.inr ⟨?_, w⟩
        rw [← h3, Nat.add_sub_cancel]; exact h2
      · rw [if_neg z] at h3
        subst h3
        exact Or.inl ⟨h2, z⟩
    · rintro (⟨h1, h2⟩ | ⟨h1, h2⟩)
      · exact ⟨q, hq, h1, by rw [cmp_v i (by omega) j hj hi q hq, if_neg h2]⟩
      · obtain ⟨u1, u2⟩ := cmp_u hi hj hq h2
        exact ⟨q - (2 ^ j - 2 ^ i), (by omega), h1, by rw [cmp_v i (by omega) j hj hi _ (by omega), if_pos u2]; omega⟩
  rw [key]
  by_cases x : tb q i = 1
  · by_cases y : tb q j = 1
    · simp [x, y]
    · have y0 : tb q j = 0 := (by omega)
      simp [x, y0]
  · have x0 : tb q i = 0 := (by omega)
    by_cases y : tb q j = 1
    · simp [x0, y]
    · have y0 : tb q j = 0 := (by omega)
      simp [x0, y0]
-- the model's way
def cAl (s i j : Nat) : Nat → Nat
  | 0 => 0
  | p + 1 => cAl s i j p ||| (if s.testBit p then 2 ^ cmp p i j else 0)
theorem cAl_t (s i j q : Nat) : ∀ m, (cAl s i j m).testBit q = true ↔ ∃ p, p < m ∧ s.testBit p = true ∧ cmp p i j = q
  | 0 => by simp [cAl]
  | m + 1 => by
    rw [cAl, Nat.testBit_or, Bool.or_eq_true, cAl_t s i j q m]
    constructor
    · rintro (⟨p, h1, h2⟩ | h)
      · exact ⟨p, (by omega), h2⟩
      · by_cases z : s.testBit m = true
        · rw [if_pos z, Nat.testBit_two_pow, decide_eq_true_iff] at h
          exact ⟨m, (by omega), z, h⟩
        · rw [if_neg z] at h; simp at h
    · rintro ⟨p, h1, h2, h3⟩
      by_cases e : p = m
      · subst e
        rw [if_pos h2, Nat.testBit_two_pow, decide_eq_true_iff]
        exact Or.inr h3
      · exact Or.inl ⟨p, (by omega), h2, h3⟩
theorem pp6 {n : Nat} (h : n ≤ 6) : 2 ^ n ≤ 64 := show 2 ^ n ≤ 2 ^ 6 from Nat.pow_le_pow_right (by decide) h
theorem set_t {n s p : Nat} (h : s < 2 ^ 2 ^ n) (hp : s.testBit p = true) : p < 2 ^ n := by
  apply Classical.byContradiction
  intro z
  rw [Nat.testBit_lt_two_pow (Nat.lt_of_lt_of_le h (Nat.pow_le_pow_right (by decide) (by omega)))] at hp
  cases hp
theorem set_lt {n s : Nat} (h : ∀ p, s.testBit p = true → p < 2 ^ n) : s < 2 ^ 2 ^ n := by
  apply Nat.lt_pow_two_of_testBit
  intro i hi
  cases e : s.testBit i with
  | false => rfl
  | true => have := h i e; omega
theorem set64 {n s : Nat} (h6 : n ≤ 6) (h : s < 2 ^ 2 ^ n) : s < 2 ^ 64 := Nat.lt_of_lt_of_le h (Nat.pow_le_pow_right (by decide) (pp6 h6))
theorem cmpN_lt {n s i j : Nat} (h6 : n ≤ 6) (h : s < 2 ^ 2 ^ n) (hi : i < j) (hj : j < n) : cmpN s i j < 2 ^ 2 ^ n := by
  have p6 := pp6 h6
  apply set_lt
  intro q hq
  have q64 : q < 64 := by
    apply Classical.byContradiction
    intro z
    unfold cmpN at hq
    rw [Nat.testBit_mod_two_pow] at hq
    simp [z] at hq
  obtain ⟨p, h1, h2, h3⟩ := (cmpN_t hi (by omega) q64).mp hq
  rw [← h3]
  exact cmp_lt (set_t h h2) (by omega) hj
theorem cmpN_cAl {n s i j : Nat} (h6 : n ≤ 6) (h : s < 2 ^ 2 ^ n) (hi : i < j) (hj : j < n) : cAl s i j (2 ^ n) = cmpN s i j := by
  have p6 := pp6 h6
  apply Nat.eq_of_testBit_eq
  intro q
  apply Bool.eq_iff_iff.mpr
  rw [cAl_t]
  by_cases q64 : q < 64
  · rw [cmpN_t hi (by omega) q64]
    constructor
    · rintro ⟨p, h1, h2⟩; exact ⟨p, (by omega), h2⟩
    · rintro ⟨p, h1, h2, h3⟩; exact ⟨p, set_t h h2, h2, h3⟩
  · constructor
    · rintro ⟨p, h1, h2, h3⟩
      have := cmp_lt h1 (show i < n by omega) hj
      omega
    · intro z
      have := set_t (cmpN_lt h6 h hi hj) z
      omega
theorem sM_comparedAll (N : Nat) (hN : 10000 ≤ N) {n s i j : Nat} (h6 : n ≤ 6) (h : s < 2 ^ 2 ^ n) (hi : i < j) (hj : j < n) (μ : Mem) : f_M_comparedAll N (nI n) (lN s) (nI i) (nI j) μ = some (lN (cmpN s i j), μ) := by
  have p6 := pp6 h6
  obtain ⟨⟨v, μ'⟩, ⟨k1, k2⟩, e⟩ := for_up (fun n' p (z : Int64 × Mem) => lp_M_comparedAll_6 N (nI n) (lN s) (nI i) (nI j) (fun v6 μ7 => some (v6, μ7)) n' z.1 p z.2) (fun z => some (z.1, z.2)) (2 ^ n) (fun p z => z.1 = lN (cAl s i j p) ∧ z.2 = μ)
    (by
      intro n' p ⟨v, κ⟩ hp ⟨i1, i2⟩
      dsimp only at i1 i2
      subst i1; subst i2
      refine ⟨(lN (cAl s i j (p + 1)), κ), ⟨rfl, rfl⟩, ?_⟩
      dsimp only
      have cl := cmp_lt hp (show i < n by omega) hj
      rw [lp_M_comparedAll_6, one_shl (by omega), if_pos (nI_lt hp (by omega)), sM_compared N (by omega) (by omega) (by omega), bnd_some, and1L, lb_shr0 _ (show p < 64 by omega), lb_lN _ _ (show p < 64 by omega), cAl]
      by_cases z : s.testBit p = true
      · rw [if_pos z, if_pos z, show (1 : Int64) = lN 1 from rfl, lN_shl _ (show cmp p i j < 64 by omega), Nat.one_shiftLeft, lN_or, ltE, ltE, nI_1]
      · rw [if_neg z, if_neg z, show (0 : Int64) = lN 0 from rfl, lN_shl _ (show cmp p i j < 64 by omega), Nat.zero_shiftLeft, lN_or, ltE, ltE, nI_1])
    (by
      intro n' ⟨v, κ⟩ _
      dsimp only
      rw [lp_M_comparedAll_6, one_shl (by omega), if_neg (nI_nlt (Nat.le_refl _) (by omega))])
    (2 ^ n) 0 N (0, μ) (by omega) (by omega) ⟨rfl, rfl⟩
  dsimp only at k1 k2 e
  subst k1; subst k2
  rw [cmpN_cAl h6 h hi hj] at e
  exact e
def pcn (s : Nat) : Nat := cn s.testBit 64
theorem pcn_lN (s : Nat) : cn (lb (lN s)) 64 = pcn s := cn_congr 64 (fun t ht => lb_lN _ _ ht)
theorem sX_pop (N s : Nat) (μ : Mem) : f_JLong_bitCount N (lN s) μ = some (nI (pcn s), μ) := by rw [sPop, pcn_lN]
theorem sM_pop (N s : Nat) (μ : Mem) : f_M_bits N (lN s) μ = some (nI (pcn s), μ) := by unfold f_M_bits; rw [sX_pop, bnd_some]
theorem pcn_le (s : Nat) : pcn s ≤ 64 := cn_le _ _
theorem exN_lt {n s i j : Nat} (h6 : n ≤ 6) (h : s < 2 ^ 2 ^ n) (hi : i ≤ j) (hj : j < n) : exN s i j < 2 ^ 2 ^ n := by
  by_cases z : i = j
  · unfold exN; rw [if_pos z]; exact h
  · apply set_lt
    intro q hq
    have q64 : q < 64 := by
      apply Classical.byContradiction
      intro y
      unfold exN at hq
      rw [if_neg z, Nat.testBit_mod_two_pow] at hq
      simp [y] at hq
    rw [exN_t (by omega) (by omega) q64] at hq
    exact (sp_b h6 hj (show i < j by omega) q64).1.mpr (set_t h hq)

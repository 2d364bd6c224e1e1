/-! what is still to come -/
def fpj (r : Nat → Option (List Nat)) (S i : Nat) : Nat → Nat → Option (List Nat)
  | 0, _ => none
  | m + 1, j => match r (cmpN S i j) with
    | some t => some ((10 * i + j) :: t)
    | none => fpj r S i m (j + 1)
def fpi (n : Nat) (r : Nat → Option (List Nat)) (S : Nat) : Nat → Nat → Option (List Nat)
  | 0, _ => none
  | m + 1, i => match fpj r S i (n - (i + 1)) (i + 1) with
    | some t => some t
    | none => fpi n r S m (i + 1)
def fp (n : Nat) : Nat → Nat → Option (List Nat)
  | 0, S => if pcn S = n + 1 then some [] else none
  | d + 1, S => fpi n (fun T => fp n d T) S (n - 1) 0
def cb (n : Nat) : Nat → Nat → Option (List Nat)
  | 0, S => if pcn S = n + 1 then some [] else none
  | d + 1, S => if pcn S = n + 1 then none else fpi n (fun T => cb n d T) S n 0
theorem fpj_none {r : Nat → Option (List Nat)} {S i : Nat} : ∀ m j, fpj r S i m j = none ↔ ∀ k, j ≤ k → k < j + m → r (cmpN S i k) = none
  | 0, j => by
    rw [fpj]
    exact ⟨fun _ k h1 h2 => by omega, fun _ => rfl⟩
  | m + 1, j => by
    rw [fpj]
    cases q : r (cmpN S i j) with
    | some t =>
      constructor
      · intro h; cases h
      · intro h; rw [h j (by omega) (by omega)] at q; cases q
    | none =>
      dsimp only
      rw [fpj_none m (j + 1)]
      constructor
      · intro h k h1 h2
        by_cases e : k = j
        · subst e; exact q
        · exact h k (by omega) (by omega)
      · intro h k h1 h2; exact h k (by omega) (by omega)
theorem fpi_none {n : Nat} {r : Nat → Option (List Nat)} {S : Nat} : ∀ m i, fpi n r S m i = none ↔ ∀ k j, i ≤ k → k < i + m → k < j → j < n → r (cmpN S k j) = none
  | 0, i => by
    rw [fpi]
    exact ⟨fun _ k j h1 h2 => by omega, fun _ => rfl⟩
  | m + 1, i => by
    rw [fpi]
    cases q : fpj r S i (n - (i + 1)) (i + 1) with
    | some t =>
      constructor
      · intro h; cases h
      · intro h
        have : fpj r S i (n - (i + 1)) (i + 1) = none := (fpj_none _ _).mpr (fun k h1 h2 => h i k (by omega) (by omega) (by omega) (by omega))
        rw [this] at q; cases q
    | none =>
      dsimp only
      have q' := (fpj_none _ _).mp q
      rw [fpi_none m (i + 1)]
      constructor
      · intro h k j h1 h2 h3 h4
        by_cases e : k = i
        · subst e; exact q' j (by omega) (by omega)
        · exact h k j (by omega) (by omega) h3 h4
      · intro h k j h1 h2 h3 h4; exact h k j (by omega) (by omega) h3 h4
theorem fpj_cong {r r' : Nat → Option (List Nat)} {S i : Nat} : ∀ m j, (∀ k, j ≤ k → k < j + m → r (cmpN S i k) = r' (cmpN S i k)) → fpj r S i m j = fpj r' S i m j
  | 0, _, _ => rfl
  | m + 1, j, h => by rw [fpj, fpj, h j (by omega) (by omega), fpj_cong m (j + 1) (fun k h1 h2 => h k (by omega) (by omega))]
theorem fpi_cong {n : Nat} {r r' : Nat → Option (List Nat)} {S : Nat} (h : ∀ k j, k < j → j < n → r (cmpN S k j) = r' (cmpN S k j)) : ∀ m i, fpi n r S m i = fpi n r' S m i
  | 0, _ => rfl
  | m + 1, i => by rw [fpi, fpi, fpi_cong h m (i + 1), fpj_cong _ _ (fun k h1 h2 => h i k (by omega) (by omega))]
theorem fpi_last {n : Nat} {r : Nat → Option (List Nat)} {S : Nat} : ∀ m i, i + m = n - 1 → fpi n r S (m + 1) i = fpi n r S m i
  | 0, i, h => by
    rw [fpi, fpi, show n - (i + 1) = 0 by omega, fpj]
    rfl
  | m + 1, i, h => by
    rw [fpi, fpi_last m (i + 1) (by omega)]
    rfl
theorem fp_ne {n d S : Nat} (h1 : 1 ≤ n) {i j : Nat} (hi : i < j) (hj : j < n) (h : fp n d (cmpN S i j) ≠ none) : fp n (d + 1) S ≠ none := by
  intro q
  rw [fp] at q
  exact h ((fpi_none _ _).mp q i j (by omega) (by omega) hi hj)
theorem cb_fp {n : Nat} (h1 : 1 ≤ n) : ∀ d S, (∀ e, e < d → fp n e S = none) → cb n d S = fp n d S
  | 0, S, _ => rfl
  | d + 1, S, h => by
    have h0 := h 0 (by omega)
    rw [fp] at h0
    have hz : ¬ pcn S = n + 1 := fun q => by rw [if_pos q] at h0; cases h0
    obtain ⟨k, rfl⟩ : ∃ k, n = k + 1 := ⟨n - 1, (by omega)⟩
    rw [cb, if_neg hz, fp, fpi_last k 0 (by omega)]
    refine fpi_cong (fun i j hi hj => cb_fp h1 d _ (fun e he => ?_)) _ _
    cases q : fp (k + 1) e (cmpN S i j) with
    | none => rfl
    | some t =>
      have := fp_ne (n := k + 1) (d := e) (S := S) h1 hi hj (by rw [q]; intro z; cases z)
      exact absurd (h (e + 1) (by omega)) this
theorem fp_len {n : Nat} : ∀ d S t, fp n d S = some t → t.length = d := by
  intro d
  induction d with
  | zero =>
    intro S t h
    rw [fp] at h
    split at h
    · cases h; rfl
    · cases h
  | succ d ih =>
    have fj : ∀ S i m j t, fpj (fun T => fp n d T) S i m j = some t → t.length = d + 1 := by
      intro S i m
      induction m with
      | zero => intro j t h; rw [fpj] at h; cases h
      | succ m ihm =>
        intro j t h
        rw [fpj] at h
        cases q : fp n d (cmpN S i j) with
        | some u =>
          rw [q] at h
          cases h
          rw [List.length_cons, ih _ _ q]
        | none =>
          rw [q] at h
          exact ihm (j + 1) t h
    have fi : ∀ S m i t, fpi n (fun T => fp n d T) S m i = some t → t.length = d + 1 := by
      intro S m
      induction m with
      | zero => intro i t h; rw [fpi] at h; cases h
      | succ m ihm =>
        intro i t h
        rw [fpi] at h
        cases q : fpj (fun T => fp n d T) S i (n - (i + 1)) (i + 1) with
        | some u =>
          rw [q] at h
          cases h
          exact fj _ _ _ _ _ q
        | none =>
          rw [q] at h
          exact ihm (i + 1) t h
    intro S t h
    rw [fp] at h
    exact fi _ _ _ _ h
-- five comparers do
def kn (n : Nat) : List (Nat × Nat) := if n = 2 then [(0, 1)] else if n = 3 then [(0, 1), (1, 2), (0, 1)] else [(0, 1), (2, 3), (0, 2), (1, 3), (1, 2)]
def stS : List (Nat × Nat) → Nat → Nat
  | [], S => S
  | c :: l, S => stS l (cmpN S c.1 c.2)
def stPt : List (Nat × Nat) → Nat → Nat
  | [], p => p
  | c :: l, p => stPt l (cmp p c.1 c.2)
theorem kn_ok : ∀ n, n < 5 → 2 ≤ n → (kn n).length ≤ 5 ∧ ∀ c ∈ kn n, c.1 < c.2 ∧ c.2 < n := by decide
theorem kn_so : ∀ n, n < 5 → 2 ≤ n → ∀ p, p < 2 ^ n → so n (stPt (kn n) p) = true ∧ stPt (kn n) p < 2 ^ n ∧ (so n p = false ∨ stPt (kn n) p = p) := by decide +kernel
theorem so_cn : ∀ n, n < 5 → 2 ≤ n → cn (fun q => decide (q < 2 ^ n) && so n q) 64 = n + 1 := by decide +kernel
theorem stS_t {n : Nat} (h6 : n ≤ 6) : ∀ (l : List (Nat × Nat)) (S : Nat), (∀ c ∈ l, c.1 < c.2 ∧ c.2 < n) → S < 2 ^ 2 ^ n → ∀ q, q < 64 → ((stS l S).testBit q = true ↔ ∃ p, p < 64 ∧ S.testBit p = true ∧ stPt l p = q)
  | [], S, _, hS, q, hq => by
    rw [stS]
    constructor
    · intro h; exact ⟨q, hq, h, rfl⟩
    · rintro ⟨p, _, h2, h3⟩
      rw [stPt] at h3
      subst h3; exact h2
  | c :: l, S, hc, hS, q, hq => by
    have p6 := pp6 h6
    obtain ⟨c1, c2⟩ := hc c List.mem_cons_self
    rw [stS, stS_t h6 l _ (fun x hx => hc x (List.mem_cons_of_mem _ hx)) (cmpN_lt h6 hS c1 c2) q hq]
    constructor
    · rintro ⟨p, h1, h2, h3⟩
      obtain ⟨u, u1, u2, u3⟩ := (cmpN_t c1 (show c.2 < 6 by omega) h1).mp h2
      exact ⟨u, u1, u2, by rw [stPt, u3]; exact h3⟩
    · rintro ⟨u, u1, u2, u3⟩
      have un := set_t hS u2
      have cl' := cmp_lt un (show c.1 < n by omega) c2
      rw [stPt] at u3
      exact ⟨cmp u c.1 c.2, (by omega), (cmpN_t c1 (show c.2 < 6 by omega) (by omega)).mpr ⟨u, u1, u2, rfl⟩, u3⟩
theorem fp_st {n : Nat} (h1 : 1 ≤ n) : ∀ (l : List (Nat × Nat)) (S : Nat), (∀ c ∈ l, c.1 < c.2 ∧ c.2 < n) → pcn (stS l S) = n + 1 → fp n l.length S ≠ none
  | [], S, _, h => by
    rw [stS] at h
    rw [List.length_nil, fp, if_pos h]
    intro z; cases z
  | c :: l, S, hc, h => by
    obtain ⟨c1, c2⟩ := hc c List.mem_cons_self
    rw [stS] at h
    rw [List.length_cons]
    exact fp_ne h1 c1 c2 (fp_st h1 l _ (fun x hx => hc x (List.mem_cons_of_mem _ hx)) h)
theorem so_mono {n q : Nat} (h : so n q = true) : ∀ j i, i ≤ j → j < n → tb q i ≤ tb q j := by
  unfold so at h
  rw [soK_t] at h
  intro j
  induction j with
  | zero => intro i hi hj; have : i = 0 := (by omega)
            subst this; exact Nat.le_refl _
  | succ j ih =>
    intro i hi hj
    by_cases e : i = j + 1
    · subst e; exact Nat.le_refl _
    · have := ih i (by omega) (by omega)
      have := h j (by omega)
      omega
theorem rt_so {n q : Nat} {cs : List (Nat × Nat)} (w : WN n cs) (h : so n q = true) : rt cs q = q := by
  have : ∀ k, k ≤ cs.length → rs cs b0 0 q k = q := by
    intro k
    induction k with
    | zero => intro _; rfl
    | succ k ih =>
      intro hk
      have c := w.2.2.2 k hk
      have m := so_mono h (ch cs k) (cl cs k) (by omega) c.2
      rw [rs_succ0 rfl, ih (by omega)]
      unfold cmp
      rw [if_neg (by omega)]
  exact this _ (Nat.le_refl _)
theorem lst1 (P : Nat → Prop) : ∀ n, (∃ k, k ≤ n ∧ P k) → ∃ k, P k ∧ ∀ j, j < k → ¬ P j
  | 0, ⟨k, h1, h2⟩ => by
    have : k = 0 := (by omega)
    subst this
    exact ⟨0, h2, fun j hj => by omega⟩
  | n + 1, ⟨k, h1, h2⟩ => by
    by_cases h : ∃ k, k ≤ n ∧ P k
    · exact lst1 P n h
    · have : k = n + 1 := Classical.byContradiction (fun z => h ⟨k, (by omega), h2⟩)
      subst this
      exact ⟨n + 1, h2, fun j hj pj => h ⟨j, (by omega), pj⟩⟩
theorem rest_ex {n : Nat} {cs : List (Nat × Nat)} (w : WN n cs) (h4 : n ≤ 4) : ∃ m, m ≤ 5 ∧ fp n m (imN n cs) ≠ none ∧ ∀ e, e < m → fp n e (imN n cs) = none := by
  have n2 := w.1
  have p6 := pp6 (show n ≤ 6 by omega)
  have ko := kn_ok n (by omega) n2
  have ks := kn_so n (by omega) n2
  have lt := imN_lt w (show n ≤ 6 by omega)
  have fin' : pcn (stS (kn n) (imN n cs)) = n + 1 := by
    rw [← so_cn n (by omega) n2]
    refine cn_congr 64 (fun q hq => ?_)
    apply Bool.eq_iff_iff.mpr
    rw [stS_t (show n ≤ 6 by omega) (kn n) _ ko.2 lt q hq, Bool.and_eq_true, decide_eq_true_iff]
    constructor
    · rintro ⟨p, h1, h2, h3⟩
      have k := ks p (set_t lt h2)
      rw [h3] at k
      exact ⟨k.2.1, k.1⟩
    · rintro ⟨h1, h2⟩
      have k := ks q h1
      refine ⟨q, hq, ?_, ?_⟩
      · rw [imN_t w (show n ≤ 6 by omega) hq, imR_t]
        exact ⟨q, h1, rt_so w h2⟩
      · rcases k.2.2 with z | z
        · rw [h2] at z; cases z
        · exact z
  have ex := fp_st (show 1 ≤ n by omega) (kn n) (imN n cs) ko.2 fin'
  obtain ⟨m, m1, m2⟩ := lst1 (fun m => fp n m (imN n cs) ≠ none) (kn n).length ⟨_, Nat.le_refl _, ex⟩
  refine ⟨m, ?_, m1, fun e he => ?_⟩
  · apply Classical.byContradiction
    intro z
    exact m2 (kn n).length (by have := ko.1; omega) ex
  · apply Classical.byContradiction
    intro z
    exact m2 e he z

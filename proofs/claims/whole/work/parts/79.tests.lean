/-! tests that notice -/
def nts (n : Nat) (cs : List (Nat × Nat)) (p : Nat) : Nat → Int64
  | 0 => 0
  | k + 1 => nts n cs p k ||| (if wr n cs (bo k) 0 p then shlL 1 (nI k) else 0)
theorem lb_nts (n : Nat) (cs : List (Nat × Nat)) (p : Nat) {t : Nat} (ht : t < 64) : ∀ k, k ≤ 64 → lb (nts n cs p k) t = (decide (t < k) && wr n cs (bo t) 0 p)
  | 0, _ => by simp [nts, lb_zero]
  | k + 1, hk => by
    rw [nts, lb_or, lb_nts n cs p ht k (by omega)]
    rcases Nat.lt_trichotomy t k with z | z | z
    · have h1 : t < k + 1 := (by omega)
      have h2 : ¬ t = k := (by omega)
      split
      · rw [lb_bit (by omega) ht]; simp [z, h1, h2]
      · simp [z, h1, lb_zero]
    · subst z
      split
      · rename_i q; rw [lb_bit (by omega) ht]; simp [q]
      · rename_i q; simp [lb_zero, q]
    · have h1 : ¬ t < k + 1 := (by omega)
      have h2 : ¬ t = k := (by omega)
      have h3 : ¬ t < k := (by omega)
      split
      · rw [lb_bit (by omega) ht]; simp [h1, h2, h3]
      · simp [h1, h3, lb_zero]
def als (n : Nat) (cs : List (Nat × Nat)) : Nat → Int64
  | 0 => 0
  | k + 1 => if cn (wr n cs (bo k) 0) (2 ^ n) = 0 then als n cs k else als n cs k ||| shlL 1 (nI k)
theorem lb_als (n : Nat) (cs : List (Nat × Nat)) {t : Nat} (ht : t < 64) : ∀ k, k ≤ 64 → lb (als n cs k) t = (decide (t < k) && !decide (cn (wr n cs (bo t) 0) (2 ^ n) = 0))
  | 0, _ => by simp [als, lb_zero]
  | k + 1, hk => by
    have ih := lb_als n cs ht k (by omega)
    rw [als]
    rcases Nat.lt_trichotomy t k with z | z | z
    · have h1 : t < k + 1 := (by omega)
      have h2 : ¬ t = k := (by omega)
      split
      · rw [ih]; simp [z, h1]
      · rw [lb_or, ih, lb_bit (by omega) ht]; simp [z, h1, h2]
    · subst z
      split
      · rename_i q; rw [ih]; simp [q]
      · rename_i q; rw [lb_or, ih, lb_bit (by omega) ht]; simp [q]
    · have h1 : ¬ t < k + 1 := (by omega)
      have h2 : ¬ t = k := (by omega)
      have h3 : ¬ t < k := (by omega)
      split
      · rw [ih]; simp [h1, h3]
      · rw [lb_or, ih, lb_bit (by omega) ht]; simp [h1, h2, h3]
def lms (n : Nat) (cs : List (Nat × Nat)) : Nat → Int64
  | 0 => 0
  | p + 1 => lms n cs p ||| nts n cs p cs.length
theorem lb_lms (n : Nat) (cs : List (Nat × Nat)) (t : Nat) : ∀ m, lb (lms n cs m) t = true ↔ ∃ p, p < m ∧ lb (nts n cs p cs.length) t = true
  | 0 => by simp [lms, lb_zero]
  | m + 1 => by
    rw [lms, lb_or, Bool.or_eq_true, lb_lms n cs t m]
    constructor
    · rintro (⟨b, h1, h2⟩ | h)
      · exact ⟨b, (by omega), h2⟩
      · exact ⟨m, (by omega), h⟩
    · rintro ⟨b, h1, h2⟩
      by_cases e : b = m
      · subst e; exact Or.inr h2
      · exact Or.inl ⟨b, (by omega), h2⟩
theorem cn_ne {P : Nat → Bool} {m : Nat} : cn P m ≠ 0 ↔ ∃ t, t < m ∧ P t = true := by
  rw [ne_eq, cn_z0]
  constructor
  · intro h
    apply Classical.byContradiction
    intro g
    exact h (fun t ht => by
      cases y : P t with
      | false => rfl
      | true => exact absurd ⟨t, ht, y⟩ g)
  · intro ⟨x, h1, h2⟩ h
    rw [h x h1] at h2; cases h2
theorem als_lms {n : Nat} {cs : List (Nat × Nat)} (hl : cs.length ≤ 60) : als n cs cs.length = lms n cs (2 ^ n) := by
  apply lb_ext
  intro t ht
  rw [lb_als n cs ht _ (by omega)]
  apply Bool.eq_iff_iff.mpr
  rw [lb_lms]
  constructor
  · intro h
    simp only [Bool.and_eq_true, decide_eq_true_iff, Bool.not_eq_true', decide_eq_false_iff_not] at h
    obtain ⟨p, h1, h2⟩ := cn_ne.mp h.2
    exact ⟨p, h1, by rw [lb_nts n cs p ht _ (by omega)]; simp [h.1, h2]⟩
  · rintro ⟨p, h1, h2⟩
    rw [lb_nts n cs p ht _ (by omega)] at h2
    simp only [Bool.and_eq_true, decide_eq_true_iff] at h2
    simp only [Bool.and_eq_true, decide_eq_true_iff, Bool.not_eq_true', decide_eq_false_iff_not]
    exact ⟨h2.1, cn_ne.mpr ⟨p, h1, h2.2⟩⟩
theorem orI2 (a b : Int64) : (a ||| b) ||| b = a ||| b := lb_ext (fun t _ => by rw [lb_or, lb_or, Bool.or_assoc, Bool.or_self])
theorem l_fn51 (N : Nat) (hN : 10000 ≤ N) {q n k : Nat} {cs : List (Nat × Nat)} {κ : Mem} {V : Nat → Int64} (a : Int64) (h8 : n ≤ 8) (hp : PS κ (PW n (wr n cs (bo k) 0))) (hV : ∀ p, p < 2 ^ n → gL κ 34 p = V p) (K : Int64 → Mem → Option (Int64 × Mem)) : ∃ κ', lp_X_findNotices_51 N q (nI (2 ^ n)) (nI k) K N a 0 κ = K (if cn (wr n cs (bo k) 0) (2 ^ n) = 0 then a else a ||| shlL 1 (nI k)) κ' ∧ (∀ p, p < 2 ^ n → gL κ' 34 p = V p ||| (if wr n cs (bo k) 0 p then shlL 1 (nI k) else 0)) ∧ Fr (rg 34 34) κ κ' := by
  have p8 := pow8 h8
  obtain ⟨⟨v, κ'⟩, ⟨k1, k2, k3⟩, e⟩ := for_up (fun n' i (z : Int64 × Mem) => lp_X_findNotices_51 N q (nI (2 ^ n)) (nI k) K n' z.1 i z.2) (fun z => K z.1 z.2) (2 ^ n) (fun i z => z.1 = (if cn (wr n cs (bo k) 0) i = 0 then a else a ||| shlL 1 (nI k)) ∧ (∀ p, p < 2 ^ n → gL z.2 34 p = if p < i then V p ||| (if wr n cs (bo k) 0 p then shlL 1 (nI k) else 0) else V p) ∧ Fr (rg 34 34) κ z.2)
    (by
      intro n' i ⟨v, ν⟩ hi ⟨i1, i2, i3⟩
      dsimp only at i1 i2 i3
      subst i1
      have hp' := hp.fr i3 (fun _ => rgo (by omega))
      have hh := sPS_holds N hp' (p := i) (by omega)
      have a1 := i2 i hi
      rw [if_neg (by omega)] at a1
      have ew : PW n (wr n cs (bo k) 0) i = wr n cs (bo k) 0 i := by unfold PW; simp [hi]
      rw [ew] at hh
      by_cases z : wr n cs (bo k) 0 i = true
      · rw [if_pos z] at hh
        refine ⟨(a ||| shlL 1 (nI k), sL ν 34 i (V i ||| shlL 1 (nI k))), ⟨?_, fun p hp => ?_, i3.sL (rgi (by omega) (by omega))⟩, ?_⟩
        · dsimp only
          rw [cn, if_pos z, if_neg (by omega)]
        · dsimp only
          by_cases e : p = i
          · subst e; rw [gL_sL, if_pos ⟨rfl, rfl⟩, if_pos (by omega), if_pos z]
          · rw [gL_sL, if_neg (fun y => e y.2), i2 p hp]
            by_cases y : p < i
            · rw [if_pos y, if_pos (show p < i + 1 by omega)]
            · rw [if_neg y, if_neg (show ¬ p < i + 1 by omega)]
        · dsimp only
          rw [lp_X_findNotices_51, if_pos (nI_lt hi (by omega)), hh, bnd_some, ltE, if_neg (by decide), inb_nI (by omega) (by omega), ck_tt, ck_tt, tn_nI (by omega), a1, ltE, ltE]
          dsimp only
          rw [ltE, nI_1]
          split
          · rfl
          · rw [orI2]
      · have z' : wr n cs (bo k) 0 i = false := by simpa using z
        rw [if_neg z] at hh
        refine ⟨(if cn (wr n cs (bo k) 0) i = 0 then a else a ||| shlL 1 (nI k), ν), ⟨?_, fun p hp => ?_, i3⟩, ?_⟩
        · dsimp only
          rw [cn, if_neg z, Nat.add_zero]
        · dsimp only
          rw [i2 p hp]
          by_cases e : p = i
          · subst e; rw [if_neg (by omega), if_pos (by omega), if_neg z, or0L]
          · by_cases y : p < i
            · rw [if_pos y, if_pos (show p < i + 1 by omega)]
            · rw [if_neg y, if_neg (show ¬ p < i + 1 by omega)]
        · dsimp only
          rw [lp_X_findNotices_51, if_pos (nI_lt hi (by omega)), hh, bnd_some, ltE, if_pos rfl]
          dsimp only
          rw [ltE, nI_1])
    (by
      intro n' ⟨v, ν⟩ _
      dsimp only
      rw [lp_X_findNotices_51, if_neg (nI_nlt (Nat.le_refl _) (by omega))])
    (2 ^ n) 0 N (a, κ) (by omega) (by omega) ⟨by rw [cn, if_pos rfl], fun p hp => by dsimp only; rw [if_neg (by omega)]; exact hV p hp, Fr.rf κ⟩
  dsimp only at k1 k2 k3 e
  subst k1
  exact ⟨κ', e, fun p hp => by rw [k2 p hp, if_pos hp], k3⟩
theorem sX_findNotices (N : Nat) (hN : 10000 ≤ N) {q n : Nat} {cs : List (Nat × Nat)} {μ : Mem} (hq : NX μ q n cs) (w : WN n cs) (hpq : q + 2 < 27) : ∃ μ', f_X_findNotices N q μ = some (als n cs cs.length, μ') ∧ (∀ p, p < 2 ^ n → gL μ' 34 p = nts n cs p cs.length) ∧ Fr (rg 27 34) μ μ' := by
  have h8 := w.2.1
  have p8 := pow8 h8
  have hl := w.2.2.1
  obtain ⟨μ1, ⟨j1, j2⟩, e1⟩ := for_up (fun n' i ν => lp_X_findNotices_9 N q (nI (2 ^ n)) (fun μ6 => lp_X_findNotices_32 N q (nI (2 ^ n)) (fun v25 μ26 => some (v25, μ26)) N 0 0 μ6) n' i ν) (fun μ6 => lp_X_findNotices_32 N q (nI (2 ^ n)) (fun v25 μ26 => some (v25, μ26)) N 0 0 μ6) (2 ^ n) (fun i κ => Fr (rg 34 34) μ κ ∧ ∀ p, p < i → gL κ 34 p = 0)
    (by
      intro n' i κ hi ⟨i1, i2⟩
      refine ⟨sL κ 34 i 0, ⟨i1.sL (rgi (by omega) (by omega)), fun y hy => ?_⟩, ?_⟩
      · by_cases e : y = i
        · subst e; simp [gI_sI, gL_sL, gR_sR, gI_sL, gI_sR, gL_sI, gL_sR, gR_sI, gR_sL]
        · simp [gI_sI, gL_sL, gR_sR, gI_sL, gI_sR, gL_sI, gL_sR, gR_sI, gR_sL, e, i2 y (by omega)]
      · rw [lp_X_findNotices_9, if_pos (nI_lt hi (by omega)), inb_nI (by omega) (by omega), ck_tt, tn_nI (by omega), ltE, ltE, nI_1])
    (by
      intro n' κ _
      rw [lp_X_findNotices_9, if_neg (nI_nlt (Nat.le_refl _) (by omega))])
    (2 ^ n) 0 N μ (by omega) (by omega) ⟨Fr.rf μ, fun y hy => by omega⟩
  obtain ⟨⟨v, μ2⟩, ⟨k1, k2, k3⟩, e2⟩ := for_up (fun n' i (z : Int64 × Mem) => lp_X_findNotices_32 N q (nI (2 ^ n)) (fun v25 μ26 => some (v25, μ26)) n' z.1 i z.2) (fun z => some (z.1, z.2)) cs.length (fun i z => z.1 = als n cs i ∧ (∀ p, p < 2 ^ n → gL z.2 34 p = nts n cs p i) ∧ Fr (rg 27 34) μ z.2)
    (by
      intro n' i ⟨v, κ⟩ hi ⟨i1, i2, i3⟩
      dsimp only at i1 i2 i3
      subst i1
      have nk := hq.frg i3 (by omega)
      obtain ⟨κ1, e1, p1, f1⟩ := sX_judge1 N hN nk w hpq hi
      obtain ⟨κ2, e2, v2, f2⟩ := l_fn51 N hN (q := q) (als n cs i) h8 p1 (V := fun p => nts n cs p i) (fun p hp => by rw [f1.L (rgo (by omega))]; exact i2 p hp) (fun v22 μ23 => lt' (nI i + 1) fun v24 => lp_X_findNotices_32 N q (nI (2 ^ n)) (fun v25 μ26 => some (v25, μ26)) n' v22 v24 μ23)
      refine ⟨(als n cs (i + 1), κ2), ⟨rfl, fun p hp => by dsimp only; rw [v2 p hp, nts], (i3.tr (f1.wide (by omega) (by omega))).tr (f2.wide (by omega) (by omega))⟩, ?_⟩
      dsimp only
      rw [lp_X_findNotices_32, nk.2.1, if_pos (nI_lt hi (by omega)), e1, bnd_some]
      refine Eq.trans e2 ?_
      rw [ltE, nI_1, als])
    (by
      intro n' ⟨v, κ⟩ ⟨i1, i2, i3⟩
      dsimp only at i1 i2 i3 ⊢
      have nk := hq.frg i3 (by omega)
      rw [lp_X_findNotices_32, nk.2.1, if_neg (nI_nlt (Nat.le_refl _) (by omega))])
    cs.length 0 N (0, μ1) (by omega) (by omega) ⟨rfl, fun p hp => j2 p hp, j1.wide (by omega) (by omega)⟩
  dsimp only at k1 k2 k3 e2
  subst k1
  refine ⟨μ2, ?_, k2, k3⟩
  unfold f_X_findNotices
  rw [hq.1, one_shl (by omega), ltE]
  exact Eq.trans e1 e2
def bst (F : Nat → Nat) : Nat → Nat
  | 0 => 0
  | m + 1 => if F (bst F m) < F m then m else bst F m
theorem bst_lt (F : Nat → Nat) : ∀ m, 0 < m → bst F m < m
  | 1, _ => by rw [bst, bst]; split <;> omega
  | m + 2, _ => by
    have := bst_lt F (m + 1) (by omega)
    rw [bst]; split <;> omega
theorem bst_max (F : Nat → Nat) : ∀ m p, p < m → F p ≤ F (bst F m)
  | 0, p, h => by omega
  | m + 1, p, h => by
    rw [bst]
    by_cases e : p = m
    · subst e; split <;> omega
    · have := bst_max F m p (by omega)
      split <;> omega
def bF (T : Nat → Int64) (l : Int64) (p : Nat) : Nat := cn (lb (T p &&& l)) 64
def grd (T : Nat → Int64) (m : Nat) : Nat → Int64 → List Int64
  | 0, _ => []
  | c + 1, l => if l = 0 then [] else (nI (bst (bF T l) m)).toInt64 :: grd T m c (l &&& (T (bst (bF T l) m) ^^^ (-1)))
theorem grd_len (T : Nat → Int64) (m : Nat) : ∀ c l, (grd T m c l).length ≤ c
  | 0, _ => Nat.le_refl _
  | c + 1, l => by
    rw [grd]
    split
    · exact Nat.zero_le _
    · rw [List.length_cons]; have := grd_len T m c (l &&& (T (bst (bF T l) m) ^^^ (-1))); omega
theorem grd_0 (T : Nat → Int64) (m c : Nat) : grd T m c 0 = [] := by
  cases c with
  | zero => rfl
  | succ c => rw [grd, if_pos rfl]
theorem bF_le (T : Nat → Int64) (l : Int64) (p : Nat) : bF T l p ≤ 64 := cn_le _ _
theorem l_t78 (N : Nat) (hN : 10000 ≤ N) {n : Nat} {κ : Mem} {T : Nat → Int64} (l : Int64) (x5 : Int32) (h8 : n ≤ 8) (hT : ∀ p, p < 2 ^ n → gL κ 34 p = T p) (K : Int32 → Mem → Option (Int32 × Mem)) : lp_X_tests_78 N (nI (2 ^ n)) l x5 K N 0 1 κ = K (nI (bst (bF T l) (2 ^ n))) κ := by
  have p8 := pow8 h8
  have pp := Nat.two_pow_pos n
  obtain ⟨⟨r, κ'⟩, ⟨-, k1, k2⟩, e⟩ := for_up (fun n' i (q : Int32 × Mem) => lp_X_tests_78 N (nI (2 ^ n)) l x5 K n' q.1 i q.2) (fun q => K q.1 q.2) (2 ^ n) (fun i q => 1 ≤ i ∧ q.1 = nI (bst (bF T l) i) ∧ q.2 = κ)
    (by
      intro n' i ⟨r, ν⟩ hi ⟨i0, i1, i2⟩
      dsimp only at i1 i2
      subst i1; subst i2
      have b1 := bst_lt (bF T l) i (by omega)
      have c1 := bF_le T l i
      have c2 := bF_le T l (bst (bF T l) i)
      refine ⟨(nI (bst (bF T l) (i + 1)), ν), ⟨(by omega), rfl, rfl⟩, ?_⟩
      dsimp only
      have e1 : cn (lb (T i &&& l)) 64 = bF T l i := rfl
      have e2 : cn (lb (T (bst (bF T l) i) &&& l)) 64 = bF T l (bst (bF T l) i) := rfl
      have lt : (nI (bF T l (bst (bF T l) i)) < nI (bF T l i)) ↔ bF T l (bst (bF T l) i) < bF T l i := nI_ltI (by omega) (by omega)
      rw [lp_X_tests_78, if_pos (nI_lt hi (by omega)), inb_nI (show i < 256 by omega) (by omega), ck_tt, tn_nI (show i < 2 ^ 31 by omega), hT i hi, sPop, bnd_some, inb_nI (show bst (bF T l) i < 256 by omega) (by omega), ck_tt, tn_nI (show bst (bF T l) i < 2 ^ 31 by omega), hT _ (show bst (bF T l) i < 2 ^ n by omega), sPop, bnd_some, e1, e2, ltE, ltE, nI_1, bst]
      by_cases z : bF T l (bst (bF T l) i) < bF T l i
      · rw [if_pos (lt.mpr z), if_pos z]
      · rw [if_neg (fun q => z (lt.mp q)), if_neg z])
    (by
      intro n' ⟨r, ν⟩ _
      dsimp only
      rw [lp_X_tests_78, if_neg (nI_nlt (Nat.le_refl _) (by omega))])
    (2 ^ n - 1) 1 N (0, κ) (by omega) (by omega) ⟨Nat.le_refl _, by rw [bst, bst, if_neg (Nat.lt_irrefl _)]; rfl, rfl⟩
  dsimp only at k1 k2 e
  subst k1; subst k2
  exact e
theorem l_t59 (N : Nat) (hN : 10000 ≤ N) {n : Nat} {T : Nat → Int64} (h8 : n ≤ 8) (K : Mem → Option (Int32 × Mem)) : ∀ (c : Nat) (l : Int64) (turn n' : Nat) (κ : Mem) (rw : List Int64), turn + c = 60 → c < n' → (∀ p, p < 2 ^ n → gL κ 34 p = T p) → RX κ rw → rw.length = turn → ∃ κ', lp_X_tests_59 N (nI (2 ^ n)) K n' l (nI turn) κ = K κ' ∧ RX κ' (rw ++ grd T (2 ^ n) c l) ∧ Fr (rg 16 17) κ κ' := by
  have p8 := pow8 h8
  have pp := Nat.two_pow_pos n
  intro c
  induction c with
  | zero =>
    intro l turn n' κ rw h1 h2 h3 h4 h5
    obtain ⟨n', rfl⟩ : ∃ k, n' = k + 1 := ⟨n' - 1, (by omega)⟩
    have : turn = 60 := (by omega)
    subst this
    refine ⟨κ, ?_, by rw [grd, List.append_nil]; exact h4, Fr.rf κ⟩
    rw [lp_X_tests_59]
    split
    · rfl
    · rw [if_neg (show ¬ nI 60 < 60 from nI_nlt (b := 60) (Nat.le_refl _) (by omega))]
  | succ c ih =>
    intro l turn n' κ rw h1 h2 h3 h4 h5
    obtain ⟨n', rfl⟩ : ∃ k, n' = k + 1 := ⟨n' - 1, (by omega)⟩
    rw [lp_X_tests_59]
    by_cases z : l = 0
    · subst z
      exact ⟨κ, by rw [if_pos (lg_eq.mpr rfl)], by rw [grd_0, List.append_nil]; exact h4, Fr.rf κ⟩
    · have b1 := bst_lt (bF T l) (2 ^ n) pp
      obtain ⟨κ1, e1, r1, f1⟩ := sNum_append N (nI (bst (bF T l) (2 ^ n))).toInt64 h4 (by omega)
      obtain ⟨κ2, e2, r2, f2⟩ := ih (l &&& (T (bst (bF T l) (2 ^ n)) ^^^ (-1))) (turn + 1) n' κ1 _ (by omega) (by omega) (fun p hp => by rw [f1.L (rgo (by omega))]; exact h3 p hp) r1 (by rw [List.length_append, List.length_singleton, h5])
      refine ⟨κ2, ?_, ?_, f1.tr f2⟩
      · rw [if_neg (fun q => z (lg_eq.mp q)), if_pos (show nI turn < 60 from nI_lt (b := 60) (by omega) (by omega)), l_t78 N hN l (nI turn) h8 h3, e1, bnd_some, inb_nI (show bst (bF T l) (2 ^ n) < 256 by omega) (by omega), ck_tt, tn_nI (by omega), f1.L (rgo (by omega)), h3 _ b1, ltE, ltE, nI_1]
        exact e2
      · rw [List.append_assoc] at r2
        rw [grd, if_neg z]
        exact r2
theorem l_mt51 (N : Nat) (hN : 10000 ≤ N) {s n p : Nat} {cs : List (Nat × Nat)} {κ : Mem} (x2 : Int64) (m : NM κ s n cs) (w : WN n cs) (hs : s < 4) (hp : p < 2 ^ n) (h0 : gL κ 60 p = 0) (K : Mem → Option (Int32 × Mem)) : ∃ κ', lp_M_tests_51 N (nI s) x2 (nI p) K N 0 κ = K κ' ∧ gL κ' 60 p = nts n cs p cs.length ∧ Fr (fun q k => (q = 44 ∧ k = 21) ∨ (q = 60 ∧ k = p)) κ κ' := by
  have h8 := w.2.1
  have p8 := pow8 h8
  have hl := w.2.2.1
  obtain ⟨κ', ⟨k1, k2⟩, e⟩ := for_up (fun n' i ν => lp_M_tests_51 N (nI s) x2 (nI p) K n' i ν) K cs.length (fun i ν => gL ν 60 p = nts n cs p i ∧ Fr (fun q k => (q = 44 ∧ k = 21) ∨ (q = 60 ∧ k = p)) κ ν)
    (by
      intro n' i ν hi ⟨i1, i2⟩
      have mk := m.fr i2 (fun q k _ _ z => by omega)
      obtain ⟨ν1, e1, f1⟩ := sM_isWrong N hN mk w hs hp (nI i) (bo i) (hbo (by omega)) 0 (by decide)
      have e1' : f_M_isWrong N (nI s) (nI p) (nI i) 0 ν = _ := e1
      refine ⟨sL ν1 60 p (nts n cs p (i + 1)), ⟨by simp [gI_sI, gL_sL, gR_sR, gI_sL, gI_sR, gL_sI, gL_sR, gR_sI, gR_sL], (i2.tr (f1.mono (fun q k z => Or.inl z))).sL (Or.inr ⟨rfl, rfl⟩)⟩, ?_⟩
      rw [lp_M_tests_51, inb_nI hs (by omega), ck_tt, tn_nI (show s < 2 ^ 31 by omega), mk.2.1, if_pos (nI_lt hi (by omega)), inb_nI (show p < 256 by omega) (by omega), ck_tt, e1', bnd_some, ltE, ck_tt, tn_nI (show p < 2 ^ 31 by omega), i1, ltE, ltE, nI_1, nts]
      by_cases z : wr n cs (bo i) 0 p = true
      · rw [if_pos z, if_neg (by decide), if_pos z]
      · rw [if_neg z, if_pos rfl, if_neg z])
    (by
      intro n' ν ⟨i1, i2⟩
      have mk := m.fr i2 (fun q k _ _ z => by omega)
      rw [lp_M_tests_51, inb_nI hs (by omega), ck_tt, tn_nI (show s < 2 ^ 31 by omega), mk.2.1, if_neg (nI_nlt (Nat.le_refl _) (by omega))])
    cs.length 0 N κ (by omega) (by omega) ⟨h0, Fr.rf κ⟩
  exact ⟨κ', e, k1, k2⟩
abbrev mT : Nat → Nat → Prop := fun q k => (q = 44 ∧ k = 21) ∨ q = 60
theorem l_mt30 (N : Nat) (hN : 10000 ≤ N) {s n : Nat} {cs : List (Nat × Nat)} {μ : Mem} (m : NM μ s n cs) (w : WN n cs) (hs : s < 4) (K : Int64 → Mem → Option (Int32 × Mem)) : ∃ μ', lp_M_tests_30 N (nI s) K N 0 0 μ = K (lms n cs (2 ^ n)) μ' ∧ (∀ p, p < 2 ^ n → gL μ' 60 p = nts n cs p cs.length) ∧ Fr mT μ μ' := by
  have h8 := w.2.1
  have p8 := pow8 h8
  obtain ⟨⟨v, μ'⟩, ⟨k1, k2, k3⟩, e⟩ := for_up (fun n' i (z : Int64 × Mem) => lp_M_tests_30 N (nI s) K n' z.1 i z.2) (fun z => K z.1 z.2) (2 ^ n) (fun i z => z.1 = lms n cs i ∧ (∀ p, p < i → gL z.2 60 p = nts n cs p cs.length) ∧ Fr mT μ z.2)
    (by
      intro n' i ⟨v, κ⟩ hi ⟨i1, i2, i3⟩
      dsimp only at i1 i2 i3
      subst i1
      have mk := m.fr i3 (fun q k _ _ z => by unfold mT at z; omega)
      have mk' : NM (sL κ 60 i 0) s n cs := mk.fr ((Fr.rf κ).sL (A := mT) (Or.inr rfl)) (fun q k _ _ z => by unfold mT at z; omega)
      obtain ⟨κ1, e1, g1, f1⟩ := l_mt51 N hN (lms n cs i) mk' w hs hi (by simp [gI_sI, gL_sL, gR_sR, gI_sL, gI_sR, gL_sI, gL_sR, gR_sI, gR_sL]) (fun μ24 => ck (inb (nI i) 256) (lt' (lms n cs i ||| (gL μ24 60 (tn (nI i)))) fun v26 => lt' (nI i + 1) fun v27 => lp_M_tests_30 N (nI s) K n' v26 v27 μ24))
      refine ⟨(lms n cs (i + 1), κ1), ⟨rfl, fun p hp => ?_, (i3.sL (Or.inr rfl)).tr (f1.mono (fun q k z => by unfold mT; omega))⟩, ?_⟩
      · dsimp only
        by_cases e : p = i
        · subst e; exact g1
        · rw [f1.L (by omega), gL_sL, if_neg (fun y => e y.2)]; exact i2 p (by omega)
      · dsimp only
        rw [lp_M_tests_30, sM_all N mk hs h8, bnd_some, if_pos (nI_lt hi (by omega)), inb_nI (show i < 256 by omega) (by omega), ck_tt, tn_nI (show i < 2 ^ 31 by omega), ltE]
        rw [inb_nI (show i < 256 by omega) (by omega), tn_nI (show i < 2 ^ 31 by omega)] at e1
        refine Eq.trans e1 ?_
        rw [ck_tt, g1, ltE, ltE, nI_1, lms])
    (by
      intro n' ⟨v, κ⟩ ⟨i1, i2, i3⟩
      dsimp only at i1 i2 i3 ⊢
      have mk := m.fr i3 (fun q k _ _ z => by unfold mT at z; omega)
      rw [lp_M_tests_30, sM_all N mk hs h8, bnd_some, if_neg (nI_nlt (Nat.le_refl _) (by omega))])
    (2 ^ n) 0 N (0, μ) (by omega) (by omega) ⟨rfl, fun p hp => by omega, Fr.rf μ⟩
  dsimp only at k1 k2 k3 e
  subst k1
  exact ⟨μ', e, k2, k3⟩
theorem l_mt132 (N : Nat) (hN : 10000 ≤ N) {s n : Nat} {cs : List (Nat × Nat)} {κ : Mem} {T : Nat → Int64} (l : Int64) (m : NM κ s n cs) (hs : s < 4) (h8 : n ≤ 8) (hT : ∀ p, p < 2 ^ n → gL κ 60 p = T p) (K : Int32 → Mem → Option (Int32 × Mem)) : lp_M_tests_132 N (nI s) l K N 0 1 κ = K (nI (bst (bF T l) (2 ^ n))) κ := by
  have p8 := pow8 h8
  have pp := Nat.two_pow_pos n
  obtain ⟨⟨r, κ'⟩, ⟨-, k1, k2⟩, e⟩ := for_up (fun n' i (q : Int32 × Mem) => lp_M_tests_132 N (nI s) l K n' q.1 i q.2) (fun q => K q.1 q.2) (2 ^ n) (fun i q => 1 ≤ i ∧ q.1 = nI (bst (bF T l) i) ∧ q.2 = κ)
    (by
      intro n' i ⟨r, ν⟩ hi ⟨i0, i1, i2⟩
      dsimp only at i1 i2
      subst i1; subst i2
      have b1 := bst_lt (bF T l) i (by omega)
      have c1 := bF_le T l i
      have c2 := bF_le T l (bst (bF T l) i)
      refine ⟨(nI (bst (bF T l) (i + 1)), ν), ⟨(by omega), rfl, rfl⟩, ?_⟩
      dsimp only
      have e1 : cn (lb (T i &&& l)) 64 = bF T l i := rfl
      have e2 : cn (lb (T (bst (bF T l) i) &&& l)) 64 = bF T l (bst (bF T l) i) := rfl
      have lt : (nI (bF T l (bst (bF T l) i)) < nI (bF T l i)) ↔ bF T l (bst (bF T l) i) < bF T l i := nI_ltI (by omega) (by omega)
      have mb : ∀ v : Int64, f_M_bits N v ν = some (nI (cn (lb v) 64), ν) := fun v => by unfold f_M_bits; rw [sPop, bnd_some]
      rw [lp_M_tests_132, sM_all N m hs h8, bnd_some, if_pos (nI_lt hi (by omega)), inb_nI (show i < 256 by omega) (by omega), ck_tt, tn_nI (show i < 2 ^ 31 by omega), hT i hi, mb, bnd_some, inb_nI (show bst (bF T l) i < 256 by omega) (by omega), ck_tt, tn_nI (show bst (bF T l) i < 2 ^ 31 by omega), hT _ (show bst (bF T l) i < 2 ^ n by omega), mb, bnd_some, e1, e2, ltE, ltE, nI_1, bst]
      by_cases z : bF T l (bst (bF T l) i) < bF T l i
      · rw [if_pos (lt.mpr z), if_pos z]
      · rw [if_neg (fun q => z (lt.mp q)), if_neg z])
    (by
      intro n' ⟨r, ν⟩ ⟨_, i1, i2⟩
      dsimp only at i1 i2 ⊢
      subst i2
      rw [lp_M_tests_132, sM_all N m hs h8, bnd_some, if_neg (nI_nlt (Nat.le_refl _) (by omega))])
    (2 ^ n - 1) 1 N (0, κ) (by omega) (by omega) ⟨Nat.le_refl _, by rw [bst, bst, if_neg (Nat.lt_irrefl _)]; rfl, rfl⟩
  dsimp only at k1 k2 e
  subst k1; subst k2
  exact e
theorem cn_less {P Q : Nat → Bool} : ∀ m, (∀ t, t < m → P t = true → Q t = true) → (∃ t, t < m ∧ Q t = true ∧ P t = false) → cn P m < cn Q m
  | 0, _, ⟨t, h, _⟩ => by omega
  | m + 1, h, ⟨t, h1, h2, h3⟩ => by
    rw [cn, cn]
    by_cases e : t = m
    · subst e
      have := cn_mono (n := t) (fun k hk => h k (show k < t + 1 by omega))
      rw [h2, h3]
      simp; omega
    · have ih := cn_less m (fun t ht => h t (by omega)) ⟨t, (by omega), h2, h3⟩
      have := h m (by omega)
      cases hp : P m with
      | false => simp only [Bool.false_eq_true, if_false, Nat.add_zero]; omega
      | true => rw [this hp]; simp; omega
theorem grd_fall {T : Nat → Int64} {m : Nat} {l : Int64} (hm : 0 < m) (hl : l ≠ 0) (hu : ∀ t, t < 64 → lb l t = true → ∃ p, p < m ∧ lb (T p) t = true) : cn (lb (l &&& (T (bst (bF T l) m) ^^^ (-1)))) 64 < cn (lb l) 64 := by
  obtain ⟨k, hk, h1, -⟩ := low_ex hl
  obtain ⟨p, hp, h2⟩ := hu k hk h1
  have f1 : bF T l p ≠ 0 := by
    unfold bF
    exact cn_ne.mpr ⟨k, hk, by rw [lb_and, h1, h2]; rfl⟩
  have f2 := bst_max (bF T l) m p hp
  have f3 : bF T l (bst (bF T l) m) ≠ 0 := (by omega)
  unfold bF at f3
  obtain ⟨t, ht, h3⟩ := cn_ne.mp f3
  rw [lb_and, Bool.and_eq_true] at h3
  refine cn_less 64 (fun t ht h => ?_) ⟨t, ht, h3.2, ?_⟩
  · rw [lb_and, Bool.and_eq_true] at h; exact h.1
  · rw [lb_and, lb_not _ ht]
    unfold bF
    rw [h3.1]; simp
theorem l_mt120 (N : Nat) (hN : 10000 ≤ N) {s n : Nat} {cs : List (Nat × Nat)} {T : Nat → Int64} (hs : s < 4) (h8 : n ≤ 8) (K : Mem → Option (Int32 × Mem)) : ∀ (c : Nat) (l : Int64) (n' : Nat) (κ : Mem) (rw : List Int64), NM κ s n cs → rw.length + c ≤ 60 → c < n' → cn (lb l) 64 ≤ c → (∀ t, t < 64 → lb l t = true → ∃ p, p < 2 ^ n ∧ lb (T p) t = true) → (∀ p, p < 2 ^ n → gL κ 60 p = T p) → RM κ rw → ∃ κ', lp_M_tests_120 N (nI s) K n' l κ = K κ' ∧ RM κ' (rw ++ grd T (2 ^ n) c l) ∧ Fr mR κ κ' := by
  have p8 := pow8 h8
  have pp := Nat.two_pow_pos n
  intro c
  induction c with
  | zero =>
    intro l n' κ rw m h1 h2 h3 hu h4 h5
    obtain ⟨n', rfl⟩ : ∃ k, n' = k + 1 := ⟨n' - 1, (by omega)⟩
    have l0 : l = 0 := by
      apply lb_ext
      intro t ht
      rw [lb_zero]
      exact cn_z0.mp (show cn (lb l) 64 = 0 by omega) t ht
    subst l0
    refine ⟨κ, ?_, by rw [grd, List.append_nil]; exact h5, Fr.rf κ⟩
    rw [lp_M_tests_120, if_pos (lg_eq.mpr rfl)]
  | succ c ih =>
    intro l n' κ rw m h1 h2 h3 hu h4 h5
    obtain ⟨n', rfl⟩ : ∃ k, n' = k + 1 := ⟨n' - 1, (by omega)⟩
    rw [lp_M_tests_120]
    by_cases z : l = 0
    · subst z
      exact ⟨κ, by rw [if_pos (lg_eq.mpr rfl)], by rw [grd_0, List.append_nil]; exact h5, Fr.rf κ⟩
    · have b1 := bst_lt (bF T l) (2 ^ n) pp
      have fa := grd_fall pp z hu
      obtain ⟨κ1, e1, r1, f1⟩ := sM_enters N (nI (bst (bF T l) (2 ^ n))).toInt64 h5 (by omega)
      have m1 := m.fr f1 (fun q k _ _ z => by unfold mR at z; omega)
      obtain ⟨κ2, e2, r2, f2⟩ := ih (l &&& (T (bst (bF T l) (2 ^ n)) ^^^ (-1))) n' κ1 _ m1 (by rw [List.length_append, List.length_singleton]; omega) (by omega) (by omega) (fun t ht h => hu t ht (by rw [lb_and, Bool.and_eq_true] at h; exact h.1)) (fun p hp => by rw [f1.L (fun z => by unfold mR at z; omega)]; exact h4 p hp) r1
      refine ⟨κ2, ?_, ?_, f1.tr f2⟩
      · rw [if_neg (fun q => z (lg_eq.mp q)), l_mt132 N hN l m hs h8 h4, e1, bnd_some, inb_nI (show bst (bF T l) (2 ^ n) < 256 by omega) (by omega), ck_tt, tn_nI (by omega), f1.L (fun z => by unfold mR at z; omega), h4 _ b1, ltE]
        exact e2
      · rw [List.append_assoc] at r2
        rw [grd, if_neg z]
        exact r2
theorem als_cn {n : Nat} {cs : List (Nat × Nat)} (hl : cs.length ≤ 60) : cn (lb (als n cs cs.length)) 64 ≤ 60 := by
  have := cn_split (lb (als n cs cs.length)) 60 4
  have h1 := cn_le (lb (als n cs cs.length)) 60
  have h2 : cn (fun t => lb (als n cs cs.length) (60 + t)) 4 = 0 := cn_z0.mpr (fun t ht => by
    rw [lb_als n cs (by omega) _ (by omega)]
    have : ¬ 60 + t < cs.length := (by omega)
    simp [this])
  rw [show (60 + 4 : Nat) = 64 from rfl] at this
  omega
theorem op_tests (N : Nat) (hN : 10000 ≤ N) (x : Int32) : OpEq (f_X_tests N x) (f_M_tests N x) := by
  refine op_of (-1) (fun x h μ => by simp [f_X_tests, isNet_out N h, bnd_some]) (fun x h μ => by simp [f_M_tests, mNet_out N h, bnd_some, lt']) (fun s hs μ σ hw hx => ?_) x
  have w := hw.1 s hs
  have nx := hx.1 s hs
  have hl := w.2.2.1
  generalize hcs : (σ.1 s).2 = cs at *
  generalize hnn : (σ.1 s).1 = n at *
  have h8 := w.2.1
  have p8 := pow8 h8
  obtain ⟨μ1, e1, f1⟩ := sX_isSorting0 N hN nx w (by omega)
  by_cases z : cn (wr n cs b0 0) (2 ^ n) = 0
  · rw [if_pos z] at e1
    have n1 := nx.frg f1 (by omega)
    generalize hT : (fun p => nts n cs p cs.length) = T
    have hT' : ∀ p, nts n cs p cs.length = T p := fun p => by rw [← hT]
    generalize hg : grd T (2 ^ n) 60 (als n cs cs.length) = g
    have gl : g.length ≤ 60 := by rw [← hg]; exact grd_len _ _ _ _
    refine g_q hw hx (nI g.length) g (by omega) ?_ (fun μ ν hν hm => ?_)
    · obtain ⟨μ2, e2, v2, f2⟩ := sX_findNotices N hN n1 w (by omega)
      obtain ⟨μ3, e3, r3, f3⟩ := sNum_clear N μ2
      obtain ⟨μ4, e4, r4, f4⟩ := l_t59 N hN (T := T) h8 (fun μ35 => some (gI μ35 16 1, μ35)) 60 (als n cs cs.length) 0 N μ3 [] (by omega) (by omega) (fun p hp => by rw [f3.L (rgo (by omega)), v2 p hp]; exact hT' p) r3 rfl
      rw [List.nil_append, hg] at r4
      refine ⟨μ4, ?_, r4, (((f1.wide (by omega) (by omega)).tr (f2.wide (by omega) (by omega))).tr (f3.wide (by omega) (by omega))).tr (f4.wide (by omega) (by omega))⟩
      unfold f_X_tests
      rw [isNet_in N hs, bnd_some, if_neg (by decide), inb_nI hs (by omega), ck_tt, tn_nI (by omega), e1, bnd_some, if_neg (by decide), ck_tt, n1.1, one_shl (by omega), ltE, ck_tt, e2, bnd_some, e3, bnd_some]
      refine Eq.trans e4 ?_
      rw [r4.1]
    · have m := hm.1 s hs
      rw [hcs, hnn] at m
      obtain ⟨ν1, g1, h1⟩ := sM_doesSort N hN m w hs
      rw [if_pos z] at g1
      have m1 := m.fr h1 (fun q k _ _ z => by unfold mW at z; omega)
      obtain ⟨ν2, g2, v2, h2⟩ := l_mt30 N hN m1 w hs (fun v28 μ29 => lt' (sI μ29 44 1 0) fun μ30 => lp_M_tests_120 N (nI s) (fun μ51 => some (gI μ51 44 1, μ51)) N v28 μ30)
      have m2 := m1.fr h2 (fun q k _ _ z => by unfold mT at z; omega)
      obtain ⟨r3, h3⟩ := sM_told0 ν2
      have m3 := m2.fr h3 (fun q k _ _ z => by unfold mR at z; omega)
      obtain ⟨ν4, g4, r4, h4⟩ := l_mt120 N hN (T := T) hs h8 (fun μ51 => some (gI μ51 44 1, μ51)) 60 (als n cs cs.length) N _ [] m3 (by simp) (by omega) (als_cn hl) (fun t ht h => by
        rw [als_lms hl] at h
        obtain ⟨p, hp, h'⟩ := (lb_lms n cs t _).mp h
        exact ⟨p, hp, by rw [← hT' p]; exact h'⟩) (fun p hp => by rw [h3.L (fun z => by unfold mR at z; omega), v2 p hp]; exact hT' p) r3
      rw [List.nil_append, hg] at r4
      refine ⟨ν4, ?_, r4, (((mS_mQ (mW_mS h1)).tr (h2.mono (fun q k z => by unfold mT at z; unfold mQ; omega))).tr (mR_mQ h3)).tr (mR_mQ h4)⟩
      unfold f_M_tests
      rw [ltE, ← hν, mNet_in N hs, bnd_some, if_neg (by decide), g1, bnd_some, if_neg (by decide)]
      refine Eq.trans g2 ?_
      rw [ltE, ← als_lms hl]
      refine Eq.trans g4 ?_
      rw [r4.1]
  · rw [if_neg z] at e1
    refine g_n hw hx (-2) ⟨μ1, ?_, f1.wide (by omega) (by omega)⟩ (fun μ ν hν hm => ?_)
    · unfold f_X_tests
      rw [isNet_in N hs, bnd_some, if_neg (by decide), inb_nI hs (by omega), ck_tt, tn_nI (by omega), e1, bnd_some, if_pos rfl]
    · have m := hm.1 s hs
      rw [hcs, hnn] at m
      obtain ⟨ν1, g1, h1⟩ := sM_doesSort N hN m w hs
      rw [if_neg z] at g1
      refine ⟨ν1, ?_, mW_mS h1⟩
      unfold f_M_tests
      rw [ltE, ← hν, mNet_in N hs, bnd_some, if_neg (by decide), g1, bnd_some, if_pos rfl]

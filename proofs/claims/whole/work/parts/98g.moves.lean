/-! least and shallow: pairs, moves, the class's whole -/
def pmk (n : Nat) (lay : Bool) (m : Nat) : Bool := decide (bcI (nI m) = 1) || (lay && dis (tk (prs n) m) 0)
def mkl (n : Nat) (lay : Bool) : List Nat := ((List.range (2 ^ (prs n).length - 1)).map (fun k => k + 1)).filter (pmk n lay)
theorem mkl_f : ∀ n, n < 6 → (mkl n false).map (tk (prs n)) = mvs n false := by decide +kernel
theorem mkl_t : ∀ n, n < 6 → (mkl n true).map (tk (prs n)) = mvs n true := by decide +kernel
theorem mkl_lf : ∀ n, n < 6 → (mkl n false).length ≤ 25 := by decide +kernel
theorem mkl_lt : ∀ n, n < 6 → (mkl n true).length ≤ 25 := by decide +kernel
theorem mkl_eq {n : Nat} (h : n ≤ 5) : ∀ lay, (mkl n lay).map (tk (prs n)) = mvs n lay
  | false => mkl_f n (by omega)
  | true => mkl_t n (by omega)
theorem mkl_len {n : Nat} (h : n ≤ 5) : ∀ lay, (mkl n lay).length ≤ 25
  | false => mkl_lf n (by omega)
  | true => mkl_lt n (by omega)
theorem mkl_b {n : Nat} (h : n ≤ 5) (lay : Bool) : ∀ x ∈ mkl n lay, x < 1024 := by
  intro x hx
  unfold mkl at hx
  obtain ⟨k, hk, rfl⟩ := List.mem_map.mp (List.mem_filter.mp hx).1
  have h1 := List.mem_range.mp hk
  have h2 := (prs_ok n (by omega)).1
  have h3 : 2 ^ (prs n).length ≤ 2 ^ 10 := Nat.pow_le_pow_right (by decide) h2
  omega
theorem tk_ok {n : Nat} : ∀ (l : List (Nat × Nat)) (q : Nat), (∀ c ∈ l, c.1 < c.2 ∧ c.2 < n) → ∀ c ∈ tk l q, c.1 < c.2 ∧ c.2 < n
  | [], q, _, c, hc => by rw [tk] at hc; cases hc
  | y :: l, q, hy, c, hc => by
    rw [tk] at hc
    have hy' : ∀ c ∈ l, c.1 < c.2 ∧ c.2 < n := fun c hc => hy c (List.mem_cons_of_mem _ hc)
    split at hc
    · rcases List.mem_cons.mp hc with e | e
      · subst e; exact hy c List.mem_cons_self
      · exact tk_ok l _ hy' c e
    · exact tk_ok l _ hy' c hc
theorem ms_ok {n : Nat} (h : n ≤ 5) (lay : Bool) : MSok n ((mkl n lay).map (tk (prs n))) := by
  intro l hl
  obtain ⟨x, _, rfl⟩ := List.mem_map.mp hl
  exact tk_ok _ _ (prs_ok n (by omega)).2
theorem PRm.sn {κ : Mem} {acc : List (Nat × Nat)} {i j : Nat} (h : PRm κ acc) : PRm (sI (sI (sI κ 39 acc.length (nI i)) 40 acc.length (nI j)) 38 6 (nI (acc.length + 1))) (acc ++ [(i, j)]) := by
  refine ⟨by rw [List.length_append, List.length_singleton]; simp [gI_sI, gL_sL, gR_sR, gI_sL, gI_sR, gL_sI, gL_sR, gR_sI, gR_sL], fun k hk => ?_⟩
  rw [List.length_append, List.length_singleton] at hk
  rw [cl_app, ch_app]
  by_cases e : k < acc.length
  · have ne : ¬ k = acc.length := (by omega)
    rw [if_pos e, if_pos e]
    simp [gI_sI, gL_sL, gR_sR, gI_sL, gI_sR, gL_sI, gL_sR, gR_sI, gR_sL, ne, h.2 k e]
  · have ek : k = acc.length := (by omega)
    subst ek
    simp [gI_sI, gL_sL, gR_sR, gI_sL, gI_sR, gL_sI, gL_sR, gR_sI, gR_sL]
def prl (n i : Nat) : List (Nat × Nat) := (List.range i).flatMap fun i => (List.range (n - (i + 1))).map fun k => (i, i + 1 + k)
theorem prl_succ (n i : Nat) : prl n (i + 1) = prl n i ++ (List.range (n - (i + 1))).map fun k => (i, i + 1 + k) := by
  unfold prl
  rw [List.range_succ, List.flatMap_append]
  congr 1
  simp only [List.flatMap_cons, List.flatMap_nil, List.append_nil]
theorem prl_b : ∀ n, n < 6 → ∀ i, i < 6 → i + 1 < n → (prl n i).length + (n - (i + 1)) ≤ 10 := by decide
theorem sX_listPairs (N : Nat) (hN : 10000 ≤ N) {n : Nat} {κ : Mem} (h1 : 1 ≤ n) (h5 : n ≤ 5) (hw : gI κ 38 5 = nI n) : ∃ κ', f_Search_listPairs N κ = some ((), κ') ∧ PRm κ' (prs n) ∧ Fr (fun q k => q = 39 ∨ q = 40 ∨ (q = 38 ∧ k = 6)) κ κ' := by
  have sb : nI n - 1 = nI (n - 1) := pk_sub (b := 1) h1
  have inner : ∀ (i : Nat) (acc : List (Nat × Nat)) (ν : Mem) (K : Mem → Option (Unit × Mem)), i + 1 < n → acc.length + (n - (i + 1)) ≤ 10 → PRm ν acc → gI ν 38 5 = nI n → ∃ ν', lp_Search_listPairs_21 N (nI i) K N (nI (i + 1)) ν = K ν' ∧ PRm ν' (acc ++ (List.range (n - (i + 1))).map fun k => (i, i + 1 + k)) ∧ Fr (fun q k => q = 39 ∨ q = 40 ∨ (q = 38 ∧ k = 6)) ν ν' := by
    intro i acc ν K hi ha hp hw
    obtain ⟨ν', ⟨-, k1, k2⟩, e⟩ := for_up (fun n' j ν => lp_Search_listPairs_21 N (nI i) K n' j ν) K n (fun j ν' => i + 1 ≤ j ∧ PRm ν' (acc ++ (List.range (j - (i + 1))).map fun k => (i, i + 1 + k)) ∧ Fr (fun q k => q = 39 ∨ q = 40 ∨ (q = 38 ∧ k = 6)) ν ν')
      (by
        intro n' j ν1 hj ⟨i0, i1, i2⟩
        have w1 : gI ν1 38 5 = nI n := by rw [i2.I (by omega)]; exact hw
        generalize hA : acc ++ (List.range (j - (i + 1))).map (fun k => (i, i + 1 + k)) = A at *
        have al : A.length = acc.length + (j - (i + 1)) := by rw [← hA, List.length_append, List.length_map, List.length_range]
        have es : acc ++ (List.range (j + 1 - (i + 1))).map (fun k => (i, i + 1 + k)) = A ++ [(i, j)] := by
          rw [show j + 1 - (i + 1) = (j - (i + 1)) + 1 by omega, List.range_succ, List.map_append, ← List.append_assoc, hA]
          simp only [List.map_cons, List.map_nil]
          rw [show i + 1 + (j - (i + 1)) = j by omega]
        refine ⟨sI (sI (sI ν1 39 A.length (nI i)) 40 A.length (nI j)) 38 6 (nI (A.length + 1)), ⟨(by omega), by rw [es]; exact i1.sn, ((i2.sI (by omega)).sI (by omega)).sI (by omega)⟩, ?_⟩
        have g1 : gI (sI ν1 39 A.length (nI i)) 38 6 = nI A.length := by rw [gI_sI, if_neg (by omega)]; exact i1.1
        have g2 : gI (sI (sI ν1 39 A.length (nI i)) 40 A.length (nI j)) 38 6 = nI A.length := by rw [gI_sI, if_neg (by omega)]; exact g1
        rw [lp_Search_listPairs_21, w1, if_pos (nI_lt hj (by omega)), i1.1, if_pos (show nI A.length < 10 from nI_lt (b := 10) (by omega) (by omega)), inb_nI (show A.length < 10 by omega) (by omega), ckE, tn_nI (by omega), ltE, g1, inb_nI (show A.length < 10 by omega) (by omega), ckE, tn_nI (by omega), ltE, g2, nI_1, ltE, ltE, nI_1])
      (by
        intro n' ν1 ⟨i0, i1, i2⟩
        have w1 : gI ν1 38 5 = nI n := by rw [i2.I (by omega)]; exact hw
        rw [lp_Search_listPairs_21, w1, if_neg (nI_nlt (Nat.le_refl _) (by omega))])
      (n - (i + 1)) (i + 1) N ν (by omega) (by omega) ⟨Nat.le_refl _, by rw [Nat.sub_self]; simpa using hp, Fr.rf ν⟩
    exact ⟨ν', e, k1, k2⟩
  have f0 : Fr (fun q k => q = 39 ∨ q = 40 ∨ (q = 38 ∧ k = 6)) κ (sI κ 38 6 0) := (Fr.rf κ).sI (by omega)
  obtain ⟨κ', ⟨k1, k2⟩, e⟩ := for_up (fun n' i ν => lp_Search_listPairs_7 N (fun μ14 => some ((), μ14)) n' i ν) (fun μ14 => some ((), μ14)) (n - 1) (fun i ν => PRm ν (prl n i) ∧ Fr (fun q k => q = 39 ∨ q = 40 ∨ (q = 38 ∧ k = 6)) κ ν)
    (by
      intro n' i ν hi ⟨i1, i2⟩
      have w1 : gI ν 38 5 = nI n := by rw [i2.I (by omega)]; exact hw
      obtain ⟨ν', e', p', f'⟩ := inner i (prl n i) ν (fun μ12 => lt' (nI i + 1) fun v13 => lp_Search_listPairs_7 N (fun μ14 => some ((), μ14)) n' v13 μ12) (by omega) (prl_b n (by omega) i (by omega) (by omega)) i1 w1
      refine ⟨ν', ⟨by rw [prl_succ]; exact p', i2.tr f'⟩, ?_⟩
      rw [lp_Search_listPairs_7, w1, sb, if_pos (nI_lt hi (by omega)), ltE, nI_1]
      rw [nI_1] at e'
      refine Eq.trans e' ?_
      rw [ltE])
    (by
      intro n' ν ⟨i1, i2⟩
      have w1 : gI ν 38 5 = nI n := by rw [i2.I (by omega)]; exact hw
      rw [lp_Search_listPairs_7, w1, sb, if_neg (nI_nlt (Nat.le_refl _) (by omega))])
    (n - 1) 0 N (sI κ 38 6 0) (by omega) (by omega) ⟨⟨by simp [gI_sI, gL_sL, gR_sR, gI_sL, gI_sR, gL_sI, gL_sR, gR_sI, gR_sL, prl]; rfl, fun k hk => by simp [prl] at hk⟩, f0⟩
  refine ⟨κ', ?_, k1, k2⟩
  unfold f_Search_listPairs
  rw [ltE]
  exact e
theorem drop_p {c : Nat × Nat} : ∀ (l : List (Nat × Nat)) (m : Nat) (r : List (Nat × Nat)), l.drop m = c :: r → m < l.length ∧ cl l m = c.1 ∧ ch l m = c.2 ∧ l.drop (m + 1) = r
  | [], m, r, h => by rw [List.drop_nil] at h; cases h
  | a :: l, 0, r, h => by
    rw [List.drop_zero] at h
    cases h
    exact ⟨by rw [List.length_cons]; omega, rfl, rfl, rfl⟩
  | a :: l, m + 1, r, h => by
    have h' : l.drop m = c :: r := h
    have ih := drop_p l m r h'
    exact ⟨by rw [List.length_cons]; omega, ih.2.1, ih.2.2.1, ih.2.2.2⟩
theorem sX_isLayer (N : Nat) (hN : 10000 ≤ N) {n m : Nat} {κ : Mem} (h5 : n ≤ 5) (hp : PRm κ (prs n)) (hm : m < 2 ^ 20) : f_Search_isLayer N (nI m) κ = some (if dis (tk (prs n) m) 0 then 1 else 0, κ) := by
  have pl' := (prs_ok n (by omega)).1
  have key : ∀ (rest : List (Nat × Nat)) (k u n' : Nat), (prs n).drop k = rest → k ≤ 10 → rest.length < n' → lp_Search_isLayer_4 N (nI m) (fun μ11 => some (1, μ11)) n' (nI u) (nI k) κ = some (if dis (tk rest (m / 2 ^ k)) u then 1 else 0, κ) := by
    intro rest
    induction rest with
    | nil =>
      intro k u n' hd hk hn
      obtain ⟨n', rfl⟩ : ∃ k, n' = k + 1 := ⟨n' - 1, (by omega)⟩
      have := List.drop_eq_nil_iff.mp hd
      rw [lp_Search_isLayer_4, hp.1, if_neg (nI_nlt this (by omega))]; rfl
    | cons c r ih =>
      intro k u n' hd hk hn
      obtain ⟨n', rfl⟩ : ∃ k, n' = k + 1 := ⟨n' - 1, (by omega)⟩
      obtain ⟨d1, d2, d3, d4⟩ := drop_p (prs n) k r hd
      have ca := prs_at h5 d1
      rw [d2, d3] at ca
      have hq : m / 2 ^ (k + 1) = m / 2 ^ k / 2 := by rw [Nat.pow_succ, Nat.div_div_eq_div_mul]
      have tbk : tb m k = m / 2 ^ k % 2 := rfl
      have ml : (2 ^ c.1 ||| 2 ^ c.2) < 2 ^ 6 := Nat.or_lt_two_pow (Nat.pow_lt_pow_right (by decide) (show c.1 < 6 by omega)) (Nat.pow_lt_pow_right (by decide) (show c.2 < 6 by omega))
      have rest' : ∀ u', lp_Search_isLayer_4 N (nI m) (fun μ11 => some (1, μ11)) n' (nI u') (nI (k + 1)) κ = some (if dis (tk r (m / 2 ^ k / 2)) u' then 1 else 0, κ) := fun u' => by
        have := ih (k + 1) u' n' d4 (by omega) (by rw [List.length_cons] at hn; omega)
        rw [hq] at this
        exact this
      rw [lp_Search_isLayer_4, hp.1, if_pos (nI_lt d1 (by omega)), ltE, bitI (by omega) (by omega), tk]
      by_cases z : tb m k = 1
      · have z' : m / 2 ^ k % 2 = 1 := z
        rw [if_pos (nI_is1.mpr z), if_pos z', inb_nI (show k < 10 by omega) (by omega), ckE, ckE, tn_nI (by omega), (hp.2 k d1).1, (hp.2 k d1).2, d2, d3, one_shl (by omega), one_shl (by omega), orI, ltE, andI, dis]
        have lu : u &&& (2 ^ c.1 ||| 2 ^ c.2) < 2 ^ 6 := Nat.lt_of_le_of_lt Nat.and_le_right ml
        have ce : (nI (u &&& (2 ^ c.1 ||| 2 ^ c.2)) = 0) ↔ u &&& (2 ^ c.1 ||| 2 ^ c.2) = 0 := nI_eq (b := 0) (by omega) (by omega)
        by_cases y : u &&& (2 ^ c.1 ||| 2 ^ c.2) = 0
        · rw [if_pos (ce.mpr y), orI, ltE]
          dsimp only
          rw [ltE, nI_1, rest', y]; rfl
        · have yf : ((u &&& (2 ^ c.1 ||| 2 ^ c.2)) == 0) = false := by simp [y]
          rw [if_neg (fun q => y (ce.mp q)), yf]; rfl
      · have z' : ¬ m / 2 ^ k % 2 = 1 := z
        rw [if_neg (fun q => z (nI_is1.mp q)), if_neg z']
        dsimp only
        rw [ltE, nI_1, rest']
  unfold f_Search_isLayer
  have := key (prs n) 0 0 N List.drop_zero (by omega) (by omega)
  rw [Nat.pow_zero, Nat.div_one] at this
  exact this

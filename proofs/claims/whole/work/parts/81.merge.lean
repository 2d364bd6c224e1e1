/-! Batcher's way, and what is drawn -/
theorem andI (a b : Nat) : nI a &&& nI b = nI (a &&& b) := by
  apply Int32.toBitVec_inj.1
  show BitVec.ofNat 32 a &&& BitVec.ofNat 32 b = BitVec.ofNat 32 (a &&& b)
  apply BitVec.eq_of_getLsbD_eq
  intro i hi
  simp [hi]
theorem and_le8 {w p : Nat} (h : w < 8) : w &&& p < 8 := Nat.lt_of_le_of_lt Nat.and_le_left h
theorem x_sB (N : Nat) (hN : 10000 ≤ N) {μ : Mem} {q n p r d : Nat} (h8 : n ≤ 8) (hd : d ≤ n) (hr : r < 16) {κ : Mem} {cs : List (Nat × Nat)} (hc : HX μ q n κ cs) (hl : cs.length + (sB n p r d).length ≤ 60) : ∃ κ', HX μ q n κ' (cs ++ sB n p r d) ∧ f_X_appendStride N q (nI p) (nI r) (nI d) κ = some ((), κ') := by
  have sb : nI n - nI d = nI (n - d) := pk_sub hd
  exact fl_up (fun n' i κ => lp_X_appendStride_3 N q (nI p) (nI r) (nI d) (fun μ8 => some ((), μ8)) n' i κ) (fun μ8 => some ((), μ8)) (HX μ q n) (fun w => if w &&& p = r then [(w, w + d)] else []) (n - d) (by
      intro n' i κ cs hi hc hl
      have a8 := and_le8 (w := i) (p := p) (by omega)
      have c : (nI (i &&& p) = nI r) ↔ (i &&& p) = r := nI_eq (by omega) (by omega)
      by_cases z : (i &&& p) = r
      · rw [if_pos z] at hl ⊢
        obtain ⟨κ', g, e⟩ := hc.ap N (i := i) (j := i + d) (by simp at hl; omega)
        refine ⟨κ', g, ?_⟩
        rw [lp_X_appendStride_3, hc.1.1, sb, if_pos (nI_lt hi (by omega)), ltE, andI, if_pos (c.mpr z), nI_add, e, bnd_some]
        dsimp only
        rw [ltE, nI_1]
      · rw [if_neg z]
        refine ⟨κ, by rw [List.append_nil]; exact hc, ?_⟩
        rw [lp_X_appendStride_3, hc.1.1, sb, if_pos (nI_lt hi (by omega)), ltE, andI, if_neg (fun y => z (c.mp y))]
        dsimp only
        rw [ltE, nI_1]) (by
      intro n' κ cs hc
      rw [lp_X_appendStride_3, hc.1.1, sb, if_neg (nI_nlt (Nat.le_refl _) (by omega))]) (n - d) 0 N κ cs (by omega) (by omega) hc hl
theorem m_sB (N : Nat) (hN : 10000 ≤ N) {μ : Mem} {s n p r d : Nat} (hs : s < 4) (h8 : n ≤ 8) (hd : d ≤ n) (hr : r < 16) {κ : Mem} {cs : List (Nat × Nat)} (hc : HM μ s n κ cs) (hl : cs.length + (sB n p r d).length ≤ 60) : ∃ κ', HM μ s n κ' (cs ++ sB n p r d) ∧ f_M_exchanges5 N (nI s) (nI n) (nI p) (nI d) (nI r) κ = some ((), κ') := by
  have sb : nI n - nI d = nI (n - d) := pk_sub hd
  exact fl_up (fun n' i κ => lp_M_exchanges5_3 N (nI s) (nI n) (nI p) (nI d) (nI r) (fun μ8 => some ((), μ8)) n' i κ) (fun μ8 => some ((), μ8)) (HM μ s n) (fun w => if w &&& p = r then [(w, w + d)] else []) (n - d) (by
      intro n' i κ cs hi hc hl
      have a8 := and_le8 (w := i) (p := p) (by omega)
      have c : (nI (i &&& p) = nI r) ↔ (i &&& p) = r := nI_eq (by omega) (by omega)
      by_cases z : (i &&& p) = r
      · rw [if_pos z] at hl ⊢
        obtain ⟨κ', g, e⟩ := hc.ap N (i := i) (j := i + d) hs (by simp at hl; omega)
        refine ⟨κ', g, ?_⟩
        rw [lp_M_exchanges5_3, sb, if_pos (nI_lt hi (by omega)), ltE, andI, if_pos (c.mpr z), nI_add, e, bnd_some]
        dsimp only
        rw [ltE, nI_1]
      · rw [if_neg z]
        refine ⟨κ, by rw [List.append_nil]; exact hc, ?_⟩
        rw [lp_M_exchanges5_3, sb, if_pos (nI_lt hi (by omega)), ltE, andI, if_neg (fun y => z (c.mp y))]
        dsimp only
        rw [ltE, nI_1]) (by
      intro n' κ cs hc
      rw [lp_M_exchanges5_3, sb, if_neg (nI_nlt (Nat.le_refl _) (by omega))]) (n - d) 0 N κ cs (by omega) (by omega) hc hl
theorem hlf {a : Nat} (ha : a < 2 ^ 31) : nI a / 2 = nI (a / 2) := pk_div (d := 2) ha (by decide) (by decide)
theorem pw_half (p k : Nat) : p * 2 ^ (k + 1) / 2 = p * 2 ^ k := by
  rw [Nat.pow_succ, ← Nat.mul_assoc, Nat.mul_div_cancel _ (by decide)]
theorem pw_gt {p k : Nat} (h : 0 < p) : p < p * 2 ^ (k + 1) := by
  have := Nat.two_pow_pos k
  have e : p * 2 ^ (k + 1) = p * 2 ^ k * 2 := by rw [Nat.pow_succ, Nat.mul_assoc]
  have : p * 1 ≤ p * 2 ^ k := Nat.mul_le_mul_left p this
  omega
theorem x_qK (N : Nat) (hN : 10000 ≤ N) {μ : Mem} {q n p : Nat} (h8 : n ≤ 8) (hp : 0 < p) (hp8 : p < 16) (x1 : Int32) (K : Mem → Option (Unit × Mem)) : ∀ (k n' : Nat) (κ : Mem) (cs : List (Nat × Nat)), p * 2 ^ k ≤ n → k < n' → HX μ q n κ cs → cs.length + (qK n p k).length ≤ 60 → ∃ κ', HX μ q n κ' (cs ++ qK n p k) ∧ lp_X_makeMergeExchange_42 N q x1 (nI p) K n' (nI (p * 2 ^ k)) κ = K κ' := by
  intro k
  induction k with
  | zero =>
    intro n' κ cs h1 hn hc hl
    obtain ⟨n', rfl⟩ : ∃ k, n' = k + 1 := ⟨n' - 1, (by omega)⟩
    exact ⟨κ, by rw [qK, List.append_nil]; exact hc, by rw [lp_X_makeMergeExchange_42, Nat.pow_zero, Nat.mul_one, if_neg (nI_nlt (Nat.le_refl _) (by omega))]⟩
  | succ k ih =>
    intro n' κ cs h1 hn hc hl
    obtain ⟨n', rfl⟩ : ∃ k, n' = k + 1 := ⟨n' - 1, (by omega)⟩
    have g0 := pw_gt (p := p) (k := k) hp
    have ph := pw_half p k
    rw [qK, List.length_append] at hl
    obtain ⟨κ1, g1, e1⟩ := x_sB N hN (p := p) (r := p) (d := p * 2 ^ (k + 1) - p) h8 (by omega) hp8 hc (by omega)
    obtain ⟨κ2, g2, e2⟩ := ih n' κ1 _ (by omega) (by omega) g1 (by rw [List.length_append]; omega)
    refine ⟨κ2, by rw [qK, ← List.append_assoc]; exact g2, ?_⟩
    rw [lp_X_makeMergeExchange_42, if_pos (nI_lt g0 (by omega)), pk_sub (by omega), e1, bnd_some, hlf (by omega), ph, ltE]
    exact e2
theorem m_qK (N : Nat) (hN : 10000 ≤ N) {μ : Mem} {s n p : Nat} (hs : s < 4) (h8 : n ≤ 8) (hp : 0 < p) (hp8 : p < 16) (x3 : Int32) (K : Mem → Option (Unit × Mem)) : ∀ (k n' : Nat) (κ : Mem) (cs : List (Nat × Nat)), p * 2 ^ k ≤ n → k < n' → HM μ s n κ cs → cs.length + (qK n p k).length ≤ 60 → ∃ κ', HM μ s n κ' (cs ++ qK n p k) ∧ lp_M_mergesAll_40 N (nI s) (nI n) x3 (nI p) K n' (nI (p * 2 ^ k)) κ = K κ' := by
  intro k
  induction k with
  | zero =>
    intro n' κ cs h1 hn hc hl
    obtain ⟨n', rfl⟩ : ∃ k, n' = k + 1 := ⟨n' - 1, (by omega)⟩
    exact ⟨κ, by rw [qK, List.append_nil]; exact hc, by rw [lp_M_mergesAll_40, Nat.pow_zero, Nat.mul_one, if_pos rfl]⟩
  | succ k ih =>
    intro n' κ cs h1 hn hc hl
    obtain ⟨n', rfl⟩ : ∃ k, n' = k + 1 := ⟨n' - 1, (by omega)⟩
    have g0 := pw_gt (p := p) (k := k) hp
    have ph := pw_half p k
    rw [qK, List.length_append] at hl
    obtain ⟨κ1, g1, e1⟩ := m_sB N hN (p := p) (r := p) (d := p * 2 ^ (k + 1) - p) hs h8 (by omega) hp8 hc (by omega)
    obtain ⟨κ2, g2, e2⟩ := ih n' κ1 _ (by omega) (by omega) g1 (by rw [List.length_append]; omega)
    refine ⟨κ2, by rw [qK, ← List.append_assoc]; exact g2, ?_⟩
    have ne : ¬ nI (p * 2 ^ (k + 1)) = nI p := fun z => by have := (nI_eq (by omega) (by omega)).mp z; omega
    rw [lp_M_mergesAll_40, if_neg ne, pk_sub (by omega), e1, bnd_some, hlf (by omega), ph, ltE]
    exact e2
def hpw : Nat → Nat
  | 0 => 0
  | j + 1 => 2 ^ j
theorem hpw_half (j : Nat) : 2 ^ j / 2 = hpw j := by
  cases j with
  | zero => rfl
  | succ j => rw [hpw, Nat.pow_succ, Nat.mul_div_cancel _ (by decide)]
theorem x_pJ (N : Nat) (hN : 10000 ≤ N) {μ : Mem} {q n J : Nat} (h8 : n ≤ 8) (hJ : 2 ^ J < n) (K : Mem → Option (Unit × Mem)) : ∀ (j n' : Nat) (κ : Mem) (cs : List (Nat × Nat)), j ≤ J + 1 → j < n' → HX μ q n κ cs → cs.length + (pJ n J j).length ≤ 60 → ∃ κ', HX μ q n κ' (cs ++ pJ n J j) ∧ lp_X_makeMergeExchange_27 N q (nI (2 ^ (J + 1))) K n' (nI (hpw j)) κ = K κ' := by
  intro j
  induction j with
  | zero =>
    intro n' κ cs h1 hn hc hl
    obtain ⟨n', rfl⟩ : ∃ k, n' = k + 1 := ⟨n' - 1, (by omega)⟩
    exact ⟨κ, by rw [pJ, List.append_nil]; exact hc, by rw [lp_X_makeMergeExchange_27, hpw, if_neg (by decide)]⟩
  | succ j ih =>
    intro n' κ cs h1 hn hc hl
    obtain ⟨n', rfl⟩ : ∃ k, n' = k + 1 := ⟨n' - 1, (by omega)⟩
    have pj := Nat.two_pow_pos j
    have jJ : 2 ^ j ≤ 2 ^ J := Nat.pow_le_pow_right (by decide) (by omega)
    have e2J : 2 ^ j * 2 ^ (J - j) = 2 ^ J := by rw [← Nat.pow_add, show j + (J - j) = J by omega]
    have eJ : 2 ^ (J + 1) / 2 = 2 ^ J := by rw [Nat.pow_succ, Nat.mul_div_cancel _ (by decide)]
    have eJ2 : 2 ^ (J + 1) = 2 ^ J * 2 := Nat.pow_succ 2 J
    rw [pJ, List.length_append, List.length_append] at hl
    obtain ⟨κ1, g1, e1⟩ := x_sB N hN (p := 2 ^ j) (r := 0) (d := 2 ^ j) h8 (by omega) (by decide) hc (by omega)
    have jlt : J - j < N := by
      have : J < 2 ^ J := Nat.lt_two_pow_self
      omega
    obtain ⟨κ2, g2, e2⟩ := x_qK N hN h8 pj (by omega) (nI (2 ^ (J + 1))) (fun μ15 => lt' (nI (2 ^ j) / 2) fun v16 => lp_X_makeMergeExchange_27 N q (nI (2 ^ (J + 1))) K n' v16 μ15) (J - j) N κ1 _ (by rw [e2J]; omega) jlt g1 (by rw [List.length_append]; omega)
    obtain ⟨κ3, g3, e3⟩ := ih n' κ2 _ (by omega) (by omega) g2 (by rw [List.length_append, List.length_append]; omega)
    refine ⟨κ3, by rw [pJ, ← List.append_assoc, ← List.append_assoc]; exact g3, ?_⟩
    rw [hpw, lp_X_makeMergeExchange_27, if_pos (show (0 : Int32) < nI (2 ^ j) from nI_lt (a := 0) pj (by omega)), show f_X_appendStride N q (nI (2 ^ j)) 0 (nI (2 ^ j)) κ = _ from e1, bnd_some, hlf (by omega), eJ, ltE]
    rw [e2J] at e2
    refine Eq.trans e2 ?_
    rw [hlf (by omega), hpw_half, ltE]
    exact e3
theorem m_pJ (N : Nat) (hN : 10000 ≤ N) {μ : Mem} {s n J : Nat} (hs : s < 4) (h8 : n ≤ 8) (hJ : 2 ^ J < n) (K : Mem → Option (Unit × Mem)) : ∀ (j n' : Nat) (κ : Mem) (cs : List (Nat × Nat)), j ≤ J + 1 → j < n' → HM μ s n κ cs → cs.length + (pJ n J j).length ≤ 60 → ∃ κ', HM μ s n κ' (cs ++ pJ n J j) ∧ lp_M_mergesAll_19 N (nI s) (nI n) (nI (2 ^ (J + 1))) K n' (nI (hpw j)) κ = K κ' := by
  intro j
  induction j with
  | zero =>
    intro n' κ cs h1 hn hc hl
    obtain ⟨n', rfl⟩ : ∃ k, n' = k + 1 := ⟨n' - 1, (by omega)⟩
    exact ⟨κ, by rw [pJ, List.append_nil]; exact hc, by rw [lp_M_mergesAll_19, hpw, if_neg (by decide)]⟩
  | succ j ih =>
    intro n' κ cs h1 hn hc hl
    obtain ⟨n', rfl⟩ : ∃ k, n' = k + 1 := ⟨n' - 1, (by omega)⟩
    have pj := Nat.two_pow_pos j
    have jJ : 2 ^ j ≤ 2 ^ J := Nat.pow_le_pow_right (by decide) (by omega)
    have e2J : 2 ^ j * 2 ^ (J - j) = 2 ^ J := by rw [← Nat.pow_add, show j + (J - j) = J by omega]
    have eJ : 2 ^ (J + 1) / 2 = 2 ^ J := by rw [Nat.pow_succ, Nat.mul_div_cancel _ (by decide)]
    have eJ2 : 2 ^ (J + 1) = 2 ^ J * 2 := Nat.pow_succ 2 J
    rw [pJ, List.length_append, List.length_append] at hl
    obtain ⟨κ1, g1, e1⟩ := m_sB N hN (p := 2 ^ j) (r := 0) (d := 2 ^ j) hs h8 (by omega) (by decide) hc (by omega)
    have jlt : J - j < N := by
      have : J < 2 ^ J := Nat.lt_two_pow_self
      omega
    obtain ⟨κ2, g2, e2⟩ := m_qK N hN hs h8 pj (by omega) (nI (2 ^ (J + 1))) (fun μ15 => lt' (nI (2 ^ j) / 2) fun v16 => lp_M_mergesAll_19 N (nI s) (nI n) (nI (2 ^ (J + 1))) K n' v16 μ15) (J - j) N κ1 _ (by rw [e2J]; omega) jlt g1 (by rw [List.length_append]; omega)
    obtain ⟨κ3, g3, e3⟩ := ih n' κ2 _ (by omega) (by omega) g2 (by rw [List.length_append, List.length_append]; omega)
    refine ⟨κ3, by rw [pJ, ← List.append_assoc, ← List.append_assoc]; exact g3, ?_⟩
    rw [hpw, lp_M_mergesAll_19, if_pos (show (0 : Int32) < nI (2 ^ j) from nI_lt (a := 0) pj (by omega)), show f_M_exchanges5 N (nI s) (nI n) (nI (2 ^ j)) (nI (2 ^ j)) 0 κ = _ from e1, bnd_some, hlf (by omega), eJ, ltE]
    rw [e2J] at e2
    refine Eq.trans e2 ?_
    rw [hlf (by omega), hpw_half, ltE]
    exact e3
theorem Jn_ok : ∀ n, n < 9 → 2 ≤ n → 2 ^ Jn n < n ∧ n ≤ 2 ^ (Jn n + 1) ∧ 2 ^ Jn n < 8 := by decide
theorem x_top (N : Nat) {μ : Mem} {p n J : Nat} {cs : List (Nat × Nat)} (h : NX μ p n cs) (h8 : n ≤ 8) (h1 : 2 ^ J < n) (h3 : 2 ^ J < 8) (h2 : n ≤ 2 ^ (J + 1)) (K : Int32 → Mem → Option (Unit × Mem)) : ∀ (m k n' : Nat), k + m = J + 1 → m < n' → lp_X_makeMergeExchange_2 N p K n' (nI (2 ^ k)) μ = K (nI (2 ^ (J + 1))) μ := by
  intro m
  have eJ : 2 ^ (J + 1) = 2 ^ J * 2 := Nat.pow_succ 2 J
  induction m with
  | zero =>
    intro k n' hk hn
    obtain ⟨n', rfl⟩ : ∃ k, n' = k + 1 := ⟨n' - 1, (by omega)⟩
    have : k = J + 1 := (by omega)
    subst this
    rw [lp_X_makeMergeExchange_2, h.1, if_neg (nI_nlt h2 (by omega))]
  | succ m ih =>
    intro k n' hk hn
    obtain ⟨n', rfl⟩ : ∃ k, n' = k + 1 := ⟨n' - 1, (by omega)⟩
    have kJ : 2 ^ k ≤ 2 ^ J := Nat.pow_le_pow_right (by decide) (by omega)
    rw [lp_X_makeMergeExchange_2, h.1, if_pos (nI_lt (by omega) (by omega)), if_pos (show nI (2 ^ k) < 8 from nI_lt (b := 8) (by omega) (by omega)), show (2 : Int32) = nI 2 from rfl, pk_mul, ltE, ← Nat.pow_succ]
    exact ih (k + 1) n' (by omega) (by omega)
theorem m_top (N : Nat) {μ : Mem} {s n J : Nat} (h8 : n ≤ 8) (h1 : 2 ^ J < n) (h2 : n ≤ 2 ^ (J + 1)) (K : Int32 → Mem → Option (Unit × Mem)) : ∀ (m k n' : Nat), k + m = J + 1 → m < n' → lp_M_mergesAll_2 N (nI s) (nI n) K n' (nI (2 ^ k)) μ = K (nI (2 ^ (J + 1))) μ := by
  intro m
  have eJ : 2 ^ (J + 1) = 2 ^ J * 2 := Nat.pow_succ 2 J
  induction m with
  | zero =>
    intro k n' hk hn
    obtain ⟨n', rfl⟩ : ∃ k, n' = k + 1 := ⟨n' - 1, (by omega)⟩
    have : k = J + 1 := (by omega)
    subst this
    rw [lp_M_mergesAll_2, if_neg (nI_nlt h2 (by omega))]
  | succ m ih =>
    intro k n' hk hn
    obtain ⟨n', rfl⟩ : ∃ k, n' = k + 1 := ⟨n' - 1, (by omega)⟩
    have kJ : 2 ^ k ≤ 2 ^ J := Nat.pow_le_pow_right (by decide) (by omega)
    rw [lp_M_mergesAll_2, if_pos (nI_lt (by omega) (by omega)), show (2 : Int32) = nI 2 from rfl, pk_mul, ltE, ← Nat.pow_succ]
    exact ih (k + 1) n' (by omega) (by omega)
theorem x_mk4 (N : Nat) (hN : 10000 ≤ N) {μ : Mem} {p n : Nat} (h2 : 2 ≤ n) (h8 : n ≤ 8) (h : NX μ p n []) : ∃ μ', f_X_makeMergeExchange N p μ = some ((), μ') ∧ NX μ' p n (mk4 n) ∧ Fr (rg p (p + 2)) μ μ' := by
  obtain ⟨j1, j2, j3⟩ := Jn_ok n (by omega) h2
  have J3 : Jn n < 8 := Nat.lt_trans Nat.lt_two_pow_self j3
  have eJ : 2 ^ (Jn n + 1) = 2 ^ Jn n * 2 := Nat.pow_succ 2 (Jn n)
  obtain ⟨μ', g, e⟩ := x_pJ N hN h8 j1 (fun μ17 => some ((), μ17)) (Jn n + 1) N μ [] (Nat.le_refl _) (by omega) ⟨h, Fr.rf μ⟩ (by
      have := (mkL_ok n (by omega) h2 4 (by decide)).1
      rw [List.length_nil, Nat.zero_add]; exact this)
  refine ⟨μ', ?_, g.1, g.2⟩
  unfold f_X_makeMergeExchange
  have := x_top N h h8 j1 j3 j2 (fun v4 μ5 => lt' (v4 / 2) fun v6 => lp_X_makeMergeExchange_27 N p v4 (fun μ17 => some ((), μ17)) N v6 μ5) (Jn n + 1) 0 N (by omega) (by omega)
  refine Eq.trans this ?_
  rw [hlf (by omega), ltE, hpw_half]
  exact e
theorem m_mk4 (N : Nat) (hN : 10000 ≤ N) {μ : Mem} {s n : Nat} (hs : s < 4) (h2 : 2 ≤ n) (h8 : n ≤ 8) (h : NM μ s n []) : ∃ μ', f_M_mergesAll N (nI s) (nI n) μ = some ((), μ') ∧ NM μ' s n (mk4 n) ∧ Fr (mN s) μ μ' := by
  obtain ⟨j1, j2, j3⟩ := Jn_ok n (by omega) h2
  have J3 : Jn n < 8 := Nat.lt_trans Nat.lt_two_pow_self j3
  have eJ : 2 ^ (Jn n + 1) = 2 ^ Jn n * 2 := Nat.pow_succ 2 (Jn n)
  obtain ⟨μ', g, e⟩ := m_pJ N hN hs h8 j1 (fun μ17 => some ((), μ17)) (Jn n + 1) N μ [] (Nat.le_refl _) (by omega) ⟨h, Fr.rf μ⟩ (by
      have := (mkL_ok n (by omega) h2 4 (by decide)).1
      rw [List.length_nil, Nat.zero_add]; exact this)
  refine ⟨μ', ?_, g.1, g.2⟩
  unfold f_M_mergesAll
  have := m_top N (μ := μ) (s := s) h8 j1 j2 (fun v4 μ5 => lt' (v4 / 2) fun v6 => lp_M_mergesAll_19 N (nI s) (nI n) v4 (fun μ17 => some ((), μ17)) N v6 μ5) (Jn n + 1) 0 N (by omega) (by omega)
  refine Eq.trans this ?_
  rw [hlf (by omega), ltE, hpw_half]
  exact e
theorem sX_isWires (N : Nat) (y : Int32) (μ : Mem) : f_X_isWires N y μ = some (if 2 ≤ y.toInt ∧ y.toInt ≤ 8 then 1 else 0, μ) := by
  have e2 : (2 : Int32).toInt = 2 := rfl
  have e8 : (8 : Int32).toInt = 8 := rfl
  unfold f_X_isWires
  simp only [Int32.lt_iff_toInt_lt, e2, e8]
  by_cases h1 : y.toInt < 2
  · rw [if_pos h1, if_neg (by omega)]
  · rw [if_neg h1]
    by_cases h2 : 8 < y.toInt
    · rw [if_pos h2, if_neg (by omega)]
    · rw [if_neg h2, if_pos (by omega)]
theorem mW_in (N : Nat) (y : Int32) (μ : Mem) : f_M_in N y.toInt64 2 8 μ = some (if 2 ≤ y.toInt ∧ y.toInt ≤ 8 then 1 else 0, μ) := sM_in N y 2 8 μ
theorem nat_of {y : Int32} {a b : Nat} (h : (a : Int) ≤ y.toInt ∧ y.toInt ≤ (b : Int)) : ∃ n : Nat, a ≤ n ∧ n ≤ b ∧ y = nI n := by
  have := fb_rng y
  refine ⟨y.toInt.toNat, (by omega), (by omega), asN (by omega) (by omega)⟩
theorem lt_iff5 {y : Int32} {b : Nat} (hb : b < 2 ^ 31) : (y < nI b) ↔ y.toInt < b := by rw [Int32.lt_iff_toInt_lt, nI_toInt hb]
theorem ltz {y : Int32} : (y < 0) ↔ y.toInt < 0 := by rw [Int32.lt_iff_toInt_lt]; rfl
theorem op_makes (N : Nat) (hN : 10000 ≤ N) (x y z : Int32) : OpEq (f_X_makes N x y z) (f_M_makes N x y z) := by
  refine op_of (fX := fun x => f_X_makes N x y z) (fM := fun x => f_M_makes N x y z) (-1) (fun x h μ => by simp [f_X_makes, isNet_out N h, bnd_some]) (fun x h μ => by simp [f_M_makes, mNet_out N h, bnd_some, lt']) (fun s hs μ σ hw hx => ?_) x
  by_cases hy : 2 ≤ y.toInt ∧ y.toInt ≤ 8
  · obtain ⟨n, h2, h8, rfl⟩ := nat_of (a := 2) (b := 8) hy
    by_cases hz : 0 ≤ z.toInt ∧ z.toInt ≤ 4
    · obtain ⟨k, -, hk, rfl⟩ := nat_of (a := 0) (b := 4) hz
      have wk := WN.mkL h2 h8 (show k < 5 by omega)
      obtain ⟨μ1, e1, n1, f1⟩ := sNet_clear N (μ := μ) (p := 2 + 3 * s) (n := n)
      have ea : ∀ a, a < 5 → (nI k = nI a ↔ k = a) := fun a ha => nI_eq (by omega) (by omega)
      have c0 := ea 0 (by decide)
      have c1 := ea 1 (by decide)
      have c2 := ea 2 (by decide)
      have c3 := ea 3 (by decide)
      have c4 := ea 4 (by decide)
      refine g_u hw hx hs (n := n) (cs := mkL n k) (nI (mkL n k).length) σ.2.2 hw.2.2.2 ⟨hw.2.1, hw.2.2.1⟩ wk ?_ (fun μ ν hν hm => ?_)
      · have fin : ∀ μ', NX μ' (2 + 3 * s) n (mkL n k) → Fr (rg (2 + 3 * s) (2 + 3 * s + 2)) μ μ' → NX μ' (2 + 3 * s) n (mkL n k) ∧ TX μ' σ.2.1 ∧ RX μ' σ.2.2 ∧ Fr (xU s) μ μ' := fun μ' h f => ⟨h, hx.2.1.fr f (rgo (by omega)) (fun _ => rgo (by omega)), hx.2.2.fr f (rgo (by omega)) (fun _ => rgo (by omega)), rg_xU f (Or.inl ⟨Nat.le_refl _, Nat.le_refl _⟩)⟩
        have pre : f_X_makes N (nI s) (nI n) (nI k) μ = if nI k = 1 then (bnd (f_X_makeBubbles N (2 + 3 * s) μ1) fun _ μ14 => some (gI μ14 (2 + 3 * s) 1, μ14)) else (if nI k = 2 then (bnd (f_X_makeInsertions N (2 + 3 * s) μ1) fun _ μ17 => some (gI μ17 (2 + 3 * s) 1, μ17)) else (if nI k = 3 then (bnd (f_X_makeBricks N (2 + 3 * s) μ1) fun _ μ20 => some (gI μ20 (2 + 3 * s) 1, μ20)) else (if nI k = 4 then (bnd (f_X_makeMergeExchange N (2 + 3 * s) μ1) fun _ μ23 => some (gI μ23 (2 + 3 * s) 1, μ23)) else (some (gI μ1 (2 + 3 * s) 1, μ1))))) := by
          unfold f_X_makes
          rw [isNet_in N hs, bnd_some, if_neg (by decide), sX_isWires, if_pos hy, bnd_some, if_neg (by decide), if_neg (nI_pos (by omega)), if_pos (show nI k < 5 from nI_lt (b := 5) (by omega) (by omega)), inb_nI hs (by omega), ck_tt, tn_nI (by omega), e1, bnd_some]
        have fc : Fr (rg (2 + 3 * s) (2 + 3 * s + 2)) μ μ1 := f1.wide (by omega) (by omega)
        by_cases k1 : k = 1
        · subst k1
          obtain ⟨μ2, e2, n2, f2⟩ := x_mk1 N hN h2 h8 n1
          exact ⟨μ2, by rw [pre, if_pos (by decide), e2, bnd_some, n2.2.1]; rfl, fin μ2 n2 (fc.tr f2)⟩
        by_cases k2 : k = 2
        · subst k2
          obtain ⟨μ2, e2, n2, f2⟩ := x_mk2 N hN h2 h8 n1
          exact ⟨μ2, by rw [pre, if_neg (by decide), if_pos (by decide), e2, bnd_some, n2.2.1]; rfl, fin μ2 n2 (fc.tr f2)⟩
        by_cases k3 : k = 3
        · subst k3
          obtain ⟨μ2, e2, n2, f2⟩ := x_mk3 N hN h2 h8 n1
          exact ⟨μ2, by rw [pre, if_neg (by decide), if_neg (by decide), if_pos (by decide), e2, bnd_some, n2.2.1]; rfl, fin μ2 n2 (fc.tr f2)⟩
        by_cases k4 : k = 4
        · subst k4
          obtain ⟨μ2, e2, n2, f2⟩ := x_mk4 N hN h2 h8 n1
          exact ⟨μ2, by rw [pre, if_neg (by decide), if_neg (by decide), if_neg (by decide), if_pos (by decide), e2, bnd_some, n2.2.1]; rfl, fin μ2 n2 (fc.tr f2)⟩
        have : k = 0 := (by omega)
        subst this
        exact ⟨μ1, by rw [pre, if_neg (by decide), if_neg (by decide), if_neg (by decide), if_neg (by decide), n1.2.1]; rfl, fin μ1 n1 fc⟩
      · obtain ⟨ν1, g1, m1, h1⟩ := sM_begins N (n := n) hs ν
        have fin : ∀ μ', NM μ' s n (mkL n k) → Fr (mN s) ν μ' → NM μ' s n (mkL n k) ∧ TM μ' σ.2.1 ∧ RM μ' σ.2.2 ∧ Fr (mU s) ν μ' := fun μ' h f => ⟨h, hm.2.1.fr f (fun z => by unfold mN at z; omega) (fun k z => by unfold mN at z; omega), hm.2.2.1.fr f (fun z => by unfold mN at z; omega) (fun k z => by unfold mN at z; omega), mN_mU f⟩
        have i2 : f_M_in N (Int32.toInt64 (nI k)) 0 4 ν = some (1, ν) := by
          rw [sM_in, if_pos]; exact hz
        have pre : f_M_makes N (nI s) (nI n) (nI k) μ = if nI k = 0 then (ck (inb (nI s) 4) (some (gI ν1 47 (tn (nI s)), ν1))) else (if nI k = 1 then (bnd (f_M_sinks N (nI s) (nI n) ν1) fun _ μ17 => ck (inb (nI s) 4) (some (gI μ17 47 (tn (nI s)), μ17))) else (if nI k = 2 then (bnd (f_M_inserts N (nI s) (nI n) ν1) fun _ μ21 => ck (inb (nI s) 4) (some (gI μ21 47 (tn (nI s)), μ21))) else (if nI k = 3 then (bnd (f_M_alternates N (nI s) (nI n) ν1) fun _ μ25 => ck (inb (nI s) 4) (some (gI μ25 47 (tn (nI s)), μ25))) else (bnd (f_M_mergesAll N (nI s) (nI n) ν1) fun _ μ28 => ck (inb (nI s) 4) (some (gI μ28 47 (tn (nI s)), μ28)))))) := by
          unfold f_M_makes
          rw [ltE, ← hν, mNet_in N hs, bnd_some, if_neg (by decide), mW_in, if_pos hy, bnd_some, if_neg (by decide), i2, bnd_some, if_neg (by decide), g1, bnd_some]
        rw [inb_nI hs (by omega), tn_nI (by omega)] at pre
        simp only [ck_tt] at pre
        by_cases k1 : k = 1
        · subst k1
          obtain ⟨μ2, e2, n2, f2⟩ := m_mk1 N hN hs h2 h8 m1
          exact ⟨μ2, by rw [pre, if_neg (by decide), if_pos (by decide), e2, bnd_some, n2.2.1]; rfl, fin μ2 n2 (h1.tr f2)⟩
        by_cases k2 : k = 2
        · subst k2
          obtain ⟨μ2, e2, n2, f2⟩ := m_mk2 N hN hs h2 h8 m1
          exact ⟨μ2, by rw [pre, if_neg (by decide), if_neg (by decide), if_pos (by decide), e2, bnd_some, n2.2.1]; rfl, fin μ2 n2 (h1.tr f2)⟩
        by_cases k3 : k = 3
        · subst k3
          obtain ⟨μ2, e2, n2, f2⟩ := m_mk3 N hN hs h2 h8 m1
          exact ⟨μ2, by rw [pre, if_neg (by decide), if_neg (by decide), if_neg (by decide), if_pos (by decide), e2, bnd_some, n2.2.1]; rfl, fin μ2 n2 (h1.tr f2)⟩
        by_cases k4 : k = 4
        · subst k4
          obtain ⟨μ2, e2, n2, f2⟩ := m_mk4 N hN hs h2 h8 m1
          exact ⟨μ2, by rw [pre, if_neg (by decide), if_neg (by decide), if_neg (by decide), if_neg (by decide), e2, bnd_some, n2.2.1]; rfl, fin μ2 n2 (h1.tr f2)⟩
        have : k = 0 := (by omega)
        subst this
        exact ⟨ν1, by rw [pre, if_pos (by decide), m1.2.1]; rfl, fin ν1 m1 h1⟩
    · refine g_no hw hx (-1) ?_ (fun μ ν hν hm => ?_)
      · unfold f_X_makes
        rw [isNet_in N hs, bnd_some, if_neg (by decide), sX_isWires, if_pos hy, bnd_some, if_neg (by decide)]
        by_cases q : z < 0
        · rw [if_pos q]
        · rw [if_neg q, if_neg]
          intro q2
          have q' : ¬ z.toInt < 0 := fun e => q (ltz.mpr e)
          have := (lt_iff5 (y := z) (b := 5) (by decide)).mp q2
          omega
      · have i2 : f_M_in N (Int32.toInt64 z) 0 4 ν = some (0, ν) := by
          rw [sM_in, if_neg]; exact hz
        unfold f_M_makes
        rw [ltE, ← hν, mNet_in N hs, bnd_some, if_neg (by decide), mW_in, if_pos hy, bnd_some, if_neg (by decide), i2, bnd_some, if_pos rfl]
  · refine g_no hw hx (-1) ?_ (fun μ ν hν hm => ?_)
    · unfold f_X_makes
      rw [isNet_in N hs, bnd_some, if_neg (by decide), sX_isWires, if_neg hy, bnd_some, if_pos rfl]
    · unfold f_M_makes
      rw [ltE, ← hν, mNet_in N hs, bnd_some, if_neg (by decide), mW_in, if_neg hy, bnd_some, if_pos rfl]

/-! least and shallow: what the model offers -/
def rowl (i : Nat) : Nat → Nat → List (Nat × Nat)
  | _, 0 => []
  | j, m + 1 => (i, j) :: rowl i (j + 1) m
def prr (n : Nat) : Nat → Nat → List (Nat × Nat)
  | _, 0 => []
  | i, m + 1 => rowl i (i + 1) (n - (i + 1)) ++ prr n (i + 1) m
theorem prr_prs : ∀ n, n < 6 → prr n 0 n = prs n := by decide
theorem rowl_len (i : Nat) : ∀ j m, (rowl i j m).length = m
  | _, 0 => rfl
  | j, m + 1 => by rw [rowl, List.length_cons, rowl_len i (j + 1) m]
def cdl (S : Nat) (l : List (Nat × Nat)) : List Nat := l.map (fun c => cmpN S c.1 c.2)
theorem cnd_f (n S : Nat) : cnd1 (mvs n false) S = cdl S (prs n) := by
  unfold cnd1 mvs cdl
  rw [if_neg (by decide), List.map_map]; rfl
theorem fCd_app {n : Nat} {W : Nat → Nat → Bool} : ∀ (a b fr : List Nat), fCd n W (a ++ b) fr = fCd n W b (fCd n W a fr)
  | [], b, fr => rfl
  | S :: a, b, fr => by rw [List.cons_append, fCd, fCd, fCd_app a b]
theorem capC_app {n : Nat} {W : Nat → Nat → Bool} : ∀ {a b fr : List Nat}, capC n W (a ++ b) fr → capC n W a fr ∧ capC n W b (fCd n W a fr)
  | [], b, fr, h => ⟨trivial, h⟩
  | S :: a, b, fr, h => by
    rw [List.cons_append, capC] at h
    have ih := capC_app h.2
    rw [capC, fCd]
    exact ⟨⟨h.1, ih.1⟩, ih.2⟩
theorem bs_row {n S i : Nat} (h6 : n ≤ 6) (hS : S < 2 ^ 2 ^ n) : ∀ m j, j + m = n → i < j → BS n (cdl S (rowl i j m))
  | 0, j, _, _ => fun s hs => by unfold cdl at hs; rw [rowl] at hs; simp at hs
  | m + 1, j, hj, hi => by
    intro s hs
    unfold cdl at hs
    rw [rowl, List.map_cons] at hs
    rcases List.mem_cons.mp hs with e | e
    · rw [e]; exact cmpN_lt h6 hS hi (by omega)
    · exact bs_row h6 hS m (j + 1) (by omega) (by omega) s e
theorem l_oe15 (N : Nat) (hN : 10000 ≤ N) {n S i a b : Nat} (h1 : 1 ≤ n) (h6 : n ≤ 6) (hS : S < 2 ^ 2 ^ n) (K : Mem → Option (Unit × Mem)) : ∀ (m j n' : Nat) (fr : List Nat) (κ : Mem), j + m = n → m < n' → i < j → BS n fr → fr.length ≤ 60 → capC n (Wi n) (cdl S (rowl i j m)) fr → RK κ a b → LSt κ b 44 30 fr → ∃ κ', lp_M_offersEach_15 N (nI n) (lN S) (nI i) K n' (nI j) κ = K κ' ∧ LSt κ' b 44 30 (fCd n (Wi n) (cdl S (rowl i j m)) fr) ∧ Fr (mF2 b) κ κ'
  | 0, j, n' + 1, fr, κ, hj, hn, hi, hb, hl, hc, hk, h => ⟨κ, by rw [lp_M_offersEach_15, if_neg (nI_nlt (by omega) (by omega))], h, Fr.rf κ⟩
  | m + 1, j, n' + 1, fr, κ, hj, hn, hi, hb, hl, hc, hk, h => by
    have kk := hk.k
    have cl' := cmpN_lt h6 hS hi (show j < n by omega)
    have hc' : capC n (Wi n) (cmpN S i j :: cdl S (rowl i (j + 1) m)) fr := hc
    rw [capC] at hc'
    obtain ⟨κ1, e1, l1, f1⟩ := sM_offers N hN h1 h6 cl' hb hl hk h
    obtain ⟨κ2, e2, l2, f2⟩ := l_oe15 N hN h1 h6 hS K m (j + 1) n' _ κ1 (by omega) (by omega) (by omega) (bs_cns hb cl') hc'.1 hc'.2 (hk.fr f1 (fun z => by unfold mF2 at z; omega) (fun z => by unfold mF2 at z; omega)) l1
    refine ⟨κ2, ?_, l2, f1.tr f2⟩
    rw [lp_M_offersEach_15, if_pos (nI_lt (by omega) (by omega)), sM_comparedAll N hN h6 hS hi (by omega), bnd_some, e1, bnd_some, ltE, nI_1]
    exact e2
theorem l_oe3 (N : Nat) (hN : 10000 ≤ N) {n S a b : Nat} (h1 : 1 ≤ n) (h6 : n ≤ 6) (hS : S < 2 ^ 2 ^ n) : ∀ (m i n' : Nat) (fr : List Nat) (κ : Mem), i + m = n → m < n' → BS n fr → fr.length ≤ 60 → capC n (Wi n) (cdl S (prr n i m)) fr → RK κ a b → LSt κ b 44 30 fr → ∃ κ', lp_M_offersEach_3 N (nI n) (lN S) (fun μ11 => some ((), μ11)) n' (nI i) κ = some ((), κ') ∧ LSt κ' b 44 30 (fCd n (Wi n) (cdl S (prr n i m)) fr) ∧ Fr (mF2 b) κ κ'
  | 0, i, n' + 1, fr, κ, hi, hn, hb, hl, hc, hk, h => ⟨κ, by rw [lp_M_offersEach_3, if_neg (nI_nlt (by omega) (by omega))], h, Fr.rf κ⟩
  | m + 1, i, n' + 1, fr, κ, hi, hn, hb, hl, hc, hk, h => by
    have kk := hk.k
    have ap : cdl S (prr n i (m + 1)) = cdl S (rowl i (i + 1) (n - (i + 1))) ++ cdl S (prr n (i + 1) m) := by
      unfold cdl
      rw [prr, List.map_append]
    rw [ap] at hc ⊢
    obtain ⟨c1, c2⟩ := capC_app hc
    obtain ⟨κ1, e1, l1, f1⟩ := l_oe15 N hN (i := i) h1 h6 hS (fun μ9 => lt' (nI i + 1) fun v10 => lp_M_offersEach_3 N (nI n) (lN S) (fun μ11 => some ((), μ11)) n' v10 μ9) (n - (i + 1)) (i + 1) N fr κ (by omega) (by omega) (by omega) hb hl c1 hk h
    obtain ⟨κ2, e2, l2, f2⟩ := l_oe3 N hN h1 h6 hS m (i + 1) n' _ κ1 (by omega) (by omega) (bs_fC (bs_row h6 hS _ _ (by omega) (by omega)) hb) (fCd_len c1 hl) c2 (hk.fr f1 (fun z => by unfold mF2 at z; omega) (fun z => by unfold mF2 at z; omega)) l1
    refine ⟨κ2, ?_, by rw [fCd_app]; exact l2, f1.tr f2⟩
    rw [lp_M_offersEach_3, if_pos (nI_lt (by omega) (by omega)), ltE, nI_1]
    rw [nI_1] at e1
    refine Eq.trans e1 ?_
    rw [ltE]
    exact e2
-- layers
def lyi : List (Nat × Nat) → Nat → Nat → Nat → Option (Nat × Nat)
  | [], _, u, T => some (T, u)
  | c :: l, q, u, T => if q % 2 = 1 then (if u &&& (2 ^ c.1 ||| 2 ^ c.2) = 0 then lyi l (q / 2) (u ||| (2 ^ c.1 ||| 2 ^ c.2)) (cmpN T c.1 c.2) else none) else lyi l (q / 2) u T
theorem lyi_app : ∀ (a b : List (Nat × Nat)) (q u T : Nat), lyi (a ++ b) q u T = (match lyi a q u T with
    | none => none
    | some (T', u') => lyi b (q / 2 ^ a.length) u' T')
  | [], b, q, u, T => by
    rw [List.nil_append, lyi, List.length_nil, Nat.pow_zero, Nat.div_one]
  | c :: a, b, q, u, T => by
    have hq : q / 2 ^ (c :: a).length = q / 2 / 2 ^ a.length := by rw [List.length_cons, Nat.pow_succ, Nat.mul_comm, Nat.div_div_eq_div_mul]
    rw [List.cons_append, lyi, lyi, hq]
    split
    · split
      · rw [lyi_app a b]
      · rfl
    · rw [lyi_app a b]
theorem lyi_dis : ∀ (l : List (Nat × Nat)) (q u T : Nat), (lyi l q u T).map (fun z => z.1) = if dis (tk l q) u then some (stS (tk l q) T) else none
  | [], q, u, T => rfl
  | c :: l, q, u, T => by
    rw [lyi, tk]
    by_cases z : q % 2 = 1
    · rw [if_pos z, if_pos z, dis]
      by_cases y : u &&& (2 ^ c.1 ||| 2 ^ c.2) = 0
      · have yt : ((u &&& (2 ^ c.1 ||| 2 ^ c.2)) == 0) = true := by simp [y]
        rw [if_pos y, lyi_dis l, yt, Bool.true_and, stS]
      · have yf : ((u &&& (2 ^ c.1 ||| 2 ^ c.2)) == 0) = false := by simp [y]
        rw [if_neg y, yf, Bool.false_and]; rfl
    · rw [if_neg z, if_neg z, lyi_dis l]
theorem l_la24 (N : Nat) (hN : 10000 ≤ N) {n i th : Nat} {κ : Mem} (h5 : n ≤ 5) (hth : th < 2 ^ 20) (K : Int64 → Int32 → Int32 → Mem → Option (Int64 × Mem)) : ∀ (m j n' T u k : Nat), j + m = n → m < n' → i < j → T < 2 ^ 2 ^ n → u < 64 → k + m ≤ 20 → (match lyi (rowl i j m) (th / 2 ^ k) u T with
      | none => lp_M_layered_24 N (nI n) (nI th) (nI i) K n' (lN T) (nI u) (nI k) (nI j) κ = some (0, κ)
      | some (T', u') => lp_M_layered_24 N (nI n) (nI th) (nI i) K n' (lN T) (nI u) (nI k) (nI j) κ = K (lN T') (nI u') (nI (k + m)) κ ∧ T' < 2 ^ 2 ^ n ∧ u' < 64)
  | 0, j, n' + 1, T, u, k, hj, hn, hi, hT, hu, hk => by
    rw [rowl, lyi]
    exact ⟨by rw [lp_M_layered_24, if_neg (nI_nlt (by omega) (by omega)), Nat.add_zero], hT, hu⟩
  | m + 1, j, n' + 1, T, u, k, hj, hn, hi, hT, hu, hk => by
    have hq : th / 2 ^ (k + 1) = th / 2 ^ k / 2 := by rw [Nat.pow_succ, Nat.div_div_eq_div_mul]
    have ml : (2 ^ i ||| 2 ^ j) < 2 ^ 6 := Nat.or_lt_two_pow (Nat.pow_lt_pow_right (by decide) (show i < 6 by omega)) (Nat.pow_lt_pow_right (by decide) (show j < 6 by omega))
    rw [rowl, lyi]
    have st : lp_M_layered_24 N (nI n) (nI th) (nI i) K (n' + 1) (lN T) (nI u) (nI k) (nI j) κ = if nI (tb th k) = 1 then (if nI (u &&& (2 ^ i ||| 2 ^ j)) = 0 then (lp_M_layered_24 N (nI n) (nI th) (nI i) K n' (lN (cmpN T i j)) (nI (u ||| (2 ^ i ||| 2 ^ j))) (nI (k + 1)) (nI (j + 1)) κ) else (some (0, κ))) else (lp_M_layered_24 N (nI n) (nI th) (nI i) K n' (lN T) (nI u) (nI (k + 1)) (nI (j + 1)) κ) := by
      rw [lp_M_layered_24, if_pos (nI_lt (by omega) (by omega)), ltE, bitI (by omega) (by omega), one_shl (by omega), one_shl (by omega), orI, andI, orI, ltE, sM_comparedAll N hN (show n ≤ 6 by omega) hT hi (by omega), bnd_some]
      simp only [ltE, nI_1]
    have tbk : tb th k = th / 2 ^ k % 2 := rfl
    by_cases z : th / 2 ^ k % 2 = 1
    · rw [if_pos z]
      have z1 : nI (tb th k) = 1 := nI_is1.mpr z
      have lu : u &&& (2 ^ i ||| 2 ^ j) < 2 ^ 6 := Nat.lt_of_le_of_lt Nat.and_le_right ml
      have ce : (nI (u &&& (2 ^ i ||| 2 ^ j)) = 0) ↔ u &&& (2 ^ i ||| 2 ^ j) = 0 := nI_eq (b := 0) (by omega) (by omega)
      by_cases y : u &&& (2 ^ i ||| 2 ^ j) = 0
      · rw [if_pos y]
        have ih := l_la24 N hN (κ := κ) (n := n) (i := i) h5 hth K m (j + 1) n' (cmpN T i j) (u ||| (2 ^ i ||| 2 ^ j)) (k + 1) (by omega) (by omega) (by omega) (cmpN_lt (show n ≤ 6 by omega) hT hi (by omega)) (Nat.or_lt_two_pow (n := 6) hu ml) (by omega)
        rw [hq] at ih
        rw [st, if_pos z1, if_pos (ce.mpr y), show k + (m + 1) = k + 1 + m by omega]
        exact ih
      · rw [if_neg y]
        show lp_M_layered_24 N (nI n) (nI th) (nI i) K (n' + 1) (lN T) (nI u) (nI k) (nI j) κ = some (0, κ)
        rw [st, if_pos z1, if_neg (fun q => y (ce.mp q))]
    · rw [if_neg z]
      have z1 : ¬ nI (tb th k) = 1 := fun q => z (nI_is1.mp q)
      have ih := l_la24 N hN (κ := κ) (n := n) (i := i) h5 hth K m (j + 1) n' T u (k + 1) (by omega) (by omega) (by omega) hT hu (by omega)
      rw [hq] at ih
      rw [st, if_neg z1, show k + (m + 1) = k + 1 + m by omega]
      exact ih
theorem l_la12 (N : Nat) (hN : 10000 ≤ N) {n th : Nat} {κ : Mem} (h5 : n ≤ 5) (hth : th < 2 ^ 20) : ∀ (m i n' T u k : Nat), i + m = n → m < n' → T < 2 ^ 2 ^ n → u < 64 → k + (prr n i m).length ≤ 20 → (match lyi (prr n i m) (th / 2 ^ k) u T with
      | none => lp_M_layered_12 N (nI n) (nI th) (fun v20 μ21 => some (v20, μ21)) n' (lN T) (nI u) (nI k) (nI i) κ = some (0, κ)
      | some (T', _) => lp_M_layered_12 N (nI n) (nI th) (fun v20 μ21 => some (v20, μ21)) n' (lN T) (nI u) (nI k) (nI i) κ = some (lN T', κ))
  | 0, i, n' + 1, T, u, k, hi, hn, hT, hu, hk => by
    rw [prr, lyi]
    show lp_M_layered_12 N (nI n) (nI th) (fun v20 μ21 => some (v20, μ21)) (n' + 1) (lN T) (nI u) (nI k) (nI i) κ = some (lN T, κ)
    rw [lp_M_layered_12, if_neg (nI_nlt (by omega) (by omega))]
  | m + 1, i, n' + 1, T, u, k, hi, hn, hT, hu, hk => by
    have hk' := hk
    rw [prr, List.length_append, rowl_len] at hk'
    have A := l_la24 N hN (κ := κ) (i := i) h5 hth (fun v15 v16 v17 μ18 => lt' (nI i + 1) fun v19 => lp_M_layered_12 N (nI n) (nI th) (fun v20 μ21 => some (v20, μ21)) n' v15 v16 v17 v19 μ18) (n - (i + 1)) (i + 1) N T u k (by omega) (by omega) (by omega) hT hu (by omega)
    have st : lp_M_layered_12 N (nI n) (nI th) (fun v20 μ21 => some (v20, μ21)) (n' + 1) (lN T) (nI u) (nI k) (nI i) κ = lp_M_layered_24 N (nI n) (nI th) (nI i) (fun v15 v16 v17 μ18 => lt' (nI i + 1) fun v19 => lp_M_layered_12 N (nI n) (nI th) (fun v20 μ21 => some (v20, μ21)) n' v15 v16 v17 v19 μ18) N (lN T) (nI u) (nI k) (nI (i + 1)) κ := by
      rw [lp_M_layered_12, if_pos (nI_lt (by omega) (by omega)), ltE, nI_1]
    rw [prr, lyi_app, rowl_len]
    cases q : lyi (rowl i (i + 1) (n - (i + 1))) (th / 2 ^ k) u T with
    | none =>
      rw [q] at A
      exact st.trans A
    | some z =>
      obtain ⟨T', u'⟩ := z
      rw [q] at A
      obtain ⟨a1, a2, a3⟩ := A
      dsimp only
      have B := l_la12 N hN (κ := κ) h5 hth m (i + 1) n' T' u' (k + (n - (i + 1))) (by omega) (by omega) a2 a3 (by omega)
      have hq : th / 2 ^ (k + (n - (i + 1))) = th / 2 ^ k / 2 ^ (n - (i + 1)) := by rw [Nat.pow_add, Nat.div_div_eq_div_mul]
      rw [hq] at B
      rw [st, a1, ltE, nI_1]
      exact B
theorem prr_len : ∀ n, n < 6 → (prr n 0 n).length ≤ 10 := by decide
theorem sM_layered (N : Nat) (hN : 10000 ≤ N) {n S th : Nat} (h5 : n ≤ 5) (hS : S < 2 ^ 2 ^ n) (hth : th < 2 ^ 20) (κ : Mem) : f_M_layered N (nI n) (lN S) (nI th) κ = some (if dis (tk (prs n) th) 0 then lN (stS (tk (prs n) th) S) else 0, κ) := by
  have A := l_la12 N hN (κ := κ) (n := n) h5 hth n 0 N S 0 0 (by omega) (by omega) hS (by decide) (by have := prr_len n (by omega); omega)
  rw [prr_prs n (by omega), Nat.pow_zero, Nat.div_one] at A
  have B := lyi_dis (prs n) th 0 S
  unfold f_M_layered
  cases q : lyi (prs n) th 0 S with
  | none =>
    rw [q] at A B
    by_cases z : dis (tk (prs n) th) 0 = true
    · rw [if_pos z] at B; cases B
    · rw [if_neg z]
      exact A
  | some z =>
    obtain ⟨T', u'⟩ := z
    rw [q] at A B
    by_cases z : dis (tk (prs n) th) 0 = true
    · rw [if_pos z] at B ⊢
      have : T' = stS (tk (prs n) th) S := by
        have := Option.some.inj B
        exact this
      rw [← this]
      exact A
    · rw [if_neg z] at B; cases B

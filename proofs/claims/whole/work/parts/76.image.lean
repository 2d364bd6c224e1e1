/-! the image, and what merges -/
theorem ltE {α β : Type} (a : α) (f : α → β) : lt' a f = f a := Eq.trans rfl rfl
theorem cn_cP (P : Nat → Bool) : ∀ m, cn P m = (List.range m).countP P
  | 0 => rfl
  | m + 1 => by rw [cn, cn_cP P m, List.range_succ, List.countP_append, List.countP_singleton]
theorem so_list : ∀ n, n < 9 → (List.range (2 ^ n)).filter (so n) = (List.range (n + 1)).map (fun k => 2 ^ n - 2 ^ (n - k)) := by decide +kernel
theorem cn_so {n : Nat} (h8 : n ≤ 8) (S : Nat → Bool) : cn (fun p => S p && so n p) (2 ^ n) = cn (fun k => S (2 ^ n - 2 ^ (n - k))) (n + 1) := by
  rw [cn_cP, cn_cP, ← List.countP_filter, so_list n (by omega), List.countP_map]; rfl
theorem sX_topOnes (N : Nat) {n k : Nat} (hn : n < 31) (hk : k ≤ n) (μ : Mem) : f_X_topOnes N (nI n) (nI k) μ = some (nI (2 ^ n - 2 ^ (n - k)), μ) := by
  unfold f_X_topOnes
  rw [pk_sub hk, one_shl hn, one_shl (by omega), pk_sub (Nat.pow_le_pow_right (by decide) (by omega))]
theorem top_lt {n k : Nat} (hk : k ≤ n) : 2 ^ n - 2 ^ (n - k) < 2 ^ n := by
  have h1 := Nat.two_pow_pos n
  have h2 := Nat.two_pow_pos (n - k)
  omega
theorem fl0 (N : Nat) (μ : Mem) : f_M_flag N 0 μ = some (0, μ) := sM_flag N False μ
theorem fl1 (N : Nat) (μ : Mem) : f_M_flag N 1 μ = some (1, μ) := sM_flag N True μ
abbrev mI : Nat → Nat → Prop := fun q k => (q = 44 ∧ k = 21) ∨ q = 58
theorem mI_mQ {μ μ' : Mem} (f : Fr mI μ μ') : Fr mQ μ μ' := f.mono (fun q k z => by unfold mI at z; unfold mQ; omega)
theorem NM.mi {s n : Nat} {cs : List (Nat × Nat)} {μ μ' : Mem} (h : NM μ s n cs) (f : Fr mI μ μ') : NM μ' s n cs := h.fr f (fun q k _ _ z => by unfold mI at z; omega)
theorem sM_laysImage (N : Nat) (hN : 10000 ≤ N) {s n : Nat} {cs : List (Nat × Nat)} {μ : Mem} (h : NM μ s n cs) (w : WN n cs) (hs : s < 4) : ∃ μ', f_M_laysImage N (nI s) μ = some ((), μ') ∧ (∀ y, y < 256 → gI μ' 58 y = if imR (rt cs) (2 ^ n) y then 1 else 0) ∧ Fr mI μ μ' := by
  have h8 := w.2.1
  have p8 := pow8 h8
  have z0 : vp_nar .boolean 0 = 0 := by decide
  have z1 : vp_nar .boolean 1 = 1 := by decide
  obtain ⟨μ1, ⟨j1, j2⟩, e1⟩ := for_up (fun n' i ν => lp_M_laysImage_2 N (nI s) (fun μ5 => lp_M_laysImage_24 N (nI s) (fun μ14 => some ((), μ14)) N 0 μ5) n' i ν) (fun μ5 => lp_M_laysImage_24 N (nI s) (fun μ14 => some ((), μ14)) N 0 μ5) 256 (fun i κ => Fr mI μ κ ∧ ∀ y, y < i → gI κ 58 y = 0)
    (by
      intro n' i κ hi ⟨i1, i2⟩
      refine ⟨sI κ 58 i 0, ⟨i1.sI (Or.inr rfl), fun y hy => ?_⟩, ?_⟩
      · by_cases e : y = i
        · subst e; simp [gI_sI, gL_sL, gR_sR, gI_sL, gI_sR, gL_sI, gL_sR, gR_sI, gR_sL]
        · simp [gI_sI, gL_sL, gR_sR, gI_sL, gI_sR, gL_sI, gL_sR, gR_sI, gR_sL, e, i2 y (by omega)]
      · rw [lp_M_laysImage_2, if_pos (show nI i < 256 from nI_lt (b := 256) hi (by omega)), inb_nI hi (by omega), ck_tt, tn_nI (by omega), z0]
        simp only [lt']
        rw [nI_1])
    (by
      intro n' κ _
      rw [lp_M_laysImage_2, if_neg (show ¬ nI 256 < 256 from nI_nlt (b := 256) (Nat.le_refl _) (by omega))])
    256 0 N μ (by omega) (by omega) ⟨Fr.rf μ, fun y hy => by omega⟩
  obtain ⟨μ2, ⟨k1, k2⟩, e2⟩ := for_up (fun n' i ν => lp_M_laysImage_24 N (nI s) (fun μ14 => some ((), μ14)) n' i ν) (fun μ14 => some ((), μ14)) (2 ^ n) (fun i κ => Fr mI μ κ ∧ ∀ y, y < 256 → gI κ 58 y = if imR (rt cs) i y then 1 else 0)
    (by
      intro n' i κ hi ⟨i1, i2⟩
      have nk := h.mi i1
      have hr := rt_lt w hi
      obtain ⟨κ', e', b', f'⟩ := sM_result N hN nk w hs hi (-1) b0 hb0 0 (by decide)
      have e'' : f_M_result N (nI s) (nI i) (-1) 0 κ = some (nI (rt cs i), κ') := e'
      refine ⟨sI κ' 58 (rt cs i) 1, ⟨(i1.tr (f'.mono (fun q k z => Or.inl z))).sI (Or.inr rfl), fun y hy => ?_⟩, ?_⟩
      · have a : gI κ' 58 y = gI κ 58 y := f'.I (fun z => by unfold mB at z; omega)
        rw [imR]
        by_cases e : y = rt cs i
        · subst e; simp [gI_sI, gL_sL, gR_sR, gI_sL, gI_sR, gL_sI, gL_sR, gR_sI, gR_sL]
        · simp [gI_sI, gL_sL, gR_sR, gI_sL, gI_sR, gL_sI, gL_sR, gR_sI, gR_sL, e, a, i2 y hy]
      · rw [lp_M_laysImage_24, sM_all N nk hs h8, bnd_some, if_pos (nI_lt hi (by omega)), e'', bnd_some, inb_nI (by omega) (by omega), ck_tt, tn_nI (by omega), z1]
        simp only [lt']
        rw [nI_1])
    (by
      intro n' κ ⟨i1, i2⟩
      rw [lp_M_laysImage_24, sM_all N (h.mi i1) hs h8, bnd_some, if_neg (nI_nlt (Nat.le_refl _) (by omega))])
    (2 ^ n) 0 N μ1 (by omega) (by omega) ⟨j1, fun y hy => by rw [j2 y hy]; simp [imR]⟩
  exact ⟨μ2, Eq.trans e1 e2, k2, k1⟩
theorem op_image (N : Nat) (hN : 10000 ≤ N) (x : Int32) : OpEq (f_X_image N x) (f_M_image N x) := by
  refine op_of (-1) (fun x h μ => by simp [f_X_image, isNet_out N h, bnd_some]) (fun x h μ => by simp [f_M_image, mNet_out N h, bnd_some, lt']) (fun s hs μ σ hw hx => ?_) x
  have w := hw.1 s hs
  have nx := hx.1 s hs
  generalize hcs : (σ.1 s).2 = cs at *
  generalize hnn : (σ.1 s).1 = n at *
  have h8 := w.2.1
  have p8 := pow8 h8
  generalize hS : imR (rt cs) (2 ^ n) = S at *
  have sz : cn S 256 = cn S (2 ^ n) := by
    have e := PS.size h8 (P := S)
    rw [← e]
    refine cn_cong (fun k _ => ?_)
    by_cases z : S k = true
    · have : k < 2 ^ n := imR_lt w (by rw [hS]; exact z)
      simp [this]
    · simp [z]
  obtain ⟨μ1, e1, p1, f1⟩ := sX_takeImage N hN nx w (by omega)
  rw [hS] at p1
  have n1 := nx.frg f1 (by omega)
  have key : ∀ K : Int32 → Mem → Option (Int32 × Mem), lp_X_image_23 N (nI s) K N 0 0 μ1 = K (nI (cn (fun k => S (2 ^ n - 2 ^ (n - k))) (n + 1))) μ1 := by
    intro K
    obtain ⟨⟨r, κ⟩, ⟨k1, k2⟩, e⟩ := for_up (fun n' i (q : Int32 × Mem) => lp_X_image_23 N (nI s) K n' q.1 i q.2) (fun q => K q.1 q.2) (n + 1) (fun i q => q.1 = nI (cn (fun k => S (2 ^ n - 2 ^ (n - k))) i) ∧ q.2 = μ1)
      (by
        intro n' i ⟨r, κ⟩ hi ⟨i1, i2⟩
        dsimp only at i1 i2
        subst i1; subst i2
        refine ⟨(nI (cn (fun k => S (2 ^ n - 2 ^ (n - k))) (i + 1)), κ), ⟨rfl, rfl⟩, ?_⟩
        dsimp only
        have tl := top_lt (show i ≤ n by omega)
        rw [lp_X_image_23, inb_nI hs (by omega), ck_tt, tn_nI (by omega), n1.1, if_neg (nI_nlt (by omega) (by omega)), ck_tt, sX_topOnes N (by omega) (by omega), bnd_some, sPS_holds N p1 (by omega), bnd_some, cn]
        simp only [lt']
        by_cases z : S (2 ^ n - 2 ^ (n - i)) = true
        · simp only [z, if_true, i10, if_false]
          rw [nI_1, nI_1]
        · simp only [z, Bool.false_eq_true, if_false, i00, if_true]
          rw [nI_1]; rfl)
      (by
        intro n' ⟨r, κ⟩ ⟨i1, i2⟩
        dsimp only at i1 i2 ⊢
        subst i2
        rw [lp_X_image_23, inb_nI hs (by omega), ck_tt, tn_nI (by omega), n1.1, if_pos (nI_lt (by omega) (by omega))])
      (n + 1) 0 N (0, μ1) (by omega) (by omega) ⟨rfl, rfl⟩
    dsimp only at k1 k2 e
    subst k1; subst k2
    exact e
  refine g_q hw hx (nI (cn S (2 ^ n))) [(nI (cn (fun p => S p && so n p) (2 ^ n))).toInt64] (by simp) ?_ (fun μ ν hν hm => ?_)
  · obtain ⟨μ3, e3, r3, f3⟩ := sNum_clear N μ1
    obtain ⟨μ4, e4, r4, f4⟩ := sNum_append N (nI (cn (fun p => S p && so n p) (2 ^ n))).toInt64 r3 (by decide)
    have p4 := (p1.fr f3 (fun _ => rgo (by omega))).fr f4 (fun _ => rgo (by omega))
    refine ⟨μ4, ?_, r4, ((f1.wide (by omega) (by omega)).tr (f3.wide (by omega) (by omega))).tr (f4.wide (by omega) (by omega))⟩
    unfold f_X_image
    rw [isNet_in N hs, bnd_some, if_neg (by decide), inb_nI hs (by omega), ck_tt, tn_nI (by omega), e1, bnd_some, key, e3, bnd_some, ← cn_so h8, e4, bnd_some, sPS_size N hN p4, bnd_some, sz]
  · have m := hm.1 s hs
    rw [hcs, hnn] at m
    obtain ⟨ν1, g1, i1, h1⟩ := sM_laysImage N hN m w hs
    rw [hS] at i1
    have m1 := m.mi h1
    have key2 : ∀ K : Int32 → Int32 → Mem → Option (Int32 × Mem), lp_M_image_26 N (nI s) K N 0 0 0 ν1 = K (nI (cn S (2 ^ n))) (nI (cn (fun p => S p && so n p) (2 ^ n))) ν1 := by
      intro K
      obtain ⟨⟨⟨r, v⟩, κ⟩, ⟨k1, k2, k3⟩, e⟩ := for_up (fun n' i (q : (Int32 × Int32) × Mem) => lp_M_image_26 N (nI s) K n' q.1.1 q.1.2 i q.2) (fun q => K q.1.1 q.1.2 q.2) (2 ^ n) (fun i q => q.1.1 = nI (cn S i) ∧ q.1.2 = nI (cn (fun p => S p && so n p) i) ∧ q.2 = ν1)
        (by
          intro n' i ⟨⟨r, v⟩, κ⟩ hi ⟨i1', i2, i3⟩
          dsimp only at i1' i2 i3
          subst i1'; subst i2; subst i3
          refine ⟨((nI (cn S (i + 1)), nI (cn (fun p => S p && so n p) (i + 1))), κ), ⟨rfl, rfl, rfl⟩, ?_⟩
          dsimp only
          have w1 := w.1
          rw [lp_M_image_26, sM_all N m1 hs h8, bnd_some, if_pos (nI_lt hi (by omega)), inb_nI (by omega) (by omega), ck_tt, tn_nI (by omega), i1 i (by omega), sM_flag, bnd_some, inb_nI hs (by omega), tn_nI (by omega), m1.1]
          simp only [lt', ck_tt]
          rw [cn, cn]
          by_cases z : S i = true
          · rw [i1 i (by omega)]
            simp only [z, if_true, i10, if_false, sM_isSorted N hN (show 1 ≤ n by omega) h8 (show i < 2 ^ 31 by omega), bnd_some, Bool.true_and]
            by_cases y : so n i = true
            · simp only [y, if_true, i10, if_false, fl1, bnd_some]
              rw [nI_1, nI_1, nI_1]
            · simp only [y, Bool.false_eq_true, if_false, i00, if_true, fl0, bnd_some]
              rw [nI_1, nI_1]; simp
          · rw [i1 i (by omega)]
            simp only [z, Bool.false_eq_true, if_false, i00, if_true, fl0, bnd_some]
            rw [nI_1]; simp [z])
        (by
          intro n' ⟨⟨r, v⟩, κ⟩ ⟨i1', i2, i3⟩
          dsimp only at i1' i2 i3 ⊢
          subst i3
          rw [lp_M_image_26, sM_all N m1 hs h8, bnd_some, if_neg (nI_nlt (Nat.le_refl _) (by omega))])
        (2 ^ n) 0 N ((0, 0), ν1) (by omega) (by omega) ⟨rfl, rfl, rfl⟩
      dsimp only at k1 k2 k3 e
      subst k1; subst k2; subst k3
      exact e
    obtain ⟨ν2, g2, q2, h2⟩ := sM_tellsOne N ν1 (nI (cn (fun p => S p && so n p) (2 ^ n))).toInt64
    refine ⟨ν2, ?_, q2, (mI_mQ h1).tr (mR_mQ h2)⟩
    unfold f_M_image
    simp only [lt', ← hν]
    rw [mNet_in N hs, bnd_some, if_neg (by decide), g1, bnd_some, key2, g2, bnd_some]
def tT (n a b c : Nat) : Nat := (2 ^ a - 2 ^ (a - b)) ||| (2 ^ n - 2 ^ (n - c))
def cnd (n a p : Nat) : Bool := so a p && so (n - a) (p / 2 ^ a)
def LM (n a m : Nat) : List Nat := (List.range m).flatMap fun b => (List.range (n - a + 1)).map (tT n a b)
theorem mg_perm : ∀ n, n < 9 → ∀ a, a < n → 0 < a → ((List.range (2 ^ n)).filter (cnd n a)).isPerm (LM n a (a + 1)) = true := by decide +kernel
def bdm (S : Nat → Bool) (n a : Nat) : Nat → Nat
  | 0 => 0
  | b + 1 => bdm S n a b + cn (fun c => S (tT n a b c)) (n - a + 1)
theorem LM_bdm (S : Nat → Bool) (n a : Nat) : ∀ m, (LM n a m).countP S = bdm S n a m
  | 0 => rfl
  | m + 1 => by
    have ih := LM_bdm S n a m
    unfold LM at ih ⊢
    rw [List.range_succ (n := m), List.flatMap_append, List.countP_append, ih, bdm, cn_cP]
    congr 1
    simp only [List.flatMap_cons, List.flatMap_nil, List.append_nil]
    rw [List.countP_map]; rfl
theorem cn_mg {n a : Nat} (h8 : n ≤ 8) (ha : a < n) (h0 : 0 < a) (S : Nat → Bool) : cn (fun p => S p && cnd n a p) (2 ^ n) = bdm S n a (a + 1) := by
  rw [cn_cP, ← List.countP_filter, (List.isPerm_iff.mp (mg_perm n (by omega) a ha h0)).countP_eq, LM_bdm]
theorem tT_lt {n a b c : Nat} (ha : a ≤ n) (hb : b ≤ a) (hc : c ≤ n) : tT n a b c < 2 ^ n :=
  Nat.or_lt_two_pow (Nat.lt_of_lt_of_le (top_lt hb) (Nat.pow_le_pow_right (by decide) ha)) (top_lt hc)
theorem bdm_le (S : Nat → Bool) (n a : Nat) : ∀ m, bdm S n a m ≤ m * (n - a + 1)
  | 0 => Nat.zero_le _
  | m + 1 => by
    have := bdm_le S n a m
    have c := cn_le (fun c => S (tT n a m c)) (n - a + 1)
    rw [bdm, Nat.succ_mul]; omega
theorem bdm_t (n a : Nat) : ∀ m, bdm (fun _ => true) n a m = m * (n - a + 1)
  | 0 => by simp [bdm]
  | m + 1 => by rw [bdm, bdm_t n a m, cn_all (fun k _ => rfl), Nat.succ_mul]
theorem bdm_cong {S T : Nat → Bool} {n a : Nat} (ha : a ≤ n) (h : ∀ x, x < 2 ^ n → S x = T x) : ∀ m, m ≤ a + 1 → bdm S n a m = bdm T n a m
  | 0, _ => rfl
  | m + 1, hm => by
    rw [bdm, bdm, bdm_cong ha h m (by omega)]
    congr 1
    exact cn_cong (fun k hk => h _ (tT_lt ha (by omega) (by omega)))
theorem op_merges (N : Nat) (hN : 10000 ≤ N) (x y : Int32) : OpEq (f_X_merges N x y) (f_M_merges N x y) := by
  refine op_of (fX := fun x => f_X_merges N x y) (fM := fun x => f_M_merges N x y) (-1) (fun x h μ => by simp [f_X_merges, isNet_out N h, bnd_some]) (fun x h μ => by simp [f_M_merges, mNet_out N h, bnd_some, lt']) (fun s hs μ σ hw hx => ?_) x
  have w := hw.1 s hs
  have nx := hx.1 s hs
  generalize hcs : (σ.1 s).2 = cs at *
  generalize hnn : (σ.1 s).1 = n at *
  have h8 := w.2.1
  have p8 := pow8 h8
  have n2 := w.1
  rcases ix4 y n (by omega) with hp | ⟨a, ha, rfl⟩
  · refine g_no hw hx (-1) (by simp (disch := omega) [f_X_merges, isNet_in N hs, sNet_isWireNo N nx hp, lt', bnd_some, ck_tt, inb_nI, tn_nI, fa_lit, nI_add, pk_mul, nI_ltI, nI_eq]) (fun μ ν hν hm => ?_)
    have m := hm.1 s hs
    rw [hcs, hnn] at m
    unfold f_M_merges
    simp only [lt', ← hν]
    have hin : f_M_in N (Int32.toInt64 y) 1 (Int32.toInt64 (nI n - 1)) ν = some (0, ν) := by
      rw [sM_in, if_neg]
      rw [m1_int (by omega) (by omega)]
      have := out_int (n := n) (by omega) hp
      have e1 : (1 : Int64).toInt = 1 := rfl
      omega
    rw [mNet_in N hs, bnd_some, if_neg (by decide), inb_nI hs (by omega), ck_tt, tn_nI (by omega), m.1, hin, bnd_some, if_pos rfl]
  by_cases h0 : a = 0
  · subst h0
    refine g_no hw hx (-1) (by simp (disch := omega) [f_X_merges, isNet_in N hs, sNet_isWire N nx ha (by omega), lt', bnd_some, ck_tt, inb_nI, tn_nI, fa_lit, nI_add, pk_mul, nI_ltI, nI_eq]) (fun μ ν hν hm => ?_)
    have m := hm.1 s hs
    rw [hcs, hnn] at m
    unfold f_M_merges
    simp only [lt', ← hν]
    have hin : f_M_in N (Int32.toInt64 (nI 0)) 1 (Int32.toInt64 (nI n - 1)) ν = some (0, ν) := by
      rw [sM_in, if_neg]
      rw [m1_int (by omega) (by omega)]
      have e1 : (1 : Int64).toInt = 1 := rfl
      have e0 : (nI 0).toInt = 0 := rfl
      omega
    rw [mNet_in N hs, bnd_some, if_neg (by decide), inb_nI hs (by omega), ck_tt, tn_nI (by omega), m.1, hin, bnd_some, if_pos rfl]
  have ha0 : 0 < a := (by omega)
  obtain ⟨μ1, e1, p1, f1⟩ := sX_judge0 N hN nx w (by omega)
  have n1 := nx.frg f1 (by omega)
  generalize hSS : PW n (wr n cs b0 0) = S at p1
  have sub1 : nI n - nI a = nI (n - a) := pk_sub (by omega)
  have mb : (a + 1) * (n - a + 1) ≤ 100 := by
    have : (a + 1) * (n - a + 1) ≤ 9 * 9 := Nat.mul_le_mul (by omega) (by omega)
    omega
  have inner : ∀ (b : Nat) (A B : Nat) (K : Int32 → Int32 → Mem → Option (Int32 × Mem)), b ≤ a → lp_X_merges_65 N (nI a) (nI n) (nI b) K N (nI A) (nI B) 0 μ1 = K (nI (A + (n - a + 1))) (nI (B + cn (fun c => S (tT n a b c)) (n - a + 1))) μ1 := by
    intro b A B K hb
    obtain ⟨⟨⟨r, v⟩, κ⟩, ⟨k1, k2, k3⟩, e⟩ := for_up (fun n' i (q : (Int32 × Int32) × Mem) => lp_X_merges_65 N (nI a) (nI n) (nI b) K n' q.1.1 q.1.2 i q.2) (fun q => K q.1.1 q.1.2 q.2) (n - a + 1) (fun i q => q.1.1 = nI (A + i) ∧ q.1.2 = nI (B + cn (fun c => S (tT n a b c)) i) ∧ q.2 = μ1)
      (by
        intro n' i ⟨⟨r, v⟩, κ⟩ hi ⟨i1, i2, i3⟩
        dsimp only at i1 i2 i3
        subst i1; subst i2; subst i3
        refine ⟨((nI (A + (i + 1)), nI (B + cn (fun c => S (tT n a b c)) (i + 1))), κ), ⟨rfl, rfl, rfl⟩, ?_⟩
        dsimp only
        have tl := tT_lt (n := n) (a := a) (b := b) (c := i) (by omega) hb (by omega)
        have tq : (2 ^ a - 2 ^ (a - b)) ||| (2 ^ n - 2 ^ (n - i)) = tT n a b i := rfl
        rw [lp_X_merges_65, sub1, if_neg (nI_nlt (by omega) (by omega))]
        rw [ltE]
        rw [sX_topOnes N (by omega) hb, bnd_some, sX_topOnes N (by omega) (by omega), bnd_some, orI, tq, sPS_holds N p1 (by omega), bnd_some, cn]
        rw [ltE, ltE]
        by_cases z : S (tT n a b i) = true
        · simp only [z, if_true, i10, if_false]
          rw [nI_1, nI_1, nI_1, Nat.add_assoc, Nat.add_assoc]
        · simp only [z, Bool.false_eq_true, if_false, i00, if_true]
          rw [nI_1, nI_1, Nat.add_assoc]; simp only [Nat.add_zero])
      (by
        intro n' ⟨⟨r, v⟩, κ⟩ ⟨i1, i2, i3⟩
        dsimp only at i1 i2 i3 ⊢
        subst i3
        rw [lp_X_merges_65, sub1, if_pos (nI_lt (by omega) (by omega))])
      (n - a + 1) 0 N ((nI A, nI B), μ1) (by omega) (by omega) ⟨rfl, rfl, rfl⟩
    dsimp only at k1 k2 k3 e
    subst k1; subst k2; subst k3
    exact e
  have key : ∀ K : Int32 → Int32 → Mem → Option (Int32 × Mem), lp_X_merges_56 N (nI a) (nI n) K N 0 0 0 μ1 = K (nI ((a + 1) * (n - a + 1))) (nI (bdm S n a (a + 1))) μ1 := by
    intro K
    obtain ⟨⟨⟨r, v⟩, κ⟩, ⟨k1, k2, k3⟩, e⟩ := for_up (fun n' i (q : (Int32 × Int32) × Mem) => lp_X_merges_56 N (nI a) (nI n) K n' q.1.1 q.1.2 i q.2) (fun q => K q.1.1 q.1.2 q.2) (a + 1) (fun i q => q.1.1 = nI (i * (n - a + 1)) ∧ q.1.2 = nI (bdm S n a i) ∧ q.2 = μ1)
      (by
        intro n' i ⟨⟨r, v⟩, κ⟩ hi ⟨i1, i2, i3⟩
        dsimp only at i1 i2 i3
        subst i1; subst i2; subst i3
        refine ⟨((nI ((i + 1) * (n - a + 1)), nI (bdm S n a (i + 1))), κ), ⟨rfl, rfl, rfl⟩, ?_⟩
        dsimp only
        rw [lp_X_merges_56, if_neg (nI_nlt (by omega) (by omega)), inner i _ _ _ (by omega)]
        simp only [lt']
        rw [nI_1, Nat.succ_mul, bdm])
      (by
        intro n' ⟨⟨r, v⟩, κ⟩ ⟨i1, i2, i3⟩
        dsimp only at i1 i2 i3 ⊢
        rw [lp_X_merges_56, if_pos (nI_lt (by omega) (by omega))])
      (a + 1) 0 N ((0, 0), μ1) (by omega) (by omega) ⟨by rw [Nat.zero_mul]; rfl, rfl, rfl⟩
    dsimp only at k1 k2 k3 e
    subst k1; subst k2; subst k3
    exact e
  have eb : bdm S n a (a + 1) = cn (fun p => wr n cs b0 0 p && cnd n a p) (2 ^ n) := by
    rw [cn_mg h8 ha ha0]
    refine bdm_cong (by omega) (fun x hx => ?_) _ (Nat.le_refl _)
    rw [← hSS]
    unfold PW
    simp [hx]
  have em : (a + 1) * (n - a + 1) = cn (cnd n a) (2 ^ n) := by
    rw [← bdm_t, ← cn_mg h8 ha ha0]
    exact cn_cong (fun k _ => by rw [Bool.true_and])
  refine g_q hw hx (nI (cn (fun p => wr n cs b0 0 p && cnd n a p) (2 ^ n))) [(nI (cn (cnd n a) (2 ^ n))).toInt64] (by simp) ?_ (fun μ ν hν hm => ?_)
  · obtain ⟨μ3, e3, r3, f3⟩ := sNum_clear N μ1
    obtain ⟨μ4, e4, r4, f4⟩ := sNum_append N (nI (cn (cnd n a) (2 ^ n))).toInt64 r3 (by decide)
    refine ⟨μ4, ?_, r4, ((f1.wide (by omega) (by omega)).tr (f3.wide (by omega) (by omega))).tr (f4.wide (by omega) (by omega))⟩
    unfold f_X_merges
    have ne0 : ¬ nI a = 0 := fun q => h0 ((nI_eq (b := 0) (by omega) (by omega)).mp q)
    rw [isNet_in N hs, bnd_some, if_neg (by decide), inb_nI hs (by omega), ck_tt, tn_nI (by omega), sNet_isWire N nx ha (by omega), bnd_some, if_neg (by decide), if_neg ne0, ck_tt, nx.1]
    simp only [lt', ck_tt]
    rw [e1, bnd_some, key, e3, bnd_some, em, e4, bnd_some, eb]
  · have m := hm.1 s hs
    rw [hcs, hnn] at m
    have key2 : ∀ K : Int32 → Int32 → Mem → Option (Int32 × Mem), ∃ κ, Fr mB ν κ ∧ lp_M_merges_40 N (nI s) (nI a) K N 0 0 0 ν = K (nI (cn (fun p => wr n cs b0 0 p && cnd n a p) (2 ^ n))) (nI (cn (cnd n a) (2 ^ n))) κ := by
      intro K
      obtain ⟨⟨⟨r, v⟩, κ⟩, ⟨k1, k2, k3⟩, e⟩ := for_up (fun n' i (q : (Int32 × Int32) × Mem) => lp_M_merges_40 N (nI s) (nI a) K n' q.1.1 q.1.2 i q.2) (fun q => K q.1.1 q.1.2 q.2) (2 ^ n) (fun i q => q.1.1 = nI (cn (fun p => wr n cs b0 0 p && cnd n a p) i) ∧ q.1.2 = nI (cn (cnd n a) i) ∧ Fr mB ν q.2)
        (by
          intro n' i ⟨⟨r, v⟩, κ⟩ hi ⟨i1, i2, i3⟩
          dsimp only at i1 i2 i3
          subst i1; subst i2
          have mk := m.fr i3 (fun q k _ _ z => by unfold mB at z; omega)
          have q1 := sM_isSorted N hN (show 1 ≤ a from ha0) (show a ≤ 8 by omega) (show i < 2 ^ 31 by omega) κ
          have q2 := sM_isSorted N hN (n := n - a) (p := i / 2 ^ a) (by omega) (by omega) (Nat.lt_of_le_of_lt (Nat.div_le_self _ _) (by omega)) κ
          obtain ⟨κ', e', f'⟩ := sM_isWrong N hN mk w hs hi (-1) b0 hb0 0 (by decide)
          have e'' : f_M_isWrong N (nI s) (nI i) (-1) 0 κ = _ := e'
          have sq : shrI (nI i) (nI a) = nI (i / 2 ^ a) := shrI_nI (by omega) (by omega)
          have hc : cnd n a i = (so a i && so (n - a) (i / 2 ^ a)) := rfl
          by_cases y : so a i = true
          · by_cases z : so (n - a) (i / 2 ^ a) = true
            · refine ⟨((nI (cn (fun p => wr n cs b0 0 p && cnd n a p) (i + 1)), nI (cn (cnd n a) (i + 1))), κ'), ⟨rfl, rfl, i3.tr f'⟩, ?_⟩
              dsimp only
              rw [lp_M_merges_40, sM_all N mk hs h8, bnd_some, if_pos (nI_lt hi (by omega)), q1, bnd_some]
              simp only [lt', y, if_true, i10, if_false]
              rw [inb_nI hs (by omega), ck_tt, tn_nI (by omega), mk.1, sub1, sq, q2, bnd_some, if_pos z, if_neg (by decide), e'', bnd_some, sM_flag, bnd_some, nI_1, nI_1, cn, cn, hc, y, z]
              simp only [Bool.and_true]
              by_cases u : wr n cs b0 0 i = true
              · simp only [u, if_true]
                rw [nI_1]
              · simp only [u, Bool.false_eq_true, if_false]
                simp
            · refine ⟨((nI (cn (fun p => wr n cs b0 0 p && cnd n a p) (i + 1)), nI (cn (cnd n a) (i + 1))), κ), ⟨rfl, rfl, i3⟩, ?_⟩
              dsimp only
              rw [lp_M_merges_40, sM_all N mk hs h8, bnd_some, if_pos (nI_lt hi (by omega)), q1, bnd_some]
              simp only [lt', y, if_true, i10, if_false]
              rw [inb_nI hs (by omega), ck_tt, tn_nI (by omega), mk.1, sub1, sq, q2, bnd_some, if_neg z, if_pos rfl, nI_1, cn, cn, hc]
              simp [z]
          · refine ⟨((nI (cn (fun p => wr n cs b0 0 p && cnd n a p) (i + 1)), nI (cn (cnd n a) (i + 1))), κ), ⟨rfl, rfl, i3⟩, ?_⟩
            dsimp only
            rw [lp_M_merges_40, sM_all N mk hs h8, bnd_some, if_pos (nI_lt hi (by omega)), q1, bnd_some, if_neg y]
            simp only [lt', i00, if_true]
            rw [nI_1, cn, cn, hc]
            simp [y])
        (by
          intro n' ⟨⟨r, v⟩, κ⟩ ⟨i1, i2, i3⟩
          dsimp only at i1 i2 i3 ⊢
          have mk := m.fr i3 (fun q k _ _ z => by unfold mB at z; omega)
          rw [lp_M_merges_40, sM_all N mk hs h8, bnd_some, if_neg (nI_nlt (Nat.le_refl _) (by omega))])
        (2 ^ n) 0 N ((0, 0), ν) (by omega) (by omega) ⟨rfl, rfl, Fr.rf ν⟩
      dsimp only at k1 k2 k3 e
      subst k1; subst k2
      exact ⟨κ, k3, e⟩
    obtain ⟨ν1, h1, g1⟩ := key2 (fun v30 v31 μ32 => bnd (f_M_tellsOne N (Int32.toInt64 v31) μ32) fun _ μ34 => some (v30, μ34))
    obtain ⟨ν2, g2, q2, h2⟩ := sM_tellsOne N ν1 (nI (cn (cnd n a) (2 ^ n))).toInt64
    refine ⟨ν2, ?_, q2, (mS_mQ (mB_mS h1)).tr (mR_mQ h2)⟩
    unfold f_M_merges
    simp only [lt', ← hν]
    have hin : f_M_in N (Int32.toInt64 (nI a)) 1 (Int32.toInt64 (nI n - 1)) ν = some (1, ν) := by
      rw [sM_in, if_pos]
      rw [m1_int (by omega) (by omega), nI_toInt (by omega)]
      have e1 : (1 : Int64).toInt = 1 := rfl
      omega
    rw [mNet_in N hs, bnd_some, if_neg (by decide), inb_nI hs (by omega), ck_tt, tn_nI (by omega), m.1, hin, bnd_some, if_neg (by decide)]
    refine Eq.trans g1 ?_
    rw [g2, bnd_some]

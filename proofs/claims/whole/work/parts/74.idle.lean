/-! comparers that are never busy -/
def ior (W : Nat → Nat → Int64) (i j : Nat) : Nat → Int64
  | 0 => 0
  | b + 1 => ior W i j b ||| (W i b &&& (W j b ^^^ (-1)))
theorem lb_ior (W : Nat → Nat → Int64) (i j : Nat) {t : Nat} (ht : t < 64) : ∀ m, lb (ior W i j m) t = true ↔ ∃ b, b < m ∧ lb (W i b) t = true ∧ lb (W j b) t = false
  | 0 => by simp [ior, lb_zero]
  | m + 1 => by
    rw [ior, lb_or, Bool.or_eq_true, lb_ior W i j ht m, lb_and, lb_not _ ht, Bool.and_eq_true, Bool.not_eq_true']
    constructor
    · rintro (⟨b, h1, h2⟩ | h)
      · exact ⟨b, (by omega), h2⟩
      · exact ⟨m, (by omega), h⟩
    · rintro ⟨b, h1, h2⟩
      by_cases e : b = m
      · subst e; exact Or.inr h2
      · exact Or.inl ⟨b, (by omega), h2⟩
def bsy (P : Nat → Nat) (n i j : Nat) : Bool := decide (cn (fun x => decide (tb (P x) j < tb (P x) i)) (2 ^ n) ≠ 0)
theorem bsy_t {P : Nat → Nat} {n i j : Nat} : bsy P n i j = true ↔ ∃ x, x < 2 ^ n ∧ tb (P x) j < tb (P x) i := by
  unfold bsy
  rw [decide_eq_true_iff, ne_eq, cn_z0]
  constructor
  · intro h
    apply Classical.byContradiction
    intro g
    exact h (fun t ht => decide_eq_false (fun z => g ⟨t, ht, z⟩))
  · intro ⟨x, h1, h2⟩ h
    have := h x h1
    rw [decide_eq_false_iff_not] at this
    exact this h2
theorem sTr_isBusy (N : Nat) (hN : 10000 ≤ N) {p n i j : Nat} {W : Nat → Nat → Int64} {P : Nat → Nat} {μ : Mem} (h : TRW μ p n W) (g : Bits n W P) (h8 : n ≤ 8) (hi : i < n) (hj : j < n) : f_Trial_isBusy N p (nI i) (nI j) μ = some (if bsy P n i j then 1 else 0, μ) := by
  have bb := bks_b n (by omega)
  have b64 := bks_64 n (by omega)
  obtain ⟨⟨v, μ'⟩, ⟨k1, k2⟩, e⟩ := for_up (fun n' t (q : Int64 × Mem) => lp_Trial_isBusy_5 N p (nI i) (nI j) (fun v6 μ7 => if (lg_cmp v6 0) = 0 then (some (0, μ7)) else (some (1, μ7))) n' q.1 t q.2) (fun q => if (lg_cmp q.1 0) = 0 then (some (0, q.2)) else (some (1, q.2))) (bks n) (fun t q => q.1 = ior W i j t ∧ q.2 = μ)
    (by
      intro n' t ⟨v, κ⟩ ht ⟨i1, i2⟩
      dsimp only at i1 i2
      subst i1; subst i2
      refine ⟨(ior W i j (t + 1), κ), ⟨rfl, rfl⟩, ?_⟩
      have a1 := h.2.2 i hi t ht
      have a2 := h.2.2 j hj t ht
      dsimp only
      rw [lp_Trial_isBusy_5]
      simp (disch := omega) only [i10, i00, reduceIte, lt', bnd_some, ck_tt, inb_nI, tn_nI, nI_add, pk_mul, nI_ltI, nI_eq, h.2.1, ht, fa_lit, a1, a2]
      rfl)
    (by
      intro n' ⟨v, κ⟩ ⟨i1, i2⟩
      dsimp only at i1 i2 ⊢
      subst i2
      rw [lp_Trial_isBusy_5, h.2.1, if_neg (nI_nlt (Nat.le_refl _) (by omega))])
    (bks n) 0 N (0, μ) (by omega) (by omega) ⟨rfl, rfl⟩
  dsimp only at k1 k2 e
  subst k1; subst k2
  unfold f_Trial_isBusy
  refine Eq.trans e ?_
  simp only [lg_eq]
  by_cases z : bsy P n i j = true
  · rw [if_pos z, if_neg]
    intro q
    obtain ⟨x, hx, hb⟩ := bsy_t.mp z
    have t1 := tb_lt (P x) i
    have t2 := tb_lt (P x) j
    have ht : x % 64 < 64 := (by omega)
    have : lb (ior W i j (bks n)) (x % 64) = true := (lb_ior W i j ht _).mpr ⟨x / 64, (by omega), by rw [g i hi (x / 64) (by omega) _ ht, show 64 * (x / 64) + x % 64 = x by omega]; simp [hx]; omega, by rw [g j hj (x / 64) (by omega) _ ht, show 64 * (x / 64) + x % 64 = x by omega]; simp [hx]; omega⟩
    rw [q, lb_zero] at this
    cases this
  · rw [if_neg z, if_pos]
    apply lb_ext
    intro t ht
    rw [lb_zero]
    cases y : lb (ior W i j (bks n)) t with
    | false => rfl
    | true =>
      exfalso
      apply z
      obtain ⟨b, hb, h1, h2⟩ := (lb_ior W i j ht _).mp y
      rw [g i hi b hb t ht] at h1
      rw [g j hj b hb t ht] at h2
      simp at h1 h2
      have := h2 h1.1
      have t2 := tb_lt (P (64 * b + t)) j
      exact bsy_t.mpr ⟨64 * b + t, h1.1, (by omega)⟩
def bk' (n : Nat) (cs : List (Nat × Nat)) (k : Nat) : Bool := bsy (fun x => rs cs b0 0 x k) n (cl cs k) (ch cs k)
def ib (n : Nat) (cs : List (Nat × Nat)) : Nat → Int64
  | 0 => 0
  | k + 1 => ib n cs k ||| (if bk' n cs k then 0 else shlL 1 (nI k))
theorem lb_ib (n : Nat) (cs : List (Nat × Nat)) {t : Nat} (ht : t < 64) : ∀ k, k ≤ 64 → lb (ib n cs k) t = (decide (t < k) && !bk' n cs t)
  | 0, _ => by simp [ib, lb_zero]
  | k + 1, hk => by
    rw [ib, lb_or, lb_ib n cs ht k (by omega)]
    rcases Nat.lt_trichotomy t k with z | z | z
    · have h1 : t < k + 1 := (by omega)
      have h2 : ¬ t = k := (by omega)
      split
      · simp [z, h1, lb_zero]
      · rw [lb_bit (by omega) ht]; simp [z, h1, h2]
    · subst z
      split
      · rename_i q; simp [lb_zero, q]
      · rename_i q; rw [lb_bit (by omega) ht]; simp [q]
    · have h1 : ¬ t < k + 1 := (by omega)
      have h2 : ¬ t = k := (by omega)
      have h3 : ¬ t < k := (by omega)
      split
      · simp [h1, h3, lb_zero]
      · rw [lb_bit (by omega) ht]; simp [h1, h2, h3]
theorem lb_bz (cs : List (Nat × Nat)) (p : Nat) {t : Nat} (ht : t < 64) : ∀ k, k ≤ 64 → lb (bz cs b0 0 p k) t = (decide (t < k) && decide (tb (rs cs b0 0 p t) (ch cs t) < tb (rs cs b0 0 p t) (cl cs t)))
  | 0, _ => by simp [bz, lb_zero]
  | k + 1, hk => by
    rw [bz, lb_or, lb_bz cs p ht k (by omega)]
    rcases Nat.lt_trichotomy t k with z | z | z
    · have h1 : t < k + 1 := (by omega)
      have h2 : ¬ t = k := (by omega)
      split
      · rw [lb_bit (by omega) ht]; simp [z, h1, h2]
      · simp [z, h1, lb_zero]
    · subst z
      split
      · rename_i q; rw [lb_bit (by omega) ht]; simp [q]
      · rename_i q; simp [lb_zero, q]
    · have h1 : ¬ t < k + 1 := (by omega)
      have h2 : ¬ t = k := (by omega)
      have h3 : ¬ t < k := (by omega)
      split
      · rw [lb_bit (by omega) ht]; simp [h1, h2, h3]
      · simp [h1, h3, lb_zero]
def ev (cs : List (Nat × Nat)) : Nat → Int64
  | 0 => 0
  | p + 1 => ev cs p ||| bz cs b0 0 p cs.length
theorem lb_ev (cs : List (Nat × Nat)) (t : Nat) : ∀ m, lb (ev cs m) t = true ↔ ∃ p, p < m ∧ lb (bz cs b0 0 p cs.length) t = true
  | 0 => by simp [ev, lb_zero]
  | m + 1 => by
    rw [ev, lb_or, Bool.or_eq_true, lb_ev cs t m]
    constructor
    · rintro (⟨b, h1, h2⟩ | h)
      · exact ⟨b, (by omega), h2⟩
      · exact ⟨m, (by omega), h⟩
    · rintro ⟨b, h1, h2⟩
      by_cases e : b = m
      · subst e; exact Or.inr h2
      · exact Or.inl ⟨b, (by omega), h2⟩
theorem lb_full : ∀ k, k < 64 → ∀ t, t < 64 → lb (shlL 1 (nI k) - 1) t = decide (t < k) := by decide +kernel
theorem idle_eq {n : Nat} {cs : List (Nat × Nat)} (hl : cs.length ≤ 60) : (shlL 1 (nI cs.length) - 1) &&& (ev cs (2 ^ n) ^^^ (-1)) = ib n cs cs.length := by
  apply lb_ext
  intro t ht
  rw [lb_and, lb_full _ (by omega) t ht, lb_not _ ht, lb_ib n cs ht _ (by omega)]
  by_cases z : t < cs.length
  · simp only [z, decide_true, Bool.true_and]
    congr 1
    apply Bool.eq_iff_iff.mpr
    rw [lb_ev]
    unfold bk'
    rw [bsy_t]
    constructor
    · rintro ⟨p, h1, h2⟩
      rw [lb_bz cs p ht _ (by omega)] at h2
      simp [z] at h2
      exact ⟨p, h1, h2⟩
    · rintro ⟨p, h1, h2⟩
      refine ⟨p, h1, ?_⟩
      rw [lb_bz cs p ht _ (by omega)]
      simp [z, h2]
  · simp [z]
theorem op_idle (N : Nat) (hN : 10000 ≤ N) (x : Int32) : OpEq (f_X_idle N x) (f_M_idle N x) := by
  refine op_of (-1) (fun x h μ => by simp [f_X_idle, isNet_out N h, bnd_some]) (fun x h μ => by simp [f_M_idle, mNet_out N h, bnd_some, lt']) (fun s hs μ σ hw hx => ?_) x
  have w := hw.1 s hs
  have nx := hx.1 s hs
  have hl := w.2.2.1
  generalize hcs : (σ.1 s).2 = cs at *
  generalize hnn : (σ.1 s).1 = n at *
  have h8 := w.2.1
  have p8 := pow8 h8
  refine g_q hw hx (ib n cs cs.length) [(nI (cn (lb (ib n cs cs.length)) 64)).toInt64] (by simp) ?_ (fun μ ν hν hm => ?_)
  · obtain ⟨μ1, e1, t1, f1⟩ := sTr_start N hN (p := 27) w.1 w.2.1 μ
    obtain ⟨⟨v, μ2⟩, ⟨k1, k2, -⟩, e⟩ := for_up (fun n' i (q : Int64 × Mem) => lp_X_idle_34 N (2 + 3 * s) (fun v20 μ21 => bnd (f_Numbers_clear N μ21) fun _ μ23 => bnd (f_JLong_bitCount N v20 μ23) fun r24 μ25 => bnd (f_Numbers_append N (Int32.toInt64 r24) μ25) fun _ μ27 => some (v20, μ27)) n' q.1 i q.2) (fun q => bnd (f_Numbers_clear N q.2) fun _ μ23 => bnd (f_JLong_bitCount N q.1 μ23) fun r24 μ25 => bnd (f_Numbers_append N (Int32.toInt64 r24) μ25) fun _ μ27 => some (q.1, μ27)) cs.length (fun i q => Fr (rg 27 28) μ q.2 ∧ q.1 = ib n cs i ∧ ∃ W, TRW q.2 27 n W ∧ Bits n W (fun x => rs cs b0 0 x i))
      (by
        intro n' i ⟨v, κ⟩ hi ⟨i1, i2, W, i3, i4⟩
        dsimp only at i1 i2 i3
        subst i2
        have nk := nx.frg i1 (by omega)
        have c := w.2.2.2 i hi
        have g1 := (nk.2.2 i hi).1
        have g2 := (nk.2.2 i hi).2
        have e1 := sTr_isBusy N hN i3 i4 h8 (i := cl cs i) (j := ch cs i) (by omega) (by omega)
        obtain ⟨κ2, e2, t2, f2⟩ := sTr_compare N hN i3 h8 (i := cl cs i) (j := ch cs i) (by omega) (by omega) (by omega)
        refine ⟨(ib n cs (i + 1), κ2), ⟨i1.tr f2, rfl, _, t2, ?_⟩, ?_⟩
        · have := i4.cm (i := cl cs i) (j := ch cs i) (by omega) (by omega) (by omega)
          have e : (fun x => rs cs b0 0 x (i + 1)) = (fun x => cmp (rs cs b0 0 x i) (cl cs i) (ch cs i)) := funext fun x => rs_succ0 rfl
          rw [e]
          exact this
        · dsimp only
          rw [lp_X_idle_34]
          simp (disch := omega) only [i10, i00, reduceIte, lt', bnd_some, ck_tt, inb_nI, tn_nI, nI_add, pk_mul, nI_ltI, nI_eq, nk.2.1, hi, g1, g2, e1, e2, nI_1]
          rw [ib]
          have eb : bsy (fun x => rs cs b0 0 x i) n (cl cs i) (ch cs i) = bk' n cs i := rfl
          rw [eb]
          by_cases y : bk' n cs i = true
          · simp [y, or0L]
          · simp [y])
      (by
        intro n' ⟨v, κ⟩ ⟨i1, i2, i3⟩
        dsimp only at i1 i2 ⊢
        have nk := nx.frg i1 (by omega)
        rw [lp_X_idle_34, nk.2.1, if_neg (nI_nlt (Nat.le_refl _) (by omega))])
      cs.length 0 N (0, μ1) (by omega) (by omega) ⟨f1, rfl, _, t1, Bits.st cs _ _ w.1 w.2.1⟩
    dsimp only at k1 k2 e
    subst k2
    obtain ⟨μ3, e3, r3, f3⟩ := sNum_clear N μ2
    obtain ⟨μ4, e4, r4, f4⟩ := sNum_append N (nI (cn (lb (ib n cs cs.length)) 64)).toInt64 r3 (by decide)
    refine ⟨μ4, ?_, r4, ((k1.wide (by omega) (by omega)).tr (f3.wide (by omega) (by omega))).tr (f4.wide (by omega) (by omega))⟩
    unfold f_X_idle
    rw [isNet_in N hs, bnd_some, if_neg (by decide), inb_nI hs (by omega), ck_tt, tn_nI (by omega), nx.1, e1, bnd_some]
    refine Eq.trans e ?_
    rw [e3, bnd_some, sPop, bnd_some, e4, bnd_some]
  · have m := hm.1 s hs
    rw [hcs, hnn] at m
    obtain ⟨⟨v, ν2⟩, ⟨k1, k2⟩, e⟩ := for_up (fun n' i (q : Int64 × Mem) => lp_M_idle_21 N (nI s) (fun v12 μ13 => ck (inb (nI s) 4) (lt' (((shlL 1 (gI μ13 47 (tn (nI s)))) - 1) &&& (v12 ^^^ (-1))) fun v15 => bnd (f_M_bits N v15 μ13) fun r16 μ17 => bnd (f_M_tellsOne N (Int32.toInt64 r16) μ17) fun _ μ19 => some (v15, μ19))) n' q.1 i q.2) (fun q => ck (inb (nI s) 4) (lt' (((shlL 1 (gI q.2 47 (tn (nI s)))) - 1) &&& (q.1 ^^^ (-1))) fun v15 => bnd (f_M_bits N v15 q.2) fun r16 μ17 => bnd (f_M_tellsOne N (Int32.toInt64 r16) μ17) fun _ μ19 => some (v15, μ19))) (2 ^ n) (fun i q => Fr mB ν q.2 ∧ q.1 = ev cs i)
      (by
        intro n' i ⟨v, κ⟩ hi ⟨i1, i2⟩
        dsimp only at i1 i2
        subst i2
        have nk := m.fr i1 (fun q k _ _ z => by unfold mB at z; omega)
        obtain ⟨κ', e', b', f'⟩ := sM_result N hN nk w hs hi (-1) b0 hb0 0 (by decide)
        refine ⟨(ev cs (i + 1), κ'), ⟨i1.tr f', rfl⟩, ?_⟩
        dsimp only
        rw [lp_M_idle_21, sM_all N nk hs h8, bnd_some, if_pos (nI_lt hi (by omega)), show f_M_result N (nI s) (nI i) (-1) 0 κ = _ from e', bnd_some, b', nI_1]
        rfl)
      (by
        intro n' ⟨v, κ⟩ ⟨i1, i2⟩
        dsimp only at i1 i2 ⊢
        have nk := m.fr i1 (fun q k _ _ z => by unfold mB at z; omega)
        rw [lp_M_idle_21, sM_all N nk hs h8, bnd_some, if_neg (nI_nlt (Nat.le_refl _) (by omega))])
      (2 ^ n) 0 N (0, ν) (by omega) (by omega) ⟨Fr.rf ν, rfl⟩
    dsimp only at k1 k2 e
    subst k2
    have nk := m.fr k1 (fun q k _ _ z => by unfold mB at z; omega)
    obtain ⟨ν3, g3, q3, h3⟩ := sM_tellsOne N ν2 (nI (cn (lb (ib n cs cs.length)) 64)).toInt64
    refine ⟨ν3, ?_, q3, (mS_mQ (mB_mS k1)).tr (mR_mQ h3)⟩
    unfold f_M_idle
    simp only [lt', ← hν]
    rw [mNet_in N hs, bnd_some, if_neg (by decide)]
    refine Eq.trans e ?_
    rw [inb_nI hs (by omega), ck_tt, tn_nI (by omega), nk.2.1, idle_eq hl]
    simp only [lt']
    unfold f_M_bits
    rw [sPop, bnd_some, bnd_some, g3, bnd_some]

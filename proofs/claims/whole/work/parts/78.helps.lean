/-! the comparer that helps the most -/
theorem TRW.fr {A : Nat → Nat → Prop} {μ μ' : Mem} {p n : Nat} {W : Nat → Nat → Int64} (h : TRW μ p n W) (f : Fr A μ μ') (h0 : ∀ k, ¬ A p k) (h1 : ∀ k, ¬ A (p + 1) k) : TRW μ' p n W := ⟨by rw [f.I (h0 _)]; exact h.1, by rw [f.I (h0 _)]; exact h.2.1, fun w hw b hb => by rw [f.L (h1 _)]; exact h.2.2 w hw b hb⟩
theorem sTr_take (N : Nat) (hN : 10000 ≤ N) {p q n : Nat} {W : Nat → Nat → Int64} {μ : Mem} (h : TRW μ q n W) (hpq : p + 1 < q) (h8 : n ≤ 8) : ∃ μ', f_Trial_take N p q μ = some ((), μ') ∧ TRW μ' p n W ∧ Fr (rg p (p + 1)) μ μ' := by
  have bb := bks_b n (by omega)
  obtain ⟨μ', ⟨k1, k2, k3, k4⟩, e⟩ := for_up (fun n' i ν => lp_Trial_take_18 N p q (fun μ8 => some ((), μ8)) n' i ν) (fun ν => some ((), ν)) 32 (fun i κ => Fr (rg p (p + 1)) μ κ ∧ gI κ p 1 = nI n ∧ gI κ p 2 = nI (bks n) ∧ ∀ k, k < i → gL κ (p + 1) k = gL μ (q + 1) k)
    (by
      intro n' i κ hi ⟨i1, i2, i3, i4⟩
      refine ⟨sL κ (p + 1) i (gL κ (q + 1) i), ⟨i1.sL (rgi (by omega) (by omega)), by simp [gI_sI, gL_sL, gR_sR, gI_sL, gI_sR, gL_sI, gL_sR, gR_sI, gR_sL, i2], by simp [gI_sI, gL_sL, gR_sR, gI_sL, gI_sR, gL_sI, gL_sR, gR_sI, gR_sL, i3], fun k hk => ?_⟩, ?_⟩
      · by_cases e : k = i
        · subst e; rw [gL_sL, if_pos ⟨rfl, rfl⟩, i1.L (rgo (by omega))]
        · rw [gL_sL, if_neg (fun z => e z.2)]; exact i4 k (by omega)
      · rw [lp_Trial_take_18, if_pos (show nI i < Int32.ofNat 32 from nI_lt (b := 32) hi (by omega)), inb_nI hi (by omega), ck_tt, ck_tt, tn_nI (by omega), ltE, ltE, nI_1])
    (by
      intro n' κ _
      rw [lp_Trial_take_18, if_neg (show ¬ nI 32 < Int32.ofNat 32 from nI_nlt (b := 32) (Nat.le_refl _) (by omega))])
    32 0 N (sI (sI μ p 1 (nI n)) p 2 (nI (bks n))) (by omega) (by omega) ⟨((Fr.rf μ).sI (rgi (by omega) (by omega))).sI (rgi (by omega) (by omega)), by simp [gI_sI, gL_sL, gR_sR, gI_sL, gI_sR, gL_sI, gL_sR, gR_sI, gR_sL], by simp [gI_sI, gL_sL, gR_sR, gI_sL, gI_sR, gL_sI, gL_sR, gR_sI, gR_sL], fun k hk => by omega⟩
  refine ⟨μ', ?_, ⟨k2, k3, fun w hw b hb => by rw [k4 _ (by omega)]; exact h.2.2 w hw b hb⟩, k1⟩
  have g : gI (sI μ p 1 (nI n)) q 2 = nI (bks n) := by
    rw [gI_sI, if_neg (by omega)]; exact h.2.1
  unfold f_Trial_take
  rw [h.1, ltE, g, ltE]
  exact e
def hM (n : Nat) (cs : List (Nat × Nat)) (i j : Nat) : Nat := cn (fun x => !so n (cmp (rt cs x) i j)) (2 ^ n)
theorem cmp_0 (i j : Nat) : cmp 0 i j = 0 := by
  unfold cmp tb
  simp
theorem rt_0 (cs : List (Nat × Nat)) : rt cs 0 = 0 := by
  have : ∀ k, rs cs b0 0 0 k = 0 := by
    intro k
    induction k with
    | zero => rfl
    | succ k ih => rw [rs_succ0 rfl, ih, cmp_0]
  exact this _
theorem soK_0 : ∀ k, soK 0 k = true
  | 0 => rfl
  | k + 1 => by rw [soK, soK_0 k]; simp [tb]
theorem cn_lt {P : Nat → Bool} (h0 : P 0 = false) : ∀ m, 0 < m → cn P m < m
  | 1, _ => by rw [cn, cn, h0]; decide
  | m + 2, _ => by
    have := cn_lt h0 (m + 1) (by omega)
    rw [cn]
    split <;> omega
theorem hM_lt {n : Nat} (h8 : n ≤ 8) (cs : List (Nat × Nat)) (i j : Nat) : hM n cs i j < 256 := by
  have p8 := pow8 h8
  have := cn_lt (P := fun x => !so n (cmp (rt cs x) i j)) (by rw [rt_0, cmp_0]; unfold so; rw [soK_0]; rfl) (2 ^ n) (Nat.two_pow_pos n)
  unfold hM
  omega
def hst (m c : Nat) (s : Int32 × Nat) : Int32 × Nat := if m < s.2 then (nI c, m) else s
def hj (M : Nat → Nat → Nat) (i : Nat) (s : Int32 × Nat) : Nat → Int32 × Nat
  | 0 => s
  | k + 1 => hst (M i (i + 1 + k)) (10 * i + (i + 1 + k)) (hj M i s k)
def hii (M : Nat → Nat → Nat) (n : Nat) : Nat → Int32 × Nat
  | 0 => (-1, 256)
  | i + 1 => hj M i (hii M n i) (n - (i + 1))
def hJ (s : Int32 × Nat) : Prop := s.2 ≤ 256 ∧ (s.1 = -1 → s.2 = 256)
theorem hst_J {m c : Nat} {s : Int32 × Nat} (h : hJ s) (hm : m < 256) (hc : c < 1000) : hJ (hst m c s) ∧ (hst m c s).1 ≠ -1 := by
  unfold hst hJ
  have ne : nI c ≠ -1 := nI_ne_m1 (by omega)
  by_cases z : m < s.2
  · rw [if_pos z]; exact ⟨⟨Nat.le_of_lt hm, fun e => absurd e ne⟩, ne⟩
  · rw [if_neg z]
    have : s.1 ≠ -1 := fun e => by have := h.2 e; omega
    exact ⟨h, this⟩
theorem hj_J {M : Nat → Nat → Nat} {i : Nat} {s : Int32 × Nat} (h : hJ s) (hM : ∀ i j, M i j < 256) (hi : i ≤ 8) : ∀ k, k ≤ 8 → hJ (hj M i s k) ∧ (0 < k → (hj M i s k).1 ≠ -1)
  | 0, _ => ⟨h, fun z => by omega⟩
  | k + 1, hk => by
    have ih := (hj_J h hM hi k (by omega)).1
    have := hst_J (c := 10 * i + (i + 1 + k)) ih (hM i (i + 1 + k)) (by omega)
    exact ⟨this.1, fun _ => this.2⟩
theorem hii_J {M : Nat → Nat → Nat} {n : Nat} (hM : ∀ i j, M i j < 256) (hn : n ≤ 8) : ∀ i, i ≤ n → hJ (hii M n i)
  | 0, _ => ⟨Nat.le_refl _, fun _ => rfl⟩
  | i + 1, hi => (hj_J (hii_J hM hn i (by omega)) hM (by omega) _ (by omega)).1
theorem hii_ne {M : Nat → Nat → Nat} {n : Nat} (hM : ∀ i j, M i j < 256) (h2 : 2 ≤ n) (hn : n ≤ 8) : (hii M n (n - 1)).1 ≠ -1 := by
  obtain ⟨k, rfl⟩ : ∃ k, n = k + 2 := ⟨n - 2, (by omega)⟩
  show (hj M k (hii M (k + 2) k) (k + 2 - (k + 1))).1 ≠ -1
  exact (hj_J (hii_J hM hn k (by omega)) hM (by omega) _ (by omega)).2 (by omega)
theorem hii_last (M : Nat → Nat → Nat) {n : Nat} (h2 : 2 ≤ n) : hii M n n = hii M n (n - 1) := by
  obtain ⟨k, rfl⟩ : ∃ k, n = k + 1 := ⟨n - 1, (by omega)⟩
  rw [hii, Nat.sub_self, hj]; rfl
abbrev xH : Nat → Nat → Prop := fun q _ => q = 27 ∨ q = 28 ∨ q = 32
theorem l_h74 (N : Nat) (hN : 10000 ≤ N) {n i : Nat} {cs : List (Nat × Nat)} {W : Nat → Nat → Int64} {κ : Mem} (w : WN n cs) (h : TRW κ 29 n W) (g : Bits n W (rt cs)) (hi : i + 1 < n) (s : Int32 × Nat) (hs : hJ s) (K : Int32 → Int32 → Mem → Option (Int32 × Mem)) : ∃ κ', lp_X_helps_74 N (nI n) (nI i) K N s.1 (nI s.2) (nI (i + 1)) κ = K (hj (hM n cs) i s (n - (i + 1))).1 (nI (hj (hM n cs) i s (n - (i + 1))).2) κ' ∧ Fr xH κ κ' := by
  have h8 := w.2.1
  have p8 := pow8 h8
  have hm := hM_lt h8 cs
  obtain ⟨⟨t, κ'⟩, ⟨-, k1, k2⟩, e⟩ := for_up (fun n' j (q : (Int32 × Nat) × Mem) => lp_X_helps_74 N (nI n) (nI i) K n' q.1.1 (nI q.1.2) j q.2) (fun q => K q.1.1 (nI q.1.2) q.2) n (fun j q => i + 1 ≤ j ∧ q.1 = hj (hM n cs) i s (j - (i + 1)) ∧ Fr xH κ q.2)
    (by
      intro n' j ⟨t, ν⟩ hj' ⟨i0, i1, i2⟩
      dsimp only at i1 i2
      subst i1
      have tj := h.fr i2 (fun k z => by unfold xH at z; omega) (fun k z => by unfold xH at z; omega)
      obtain ⟨ν1, e1, t1, f1⟩ := sTr_take N hN (p := 27) tj (by omega) h8
      obtain ⟨ν2, e2, t2, f2⟩ := sTr_compare N hN t1 h8 (i := i) (j := j) (by omega) (by omega) (by omega)
      have g2 := g.cm (i := i) (j := j) (by omega) (by omega) (by omega)
      obtain ⟨ν3, e3, g3, f3⟩ := sTr_unsorted N hN t2 w.1 h8 (by omega)
      have ps := PS.un g2 w.1 h8 g3
      have e4 := sPS_size N hN ps
      rw [PS.size h8] at e4
      have e4' : f_PatternSet_size N ν3 = some (nI (hM n cs i j), ν3) := e4
      have J := (hj_J (M := hM n cs) (i := i) hs hm (by omega) (j - (i + 1)) (by omega)).1
      have m1 := hm i j
      have st : hj (hM n cs) i s (j + 1 - (i + 1)) = hst (hM n cs i j) (10 * i + j) (hj (hM n cs) i s (j - (i + 1))) := by
        rw [show j + 1 - (i + 1) = (j - (i + 1)) + 1 by omega, hj, show i + 1 + (j - (i + 1)) = j by omega]
      refine ⟨(hj (hM n cs) i s (j + 1 - (i + 1)), ν3), ⟨(by omega), rfl, ((i2.tr (f1.mono (fun q k z => by unfold rg at z; omega))).tr (f2.mono (fun q k z => by unfold rg at z; omega))).tr (f3.mono (fun q k z => by unfold rg at z; omega))⟩, ?_⟩
      dsimp only
      rw [st]
      unfold hst
      rw [lp_X_helps_74, if_pos (nI_lt hj' (by omega)), e1, bnd_some, e2, bnd_some, e3, bnd_some, e4', bnd_some, ltE]
      have c : (nI (hM n cs i j) < nI (hj (hM n cs) i s (j - (i + 1))).2) ↔ hM n cs i j < (hj (hM n cs) i s (j - (i + 1))).2 := nI_ltI (by omega) (by have := J.1; omega)
      by_cases z : hM n cs i j < (hj (hM n cs) i s (j - (i + 1))).2
      · rw [if_pos (c.mpr z), if_pos z]
        unfold f_X_code
        rw [bnd_some]
        dsimp only
        rw [ltE, show (10 : Int32) = nI 10 from rfl, pk_mul, nI_add, nI_1]
      · rw [if_neg (fun q => z (c.mp q)), if_neg z]
        dsimp only
        rw [ltE, nI_1])
    (by
      intro n' ⟨t, ν⟩ _
      dsimp only
      rw [lp_X_helps_74, if_neg (nI_nlt (Nat.le_refl _) (by omega))])
    (n - (i + 1)) (i + 1) N (s, κ) (by omega) (by omega) ⟨Nat.le_refl _, by rw [Nat.sub_self]; rfl, Fr.rf κ⟩
  dsimp only at k1 k2 e
  subst k1
  exact ⟨κ', e, k2⟩
theorem sM_compared (N : Nat) {q i j : Nat} (hq : q < 2 ^ 31) (hi : i < 31) (hj : j < 31) (μ : Mem) : f_M_compared N (nI q) (nI i) (nI j) μ = some (nI (cmp q i j), μ) := by
  have t1 := tb_lt q i
  have t2 := tb_lt q j
  have l : (nI (tb q j) < nI (tb q i)) ↔ tb q j < tb q i := nI_ltI (by omega) (by omega)
  unfold f_M_compared cmp xr
  rw [bitI hq (by omega), bitI hq (by omega), one_shl hi, one_shl hj, orI, xorI]
  by_cases z : tb q j < tb q i
  · rw [if_pos (l.mpr z), if_pos z]
  · rw [if_neg (fun y => z (l.mp y)), if_neg z]
theorem cmp_lt {q i j n : Nat} (hq : q < 2 ^ n) (hi : i < n) (hj : j < n) : cmp q i j < 2 ^ n := by
  unfold cmp
  split
  · exact xr_lt hq hi hj
  · exact hq
theorem l_h55 (N : Nat) (hN : 10000 ≤ N) {s n i j : Nat} {cs : List (Nat × Nat)} {κ : Mem} (x2 x3 : Int32) (m : NM κ s n cs) (w : WN n cs) (hs : s < 4) (hi : i < n) (hj : j < n) (K : Int32 → Mem → Option (Int32 × Mem)) : ∃ κ', lp_M_helps_55 N (nI s) x2 x3 (nI i) (nI j) K N 0 0 κ = K (nI (hM n cs i j)) κ' ∧ Fr mB κ κ' := by
  have h8 := w.2.1
  have p8 := pow8 h8
  have n2 := w.1
  obtain ⟨⟨r, κ'⟩, ⟨k1, k2⟩, e⟩ := for_up (fun n' p (q : Int32 × Mem) => lp_M_helps_55 N (nI s) x2 x3 (nI i) (nI j) K n' q.1 p q.2) (fun q => K q.1 q.2) (2 ^ n) (fun p q => q.1 = nI (cn (fun x => !so n (cmp (rt cs x) i j)) p) ∧ Fr mB κ q.2)
    (by
      intro n' p ⟨r, ν⟩ hp ⟨i1, i2⟩
      dsimp only at i1 i2
      subst i1
      have mk := m.fr i2 (fun q k _ _ z => by unfold mB at z; omega)
      obtain ⟨κ', e', b', f'⟩ := sM_result N hN mk w hs hp (-1) b0 hb0 0 (by decide)
      have e'' : f_M_result N (nI s) (nI p) (-1) 0 ν = some (nI (rt cs p), κ') := e'
      have hr := rt_lt w hp
      have hc := cmp_lt hr hi hj
      have q1 := sM_isSorted N hN (n := n) (p := cmp (rt cs p) i j) (by omega) h8 (by omega) κ'
      refine ⟨(nI (cn (fun x => !so n (cmp (rt cs x) i j)) (p + 1)), κ'), ⟨rfl, i2.tr f'⟩, ?_⟩
      dsimp only
      rw [lp_M_helps_55, sM_all N mk hs h8, bnd_some, if_pos (nI_lt hp (by omega)), inb_nI hs (by omega), ck_tt, e'', bnd_some, sM_compared N (by omega) (by omega) (by omega), bnd_some, tn_nI (by omega), mk.1, q1, bnd_some, cn]
      by_cases z : so n (cmp (rt cs p) i j) = true
      · rw [if_pos z, if_neg (by decide), ltE, fl0, bnd_some, ltE, ltE, nI_1, z, show (0 : Int32) = nI 0 from rfl, nI_add]; rfl
      · have z' : so n (cmp (rt cs p) i j) = false := by simpa using z
        rw [if_neg z, if_pos rfl, ltE, fl1, bnd_some, ltE, ltE, nI_1, nI_1, z']; rfl)
    (by
      intro n' ⟨r, ν⟩ ⟨i1, i2⟩
      dsimp only at i1 i2 ⊢
      have mk := m.fr i2 (fun q k _ _ z => by unfold mB at z; omega)
      rw [lp_M_helps_55, sM_all N mk hs h8, bnd_some, if_neg (nI_nlt (Nat.le_refl _) (by omega))])
    (2 ^ n) 0 N (0, κ) (by omega) (by omega) ⟨rfl, Fr.rf κ⟩
  dsimp only at k1 k2 e
  subst k1
  exact ⟨κ', e, k2⟩
def mdf (s : Int32 × Nat) : Int32 := if s.1 = -1 then 0 else nI s.2
theorem mdf_st {s : Int32 × Nat} {m c : Nat} (h : hJ s) (hm : m < 256) (hc : c < 1000) : (if s.1 = (-1) then ((nI c : Int32), (nI m : Int32)) else (if nI m < mdf s then ((nI c : Int32), (nI m : Int32)) else ((s.1 : Int32), (mdf s : Int32)))) = ((hst m c s).1, mdf (hst m c s)) := by
  have ne : nI c ≠ -1 := nI_ne_m1 (by omega)
  have h1 := h.1
  unfold hst mdf
  by_cases z : s.1 = -1
  · have := h.2 z
    rw [if_pos z, if_pos (show m < s.2 by omega), if_neg ne]
  · have l : (nI m < nI s.2) ↔ m < s.2 := nI_ltI (by omega) (by omega)
    rw [if_neg z, if_neg z]
    by_cases y : m < s.2
    · rw [if_pos (l.mpr y), if_pos y, if_neg ne]
    · rw [if_neg (fun q => y (l.mp q)), if_neg y, if_neg z]
theorem l_h38 (N : Nat) (hN : 10000 ≤ N) {s n i : Nat} {cs : List (Nat × Nat)} {κ : Mem} (m : NM κ s n cs) (w : WN n cs) (hs : s < 4) (hi : i < n) (t : Int32 × Nat) (ht : hJ t) (K : Int32 → Int32 → Mem → Option (Int32 × Mem)) : ∃ κ', lp_M_helps_38 N (nI s) (nI i) K N t.1 (mdf t) (nI (i + 1)) κ = K (hj (hM n cs) i t (n - (i + 1))).1 (mdf (hj (hM n cs) i t (n - (i + 1)))) κ' ∧ Fr mB κ κ' := by
  have h8 := w.2.1
  have hm := hM_lt h8 cs
  obtain ⟨⟨r, κ'⟩, ⟨-, k1, k2⟩, e⟩ := for_up (fun n' j (q : (Int32 × Nat) × Mem) => lp_M_helps_38 N (nI s) (nI i) K n' q.1.1 (mdf q.1) j q.2) (fun q => K q.1.1 (mdf q.1) q.2) n (fun j q => i + 1 ≤ j ∧ q.1 = hj (hM n cs) i t (j - (i + 1)) ∧ Fr mB κ q.2)
    (by
      intro n' j ⟨r, ν⟩ hj' ⟨i0, i1, i2⟩
      dsimp only at i1 i2
      subst i1
      have mk := m.fr i2 (fun q k _ _ z => by unfold mB at z; omega)
      have J := (hj_J (M := hM n cs) (i := i) ht hm (by omega) (j - (i + 1)) (by omega)).1
      have st : hj (hM n cs) i t (j + 1 - (i + 1)) = hst (hM n cs i j) (10 * i + j) (hj (hM n cs) i t (j - (i + 1))) := by
        rw [show j + 1 - (i + 1) = (j - (i + 1)) + 1 by omega, hj, show i + 1 + (j - (i + 1)) = j by omega]
      generalize hu : hj (hM n cs) i t (j - (i + 1)) = u at J st
      obtain ⟨ν1, e1, f1⟩ := l_h55 N hN u.1 (mdf u) mk w hs hi hj' (fun v27 μ28 => lt' (if u.1 = (-1) then (((10 * nI i) + nI j : Int32), (v27 : Int32)) else (if v27 < mdf u then (((10 * nI i) + nI j : Int32), (v27 : Int32)) else ((u.1 : Int32), (mdf u : Int32)))) fun q31 => lt' (nI j + 1) fun v32 => lp_M_helps_38 N (nI s) (nI i) K n' q31.1 q31.2 v32 μ28)
      refine ⟨(hj (hM n cs) i t (j + 1 - (i + 1)), ν1), ⟨(by omega), rfl, i2.tr f1⟩, ?_⟩
      dsimp only
      rw [lp_M_helps_38, inb_nI hs (by omega), ck_tt, tn_nI (by omega), mk.1, if_pos (nI_lt hj' (by omega))]
      refine Eq.trans e1 ?_
      rw [show (10 : Int32) = nI 10 from rfl, pk_mul, nI_add, mdf_st J (hm i j) (by omega), ltE, ltE, nI_1, st])
    (by
      intro n' ⟨r, ν⟩ ⟨_, i1, i2⟩
      dsimp only at i1 i2 ⊢
      have mk := m.fr i2 (fun q k _ _ z => by unfold mB at z; omega)
      rw [lp_M_helps_38, inb_nI hs (by omega), ck_tt, tn_nI (by omega), mk.1, if_neg (nI_nlt (Nat.le_refl _) (by omega))])
    (n - (i + 1)) (i + 1) N (t, κ) (by omega) (by omega) ⟨Nat.le_refl _, by rw [Nat.sub_self]; rfl, Fr.rf κ⟩
  dsimp only at k1 k2 e
  subst k1
  exact ⟨κ', e, k2⟩
theorem op_helps (N : Nat) (hN : 10000 ≤ N) (x : Int32) : OpEq (f_X_helps N x) (f_M_helps N x) := by
  refine op_of (-1) (fun x h μ => by simp [f_X_helps, isNet_out N h, bnd_some]) (fun x h μ => by simp [f_M_helps, mNet_out N h, bnd_some, lt']) (fun s hs μ σ hw hx => ?_) x
  have w := hw.1 s hs
  have nx := hx.1 s hs
  generalize hcs : (σ.1 s).2 = cs at *
  generalize hnn : (σ.1 s).1 = n at *
  have h8 := w.2.1
  have n2 := w.1
  have p8 := pow8 h8
  have hm := hM_lt h8 cs
  have ne := hii_ne hm n2 h8
  have eL := hii_last (hM n cs) n2
  have sub1 : nI n - 1 = nI (n - 1) := pk_sub (b := 1) (by omega)
  refine g_q hw hx (hii (hM n cs) n (n - 1)).1 [(nI (hii (hM n cs) n (n - 1)).2).toInt64] (by simp) ?_ (fun μ ν hν hm' => ?_)
  · obtain ⟨μ1, e1, t1, f1⟩ := sTr_start N hN (p := 29) w.1 w.2.1 μ
    have hq1 : NX μ1 (2 + 3 * s) n cs := nx.frg f1 (by omega)
    obtain ⟨μ2, e2, t2, f2⟩ := sTr_runPart N hN t1 hq1 w (by omega) (Nat.zero_le _) (Nat.le_refl cs.length)
    have bt := Bits.rp (b := b0) (how := 0) (a := 0) w (Bits.st cs _ 0 w.1 w.2.1) cs.length (by omega) (fun _ _ _ => rfl)
    rw [Nat.sub_zero] at t2
    rw [Nat.zero_add] at bt
    have bt' : Bits n (rpW cs (fun w b => col w b &&& msk n) 0 cs.length) (rt cs) := bt
    have key : ∀ K : Int32 → Int32 → Mem → Option (Int32 × Mem), ∃ κ, Fr xH μ2 κ ∧ lp_X_helps_60 N (nI n) K N (-1) 256 0 μ2 = K (hii (hM n cs) n (n - 1)).1 (nI (hii (hM n cs) n (n - 1)).2) κ := by
      intro K
      obtain ⟨⟨t, κ⟩, ⟨k1, k2⟩, e⟩ := for_up (fun n' i (q : (Int32 × Nat) × Mem) => lp_X_helps_60 N (nI n) K n' q.1.1 (nI q.1.2) i q.2) (fun q => K q.1.1 (nI q.1.2) q.2) (n - 1) (fun i q => q.1 = hii (hM n cs) n i ∧ Fr xH μ2 q.2)
        (by
          intro n' i ⟨t, κ⟩ hi ⟨i1, i2⟩
          dsimp only at i1 i2
          subst i1
          have tj := t2.fr i2 (fun k z => by unfold xH at z; omega) (fun k z => by unfold xH at z; omega)
          obtain ⟨κ', e', f'⟩ := l_h74 N hN w tj bt' (show i + 1 < n by omega) (hii (hM n cs) n i) (hii_J hm h8 i (by omega)) (fun v31 v32 μ33 => lt' (nI i + 1) fun v34 => lp_X_helps_60 N (nI n) K n' v31 v32 v34 μ33)
          refine ⟨(hii (hM n cs) n (i + 1), κ'), ⟨rfl, i2.tr f'⟩, ?_⟩
          dsimp only
          rw [lp_X_helps_60, sub1, if_pos (nI_lt hi (by omega)), ltE, nI_1]
          rw [nI_1] at e'
          refine Eq.trans e' ?_
          rw [ltE]; rfl)
        (by
          intro n' ⟨t, κ⟩ _
          dsimp only
          rw [lp_X_helps_60, sub1, if_neg (nI_nlt (Nat.le_refl _) (by omega))])
        (n - 1) 0 N ((-1, 256), μ2) (by omega) (by omega) ⟨rfl, Fr.rf μ2⟩
      dsimp only at k1 k2 e
      subst k1
      exact ⟨κ, k2, e⟩
    obtain ⟨μ3, f3, e3⟩ := key (fun v35 v36 μ37 => bnd (f_Numbers_clear N μ37) fun _ μ39 => bnd (f_Numbers_append N (Int32.toInt64 v36) μ39) fun _ μ41 => some (v35, μ41))
    obtain ⟨μ4, e4, r4, f4⟩ := sNum_clear N μ3
    obtain ⟨μ5, e5, r5, f5⟩ := sNum_append N (nI (hii (hM n cs) n (n - 1)).2).toInt64 r4 (by decide)
    refine ⟨μ5, ?_, r5, ((((f1.wide (by omega) (by omega)).tr (f2.wide (by omega) (by omega))).tr (f3.mono (fun q k z => ⟨by unfold xH at z; omega, by unfold xH at z; omega⟩))).tr (f4.wide (by omega) (by omega))).tr (f5.wide (by omega) (by omega))⟩
    unfold f_X_helps
    rw [isNet_in N hs, bnd_some, if_neg (by decide), inb_nI hs (by omega), ck_tt, tn_nI (by omega), nx.1, ltE, e1, bnd_some, ck_tt, ck_tt, hq1.2.1, show f_Trial_runPart N 29 (2 + 3 * s) 0 (nI cs.length) μ1 = _ from e2, bnd_some]
    refine Eq.trans e3 ?_
    rw [e4, bnd_some, e5, bnd_some]
  · have m := hm'.1 s hs
    rw [hcs, hnn] at m
    have key : ∀ K : Int32 → Int32 → Mem → Option (Int32 × Mem), ∃ κ, Fr mB ν κ ∧ lp_M_helps_21 N (nI s) K N (-1) 0 0 ν = K (hii (hM n cs) n n).1 (mdf (hii (hM n cs) n n)) κ := by
      intro K
      obtain ⟨⟨t, κ⟩, ⟨k1, k2⟩, e⟩ := for_up (fun n' i (q : (Int32 × Nat) × Mem) => lp_M_helps_21 N (nI s) K n' q.1.1 (mdf q.1) i q.2) (fun q => K q.1.1 (mdf q.1) q.2) n (fun i q => q.1 = hii (hM n cs) n i ∧ Fr mB ν q.2)
        (by
          intro n' i ⟨t, κ⟩ hi ⟨i1, i2⟩
          dsimp only at i1 i2
          subst i1
          have mk := m.fr i2 (fun q k _ _ z => by unfold mB at z; omega)
          obtain ⟨κ', e', f'⟩ := l_h38 N hN mk w hs hi (hii (hM n cs) n i) (hii_J hm h8 i (by omega)) (fun v34 v35 μ36 => lt' (nI i + 1) fun v37 => lp_M_helps_21 N (nI s) K n' v34 v35 v37 μ36)
          refine ⟨(hii (hM n cs) n (i + 1), κ'), ⟨rfl, i2.tr f'⟩, ?_⟩
          dsimp only
          rw [lp_M_helps_21, inb_nI hs (by omega), ck_tt, tn_nI (by omega), mk.1, if_pos (nI_lt hi (by omega)), ltE, nI_1]
          rw [nI_1] at e'
          refine Eq.trans e' ?_
          rw [ltE]; rfl)
        (by
          intro n' ⟨t, κ⟩ ⟨i1, i2⟩
          dsimp only at i1 i2 ⊢
          have mk := m.fr i2 (fun q k _ _ z => by unfold mB at z; omega)
          rw [lp_M_helps_21, inb_nI hs (by omega), ck_tt, tn_nI (by omega), mk.1, if_neg (nI_nlt (Nat.le_refl _) (by omega))])
        n 0 N ((-1, 256), ν) (by omega) (by omega) ⟨rfl, Fr.rf ν⟩
      dsimp only at k1 k2 e
      subst k1
      exact ⟨κ, k2, e⟩
    rw [eL] at key
    have md : mdf (hii (hM n cs) n (n - 1)) = nI (hii (hM n cs) n (n - 1)).2 := by unfold mdf; rw [if_neg ne]
    rw [md] at key
    obtain ⟨ν1, h1, g1⟩ := key (fun v38 v39 μ40 => bnd (f_M_tellsOne N (Int32.toInt64 v39) μ40) fun _ μ42 => some (v38, μ42))
    obtain ⟨ν2, g2, q2, h2⟩ := sM_tellsOne N ν1 (nI (hii (hM n cs) n (n - 1)).2).toInt64
    refine ⟨ν2, ?_, q2, (mS_mQ (mB_mS h1)).tr (mR_mQ h2)⟩
    unfold f_M_helps
    rw [ltE, ← hν, mNet_in N hs, bnd_some, if_neg (by decide)]
    refine Eq.trans g1 ?_
    rw [g2, bnd_some]

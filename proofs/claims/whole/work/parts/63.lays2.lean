/-! lays: both sides -/
theorem xAL1 (N : Nat) (hN : 10000 ≤ N) {s n : Nat} {cs base : List (Nat × Nat)} {κ : Mem} (hs : s < 4) (h : NX κ (2 + 3 * s) n cs) (w : WN n cs) (hlay : ∀ k, k < cs.length → gI κ 24 k = nI (lay cs k)) (hb : NX κ 18 n base) (l i : Nat) (hl : l < 100) (hi : i < n) (hlen : base.length + (bk cs l i cs.length).length ≤ 60) (K : Mem → Option (Unit × Mem)) : ∃ κ', lp_X_appendLayer_13 N (2 + 3 * s) (nI l) (nI i) K N (nI 0) κ = K κ' ∧ Fr (rg 18 20) κ κ' ∧ NX κ' 18 n (base ++ bk cs l i cs.length) := by
  have hll := w.2.2.1
  have h8 := w.2.1
  have mono : ∀ k, k ≤ cs.length → (bk cs l i k).length ≤ (bk cs l i cs.length).length := by
    intro k hk
    rw [bk_len, bk_len]
    have : ∀ d, cn (fun k => decide (lay cs k = l ∧ cl cs k = i)) k ≤ cn (fun k => decide (lay cs k = l ∧ cl cs k = i)) (k + d) := by
      intro d
      induction d with
      | zero => exact Nat.le_refl _
      | succ d ih => rw [← Nat.add_assoc, cn]; omega
    have := this (cs.length - k)
    rwa [show k + (cs.length - k) = cs.length by omega] at this
  obtain ⟨κ', ⟨h1, h2⟩, e⟩ := for_up (fun n i' ν => lp_X_appendLayer_13 N (2 + 3 * s) (nI l) (nI i) K n i' ν) K cs.length (fun k ν => Fr (rg 18 20) κ ν ∧ NX ν 18 n (base ++ bk cs l i k))
    (by
      intro n' k ν hk ⟨i1, i2⟩
      have a0 : gI ν (2 + 3 * s) 1 = nI cs.length := by rw [i1.I (rgo (by omega))]; exact h.2.1
      have a1 : gI ν (2 + 3 * s + 1) k = nI (cl cs k) := by rw [i1.I (rgo (by omega))]; exact (h.2.2 k hk).1
      have a2 : gI ν (2 + 3 * s + 2) k = nI (ch cs k) := by rw [i1.I (rgo (by omega))]; exact (h.2.2 k hk).2
      have a3 : gI ν 24 k = nI (lay cs k) := by rw [i1.I (rgo (by omega))]; exact hlay k hk
      have b := w.2.2.2 k hk
      have c3 := lay_le cs k
      by_cases e : lay cs k = l ∧ cl cs k = i
      · have m := mono (k + 1) (by omega)
        rw [bk, List.length_append, if_pos e, List.length_singleton] at m
        obtain ⟨ν', e', n2, f2⟩ := sNet_append N (i := i) (j := ch cs k) i2 (by rw [List.length_append]; omega)
        refine ⟨ν', ⟨i1.tr f2, ?_⟩, ?_⟩
        · rw [bk, if_pos e, ← List.append_assoc]; exact n2
        · simp (disch := omega) [lp_X_appendLayer_13, lt', bnd_some, ck_tt, inb_nI, tn_nI, fa_lit, nI_add, pk_mul, nI_ltI, nI_eq, a0, hk, a1, a2, a3, e, e']
      · refine ⟨ν, ⟨i1, ?_⟩, ?_⟩
        · rw [bk, if_neg e, List.append_nil]; exact i2
        · by_cases e1 : lay cs k = l
          · have e2 : ¬ cl cs k = i := fun z => e ⟨e1, z⟩
            simp (disch := omega) [lp_X_appendLayer_13, lt', bnd_some, ck_tt, inb_nI, tn_nI, fa_lit, nI_add, pk_mul, nI_ltI, nI_eq, a0, hk, a1, a2, a3, e1, e2]
          · simp (disch := omega) [lp_X_appendLayer_13, lt', bnd_some, ck_tt, inb_nI, tn_nI, fa_lit, nI_add, pk_mul, nI_ltI, nI_eq, a0, hk, a1, a2, a3, e1])
    (by
      intro n' ν ⟨i1, i2⟩
      have a0 : gI ν (2 + 3 * s) 1 = nI cs.length := by rw [i1.I (rgo (by omega))]; exact h.2.1
      simp (disch := omega) [lp_X_appendLayer_13, lt', bnd_some, ck_tt, inb_nI, tn_nI, fa_lit, nI_add, pk_mul, nI_ltI, nI_eq, a0])
    cs.length 0 N κ (by omega) (by omega) ⟨Fr.rf κ, by rw [bk, List.append_nil]; exact hb⟩
  exact ⟨κ', e, h1, h2⟩
theorem xAL2 (N : Nat) (hN : 10000 ≤ N) {s n : Nat} {cs : List (Nat × Nat)} {κ : Mem} (hs : s < 4) (h : NX κ (2 + 3 * s) n cs) (w : WN n cs) (hlay : ∀ k, k < cs.length → gI κ 24 k = nI (lay cs k)) (l : Nat) (hb : NX κ 18 n (bl cs n l)) (hl : l + 1 ≤ dep cs cs.length) : ∃ κ', f_X_appendLayer N (2 + 3 * s) (nI (l + 1)) κ = some ((), κ') ∧ Fr (rg 18 20) κ κ' ∧ NX κ' 18 n (bl cs n (l + 1)) := by
  have hll := w.2.2.1
  have h8 := w.2.1
  have hd := dep_le cs cs.length
  obtain ⟨κ', ⟨h1, h2⟩, e⟩ := for_up (fun n i' ν => lp_X_appendLayer_2 N (2 + 3 * s) (nI (l + 1)) (fun μ15 => some ((), μ15)) n i' ν) (fun ν => some ((), ν)) n (fun i ν => Fr (rg 18 20) κ ν ∧ NX ν 18 n (bl cs n l ++ bi cs (l + 1) i))
    (by
      intro n' i ν hi ⟨i1, i2⟩
      have a0 : gI ν (2 + 3 * s) 0 = nI n := by rw [i1.I (rgo (by omega))]; exact h.1
      have wl := way_le cs n w hl hi (Nat.le_refl _)
      obtain ⟨ν', e', f', n2⟩ := xAL1 N hN hs (h.frg i1 (by omega)) w (fun k hk => by rw [i1.I (rgo (by omega))]; exact hlay k hk) i2 (l + 1) i (by omega) hi (by rw [List.length_append]; omega) (fun μ13 => lt' (nI i + 1) fun v14 => lp_X_appendLayer_2 N (2 + 3 * s) (nI (l + 1)) (fun μ15 => some ((), μ15)) n' v14 μ13)
      refine ⟨ν', ⟨i1.tr f', ?_⟩, ?_⟩
      · rw [bi, ← List.append_assoc]; exact n2
      · rw [lp_X_appendLayer_2, a0, if_pos (nI_lt hi (by omega))]
        rw [nI_1] at e' ⊢
        exact e')
    (by
      intro n' ν ⟨i1, i2⟩
      have a0 : gI ν (2 + 3 * s) 0 = nI n := by rw [i1.I (rgo (by omega))]; exact h.1
      simp (disch := omega) [lp_X_appendLayer_2, lt', bnd_some, ck_tt, inb_nI, tn_nI, fa_lit, nI_add, pk_mul, nI_ltI, nI_eq, a0])
    n 0 N κ (by omega) (by omega) ⟨Fr.rf κ, by rw [bi, List.append_nil]; exact hb⟩
  exact ⟨κ', e, h1, h2⟩
def dif (cs ds : List (Nat × Nat)) : Nat → Nat := cn (fun k => decide (¬ (cl cs k = cl ds k ∧ ch cs k = ch ds k)))
theorem xDiff (N : Nat) (hN : 10000 ≤ N) {p n : Nat} {cs ds : List (Nat × Nat)} {κ : Mem} (h : NX κ p n cs) (h2 : NX κ 18 n ds) (w : WN n cs) (w2 : WN n ds) (hl : ds.length = cs.length) : f_Net_differences N p 18 κ = some (nI (dif cs ds cs.length), κ) := by
  have hll := w.2.2.1
  have h8 := w.2.1
  obtain ⟨⟨r, κ'⟩, ⟨h1, h2⟩, e⟩ := for_up (fun n i (q : Int32 × Mem) => lp_Net_differences_4 N p 18 (fun v14 μ15 => some (v14, μ15)) n q.1 i q.2) (fun q => some (q.1, q.2)) cs.length (fun i q => q.1 = nI (dif cs ds i) ∧ q.2 = κ)
    (by
      intro n' i ⟨r, κ'⟩ hi ⟨i1, i2⟩
      dsimp only at i1 i2
      subst i1; subst i2
      have a0 := h.2.1
      have b0 := h2.2.1
      have a := h.2.2 i hi
      have b := h2.2.2 i (by omega)
      have c := w.2.2.2 i hi
      have d := w2.2.2.2 i (by omega)
      rw [hl] at b0
      refine ⟨(nI (dif cs ds (i + 1)), κ'), ⟨rfl, rfl⟩, ?_⟩
      simp only [dif, cn]
      by_cases e1 : cl cs i = cl ds i
      · by_cases e2 : ch cs i = ch ds i
        · simp (disch := omega) [lp_Net_differences_4, lt', bnd_some, ck_tt, inb_nI, tn_nI, fa_lit, nI_add, pk_mul, nI_ltI, nI_eq, a0, b0, hi, a.1, a.2, b.1, b.2, e1, e2]
        · simp (disch := omega) [lp_Net_differences_4, lt', bnd_some, ck_tt, inb_nI, tn_nI, fa_lit, nI_add, pk_mul, nI_ltI, nI_eq, a0, b0, hi, a.1, a.2, b.1, b.2, e1, e2]
      · simp (disch := omega) [lp_Net_differences_4, lt', bnd_some, ck_tt, inb_nI, tn_nI, fa_lit, nI_add, pk_mul, nI_ltI, nI_eq, a0, b0, hi, a.1, a.2, b.1, b.2, e1])
    (by
      intro n' ⟨r, κ'⟩ ⟨i1, i2⟩
      dsimp only at i1 i2
      subst i2
      simp (disch := omega) [lp_Net_differences_4, lt', bnd_some, ck_tt, inb_nI, tn_nI, fa_lit, nI_add, pk_mul, nI_ltI, nI_eq, h.2.1])
    cs.length 0 N (nI 0, κ) (by omega) (by omega) ⟨rfl, rfl⟩
  dsimp only at h1 h2 e
  subst h1; subst h2
  exact e
theorem xLays (N : Nat) (hN : 10000 ≤ N) {s n : Nat} {cs : List (Nat × Nat)} {μ : Mem} (hs : s < 4) (h : NX μ (2 + 3 * s) n cs) (w : WN n cs) : ∃ μ', f_X_lays N (nI s) μ = some (nI (dif cs (bl cs n (dep cs cs.length)) cs.length), μ') ∧ NX μ' (2 + 3 * s) n (bl cs n (dep cs cs.length)) ∧ Fr (fun q _ => (2 + 3 * s ≤ q ∧ q ≤ 2 + 3 * s + 2) ∨ (18 ≤ q ∧ q ≤ 26)) μ μ' := by
  have hll := w.2.2.1
  have h8 := w.2.1
  have hd := dep_le cs cs.length
  obtain ⟨μ1, e1, f1, d1, d2, d3⟩ := sLay_read N hN h w (by omega)
  obtain ⟨μ2, e2, n2, f2⟩ := sNet_clear N (μ := μ1) (p := 18) (n := n)
  have h1 := h.frg f1 (by omega)
  have h2 := h1.frg f2 (by omega)
  have wd : WN n (bl cs n (dep cs cs.length)) := wn_of w.1 w.2.1 (by rw [bl_full cs n w]; exact hll) (bl_in cs n w _)
  obtain ⟨μ3, ⟨k1, k2, k3⟩, e3⟩ := for_up (fun n i ν => lp_X_lays_37 N (2 + 3 * s) (fun μ13 => bnd (f_Net_differences N (2 + 3 * s) 18 μ13) fun r14 μ15 => bnd (f_Net_take N (2 + 3 * s) 18 μ15) fun _ μ17 => some (r14, μ17)) n i ν) (fun μ13 => bnd (f_Net_differences N (2 + 3 * s) 18 μ13) fun r14 μ15 => bnd (f_Net_take N (2 + 3 * s) 18 μ15) fun _ μ17 => some (r14, μ17)) (dep cs cs.length + 1) (fun i κ => 1 ≤ i ∧ Fr (rg 18 20) μ1 κ ∧ NX κ 18 n (bl cs n (i - 1)))
    (by
      intro n' i κ hi ⟨i1, i2, i3⟩
      obtain ⟨i, rfl⟩ : ∃ t, i = t + 1 := ⟨i - 1, (by omega)⟩
      rw [Nat.add_sub_cancel] at i3
      have a1 : gI κ 23 1 = nI (dep cs cs.length) := by rw [i2.I (rgo (by omega))]; exact d1
      obtain ⟨κ', e', f', n'⟩ := xAL2 N hN hs (h1.frg i2 (by omega)) w (fun k hk => by rw [i2.I (rgo (by omega))]; exact d2 k hk) i i3 (by omega)
      have hc : ¬ dep cs cs.length < i + 1 := (by omega)
      exact ⟨κ', ⟨(by omega), i2.tr f', by rw [Nat.add_sub_cancel]; exact n'⟩, by simp (disch := omega) [lp_X_lays_37, lt', bnd_some, ck_tt, inb_nI, tn_nI, fa_lit, nI_add, pk_mul, nI_ltI, nI_eq, a1, hc, e']⟩)
    (by
      intro n' κ ⟨i1, i2, i3⟩
      have a1 : gI κ 23 1 = nI (dep cs cs.length) := by rw [i2.I (rgo (by omega))]; exact d1
      simp (disch := omega) [lp_X_lays_37, lt', bnd_some, ck_tt, inb_nI, tn_nI, fa_lit, nI_add, pk_mul, nI_ltI, nI_eq, a1])
    (dep cs cs.length) 1 N μ2 (by omega) (by omega) ⟨(by omega), f2.wide (by omega) (by omega), n2⟩
  rw [Nat.add_sub_cancel] at k3
  have h3 := h1.frg k2 (by omega)
  obtain ⟨μ4, e4, n4, f4⟩ := sNet_take N hN (p := 2 + 3 * s) k3 (by rw [bl_full cs n w]; exact hll) (by omega)
  have q := xDiff N hN h3 k3 w wd (bl_full cs n w)
  rw [q, bnd_some, e4, bnd_some] at e3
  refine ⟨μ4, ?_, n4, ?_⟩
  · simp (disch := omega) only [f_X_lays, isNet_in N hs, i10, i00, reduceIte, lt', bnd_some, ck_tt, inb_nI, tn_nI, nI_add, pk_mul, nI_ltI, nI_eq, e1, h1.1, e2]
    exact e3
  · exact (((f1.mono (fun q k z => by unfold rg at z; omega)).tr (k2.mono (fun q k z => by unfold rg at z; omega))).tr (f4.mono (fun q k z => by unfold rg at z; omega)))
theorem mL1 (N : Nat) (hN : 10000 ≤ N) {s n : Nat} {cs base : List (Nat × Nat)} {κ : Mem} (hs : s < 4) (h : NM κ s n cs) (w : WN n cs) (hlay : ∀ k, k < cs.length → gI κ 54 k = nI (lay cs k)) (hb : ∀ j, j < base.length → gI κ 51 j = nI (cl base j) ∧ gI κ 52 j = nI (ch base j)) (D l i : Nat) (hl : l < 100) (hi : i < n) (hlen : base.length + (bk cs l i cs.length).length ≤ 60) (K : Int32 → Mem → Option (Int32 × Mem)) : ∃ κ', lp_M_lays_48 N (nI s) (nI D) (nI l) (nI i) K N (nI base.length) (nI 0) κ = K (nI (base ++ bk cs l i cs.length).length) κ' ∧ Fr (rg 51 52) κ κ' ∧ ∀ j, j < (base ++ bk cs l i cs.length).length → gI κ' 51 j = nI (cl (base ++ bk cs l i cs.length) j) ∧ gI κ' 52 j = nI (ch (base ++ bk cs l i cs.length) j) := by
  have hll := w.2.2.1
  have h8 := w.2.1
  have mono : ∀ k, k ≤ cs.length → (bk cs l i k).length ≤ (bk cs l i cs.length).length := by
    intro k hk
    rw [bk_len, bk_len]
    have : ∀ d, cn (fun k => decide (lay cs k = l ∧ cl cs k = i)) k ≤ cn (fun k => decide (lay cs k = l ∧ cl cs k = i)) (k + d) := by
      intro d
      induction d with
      | zero => exact Nat.le_refl _
      | succ d ih => rw [← Nat.add_assoc, cn]; omega
    have := this (cs.length - k)
    rwa [show k + (cs.length - k) = cs.length by omega] at this
  obtain ⟨⟨r, κ'⟩, ⟨h1, h2, h3⟩, e⟩ := for_up (fun n i' (q : Int32 × Mem) => lp_M_lays_48 N (nI s) (nI D) (nI l) (nI i) K n q.1 i' q.2) (fun q => K q.1 q.2) cs.length (fun k q => Fr (rg 51 52) κ q.2 ∧ q.1 = nI (base ++ bk cs l i k).length ∧ ∀ j, j < (base ++ bk cs l i k).length → gI q.2 51 j = nI (cl (base ++ bk cs l i k) j) ∧ gI q.2 52 j = nI (ch (base ++ bk cs l i k) j))
    (by
      intro n' k ⟨r, ν⟩ hk ⟨i1, i2, i3⟩
      dsimp only at i1 i2 i3
      subst i2
      have a0 : gI ν 47 s = nI cs.length := by rw [i1.I (rgo (by omega))]; exact h.2.1
      have a1 : gI ν 48 (60 * s + k) = nI (cl cs k) := by rw [i1.I (rgo (by omega))]; exact (h.2.2 k hk).1
      have a2 : gI ν 49 (60 * s + k) = nI (ch cs k) := by rw [i1.I (rgo (by omega))]; exact (h.2.2 k hk).2
      have a3 : gI ν 54 k = nI (lay cs k) := by rw [i1.I (rgo (by omega))]; exact hlay k hk
      have b := w.2.2.2 k hk
      have c3 := lay_le cs k
      by_cases e : lay cs k = l ∧ cl cs k = i
      · have m := mono (k + 1) (by omega)
        rw [bk, List.length_append, if_pos e, List.length_singleton] at m
        have eb : base ++ bk cs l i (k + 1) = (base ++ bk cs l i k) ++ [(i, ch cs k)] := by rw [bk, if_pos e, ← List.append_assoc]
        have hlt : (base ++ bk cs l i k).length < 60 := by rw [List.length_append]; omega
        rw [eb]
        generalize base ++ bk cs l i k = B at i3 hlt ⊢
        refine ⟨(nI (B ++ [(i, ch cs k)]).length, sI (sI ν 51 B.length (nI i)) 52 B.length (nI (ch cs k))), ⟨(i1.sI (rgi (by omega) (by omega))).sI (rgi (by omega) (by omega)), rfl, fun j hj => ?_⟩, ?_⟩
        · rw [List.length_append, List.length_singleton] at hj
          rw [cl_app, ch_app]
          by_cases hj2 : j < B.length
          · have hne : j ≠ B.length := (by omega)
            simp [gI_sI, gL_sL, gR_sR, gI_sL, gI_sR, gL_sI, gL_sR, gR_sI, gR_sL, hj2, hne, i3 j hj2]
          · have he : j = B.length := (by omega)
            subst he
            simp [gI_sI, gL_sL, gR_sR, gI_sL, gI_sR, gL_sI, gL_sR, gR_sI, gR_sL]
        · have z : (49 : Nat) ≠ 51 := by decide
          simp (disch := omega) [lp_M_lays_48, lt', bnd_some, ck_tt, inb_nI, tn_nI, fa_lit, nI_add, pk_mul, nI_ltI, nI_eq, a0, hk, sM_lowR, sM_highR, a1, a2, a3, e, gI_sI, gL_sL, gR_sR, gI_sL, gI_sR, gL_sI, gL_sR, gR_sI, gR_sL]
      · have eb : base ++ bk cs l i (k + 1) = base ++ bk cs l i k := by rw [bk, if_neg e, List.append_nil]
        rw [eb]
        refine ⟨(nI (base ++ bk cs l i k).length, ν), ⟨i1, rfl, i3⟩, ?_⟩
        by_cases e1 : lay cs k = l
        · have e2 : ¬ cl cs k = i := fun z => e ⟨e1, z⟩
          simp (disch := omega) [lp_M_lays_48, lt', bnd_some, ck_tt, inb_nI, tn_nI, fa_lit, nI_add, pk_mul, nI_ltI, nI_eq, a0, hk, sM_lowR, a1, a2, a3, e1, e2]
        · simp (disch := omega) [lp_M_lays_48, lt', bnd_some, ck_tt, inb_nI, tn_nI, fa_lit, nI_add, pk_mul, nI_ltI, nI_eq, a0, hk, sM_lowR, a1, a2, a3, e1])
    (by
      intro n' ⟨r, ν⟩ ⟨i1, i2, i3⟩
      have a0 : gI ν 47 s = nI cs.length := by rw [i1.I (rgo (by omega))]; exact h.2.1
      simp (disch := omega) [lp_M_lays_48, lt', bnd_some, ck_tt, inb_nI, tn_nI, fa_lit, nI_add, pk_mul, nI_ltI, nI_eq, a0])
    cs.length 0 N (nI base.length, κ) (by omega) (by omega) ⟨Fr.rf κ, by rw [bk, List.append_nil], by rw [bk, List.append_nil]; exact hb⟩
  dsimp only at h1 h2 h3 e
  subst h2
  exact ⟨κ', e, h1, h3⟩
theorem mL2 (N : Nat) (hN : 10000 ≤ N) {s n : Nat} {cs : List (Nat × Nat)} {κ : Mem} (hs : s < 4) (h : NM κ s n cs) (w : WN n cs) (hlay : ∀ k, k < cs.length → gI κ 54 k = nI (lay cs k)) (D l : Nat) (hb : ∀ j, j < (bl cs n l).length → gI κ 51 j = nI (cl (bl cs n l) j) ∧ gI κ 52 j = nI (ch (bl cs n l) j)) (hl : l + 1 ≤ dep cs cs.length) (K : Int32 → Mem → Option (Int32 × Mem)) : ∃ κ', lp_M_lays_34 N (nI s) (nI D) (nI (l + 1)) K N (nI (bl cs n l).length) (nI 0) κ = K (nI (bl cs n (l + 1)).length) κ' ∧ Fr (rg 51 52) κ κ' ∧ ∀ j, j < (bl cs n (l + 1)).length → gI κ' 51 j = nI (cl (bl cs n (l + 1)) j) ∧ gI κ' 52 j = nI (ch (bl cs n (l + 1)) j) := by
  have hll := w.2.2.1
  have h8 := w.2.1
  have hd := dep_le cs cs.length
  obtain ⟨⟨r, κ'⟩, ⟨h1, h2, h3⟩, e⟩ := for_up (fun n i' (q : Int32 × Mem) => lp_M_lays_34 N (nI s) (nI D) (nI (l + 1)) K n q.1 i' q.2) (fun q => K q.1 q.2) n (fun i q => Fr (rg 51 52) κ q.2 ∧ q.1 = nI (bl cs n l ++ bi cs (l + 1) i).length ∧ ∀ j, j < (bl cs n l ++ bi cs (l + 1) i).length → gI q.2 51 j = nI (cl (bl cs n l ++ bi cs (l + 1) i) j) ∧ gI q.2 52 j = nI (ch (bl cs n l ++ bi cs (l + 1) i) j))
    (by
      intro n' i ⟨r, ν⟩ hi ⟨i1, i2, i3⟩
      dsimp only at i1 i2 i3
      subst i2
      have a0 : gI ν 46 s = nI n := by rw [i1.I (rgo (by omega))]; exact h.1
      have wl := way_le cs n w hl hi (Nat.le_refl _)
      obtain ⟨ν', e', f', n2⟩ := mL1 N hN hs (h.fr i1 (fun q k _ _ => rgo (by omega))) w (fun k hk => by rw [i1.I (rgo (by omega))]; exact hlay k hk) i3 D (l + 1) i (by omega) hi (by rw [List.length_append]; omega) (fun v28 μ29 => lt' (nI i + 1) fun v30 => lp_M_lays_34 N (nI s) (nI D) (nI (l + 1)) K n' v28 v30 μ29)
      have eb : bl cs n l ++ bi cs (l + 1) (i + 1) = bl cs n l ++ bi cs (l + 1) i ++ bk cs (l + 1) i cs.length := by rw [bi, ← List.append_assoc]
      rw [eb]
      refine ⟨(nI (bl cs n l ++ bi cs (l + 1) i ++ bk cs (l + 1) i cs.length).length, ν'), ⟨i1.tr f', rfl, n2⟩, ?_⟩
      dsimp only
      rw [lp_M_lays_34, inb_nI hs (by omega), ck_tt, tn_nI (by omega), a0, if_pos (nI_lt hi (by omega))]
      rw [nI_1] at e' ⊢
      exact e')
    (by
      intro n' ⟨r, ν⟩ ⟨i1, i2, i3⟩
      have a0 : gI ν 46 s = nI n := by rw [i1.I (rgo (by omega))]; exact h.1
      simp (disch := omega) [lp_M_lays_34, lt', bnd_some, ck_tt, inb_nI, tn_nI, fa_lit, nI_add, pk_mul, nI_ltI, nI_eq, a0])
    n 0 N (nI (bl cs n l).length, κ) (by omega) (by omega) ⟨Fr.rf κ, by rw [bi, List.append_nil], by rw [bi, List.append_nil]; exact hb⟩
  dsimp only at h1 h2 h3 e
  subst h2
  exact ⟨κ', e, h1, h3⟩
theorem mL3 (N : Nat) (hN : 10000 ≤ N) {s n : Nat} {cs ds : List (Nat × Nat)} {κ : Mem} (hs : s < 4) (h : NM κ s n cs) (w : WN n cs) (w2 : WN n ds) (hl : ds.length = cs.length) (hb : ∀ j, j < ds.length → gI κ 51 j = nI (cl ds j) ∧ gI κ 52 j = nI (ch ds j)) : ∃ κ', lp_M_lays_134 N (nI s) (nI cs.length) (fun v58 μ59 => some (v58, μ59)) N (nI 0) (nI 0) κ = some (nI (dif cs ds cs.length), κ') ∧ NM κ' s n ds ∧ Fr (mN s) κ κ' := by
  have hll := w.2.2.1
  have h8 := w.2.1
  obtain ⟨⟨r, κ'⟩, ⟨h1, h2, h3, h4⟩, e⟩ := for_up (fun n i' (q : Int32 × Mem) => lp_M_lays_134 N (nI s) (nI cs.length) (fun v58 μ59 => some (v58, μ59)) n q.1 i' q.2) (fun q => some (q.1, q.2)) cs.length (fun i q => Fr (fun q k => (q = 48 ∨ q = 49) ∧ 60 * s ≤ k ∧ k < 60 * s + 60) κ q.2 ∧ q.1 = nI (dif cs ds i) ∧ (∀ j, i ≤ j → j < cs.length → gI q.2 48 (60 * s + j) = nI (cl cs j) ∧ gI q.2 49 (60 * s + j) = nI (ch cs j)) ∧ ∀ j, j < i → gI q.2 48 (60 * s + j) = nI (cl ds j) ∧ gI q.2 49 (60 * s + j) = nI (ch ds j))
    (by
      intro n' i ⟨r, ν⟩ hi ⟨i1, i2, i3, i4⟩
      dsimp only at i1 i2 i3 i4
      subst i2
      have a := i3 i (Nat.le_refl _) hi
      have b1 : gI ν 51 i = nI (cl ds i) := by rw [i1.I (by omega)]; exact (hb i (by omega)).1
      have b2 : gI ν 52 i = nI (ch ds i) := by rw [i1.I (by omega)]; exact (hb i (by omega)).2
      have c := w.2.2.2 i hi
      have d := w2.2.2.2 i (by omega)
      refine ⟨(nI (dif cs ds (i + 1)), sI (sI ν 48 (60 * s + i) (nI (cl ds i))) 49 (60 * s + i) (nI (ch ds i))), ⟨(i1.sI (by omega)).sI (by omega), rfl, fun j hj hj2 => ?_, fun j hj => ?_⟩, ?_⟩
      · have hne : j ≠ i := (by omega)
        have := i3 j (by omega) hj2
        simp [gI_sI, gL_sL, gR_sR, gI_sL, gI_sR, gL_sI, gL_sR, gR_sI, gR_sL, hne, this.1, this.2]
      · by_cases hji : j = i
        · subst hji; simp [gI_sI, gL_sL, gR_sR, gI_sL, gI_sR, gL_sI, gL_sR, gR_sI, gR_sL]
        · have b := i4 j (by omega)
          simp [gI_sI, gL_sL, gR_sR, gI_sL, gI_sR, gL_sI, gL_sR, gR_sI, gR_sL, hji, b.1, b.2]
      · simp only [dif, cn]
        by_cases e1 : cl cs i = cl ds i
        · by_cases e2 : ch cs i = ch ds i
          · simp (disch := omega) [lp_M_lays_134, lt', bnd_some, ck_tt, inb_nI, tn_nI, fa_lit, nI_add, pk_mul, nI_ltI, nI_eq, hi, sM_lowR, sM_highR, sM_sets, a.1, a.2, b1, b2, e1, e2, f_M_flag]
          · simp (disch := omega) [lp_M_lays_134, lt', bnd_some, ck_tt, inb_nI, tn_nI, fa_lit, nI_add, pk_mul, nI_ltI, nI_eq, hi, sM_lowR, sM_highR, sM_sets, a.1, a.2, b1, b2, e1, e2, f_M_flag]
        · simp (disch := omega) [lp_M_lays_134, lt', bnd_some, ck_tt, inb_nI, tn_nI, fa_lit, nI_add, pk_mul, nI_ltI, nI_eq, hi, sM_lowR, sM_highR, sM_sets, a.1, a.2, b1, b2, e1, f_M_flag])
    (by
      intro n' ⟨r, ν⟩ _
      simp (disch := omega) [lp_M_lays_134, lt', bnd_some, ck_tt, inb_nI, tn_nI, fa_lit, nI_add, pk_mul, nI_ltI, nI_eq])
    cs.length 0 N (nI 0, κ) (by omega) (by omega) ⟨Fr.rf κ, rfl, fun j _ hj => h.2.2 j hj, fun j hj => by omega⟩
  dsimp only at h1 h2 h3 h4 e
  subst h2
  refine ⟨κ', e, ⟨by rw [h1.I (by omega)]; exact h.1, by rw [h1.I (by omega), hl]; exact h.2.1, fun k hk => h4 k (by omega)⟩, NM.sub (n := n) h1⟩
theorem op_lays (N : Nat) (hN : 10000 ≤ N) (x : Int32) : OpEq (f_X_lays N x) (f_M_lays N x) := by
  refine op_mk (fun μ σ hw hx => ?_)
  rcases ix4 x 4 (by omega) with hs | ⟨s, hs, rfl⟩
  · exact ⟨-1, σ, μ, by simp [f_X_lays, isNet_out N hs, bnd_some], hx, Fr.rf μ, hw, op_no (fun μ _ => by simp [f_M_lays, mNet_out N hs, bnd_some, lt'])⟩
  have w := hw.1 s hs
  have nx := hx.1 s hs
  obtain ⟨μ', e, n', f⟩ := xLays N hN hs nx w
  generalize hcs : (σ.1 s).2 = cs at *
  generalize hnn : (σ.1 s).1 = n at *
  have hll := w.2.2.1
  have hd := dep_le cs cs.length
  have wd : WN n (bl cs n (dep cs cs.length)) := wn_of w.1 w.2.1 (by rw [bl_full cs n w]; exact hll) (bl_in cs n w _)
  refine ⟨nI (dif cs (bl cs n (dep cs cs.length)) cs.length), (upN σ.1 s (n, bl cs n (dep cs cs.length)), σ.2), μ', e, ⟨fun t ht => ?_, hx.2.1.fr f (by omega) (fun k => by omega), hx.2.2.fr f (by omega) (fun k => by omega)⟩, f.mono (fun q k z => ⟨by omega, by omega⟩), hw.net wd, fun μ hm => ?_⟩
  · by_cases e : t = s
    · subst e
      simpa [upN] using n'
    · simpa [upN, e] using (hx.1 t ht).fr f (fun q k h1 h2 z => by omega)
  · have hm' : SM (sI μ 44 0 0) σ := hm.thr
    unfold f_M_lays
    simp only [lt']
    generalize hν : sI μ 44 0 0 = ν at hm' ⊢
    have m := hm'.1 s hs
    rw [hcs, hnn] at m
    obtain ⟨ν1, e1, f1, d1⟩ := sM_lays N hN m w hs
    obtain ⟨⟨r, ν2⟩, ⟨k1, k2, k3, k4⟩, e3⟩ := for_up (fun n i (q : Int32 × Mem) => lp_M_lays_25 N (nI s) (nI (dep cs cs.length)) (fun v34 μ35 => lp_M_lays_134 N (nI s) v34 (fun v58 μ59 => some (v58, μ59)) N 0 0 μ35) n q.1 i q.2) (fun q => lp_M_lays_134 N (nI s) q.1 (fun v58 μ59 => some (v58, μ59)) N 0 0 q.2) (dep cs cs.length + 1) (fun i q => 1 ≤ i ∧ Fr (rg 51 52) ν1 q.2 ∧ q.1 = nI (bl cs n (i - 1)).length ∧ ∀ j, j < (bl cs n (i - 1)).length → gI q.2 51 j = nI (cl (bl cs n (i - 1)) j) ∧ gI q.2 52 j = nI (ch (bl cs n (i - 1)) j))
      (by
        intro n' i ⟨r, κ⟩ hi ⟨i1, i2, i3, i4⟩
        dsimp only at i1 i2 i3 i4
        subst i3
        obtain ⟨i, rfl⟩ : ∃ t, i = t + 1 := ⟨i - 1, (by omega)⟩
        rw [Nat.add_sub_cancel] at i4 ⊢
        have m1 : NM κ s n cs := (m.fr f1 (fun q k _ _ => rgo (by omega))).fr i2 (fun q k _ _ => rgo (by omega))
        obtain ⟨κ', e', f', n2⟩ := mL2 N hN hs m1 w (fun k hk => by rw [i2.I (rgo (by omega))]; exact d1 k hk) (dep cs cs.length) i i4 (by omega) (fun v31 μ32 => lt' (nI (i + 1) + 1) fun v33 => lp_M_lays_25 N (nI s) (nI (dep cs cs.length)) (fun v34 μ35 => lp_M_lays_134 N (nI s) v34 (fun v58 μ59 => some (v58, μ59)) N 0 0 μ35) n' v31 v33 μ32)
        refine ⟨(nI (bl cs n (i + 1)).length, κ'), ⟨(by omega), i2.tr f', rfl, n2⟩, ?_⟩
        dsimp only
        rw [lp_M_lays_25, if_neg (nI_nlt (by omega) (by omega))]
        rw [nI_1] at e' ⊢
        exact e')
      (by
        intro n' ⟨r, κ⟩ ⟨i1, i2, i3, i4⟩
        dsimp only
        rw [lp_M_lays_25, if_pos (nI_lt (by omega) (by omega))])
      (dep cs cs.length) 1 N (nI 0, ν1) (by omega) (by omega) ⟨(by omega), Fr.rf ν1, rfl, fun j hj => by simp [bl] at hj⟩
    dsimp only at k1 k2 k3 k4 e3
    rw [Nat.add_sub_cancel] at k3 k4
    rw [bl_full cs n w] at k3
    subst k3
    have m2 : NM ν2 s n cs := (m.fr f1 (fun q k _ _ => rgo (by omega))).fr k2 (fun q k _ _ => rgo (by omega))
    obtain ⟨ν3, e4, n4, f4⟩ := mL3 N hN hs m2 w wd (bl_full cs n w) k4
    have q2 : Fr mQ ν ν2 := (rgQ f1 (by omega) (by omega)).tr (rgQ k2 (by omega) (by omega))
    have hm2 : SM ν2 σ := hm'.q q2 ((hm'.2.2.1.fr f1 (rgo (by omega)) (fun _ => rgo (by omega))).fr k2 (rgo (by omega)) (fun _ => rgo (by omega)))
    refine ⟨ν3, ?_, hm2.net hw f4 hs n4, ((hν ▸ frT).tr (frQ q2)).tr (frN f4)⟩
    simp (disch := omega) only [mNet_in N hs, i10, i00, reduceIte, lt', bnd_some, ck_tt, inb_nI, tn_nI, nI_add, pk_mul, nI_ltI, nI_eq, e1]
    exact e3.trans e4

/-! comparer, depth -/

theorem sM_lays (N : Nat) (hN : 10000 ≤ N) {μ : Mem} {s n : Nat} {cs : List (Nat × Nat)} (h : NM μ s n cs) (w : WN n cs) (hs : s < 4) : ∃ μ', f_M_laysLayers N (nI s) μ = some (nI (dep cs cs.length), μ') ∧ Fr (rg 54 55) μ μ' ∧ ∀ k, k < cs.length → gI μ' 54 k = nI (lay cs k) := by
  have hl := w.2.2.1
  have h8 := w.2.1
  have L1 : ∀ (K : Mem → Option (Int32 × Mem)), ∃ ν', (Fr (rg 54 55) μ ν' ∧ ∀ w, w < 8 → gI ν' 55 w = nI 0) ∧ lp_M_laysLayers_2 N (nI s) K N (nI 0) μ = K ν' := by
    intro K
    exact for_up (fun n i ν => lp_M_laysLayers_2 N (nI s) K n i ν) K 8 (fun i κ => Fr (rg 54 55) μ κ ∧ ∀ w, w < i → gI κ 55 w = nI 0)
      (by
        intro n' i κ hi ⟨i1, i3⟩
        refine ⟨_, ?_, by simp (disch := omega) [lp_M_laysLayers_2, lt', bnd_some, ck_tt, inb_nI, tn_nI, fa_lit, nI_add, pk_mul, nI_ltI, nI_eq, hi]; rfl⟩
        refine ⟨i1.sI (rgi (by omega) (by omega)), fun w hw => ?_⟩
        by_cases e : w = i
        · subst e; simp [gI_sI, gL_sL, gR_sR, gI_sL, gI_sR, gL_sI, gL_sR, gR_sI, gR_sL]
        · simp [gI_sI, gL_sL, gR_sR, gI_sL, gI_sR, gL_sI, gL_sR, gR_sI, gR_sL, e, i3 w (by omega)])
      (by
        intro n' κ _
        simp (disch := omega) [lp_M_laysLayers_2, lt', bnd_some, ck_tt, inb_nI, tn_nI, fa_lit, nI_add, pk_mul, nI_ltI, nI_eq])
      8 0 N μ (by omega) (by omega) ⟨Fr.rf μ, fun w hw => by omega⟩
  obtain ⟨ν1, ⟨f1, g1⟩, e1⟩ := L1 (fun μ5 => lp_M_laysLayers_25 N (nI s) (fun v25 μ26 => some (v25, μ26)) N 0 0 μ5)
  obtain ⟨⟨r, ν2⟩, ⟨k1, k2, k3, k4⟩, e2⟩ := for_up (fun n i (q : Int32 × Mem) => lp_M_laysLayers_25 N (nI s) (fun v25 μ26 => some (v25, μ26)) n q.1 i q.2) (fun q => some (q.1, q.2)) cs.length (fun i q => Fr (rg 54 55) μ q.2 ∧ q.1 = nI (dep cs i) ∧ (∀ w, w < 8 → gI q.2 55 w = nI (lst cs i w)) ∧ ∀ k, k < i → gI q.2 54 k = nI (lay cs k))
      (by
        intro n' i ⟨r, κ⟩ hi ⟨i1, i2, i3, i5⟩
        dsimp only at i1 i2 i3 i5
        subst i2
        have a0 : gI κ 47 s = nI cs.length := by rw [i1.I (rgo (by omega))]; exact h.2.1
        have a1 : gI κ 48 (60 * s + i) = nI (cl cs i) := by rw [i1.I (rgo (by omega))]; exact (h.2.2 i hi).1
        have a2 : gI κ 49 (60 * s + i) = nI (ch cs i) := by rw [i1.I (rgo (by omega))]; exact (h.2.2 i hi).2
        have b := w.2.2.2 i hi
        have c1 := lst_le cs i (cl cs i)
        have c2 := lst_le cs i (ch cs i)
        have c3 := lay_le cs i
        have c4 := dep_le cs i
        have c5 := i3 (cl cs i) (by omega)
        have c6 := i3 (ch cs i) (by omega)
        have e1 : (1 : Int32) + nI (max (lst cs i (cl cs i)) (lst cs i (ch cs i))) = nI (lay cs i) := by
          show nI 1 + nI (max (lst cs i (cl cs i)) (lst cs i (ch cs i))) = nI (max (lst cs i (cl cs i)) (lst cs i (ch cs i)) + 1)
          rw [nI_add, Nat.add_comm]
        have step : ∀ (n' : Nat), lp_M_laysLayers_25 N (nI s) (fun v25 μ26 => some (v25, μ26)) (n' + 1) (nI (dep cs i)) (nI i) κ = lp_M_laysLayers_25 N (nI s) (fun v25 μ26 => some (v25, μ26)) n' (nI (max (dep cs i) (lay cs i))) (nI (i + 1)) (sI (sI (sI κ 54 i (nI (lay cs i))) 55 (cl cs i) (nI (lay cs i))) 55 (ch cs i) (nI (lay cs i))) := by
          intro n'
          rw [lp_M_laysLayers_25]
          simp (disch := omega) only [i10, i00, reduceIte, lt', bnd_some, ck_tt, inb_nI, tn_nI, nI_add, pk_mul, nI_ltI, nI_eq, a0, hi, sM_lowR, sM_highR, a1, a2, c5, c6, mxI_nI, e1, gI_sI, nI_1]
          simp (disch := omega) only [i10, i00, reduceIte, lt', bnd_some, ck_tt, inb_nI, tn_nI, nI_add, pk_mul, nI_ltI, nI_eq, mxI_nI, Nat.reduceEqDiff, false_and, if_false, and_self, if_true]
        refine ⟨(nI (max (dep cs i) (lay cs i)), (sI (sI (sI κ 54 i (nI (lay cs i))) 55 (cl cs i) (nI (lay cs i))) 55 (ch cs i) (nI (lay cs i)))), ?_, step n'⟩
        refine ⟨((i1.sI (rgi (by omega) (by omega))).sI (rgi (by omega) (by omega))).sI (rgi (by omega) (by omega)), rfl, fun w hw => ?_, fun k hk => ?_⟩
        · have := i3 w hw
          simp [gI_sI, gL_sL, gR_sR, gI_sL, gI_sR, gL_sI, gL_sR, gR_sI, gR_sL]
          rw [lst, this]
          ((repeat' split) <;> first | rfl | omega | (exfalso; omega) | (congr 1; omega))
        · by_cases e : k = i
          · subst e; simp [gI_sI, gL_sL, gR_sR, gI_sL, gI_sR, gL_sI, gL_sR, gR_sI, gR_sL]
          · simp [gI_sI, gL_sL, gR_sR, gI_sL, gI_sR, gL_sI, gL_sR, gR_sI, gR_sL, e, i5 k (by omega)])
      (by
        intro n' ⟨r, κ⟩ ⟨i1, i2, i3, i5⟩
        have a0 : gI κ 47 s = nI cs.length := by rw [i1.I (rgo (by omega))]; exact h.2.1
        simp (disch := omega) [lp_M_laysLayers_25, lt', bnd_some, ck_tt, inb_nI, tn_nI, fa_lit, nI_add, pk_mul, nI_ltI, nI_eq, a0])
      cs.length 0 N (nI 0, ν1) (by omega) (by omega) ⟨f1, rfl, g1, fun w hw => by omega⟩
  dsimp only at k1 k2 k3 k4 e2
  subst k2
  exact ⟨ν2, e1.trans e2, k1, k4⟩
theorem mCompQ (N : Nat) {σ : Ab} {s k : Nat} (hs : s < 4) {ν : Mem} (hm : SM ν σ) (hk : k < (σ.1 s).2.length) (hl : (σ.1 s).2.length ≤ 60) : f_M_lowOf N (nI s) (nI k) ν = some (nI (cl (σ.1 s).2 k), ν) ∧ f_M_highOf N (nI s) (nI k) ν = some (nI (ch (σ.1 s).2 k), ν) := ⟨sM_lowOf N (hm.1 s hs) hs hk hl, sM_highOf N (hm.1 s hs) hs hk hl⟩
theorem op_comparer (N : Nat) (hN : 10000 ≤ N) (x y : Int32) : OpEq (f_X_comparer N x y) (f_M_comparer N x y) := by
  refine op_mk (fun μ σ hw hx => ?_)
  rcases ix4 x 4 (by omega) with hs | ⟨s, hs, rfl⟩
  · exact ⟨-1, σ, μ, by simp [f_X_comparer, f_X_isComparer, isNet_out N hs, bnd_some], hx, Fr.rf μ, hw, op_no (fun μ _ => by simp [f_M_comparer, mNet_out N hs, bnd_some, lt'])⟩
  have w := hw.1 s hs
  have nx := hx.1 s hs
  have hl := w.2.2.1
  rcases ix4 y (σ.1 s).2.length (by omega) with hk | ⟨k, hk, rfl⟩
  · exact ⟨-1, σ, μ, by simp [f_X_comparer, xComp_out N nx hs hl hk, bnd_some], hx, Fr.rf μ, hw, op_no (fun μ hm => by simp [f_M_comparer, mNet_in N hs, mComp_out N ((hm.thr (v := 0)).1 s hs) hs hl hk, bnd_some, lt'])⟩
  refine op_q hw hx (nI (10 * cl (σ.1 s).2 k + ch (σ.1 s).2 k)) [(nI (lay (σ.1 s).2 k)).toInt64] (by simp) ?_ (fun μ hm => ?_)
  · obtain ⟨μ1, e1, f1, d1, d2, d3⟩ := sLay_read N hN nx w (by omega)
    obtain ⟨μ2, e2, r2, f2⟩ := sNum_clear N μ1
    obtain ⟨μ3, e3, r3, f3⟩ := sNum_append N (nI (lay (σ.1 s).2 k)).toInt64 r2 (by decide)
    have n3 : NX μ3 (2 + 3 * s) (σ.1 s).1 (σ.1 s).2 := ((nx.frg f1 (by omega)).frg f2 (by omega)).frg f3 (by omega)
    have a1 := n3.2.2 k hk
    have a2 : gI μ2 24 k = nI (lay (σ.1 s).2 k) := by rw [f2.I (rgo (by omega))]; exact d2 k hk
    refine ⟨μ3, ?_, r3, ((f1.wide (by omega) (by omega)).tr (f2.wide (by omega) (by omega))).tr (f3.wide (by omega) (by omega))⟩
    simp (disch := omega) [f_X_comparer, xComp_in N nx hs hk hl, lt', bnd_some, ck_tt, inb_nI, tn_nI, fa_lit, nI_add, pk_mul, nI_ltI, nI_eq, e1, e2, a2, e3, a1.1, a1.2, f_X_code]
  · have hm' : SM (sI μ 44 0 0) σ := hm.thr
    unfold f_M_comparer
    simp only [lt']
    generalize hν : sI μ 44 0 0 = ν at hm' ⊢
    have m := hm'.1 s hs
    obtain ⟨ν1, e1, f1, d1⟩ := sM_lays N hN m w hs
    obtain ⟨ν2, e2, r2, f2⟩ := sM_tellsOne N ν1 (nI (lay (σ.1 s).2 k)).toInt64
    have n3 : NM ν2 s (σ.1 s).1 (σ.1 s).2 := (m.fr f1 (fun q k h1 h2 => rgo (by omega))).fr f2 (fun q k h1 h2 z => by unfold mR at z; omega)
    refine ⟨ν2, ?_, r2, ((hν ▸ thrQ).tr (rgQ f1 (by omega) (by omega))).tr (mR_mQ f2)⟩
    simp (disch := omega) [mNet_in N hs, mComp_in N m hs hk hl, lt', bnd_some, ck_tt, inb_nI, tn_nI, fa_lit, nI_add, pk_mul, nI_ltI, nI_eq, e1, d1 k hk, e2, sM_lowOf N n3 hs hk hl, sM_highOf N n3 hs hk hl]
/-- a loop from 1 on -/
theorem op_depth (N : Nat) (hN : 10000 ≤ N) (x : Int32) : OpEq (f_X_depth N x) (f_M_depth N x) := by
  refine op_mk (fun μ σ hw hx => ?_)
  rcases ix4 x 4 (by omega) with hs | ⟨s, hs, rfl⟩
  · exact ⟨-1, σ, μ, by simp [f_X_depth, isNet_out N hs, bnd_some], hx, Fr.rf μ, hw, op_no (fun μ _ => by simp [f_M_depth, mNet_out N hs, bnd_some, lt'])⟩
  have w := hw.1 s hs
  have nx := hx.1 s hs
  have hl := w.2.2.1
  generalize hcs : (σ.1 s).2 = cs at *
  generalize hnn : (σ.1 s).1 = n at *
  have hd := dep_le cs cs.length
  have rl : ∀ m, ((List.range m).map (fun l => (nI (cn (fun k => lay cs k == l + 1) cs.length)).toInt64)).length = m := fun m => by simp
  have rs : ∀ m, (List.range (m + 1)).map (fun l => (nI (cn (fun k => lay cs k == l + 1) cs.length)).toInt64) = (List.range m).map (fun l => (nI (cn (fun k => lay cs k == l + 1) cs.length)).toInt64) ++ [(nI (cn (fun k => lay cs k == m + 1) cs.length)).toInt64] := fun m => by rw [List.range_succ, List.map_append]; rfl
  refine op_q hw hx (nI (dep cs cs.length)) ((List.range (dep cs cs.length)).map (fun l => (nI (cn (fun k => lay cs k == l + 1) cs.length)).toInt64)) (by rw [rl]; omega) ?_ (fun μ hm => ?_)
  · obtain ⟨μ1, e1, f1, d1, d2, d3⟩ := sLay_read N hN nx w (by omega)
    obtain ⟨μ2, e2, r2, f2⟩ := sNum_clear N μ1
    obtain ⟨μ3, ⟨k1, k2, k3⟩, e3⟩ := for_up (fun n i ν => lp_X_depth_31 N (fun μ15 => some (gI μ15 23 1, μ15)) n i ν) (fun ν => some (gI ν 23 1, ν)) (dep cs cs.length + 1) (fun i κ => 1 ≤ i ∧ Fr (rg 16 17) μ1 κ ∧ RX κ ((List.range (i - 1)).map (fun l => (nI (cn (fun k => lay cs k == l + 1) cs.length)).toInt64)))
      (by
        intro n' i κ hi ⟨i1, i2, i3⟩
        obtain ⟨i, rfl⟩ : ∃ t, i = t + 1 := ⟨i - 1, (by omega)⟩
        have a1 : gI κ 23 1 = nI (dep cs cs.length) := by rw [i2.I (rgo (by omega))]; exact d1
        have a2 : gI κ 25 (i + 1) = nI (cn (fun k => lay cs k == i + 1) cs.length) := by rw [i2.I (rgo (by omega))]; exact d3 (i + 1) (by omega)
        rw [Nat.add_sub_cancel] at i3
        obtain ⟨κ', e', r', f'⟩ := sNum_append N (nI (cn (fun k => lay cs k == i + 1) cs.length)).toInt64 i3 (by rw [rl]; omega)
        have hc : ¬ dep cs cs.length < i + 1 := (by omega)
        refine ⟨κ', ⟨(by omega), i2.tr f', ?_⟩, by simp (disch := omega) [lp_X_depth_31, lt', bnd_some, ck_tt, inb_nI, tn_nI, fa_lit, nI_add, pk_mul, nI_ltI, nI_eq, a1, hc, f_Layers_sizeOf, a2, e']⟩
        rw [Nat.add_sub_cancel, rs]
        exact r')
      (by
        intro n' κ ⟨i1, i2, i3⟩
        have a1 : gI κ 23 1 = nI (dep cs cs.length) := by rw [i2.I (rgo (by omega))]; exact d1
        simp (disch := omega) [lp_X_depth_31, lt', bnd_some, ck_tt, inb_nI, tn_nI, fa_lit, nI_add, pk_mul, nI_ltI, nI_eq, a1])
      (dep cs cs.length) 1 N μ2 (by omega) (by omega) ⟨(by omega), f2, r2⟩
    have a1 : gI μ3 23 1 = nI (dep cs cs.length) := by rw [k2.I (rgo (by omega))]; exact d1
    rw [a1] at e3
    rw [Nat.add_sub_cancel] at k3
    refine ⟨μ3, ?_, k3, (f1.wide (by omega) (by omega)).tr (k2.wide (by omega) (by omega))⟩
    simp (disch := omega) only [f_X_depth, isNet_in N hs, i10, i00, reduceIte, lt', bnd_some, ck_tt, inb_nI, tn_nI, nI_add, pk_mul, nI_ltI, nI_eq, e1, e2]
    exact e3
  · have hm' : SM (sI μ 44 0 0) σ := hm.thr
    unfold f_M_depth
    simp only [lt']
    generalize hν : sI μ 44 0 0 = ν at hm' ⊢
    have m := hm'.1 s hs
    rw [hcs, hnn] at m
    obtain ⟨ν1, e1, f1, d1⟩ := sM_lays N hN m w hs
    obtain ⟨r2, f2⟩ := sM_told0 ν1
    have inner : ∀ (l : Nat) (K : Int32 → Mem → Option (Int32 × Mem)) (κ : Mem), Fr mR ν1 κ → l < 100 → lp_M_depth_38 N (nI s) (nI (dep cs cs.length)) (nI l) K N (nI 0) (nI 0) κ = K (nI (cn (fun k => lay cs k == l) cs.length)) κ := by
      intro l K κ f hl2
      obtain ⟨⟨r, κ'⟩, ⟨h1, h2⟩, e⟩ := for_up (fun n i (q : Int32 × Mem) => lp_M_depth_38 N (nI s) (nI (dep cs cs.length)) (nI l) K n q.1 i q.2) (fun q => K q.1 q.2) cs.length (fun i q => q.1 = nI (cn (fun k => lay cs k == l) i) ∧ q.2 = κ)
        (by
          intro n' i ⟨r, κ'⟩ hi ⟨h1, h2⟩
          dsimp only at h1 h2
          subst h1; subst h2
          have a0 : gI κ' 47 s = nI cs.length := by rw [f.I (fun z => by unfold mR at z; omega), f1.I (rgo (by omega))]; exact m.2.1
          have a1 : gI κ' 54 i = nI (lay cs i) := by rw [f.I (fun z => by unfold mR at z; omega)]; exact d1 i hi
          have c3 := lay_le cs i
          refine ⟨(nI (cn (fun k => lay cs k == l) (i + 1)), κ'), ⟨rfl, rfl⟩, ?_⟩
          by_cases e : lay cs i = l
          · simp (disch := omega) [lp_M_depth_38, lt', bnd_some, ck_tt, inb_nI, tn_nI, fa_lit, nI_add, pk_mul, nI_ltI, nI_eq, a0, hi, a1, e, f_M_flag, cn]
          · simp (disch := omega) [lp_M_depth_38, lt', bnd_some, ck_tt, inb_nI, tn_nI, fa_lit, nI_add, pk_mul, nI_ltI, nI_eq, a0, hi, a1, e, f_M_flag, cn])
        (by
          intro n' ⟨r, κ'⟩ ⟨h1, h2⟩
          dsimp only at h1 h2
          subst h2
          have a0 : gI κ' 47 s = nI cs.length := by rw [f.I (fun z => by unfold mR at z; omega), f1.I (rgo (by omega))]; exact m.2.1
          simp (disch := omega) [lp_M_depth_38, lt', bnd_some, ck_tt, inb_nI, tn_nI, fa_lit, nI_add, pk_mul, nI_ltI, nI_eq, a0])
        cs.length 0 N (nI 0, κ) (by omega) (by omega) ⟨rfl, rfl⟩
      dsimp only at h1 h2 e
      subst h1; subst h2
      exact e
    obtain ⟨μ3, ⟨k1, k2, k3⟩, e3⟩ := for_up (fun n i ν => lp_M_depth_27 N (nI s) (nI (dep cs cs.length)) (fun μ24 => some (nI (dep cs cs.length), μ24)) n i ν) (fun ν => some (nI (dep cs cs.length), ν)) (dep cs cs.length + 1) (fun i κ => 1 ≤ i ∧ Fr mR ν1 κ ∧ RM κ ((List.range (i - 1)).map (fun l => (nI (cn (fun k => lay cs k == l + 1) cs.length)).toInt64)))
      (by
        intro n' i κ hi ⟨i1, i2, i3⟩
        obtain ⟨i, rfl⟩ : ∃ t, i = t + 1 := ⟨i - 1, (by omega)⟩
        rw [Nat.add_sub_cancel] at i3
        obtain ⟨κ', e', r', f'⟩ := sM_enters N (nI (cn (fun k => lay cs k == i + 1) cs.length)).toInt64 i3 (by rw [rl]; omega)
        have hc : ¬ dep cs cs.length < i + 1 := (by omega)
        refine ⟨κ', ⟨(by omega), i2.tr f', ?_⟩, ?_⟩
        · rw [Nat.add_sub_cancel, rs]
          exact r'
        · rw [lp_M_depth_27, if_neg (nI_nlt (by omega) (by omega))]
          show lp_M_depth_38 N (nI s) (nI (dep cs cs.length)) (nI (i + 1)) _ N (nI 0) (nI 0) κ = _
          rw [inner (i + 1) _ κ i2 (by omega)]
          simp (disch := omega) only [e', i10, i00, reduceIte, lt', bnd_some, ck_tt, inb_nI, tn_nI, nI_add, pk_mul, nI_ltI, nI_eq, nI_1])
      (by
        intro n' κ ⟨i1, i2, i3⟩
        rw [lp_M_depth_27, if_pos (nI_lt (by omega) (by omega))])
      (dep cs cs.length) 1 N (sI ν1 44 1 0) (by omega) (by omega) ⟨(by omega), f2, r2⟩
    rw [Nat.add_sub_cancel] at k3
    refine ⟨μ3, ?_, k3, ((hν ▸ thrQ).tr (rgQ f1 (by omega) (by omega))).tr (mR_mQ k2)⟩
    simp (disch := omega) only [mNet_in N hs, i10, i00, reduceIte, lt', bnd_some, ck_tt, inb_nI, tn_nI, nI_add, pk_mul, nI_ltI, nI_eq, e1]
    exact e3

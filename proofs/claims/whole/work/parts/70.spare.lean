/-! comparers that can be left out -/
def sb (n : Nat) (cs : List (Nat × Nat)) : Nat → Int64
  | 0 => 0
  | k + 1 => sb n cs k ||| (if cn (wr n cs (bo k) 0) (2 ^ n) = 0 then shlL 1 (nI k) else 0)
theorem or0L (x : Int64) : x ||| 0 = x := lb_ext (fun t _ => by rw [lb_or, lb_zero, Bool.or_false])
theorem sM_doesSort (N : Nat) (hN : 10000 ≤ N) {μ : Mem} {s n : Nat} {cs : List (Nat × Nat)} (h : NM μ s n cs) (w : WN n cs) (hs : s < 4) : ∃ μ', f_M_doesSort N (nI s) μ = some (if cn (wr n cs b0 0) (2 ^ n) = 0 then 1 else 0, μ') ∧ Fr mW μ μ' := by
  obtain ⟨ν1, g1, -, h1⟩ := sM_wrongs N hN h w hs (-1) b0 hb0 0 (by decide)
  have c256 := cn_256' w.2.1 (wr n cs b0 0)
  have z0 : (nI (cn (wr n cs b0 0) (2 ^ n)) = 0) ↔ cn (wr n cs b0 0) (2 ^ n) = 0 := nI_eq (b := 0) (by omega) (by omega)
  refine ⟨ν1, ?_, h1⟩
  unfold f_M_doesSort
  rw [show f_M_wrongs N (nI s) (-1) 0 μ = _ from g1, bnd_some]
  simp only [z0]
  split <;> rfl
theorem op_spare (N : Nat) (hN : 10000 ≤ N) (x : Int32) : OpEq (f_X_spare N x) (f_M_spare N x) := by
  refine op_of (-1) (fun x h μ => by simp [f_X_spare, isNet_out N h, bnd_some]) (fun x h μ => by simp [f_M_spare, mNet_out N h, bnd_some, lt']) (fun s hs μ σ hw hx => ?_) x
  have w := hw.1 s hs
  have nx := hx.1 s hs
  have hl := w.2.2.1
  generalize hcs : (σ.1 s).2 = cs at *
  generalize hnn : (σ.1 s).1 = n at *
  obtain ⟨μ1, e1, f1⟩ := sX_isSorting0 N hN nx w (by omega)
  by_cases z : cn (wr n cs b0 0) (2 ^ n) = 0
  · rw [if_pos z] at e1
    refine g_q hw hx (sb n cs cs.length) [(nI (cn (lb (sb n cs cs.length)) 64)).toInt64] (by simp) ?_ (fun μ ν hν hm => ?_)
    · obtain ⟨⟨r, μ2⟩, ⟨k1, k2⟩, e⟩ := for_up (fun n' i (q : Int64 × Mem) => lp_X_spare_34 N (nI s) (fun v17 μ18 => bnd (f_Numbers_clear N μ18) fun _ μ20 => bnd (f_JLong_bitCount N v17 μ20) fun r21 μ22 => bnd (f_Numbers_append N (Int32.toInt64 r21) μ22) fun _ μ24 => some (v17, μ24)) n' q.1 i q.2) (fun q => bnd (f_Numbers_clear N q.2) fun _ μ20 => bnd (f_JLong_bitCount N q.1 μ20) fun r21 μ22 => bnd (f_Numbers_append N (Int32.toInt64 r21) μ22) fun _ μ24 => some (q.1, μ24)) cs.length (fun i q => Fr (rg 27 32) μ q.2 ∧ q.1 = sb n cs i)
        (by
          intro n' i ⟨r, κ⟩ hi ⟨i1, i2⟩
          dsimp only at i1 i2
          subst i2
          have nk := nx.frg i1 (by omega)
          obtain ⟨κ', e', f'⟩ := sX_isSorting1 N hN nk w (by omega) hi
          refine ⟨(sb n cs (i + 1), κ'), ⟨i1.tr f', rfl⟩, ?_⟩
          dsimp only
          rw [lp_X_spare_34]
          simp (disch := omega) only [i10, i00, reduceIte, lt', bnd_some, ck_tt, inb_nI, tn_nI, nI_add, pk_mul, nI_ltI, nI_eq, nk.2.1, hi, e', nI_1]
          rw [sb]
          by_cases y : cn (wr n cs (bo i) 0) (2 ^ n) = 0
          · simp [y]
          · simp [y, or0L])
        (by
          intro n' ⟨r, κ⟩ ⟨i1, i2⟩
          dsimp only at i1 i2 ⊢
          have nk := nx.frg i1 (by omega)
          rw [lp_X_spare_34]
          simp (disch := omega) only [i10, i00, reduceIte, lt', bnd_some, ck_tt, inb_nI, tn_nI, nI_add, pk_mul, nI_ltI, nI_eq, nk.2.1]
          simp)
        cs.length 0 N (0, μ1) (by omega) (by omega) ⟨f1, rfl⟩
      dsimp only at k1 k2 e
      subst k2
      obtain ⟨μ3, e3, r3, f3⟩ := sNum_clear N μ2
      obtain ⟨μ4, e4, r4, f4⟩ := sNum_append N (nI (cn (lb (sb n cs cs.length)) 64)).toInt64 r3 (by decide)
      refine ⟨μ4, ?_, r4, ((k1.wide (by omega) (by omega)).tr (f3.wide (by omega) (by omega))).tr (f4.wide (by omega) (by omega))⟩
      simp (disch := omega) only [f_X_spare, isNet_in N hs, i10, i00, reduceIte, lt', bnd_some, ck_tt, inb_nI, tn_nI, nI_add, pk_mul, nI_ltI, nI_eq, e1]
      rw [e3, bnd_some, sPop, bnd_some, e4, bnd_some] at e
      exact e
    · have m := hm.1 s hs
      rw [hcs, hnn] at m
      obtain ⟨ν1, g1, h1⟩ := sM_doesSort N hN m w hs
      rw [if_pos z] at g1
      obtain ⟨⟨r, ν2⟩, ⟨k1, k2⟩, e⟩ := for_up (fun n' i (q : Int64 × Mem) => lp_M_spares_5 N (nI s) (fun v10 μ11 => some (v10, μ11)) n' q.1 i q.2) (fun q => some (q.1, q.2)) cs.length (fun i q => Fr mW ν q.2 ∧ q.1 = sb n cs i)
        (by
          intro n' i ⟨r, κ⟩ hi ⟨i1, i2⟩
          dsimp only at i1 i2
          subst i2
          have nk := m.fr i1 (fun q k _ _ z => by unfold mW at z; omega)
          obtain ⟨κ', e', -, f'⟩ := sM_wrongs N hN nk w hs (nI i) (bo i) (hbo (by omega)) 0 (by decide)
          have c256 := cn_256' w.2.1 (wr n cs (bo i) 0)
          have z0 : (nI (cn (wr n cs (bo i) 0) (2 ^ n)) = 0) ↔ cn (wr n cs (bo i) 0) (2 ^ n) = 0 := nI_eq (b := 0) (by omega) (by omega)
          refine ⟨(sb n cs (i + 1), κ'), ⟨i1.tr f', rfl⟩, ?_⟩
          dsimp only
          rw [lp_M_spares_5]
          have e'' : f_M_wrongs N (nI s) (nI i) 0 κ = _ := e'
          simp (disch := omega) only [i10, i00, reduceIte, lt', bnd_some, ck_tt, inb_nI, tn_nI, nI_add, pk_mul, nI_ltI, nI_eq, nk.2.1, hi, e'', nI_1, z0]
          rw [sb])
        (by
          intro n' ⟨r, κ⟩ ⟨i1, i2⟩
          dsimp only at i1 i2 ⊢
          have nk := m.fr i1 (fun q k _ _ z => by unfold mW at z; omega)
          rw [lp_M_spares_5]
          simp (disch := omega) only [i10, i00, reduceIte, lt', bnd_some, ck_tt, inb_nI, tn_nI, nI_add, pk_mul, nI_ltI, nI_eq, nk.2.1]
          simp)
        cs.length 0 N (0, ν1) (by omega) (by omega) ⟨h1, rfl⟩
      dsimp only at k1 k2 e
      subst k2
      obtain ⟨ν3, g3, q3, h3⟩ := sM_tellsOne N ν2 (nI (cn (lb (sb n cs cs.length)) 64)).toInt64
      refine ⟨ν3, ?_, q3, (mS_mQ (mW_mS k1)).tr (mR_mQ h3)⟩
      unfold f_M_spare f_M_spares
      simp only [lt', ← hν]
      rw [mNet_in N hs, bnd_some, if_neg (by decide), g1, bnd_some, if_neg (by decide)]
      rw [show lp_M_spares_5 N (nI s) (fun v10 μ11 => some (v10, μ11)) N 0 0 ν1 = _ from e, bnd_some]
      unfold f_M_bits
      rw [sPop, bnd_some, bnd_some, g3, bnd_some]
  · rw [if_neg z] at e1
    refine g_n hw hx (-2) ⟨μ1, ?_, f1.wide (by omega) (by omega)⟩ (fun μ ν hν hm => ?_)
    · simp (disch := omega) only [f_X_spare, isNet_in N hs, i10, i00, reduceIte, lt', bnd_some, ck_tt, inb_nI, tn_nI, nI_add, pk_mul, nI_ltI, nI_eq, e1]
    · have m := hm.1 s hs
      rw [hcs, hnn] at m
      obtain ⟨ν1, g1, h1⟩ := sM_doesSort N hN m w hs
      rw [if_neg z] at g1
      refine ⟨ν1, ?_, mW_mS h1⟩
      unfold f_M_spare
      simp only [lt', ← hν]
      rw [mNet_in N hs, bnd_some, if_neg (by decide), g1, bnd_some, if_pos rfl]
/-- comparers below k left out where they can, from the last on -/
def thn (n : Nat) : Nat → List (Nat × Nat) → List (Nat × Nat)
  | 0, cs => cs
  | k + 1, cs => thn n k (if cn (wr n cs (bo k) 0) (2 ^ n) = 0 then cs.eraseIdx k else cs)
theorem op_thins (N : Nat) (hN : 10000 ≤ N) (x : Int32) : OpEq (f_X_thins N x) (f_M_thins N x) := by
  refine op_of (-1) (fun x h μ => by simp [f_X_thins, isNet_out N h, bnd_some]) (fun x h μ => by simp [f_M_thins, mNet_out N h, bnd_some, lt']) (fun s hs μ σ hw hx => ?_) x
  have w := hw.1 s hs
  have nx := hx.1 s hs
  have hl := w.2.2.1
  generalize hcs : (σ.1 s).2 = cs at *
  generalize hnn : (σ.1 s).1 = n at *
  obtain ⟨μ1, e1, f1⟩ := sX_isSorting0 N hN nx w (by omega)
  by_cases z : cn (wr n cs b0 0) (2 ^ n) = 0
  · rw [if_pos z] at e1
    have n1 := nx.frg f1 (by omega)
    have wt : ∀ k cs', k ≤ cs'.length → WN n cs' → WN n (thn n k cs') ∧ (thn n k cs').length ≤ cs'.length := by
      intro k
      induction k with
      | zero => intro cs' _ h; exact ⟨h, Nat.le_refl _⟩
      | succ k ih =>
        intro cs' hk h
        rw [thn]
        by_cases y : cn (wr n cs' (bo k) 0) (2 ^ n) = 0
        · rw [if_pos y]
          have hlen : (cs'.eraseIdx k).length = cs'.length - 1 := by rw [List.length_eraseIdx, if_pos (by omega)]
          have := ih (cs'.eraseIdx k) (by omega) (h.erase (by omega))
          exact ⟨this.1, (by omega)⟩
        · rw [if_neg y]
          exact ih cs' (by omega) h
    have w2 := wt cs.length cs (Nat.le_refl _) w
    refine g_u hw hx hs (n := n) (cs := thn n cs.length cs) (tx := σ.2.1) (nI (cs.length - (thn n cs.length cs).length)) σ.2.2 hw.2.2.2 ⟨hw.2.1, hw.2.2.1⟩ w2.1 ?_ (fun μ ν hν hm => ?_)
    · obtain ⟨μ2, ⟨cs', k1, k2, k3, k4, k5, -⟩, e⟩ := for_dn (fun n' i (κ : Mem) => lp_X_thins_38 N (2 + 3 * s) (nI cs.length) (fun μ19 => some (nI cs.length - (gI μ19 (2 + 3 * s) 1), μ19)) n' i κ) (fun κ => some (nI cs.length - (gI κ (2 + 3 * s) 1), κ)) (fun i κ => ∃ cs', WN n cs' ∧ NX κ (2 + 3 * s) n cs' ∧ i ≤ cs'.length ∧ thn n i cs' = thn n cs.length cs ∧ Fr (fun q k => (2 + 3 * s ≤ q ∧ q ≤ 2 + 3 * s + 2) ∨ (27 ≤ q ∧ q ≤ 32)) μ κ ∧ cs'.length ≤ 60)
        (by
          intro n' i κ ⟨cs', i1, i2, i3, i4, i5, i6⟩
          obtain ⟨κ', e', f'⟩ := sX_isSorting1 N hN i2 i1 (by omega) (show i < cs'.length by omega)
          have n2 := i2.frg f' (by omega)
          have f2 : Fr (fun q k => (2 + 3 * s ≤ q ∧ q ≤ 2 + 3 * s + 2) ∨ (27 ≤ q ∧ q ≤ 32)) μ κ' := i5.tr (f'.mono (fun q k z => by unfold rg at z; omega))
          have e0 : ¬ nI i < 0 := nI_pos (by omega)
          have ed : nI i + (-1) = pm i := by unfold pm; rw [Int32.sub_eq_add_neg]
          rw [thn] at i4
          by_cases y : cn (wr n cs' (bo i) 0) (2 ^ n) = 0
          · rw [if_pos y] at i4 e'
            obtain ⟨κ2, e2, n3, f3⟩ := sNet_remove N hN n2 i6 (show i < cs'.length by omega)
            have hlen : (cs'.eraseIdx i).length = cs'.length - 1 := by rw [List.length_eraseIdx, if_pos (by omega)]
            refine ⟨κ2, ⟨cs'.eraseIdx i, i1.erase (by omega), n3, (by omega), i4, f2.tr (f3.mono (fun q k z => by unfold rg at z; omega)), (by omega)⟩, ?_⟩
            rw [lp_X_thins_38, if_neg e0, e', bnd_some]
            simp only [lt', ed]
            rw [if_neg (by decide), e2, bnd_some]
          · rw [if_neg y] at i4 e'
            refine ⟨κ', ⟨cs', i1, n2, (by omega), i4, f2, i6⟩, ?_⟩
            rw [lp_X_thins_38, if_neg e0, e', bnd_some]
            simp only [lt', ed]
            rw [if_pos (by decide)])
        (by
          intro n' κ _
          rw [lp_X_thins_38, if_pos (by decide)])
        cs.length N μ1 (by omega) ⟨cs, w, n1, Nat.le_refl _, rfl, f1.mono (fun q k z => by unfold rg at z; omega), hl⟩
      have e5 : cs' = thn n cs.length cs := k4
      subst e5
      have f5 : Fr (xU s) μ μ2 := k5.mono (fun q k z => by unfold xU; omega)
      refine ⟨μ2, ?_, k2, hx.2.1.fr k5 (fun z => by omega) (fun k z => by omega), hx.2.2.fr k5 (fun z => by omega) (fun k z => by omega), f5⟩
      have ep : nI cs.length - 1 = pm cs.length := rfl
      have es : nI cs.length - nI (thn n cs.length cs).length = nI (cs.length - (thn n cs.length cs).length) := pk_sub w2.2
      simp (disch := omega) only [f_X_thins, isNet_in N hs, i10, i00, reduceIte, lt', bnd_some, ck_tt, inb_nI, tn_nI, nI_add, pk_mul, nI_ltI, nI_eq, e1, n1.2.1, ep]
      rw [k2.2.1, es] at e
      exact e
    · have m := hm.1 s hs
      rw [hcs, hnn] at m
      obtain ⟨ν1, g1, h1⟩ := sM_doesSort N hN m w hs
      have m1 := m.fr h1 (fun q k _ _ z => by unfold mW at z; omega)
      rw [if_pos z] at g1
      obtain ⟨⟨r, μ2⟩, ⟨cs', k1, k2, k3, k4, k5, k6, k7⟩, e⟩ := for_dn (fun n' i (q : Int32 × Mem) => lp_M_thins_36 N (nI s) (fun v21 μ22 => some (v21, μ22)) n' q.1 i q.2) (fun q => some (q.1, q.2)) (fun i q => ∃ cs', WN n cs' ∧ NM q.2 s n cs' ∧ i ≤ cs'.length ∧ thn n i cs' = thn n cs.length cs ∧ Fr (fun q k => mN s q k ∨ mW q k) ν q.2 ∧ cs'.length ≤ cs.length ∧ q.1 = nI (cs.length - cs'.length))
        (by
          intro n' i ⟨r, κ⟩ ⟨cs', i1, i2, i3, i4, i5, i6, i7⟩
          dsimp only at i1 i2 i3 i4 i5 i6 i7
          subst i7
          obtain ⟨κ', e', -, f'⟩ := sM_wrongs N hN i2 i1 hs (nI i) (bo i) (hbo (by omega)) 0 (by decide)
          have e'' : f_M_wrongs N (nI s) (nI i) 0 κ = _ := e'
          have n2 := i2.fr f' (fun q k _ _ z => by unfold mW at z; omega)
          have f2 : Fr (fun q k => mN s q k ∨ mW q k) ν κ' := i5.tr (f'.mono (fun q k z => Or.inr z))
          have e0 : ¬ nI i < 0 := nI_pos (by omega)
          have ed : nI i + (-1) = pm i := by unfold pm; rw [Int32.sub_eq_add_neg]
          have c256 := cn_256' w.2.1 (wr n cs' (bo i) 0)
          have z0 : (0 < nI (cn (wr n cs' (bo i) 0) (2 ^ n))) ↔ 0 < cn (wr n cs' (bo i) 0) (2 ^ n) := nI_ltI (a := 0) (by omega) (by omega)
          rw [thn] at i4
          by_cases y : cn (wr n cs' (bo i) 0) (2 ^ n) = 0
          · rw [if_pos y] at i4
            obtain ⟨κ2, e2, n3, f3⟩ := sM_goes N hN n2 hs (by omega) (show i < cs'.length by omega)
            have hlen : (cs'.eraseIdx i).length = cs'.length - 1 := by rw [List.length_eraseIdx, if_pos (by omega)]
            refine ⟨(nI (cs.length - (cs'.eraseIdx i).length), κ2), ⟨cs'.eraseIdx i, i1.erase (by omega), n3, (by omega), i4, f2.tr (f3.mono (fun q k z => Or.inl z)), (by omega), rfl⟩, ?_⟩
            dsimp only
            rw [lp_M_thins_36, if_neg e0, e'', bnd_some]
            simp only [lt', ed]
            rw [if_neg (fun q => by have := z0.mp q; omega), e2, bnd_some, nI_1, hlen]
            congr 2; omega
          · rw [if_neg y] at i4
            refine ⟨(nI (cs.length - cs'.length), κ'), ⟨cs', i1, n2, (by omega), i4, f2, i6, rfl⟩, ?_⟩
            dsimp only
            rw [lp_M_thins_36, if_neg e0, e'', bnd_some]
            simp only [lt', ed]
            rw [if_pos (z0.mpr (by omega))])
        (by
          intro n' ⟨r, κ⟩ _
          dsimp only
          rw [lp_M_thins_36, if_pos (by decide)])
        cs.length N (0, ν1) (by omega) ⟨cs, w, m1, Nat.le_refl _, rfl, h1.mono (fun q k z => Or.inr z), Nat.le_refl _, by rw [Nat.sub_self]; rfl⟩
      dsimp only at k2 k5 k6 k7 e
      have e5 : cs' = thn n cs.length cs := k4
      subst e5
      subst k7
      have f5 : Fr (mU s) ν μ2 := k5.mono (fun q k z => by unfold mN mW at z; unfold mU; omega)
      refine ⟨μ2, ?_, k2, hm.2.1.fr k5 (fun z => by unfold mN mW at z; omega) (fun k z => by unfold mN mW at z; omega), hm.2.2.1.fr k5 (fun z => by unfold mN mW at z; omega) (fun k z => by unfold mN mW at z; omega), f5⟩
      unfold f_M_thins
      simp only [lt', ← hν]
      rw [mNet_in N hs, bnd_some, if_neg (by decide), g1, bnd_some, if_neg (by decide), inb_nI hs (by omega), ck_tt, tn_nI (by omega), m1.2.1]
      exact e
  · rw [if_neg z] at e1
    refine g_n hw hx (-2) ⟨μ1, ?_, f1.wide (by omega) (by omega)⟩ (fun μ ν hν hm => ?_)
    · simp (disch := omega) only [f_X_thins, isNet_in N hs, i10, i00, reduceIte, lt', bnd_some, ck_tt, inb_nI, tn_nI, nI_add, pk_mul, nI_ltI, nI_eq, e1]
    · have m := hm.1 s hs
      rw [hcs, hnn] at m
      obtain ⟨ν1, g1, h1⟩ := sM_doesSort N hN m w hs
      rw [if_neg z] at g1
      refine ⟨ν1, ?_, mW_mS h1⟩
      unfold f_M_thins
      simp only [lt', ← hν]
      rw [mNet_in N hs, bnd_some, if_neg (by decide), g1, bnd_some, if_pos rfl]

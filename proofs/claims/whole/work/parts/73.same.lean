theorem IsF.stp {P : Nat → Bool} {i m : Nat} {v : Int32} (h : IsF P (i + 1) m v) (hi : i < m) : IsF P i m (if P i then nI i else v) := by
  by_cases z : P i = true
  · rw [if_pos z]
    exact Or.inr ⟨i, Nat.le_refl _, hi, rfl, z, fun q h1 h2 => by omega⟩
  · rw [if_neg z]
    have z' : P i = false := by simpa using z
    rcases h with ⟨q1, q2⟩ | ⟨p, q1, q2, q3, q4, q5⟩
    · refine Or.inl ⟨q1, fun p h1 h2 => ?_⟩
      by_cases e : p = i
      · subst e; exact z'
      · exact q2 p (by omega) h2
    · refine Or.inr ⟨p, (by omega), q2, q3, q4, fun q h1 h2 => ?_⟩
      by_cases e : q = i
      · subst e; exact z'
      · exact q5 q (by omega) h2
theorem cn_stp (P : Nat → Bool) {i m : Nat} (hi : i < m) : cn P m - cn P (i + 1) + (if P i then 1 else 0) = cn P m - cn P i := by
  have := cn_mono_n P (show i + 1 ≤ m from hi)
  rw [cn] at this ⊢
  split <;> simp_all <;> omega
theorem IsF.nil (P : Nat → Bool) (m : Nat) : IsF P m m (-1) := Or.inl ⟨rfl, fun p h1 h2 => by omega⟩
theorem ed' (i : Nat) : nI i + (-1) = pm i := by unfold pm; rw [Int32.sub_eq_add_neg]
theorem op_same (N : Nat) (hN : 10000 ≤ N) (x y : Int32) : OpEq (f_X_same N x y) (f_M_same N x y) := by
  refine op_of (fX := fun x => f_X_same N x y) (fM := fun x => f_M_same N x y) (-1) (fun x h μ => by simp [f_X_same, isNet_out N h, bnd_some]) (fun x h μ => by simp [f_M_same, mNet_out N h, bnd_some, lt']) (fun s hs μ σ hw hx => ?_) x
  rcases ix4 y 4 (by omega) with ht | ⟨t, ht, rfl⟩
  · refine g_no hw hx (-1) (by simp [f_X_same, isNet_in N hs, isNet_out N ht, bnd_some]) (fun μ ν hν hm => ?_)
    unfold f_M_same
    simp only [lt', ← hν]
    rw [mNet_in N hs, bnd_some, if_neg (by decide), mNet_out N ht, bnd_some, if_pos rfl]
  have w := hw.1 s hs
  have nx := hx.1 s hs
  have wt := hw.1 t ht
  have nt := hx.1 t ht
  generalize hcs : (σ.1 s).2 = cs at *
  generalize hnn : (σ.1 s).1 = n at *
  generalize hds : (σ.1 t).2 = ds at *
  generalize hkk : (σ.1 t).1 = k at *
  have h8 := w.2.1
  have k8 := wt.2.1
  have p8 := pow8 h8
  have zz : (nI n = nI k) ↔ n = k := nI_eq (by omega) (by omega)
  by_cases hnk : n = k
  · subst hnk
    obtain ⟨μ1, μ2, W, e1, x1, e2, t2, b2, f2⟩ := sTr_all N hN (p := 27) nx w (by omega)
    have nt2 := nt.frg f2 (by omega)
    obtain ⟨μ3, μ4, V, e3, x3, e4, t4, b4, f4⟩ := sTr_all N hN (p := 29) nt2 wt (by omega)
    obtain ⟨μ5, e5, g5, f5⟩ := sTr_unlike N hN (t2.frg f4 (by omega)) t4 w.1 h8 (by omega) (by omega)
    have ps : PS μ5 (fun x => decide (x < 2 ^ n) && decide (rs cs b0 0 x cs.length ≠ rs ds b0 0 x ds.length)) := by
      intro b hb t ht
      rw [g5 b hb]
      dsimp only
      have := bks_64 n (by omega)
      by_cases z : b < bks n
      · rw [if_pos z, lb_ul b2 b4 z ht n (Nat.le_refl _)]
        by_cases y : 64 * b + t < 2 ^ n
        · rw [dif_iff (rs_lt w y _ (Nat.le_refl _)) (rs_lt wt y _ (Nat.le_refl _))]
        · simp [y]
      · rw [if_neg z, lb_zero]
        have : ¬ 64 * b + t < 2 ^ n := (by omega)
        simp [this]
    generalize hD : (fun x => decide (rs cs b0 0 x cs.length ≠ rs ds b0 0 x ds.length)) = D
    have hD' : ∀ x, D x = decide (rs cs b0 0 x cs.length ≠ rs ds b0 0 x ds.length) := fun x => by rw [← hD]
    have ps' : PS μ5 (fun x => decide (x < 2 ^ n) && D x) := by simp only [hD']; exact ps
    have c256 := cn_256' h8 D
    obtain ⟨μ6, e6, r6, f6⟩ := sNum_clear N μ5
    have p6 := ps'.fr f6 (fun _ => rgo (by omega))
    have e7 := sPS_size N hN p6
    rw [PS.size w.2.1] at e7
    obtain ⟨μ8, e8, r8, f8⟩ := sNum_append N (nI (cn D (2 ^ n))).toInt64 r6 (by decide)
    have p8' := p6.fr f8 (fun _ => rgo (by omega))
    obtain ⟨v, e9, i9⟩ := sPS_first N hN p8'
    have i10 := PS.frst w.2.1 i9
    obtain ⟨μ10, e10, r10, f10⟩ := sNum_append N v.toInt64 r8 (by simp)
    have p10 := p8'.fr f10 (fun _ => rgo (by omega))
    have e11 := sPS_isEmpty N hN p10
    rw [PS.size w.2.1] at e11
    refine g_q hw hx (if cn D (2 ^ n) = 0 then 1 else 0) ([] ++ [(nI (cn D (2 ^ n))).toInt64] ++ [v.toInt64]) (by simp) ⟨μ10, ?_, r10, (((((f2.wide (by omega) (by omega)).tr (f4.wide (by omega) (by omega))).tr (f5.wide (by omega) (by omega))).tr (f6.wide (by omega) (by omega))).tr (f8.wide (by omega) (by omega))).tr (f10.wide (by omega) (by omega))⟩ (fun μ ν hν hm => ?_)
    · unfold f_X_same
      rw [isNet_in N hs, bnd_some, if_neg (by decide), isNet_in N ht, bnd_some, if_neg (by decide), inb_nI hs (by omega), ck_tt, inb_nI ht (by omega), ck_tt, tn_nI (by omega), tn_nI (by omega), nx.1, nt.1, if_pos rfl]
      simp only [ck_tt]
      rw [e1, bnd_some, x1.2.1, e2, bnd_some, nt2.1, e3, bnd_some, x3.2.1, e4, bnd_some, e5, bnd_some, e6, bnd_some, e7, bnd_some, e8, bnd_some, e9, bnd_some, e10, bnd_some, e11, bnd_some]
      split <;> simp
    · have m := hm.1 s hs
      rw [hcs, hnn] at m
      have mt := hm.1 t ht
      rw [hds, hkk] at mt
      obtain ⟨⟨⟨a, b⟩, ν1⟩, ⟨k1, k2, k3, -⟩, e⟩ := for_dn (fun n' i (q : (Int32 × Int32) × Mem) => lp_M_same_53 N (nI s) (nI t) (fun v23 v24 μ25 => bnd (f_M_tellsOne N (Int32.toInt64 v23) μ25) fun _ μ27 => bnd (f_M_enters N (Int32.toInt64 v24) μ27) fun _ μ29 => lt' (if v23 = 0 then (1 : Int32) else (0 : Int32)) fun q31 => bnd (f_M_flag N q31 μ29) fun r32 μ33 => some (r32, μ33)) n' q.1.1 q.1.2 i q.2) (fun q => bnd (f_M_tellsOne N (Int32.toInt64 q.1.1) q.2) fun _ μ27 => bnd (f_M_enters N (Int32.toInt64 q.1.2) μ27) fun _ μ29 => lt' (if q.1.1 = 0 then (1 : Int32) else (0 : Int32)) fun q31 => bnd (f_M_flag N q31 μ29) fun r32 μ33 => some (r32, μ33)) (fun i q => Fr mB ν q.2 ∧ q.1.1 = nI (cn D (2 ^ n) - cn D i) ∧ IsF D i (2 ^ n) q.1.2 ∧ i ≤ 2 ^ n)
        (by
          intro n' i ⟨⟨a, b⟩, κ⟩ ⟨i1, i2, i3, i4⟩
          dsimp only at i1 i2 i3 i4
          subst i2
          obtain ⟨κ1, e1, -, f1⟩ := sM_result N hN (m.fr i1 (fun q k _ _ z => by unfold mB at z; omega)) w hs (p := i) (by omega) (-1) b0 hb0 0 (by decide)
          obtain ⟨κ2, e2, -, f2⟩ := sM_result N hN ((mt.fr i1 (fun q k _ _ z => by unfold mB at z; omega)).fr f1 (fun q k _ _ z => by unfold mB at z; omega)) wt ht (p := i) (by omega) (-1) b0 hb0 0 (by decide)
          have q1 := rs_lt w (b := b0) (how := 0) (p := i) (by omega) cs.length (Nat.le_refl _)
          have q2 := rs_lt wt (b := b0) (how := 0) (p := i) (by omega) ds.length (Nat.le_refl _)
          refine ⟨((nI (cn D (2 ^ n) - cn D i), if D i then nI i else b), κ2), ⟨(i1.tr f1).tr f2, rfl, i3.stp (by omega), (by omega)⟩, ?_⟩
          dsimp only
          have e0 : ¬ nI i < 0 := nI_pos (by omega)
          rw [lp_M_same_53, if_neg e0, show f_M_result N (nI s) (nI i) (-1) 0 κ = _ from e1, bnd_some, show f_M_result N (nI t) (nI i) (-1) 0 κ1 = _ from e2, bnd_some]
          simp only [lt', ed']
          have := cn_stp D (show i < 2 ^ n by omega)
          rw [hD'] at this ⊢
          by_cases y : rs cs b0 0 i cs.length = rs ds b0 0 i ds.length
          · simp only [y] at this ⊢
            simp at this ⊢
            rw [this]
          · have y' : ¬ nI (rs cs b0 0 i cs.length) = nI (rs ds b0 0 i ds.length) := fun q => y ((nI_eq (by omega) (by omega)).mp q)
            have yd : decide (rs cs b0 0 i cs.length ≠ rs ds b0 0 i ds.length) = true := decide_eq_true y
            rw [yd, if_pos rfl] at this
            rw [if_neg y', yd, if_pos rfl, ← this, nI_1])
        (by
          intro n' ⟨⟨a, b⟩, κ⟩ _
          dsimp only
          rw [lp_M_same_53, if_pos (by decide)])
        (2 ^ n) N ((nI 0, -1), ν) (by omega) ⟨Fr.rf ν, by rw [Nat.sub_self], IsF.nil D _, Nat.le_refl _⟩
      dsimp only at k1 k2 k3 e
      have c0 : cn D 0 = 0 := rfl
      rw [c0, Nat.sub_zero] at k2
      subst k2
      have ev := k3.uniq i10
      subst ev
      obtain ⟨ν2, g2, q2, h2⟩ := sM_tellsOne N ν1 (nI (cn D (2 ^ n))).toInt64
      obtain ⟨ν3, g3, q3, h3⟩ := sM_enters N b.toInt64 q2 (by simp)
      refine ⟨ν3, ?_, q3, ((mS_mQ (mB_mS k1)).tr (mR_mQ h2)).tr (mR_mQ h3)⟩
      have z0 : (nI (cn D (2 ^ n)) = 0) ↔ cn D (2 ^ n) = 0 := nI_eq (b := 0) (by omega) (by omega)
      unfold f_M_same
      simp only [lt', ← hν]
      rw [mNet_in N hs, bnd_some, if_neg (by decide), mNet_in N ht, bnd_some, if_neg (by decide), inb_nI hs (by omega), ck_tt, inb_nI ht (by omega), ck_tt, tn_nI (by omega), tn_nI (by omega), m.1, mt.1, if_pos rfl, sM_all N m hs h8, bnd_some]
      refine Eq.trans e ?_
      rw [g2, bnd_some, g3, bnd_some]
      simp only [lt', z0, sM_flag, bnd_some]
  · refine g_no hw hx (-2) ?_ (fun μ ν hν hm => ?_)
    · unfold f_X_same
      rw [isNet_in N hs, bnd_some, if_neg (by decide), isNet_in N ht, bnd_some, if_neg (by decide), inb_nI hs (by omega), ck_tt, inb_nI ht (by omega), ck_tt, tn_nI (by omega), tn_nI (by omega), nx.1, nt.1, if_neg (fun q => hnk (zz.mp q))]
    · have m := hm.1 s hs
      rw [hcs, hnn] at m
      have mt := hm.1 t ht
      rw [hds, hkk] at mt
      unfold f_M_same
      simp only [lt', ← hν]
      rw [mNet_in N hs, bnd_some, if_neg (by decide), mNet_in N ht, bnd_some, if_neg (by decide), inb_nI hs (by omega), ck_tt, inb_nI ht (by omega), ck_tt, tn_nI (by omega), tn_nI (by omega), m.1, mt.1, if_neg (fun q => hnk (zz.mp q))]

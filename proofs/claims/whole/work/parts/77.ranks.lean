/-! where ranks can end -/
def bcI (x0 : Int32) : Int32 := lt' (x0 - ((ushI x0 1) &&& 1431655765)) fun v1 => lt' ((v1 &&& 858993459) + ((ushI v1 2) &&& 858993459)) fun v2 => lt' ((v2 + (ushI v2 4)) &&& 252645135) fun v3 => lt' (v3 + (ushI v3 8)) fun v4 => lt' (v4 + (ushI v4 16)) fun v5 => v5 &&& 63
theorem bcI_p : ∀ p, p < 256 → bcI (nI p) = nI (pop8 p) := by decide +kernel
theorem sIPop (N : Nat) {p : Nat} (hp : p < 256) (μ : Mem) : f_JInt_bitCount N (nI p) μ = some (nI (pop8 p), μ) := by
  have e : f_JInt_bitCount N (nI p) μ = some (bcI (nI p), μ) := rfl
  rw [e, bcI_p p hp]
theorem pop_n : ∀ n, n < 9 → ∀ p, p < 2 ^ n → pop8 p ≤ n ∧ (0 < p → 0 < pop8 p) := by decide +kernel
def rin (R : Nat → Nat) (p acc : Nat) : Nat → Nat
  | 0 => acc
  | w + 1 => if tb p w = 1 then rin R p acc w ||| (R p ^^^ R (p ^^^ 2 ^ w)) else rin R p acc w
def rch (R : Nat → Nat) (n r : Nat) : Nat → Nat
  | 0 => 0
  | p + 1 => if pop8 p + r = n then rin R p (rch R n r p) n else rch R n r p
theorem fx_lt {n p w : Nat} (hp : p < 2 ^ n) (hw : w < n) : p ^^^ 2 ^ w < 2 ^ n := Nat.xor_lt_two_pow hp (Nat.pow_lt_pow_right (by decide) hw)
theorem rin_lt {R : Nat → Nat} {n p acc : Nat} (hR : ∀ x, x < 2 ^ n → R x < 2 ^ n) (hp : p < 2 ^ n) (ha : acc < 2 ^ n) : ∀ w, w ≤ n → rin R p acc w < 2 ^ n
  | 0, _ => ha
  | w + 1, hw => by
    have ih := rin_lt hR hp ha w (by omega)
    rw [rin]
    split
    · exact Nat.or_lt_two_pow ih (Nat.xor_lt_two_pow (hR _ hp) (hR _ (fx_lt hp hw)))
    · exact ih
theorem rch_lt {R : Nat → Nat} {n r : Nat} (hR : ∀ x, x < 2 ^ n → R x < 2 ^ n) : ∀ p, p ≤ 2 ^ n → rch R n r p < 2 ^ n
  | 0, _ => Nat.two_pow_pos n
  | p + 1, hp => by
    have ih := rch_lt (r := r) hR p (by omega)
    rw [rch]
    split
    · exact rin_lt hR hp ih n (Nat.le_refl _)
    · exact ih
theorem nI_is1 {q i : Nat} : (nI (tb q i) = 1) ↔ tb q i = 1 := nI_eq (b := 1) (by have := tb_lt q i; omega) (by decide)
theorem l_fr50 (N : Nat) (hN : 10000 ≤ N) {n p r acc : Nat} {R : Nat → Nat} {κ : Mem} (h8 : n ≤ 8) (hp : p < 2 ^ n) (hr : r < n) (hR : ∀ x, x < 2 ^ n → gI κ 33 x = nI (R x)) (ha : gI κ 35 r = nI acc) (K : Mem → Option (Unit × Mem)) : ∃ κ', lp_X_findReach_50 N (nI n) (nI p) (nI r) K N 0 κ = K κ' ∧ gI κ' 35 r = nI (rin R p acc n) ∧ Fr (fun q k => q = 35 ∧ k = r) κ κ' := by
  have p8 := pow8 h8
  obtain ⟨κ', ⟨k1, k2⟩, e⟩ := for_up (fun n' i ν => lp_X_findReach_50 N (nI n) (nI p) (nI r) K n' i ν) K n (fun i ν => Fr (fun q k => q = 35 ∧ k = r) κ ν ∧ gI ν 35 r = nI (rin R p acc i))
    (by
      intro n' i ν hi ⟨i1, i2⟩
      have fl := fx_lt hp hi
      have a1 : gI ν 33 p = nI (R p) := by rw [i1.I (by omega)]; exact hR p hp
      have a2 : gI ν 33 (p ^^^ 2 ^ i) = nI (R (p ^^^ 2 ^ i)) := by rw [i1.I (by omega)]; exact hR _ fl
      by_cases z : tb p i = 1
      · refine ⟨sI ν 35 r (nI (rin R p acc (i + 1))), ⟨i1.sI ⟨rfl, rfl⟩, by simp [gI_sI, gL_sL, gR_sR, gI_sL, gI_sR, gL_sI, gL_sR, gR_sI, gR_sL]⟩, ?_⟩
        rw [lp_X_findReach_50, if_pos (nI_lt hi (by omega)), ltE, bitI (by omega) (by omega), if_pos (nI_is1.mpr z), one_shl (by omega), xorI, inb_nI (show r < 8 by omega) (by omega), inb_nI (show p < 256 by omega) (by omega), inb_nI (show p ^^^ 2 ^ i < 256 by omega) (by omega), ck_tt, ck_tt, ck_tt, ck_tt, tn_nI (show r < 2 ^ 31 by omega), tn_nI (show p < 2 ^ 31 by omega), tn_nI (show p ^^^ 2 ^ i < 2 ^ 31 by omega), a1, a2, i2, xorI, orI, ltE]; dsimp only; rw [ltE, nI_1, rin, if_pos z]
      · refine ⟨ν, ⟨i1, by rw [i2, rin, if_neg z]⟩, ?_⟩
        rw [lp_X_findReach_50, if_pos (nI_lt hi (by omega)), ltE, bitI (by omega) (by omega), if_neg (fun q => z (nI_is1.mp q))]; dsimp only; rw [ltE, nI_1])
    (by
      intro n' ν _
      rw [lp_X_findReach_50, if_neg (nI_nlt (Nat.le_refl _) (by omega))])
    n 0 N κ (by omega) (by omega) ⟨Fr.rf κ, ha⟩
  exact ⟨κ', e, k2, k1⟩
theorem rch_1 (R : Nat → Nat) {n r : Nat} (hr : r < n) : rch R n r 1 = 0 := by
  rw [rch, rch, if_neg]
  have : pop8 0 = 0 := by decide
  omega
theorem sX_findReach (N : Nat) (hN : 10000 ≤ N) {q n : Nat} {cs : List (Nat × Nat)} {μ : Mem} (hq : NX μ q n cs) (w : WN n cs) (hpq : q + 2 < 27) : ∃ μ', f_X_findReach N q μ = some ((), μ') ∧ (∀ r, r < n → gI μ' 35 r = nI (rch (rt cs) n r (2 ^ n))) ∧ Fr (rg 27 35) μ μ' := by
  have h8 := w.2.1
  have p8 := pow8 h8
  have pp := Nat.two_pow_pos n
  obtain ⟨μ1, e1, r1, f1⟩ := sX_results N hN hq w hpq
  obtain ⟨μ2, ⟨j1, j2⟩, e2⟩ := for_up (fun n' i ν => lp_X_findReach_12 N (nI n) (fun μ8 => lp_X_findReach_32 N (nI n) (fun μ25 => some ((), μ25)) N 1 μ8) n' i ν) (fun μ8 => lp_X_findReach_32 N (nI n) (fun μ25 => some ((), μ25)) N 1 μ8) n (fun i κ => Fr (rg 35 35) μ1 κ ∧ ∀ r, r < i → gI κ 35 r = nI 0)
    (by
      intro n' i κ hi ⟨i1, i2⟩
      refine ⟨sI κ 35 i 0, ⟨i1.sI (rgi (by omega) (by omega)), fun y hy => ?_⟩, ?_⟩
      · by_cases e : y = i
        · subst e; simp [gI_sI, gL_sL, gR_sR, gI_sL, gI_sR, gL_sI, gL_sR, gR_sI, gR_sL]; rfl
        · simp [gI_sI, gL_sL, gR_sR, gI_sL, gI_sR, gL_sI, gL_sR, gR_sI, gR_sL, e, i2 y (by omega)]
      · rw [lp_X_findReach_12, if_pos (nI_lt hi (by omega)), inb_nI (by omega) (by omega), ck_tt, tn_nI (by omega), ltE, ltE, nI_1])
    (by
      intro n' κ _
      rw [lp_X_findReach_12, if_neg (nI_nlt (Nat.le_refl _) (by omega))])
    n 0 N μ1 (by omega) (by omega) ⟨Fr.rf μ1, fun y hy => by omega⟩
  obtain ⟨μ3, ⟨-, k1, k2⟩, e3⟩ := for_up (fun n' i ν => lp_X_findReach_32 N (nI n) (fun μ25 => some ((), μ25)) n' i ν) (fun μ25 => some ((), μ25)) (2 ^ n) (fun i κ => 1 ≤ i ∧ Fr (rg 35 35) μ1 κ ∧ ∀ r, r < n → gI κ 35 r = nI (rch (rt cs) n r i))
    (by
      intro n' i κ hi ⟨i0, i1, i2⟩
      obtain ⟨q1, q2⟩ := pop_n n (by omega) i hi
      have q3 := q2 i0
      have hR : ∀ x, x < 2 ^ n → gI κ 33 x = nI (rt cs x) := fun x hx => by rw [i1.I (rgo (by omega))]; exact r1 x hx
      obtain ⟨κ', e', v', f'⟩ := l_fr50 N hN h8 hi (show n - pop8 i < n by omega) hR (i2 (n - pop8 i) (by omega)) (fun μ23 => lt' (nI i + 1) fun v24 => lp_X_findReach_32 N (nI n) (fun μ25 => some ((), μ25)) n' v24 μ23)
      refine ⟨κ', ⟨(by omega), i1.tr (f'.mono (fun q k z => ⟨by omega, by omega⟩)), fun r hr => ?_⟩, ?_⟩
      · by_cases e : r = n - pop8 i
        · subst e
          rw [v', rch, if_pos (by omega)]
        · rw [f'.I (by omega), i2 r hr, rch, if_neg (by omega)]
      · rw [lp_X_findReach_32, one_shl (by omega), if_pos (nI_lt hi (by omega)), sIPop N (by omega), bnd_some, pk_sub q1, ltE, e', ltE, nI_1])
    (by
      intro n' κ _
      rw [lp_X_findReach_32, one_shl (by omega), if_neg (nI_nlt (Nat.le_refl _) (by omega))])
    (2 ^ n - 1) 1 N μ2 (by omega) (by omega) ⟨Nat.le_refl _, j1, fun r hr => by rw [rch_1 _ hr]; exact j2 r hr⟩
  refine ⟨μ3, ?_, k2, (f1.wide (by omega) (by omega)).tr (k1.wide (by omega) (by omega))⟩
  unfold f_X_findReach
  rw [hq.1, ltE, e1, bnd_some]
  exact Eq.trans e2 e3
theorem l_wo48 (N : Nat) (hN : 10000 ≤ N) {s n p acc : Nat} {cs : List (Nat × Nat)} {κ : Mem} (x2 : Int32) (m : NM κ s n cs) (w : WN n cs) (hs : s < 4) (hp : p < 2 ^ n) (K : Int32 → Mem → Option (Int32 × Mem)) : ∃ κ', lp_M_wiresOf_48 N (nI s) x2 (nI p) (nI (rt cs p)) K N (nI acc) 0 κ = K (nI (rin (rt cs) p acc n)) κ' ∧ Fr mB κ κ' := by
  have h8 := w.2.1
  have p8 := pow8 h8
  obtain ⟨⟨r, κ'⟩, ⟨k1, k2⟩, e⟩ := for_up (fun n' i (q : Int32 × Mem) => lp_M_wiresOf_48 N (nI s) x2 (nI p) (nI (rt cs p)) K n' q.1 i q.2) (fun q => K q.1 q.2) n (fun i q => q.1 = nI (rin (rt cs) p acc i) ∧ Fr mB κ q.2)
    (by
      intro n' i ⟨r, ν⟩ hi ⟨i1, i2⟩
      dsimp only at i1 i2
      subst i1
      have mk := m.fr i2 (fun q k _ _ z => by unfold mB at z; omega)
      have fl := fx_lt hp hi
      by_cases z : tb p i = 1
      · obtain ⟨κ', e', b', f'⟩ := sM_result N hN mk w hs fl (-1) b0 hb0 0 (by decide)
        have e'' : f_M_result N (nI s) (nI (p ^^^ 2 ^ i)) (-1) 0 ν = some (nI (rt cs (p ^^^ 2 ^ i)), κ') := e'
        refine ⟨(nI (rin (rt cs) p acc (i + 1)), κ'), ⟨rfl, i2.tr f'⟩, ?_⟩
        dsimp only
        rw [lp_M_wiresOf_48, inb_nI hs (by omega), ck_tt, tn_nI (by omega), mk.1, if_pos (nI_lt hi (by omega)), ltE, bitI (by omega) (by omega), if_pos (nI_is1.mpr z), one_shl (by omega), xorI, e'', bnd_some, xorI]; dsimp only; rw [orI, ltE, ltE, nI_1, rin, if_pos z]
      · refine ⟨(nI (rin (rt cs) p acc (i + 1)), ν), ⟨rfl, i2⟩, ?_⟩
        dsimp only
        rw [lp_M_wiresOf_48, inb_nI hs (by omega), ck_tt, tn_nI (by omega), mk.1, if_pos (nI_lt hi (by omega)), ltE, bitI (by omega) (by omega), if_neg (fun q => z (nI_is1.mp q)), show (0 : Int32) = nI 0 from rfl]; dsimp only; rw [orI, ltE, ltE, nI_1, rin, if_neg z, Nat.or_zero])
    (by
      intro n' ⟨r, ν⟩ ⟨i1, i2⟩
      dsimp only at i1 i2 ⊢
      have mk := m.fr i2 (fun q k _ _ z => by unfold mB at z; omega)
      rw [lp_M_wiresOf_48, inb_nI hs (by omega), ck_tt, tn_nI (by omega), mk.1, if_neg (nI_nlt (Nat.le_refl _) (by omega))])
    n 0 N (nI acc, κ) (by omega) (by omega) ⟨rfl, Fr.rf κ⟩
  dsimp only at k1 k2 e
  subst k1
  exact ⟨κ', e, k2⟩
theorem sM_wiresOf (N : Nat) (hN : 10000 ≤ N) {s n r : Nat} {cs : List (Nat × Nat)} {μ : Mem} (m : NM μ s n cs) (w : WN n cs) (hs : s < 4) (hr : r < n) : ∃ μ', f_M_wiresOf N (nI s) (nI r) μ = some (nI (rch (rt cs) n r (2 ^ n)), μ') ∧ Fr mB μ μ' := by
  have h8 := w.2.1
  have p8 := pow8 h8
  obtain ⟨⟨v, μ'⟩, ⟨k1, k2⟩, e⟩ := for_up (fun n' i (q : Int32 × Mem) => lp_M_wiresOf_5 N (nI s) (nI r) (fun v26 μ27 => some (v26, μ27)) n' q.1 i q.2) (fun q => some (q.1, q.2)) (2 ^ n) (fun i q => q.1 = nI (rch (rt cs) n r i) ∧ Fr mB μ q.2)
    (by
      intro n' i ⟨v, κ⟩ hi ⟨i1, i2⟩
      dsimp only at i1 i2
      subst i1
      have mk := m.fr i2 (fun q k _ _ z => by unfold mB at z; omega)
      obtain ⟨q1, -⟩ := pop_n n (by omega) i hi
      have c : (nI (pop8 i) = nI (n - r)) ↔ pop8 i + r = n := by
        rw [nI_eq (by omega) (by omega)]; omega
      by_cases z : pop8 i + r = n
      · obtain ⟨κ', e', b', f'⟩ := sM_result N hN mk w hs hi (-1) b0 hb0 0 (by decide)
        have e'' : f_M_result N (nI s) (nI i) (-1) 0 κ = some (nI (rt cs i), κ') := e'
        have mk' := mk.fr f' (fun q k _ _ z => by unfold mB at z; omega)
        obtain ⟨κ2, e2, f2⟩ := l_wo48 N hN (acc := rch (rt cs) n r i) (nI r) mk' w hs hi (fun v24 μ25 => lt' (nI i + 1) fun v10 => lp_M_wiresOf_5 N (nI s) (nI r) (fun v26 μ27 => some (v26, μ27)) n' v24 v10 μ25)
        refine ⟨(nI (rch (rt cs) n r (i + 1)), κ2), ⟨rfl, (i2.tr f').tr f2⟩, ?_⟩
        dsimp only
        rw [lp_M_wiresOf_5, sM_all N mk hs h8, bnd_some, if_pos (nI_lt hi (by omega)), sIPop N (by omega), bnd_some, inb_nI hs (by omega), ck_tt, tn_nI (by omega), mk.1, pk_sub (by omega), ltE, if_pos (c.mpr z), e'', bnd_some]
        refine Eq.trans e2 ?_
        rw [ltE, nI_1, rch, if_pos z]
      · refine ⟨(nI (rch (rt cs) n r (i + 1)), κ), ⟨rfl, i2⟩, ?_⟩
        dsimp only
        rw [lp_M_wiresOf_5, sM_all N mk hs h8, bnd_some, if_pos (nI_lt hi (by omega)), sIPop N (by omega), bnd_some, inb_nI hs (by omega), ck_tt, tn_nI (by omega), mk.1, pk_sub (by omega), ltE, if_neg (fun q => z (c.mp q))]; dsimp only; rw [ltE, nI_1, rch, if_neg z])
    (by
      intro n' ⟨v, κ⟩ ⟨i1, i2⟩
      dsimp only at i1 i2 ⊢
      have mk := m.fr i2 (fun q k _ _ z => by unfold mB at z; omega)
      rw [lp_M_wiresOf_5, sM_all N mk hs h8, bnd_some, if_neg (nI_nlt (Nat.le_refl _) (by omega))])
    (2 ^ n) 0 N (0, μ) (by omega) (by omega) ⟨rfl, Fr.rf μ⟩
  dsimp only at k1 k2 e
  subst k1
  exact ⟨μ', e, k2⟩
theorem sX_tellBits (N : Nat) {v : Nat} (hv : v < 256) (μ : Mem) : ∃ μ', f_X_tellBits N (nI v) μ = some (nI v, μ') ∧ RX μ' [(nI (pop8 v)).toInt64] ∧ Fr (rg 16 17) μ μ' := by
  obtain ⟨μ3, e3, r3, f3⟩ := sNum_clear N μ
  obtain ⟨μ4, e4, r4, f4⟩ := sNum_append N (nI (pop8 v)).toInt64 r3 (by decide)
  refine ⟨μ4, ?_, r4, f3.tr f4⟩
  unfold f_X_tellBits
  rw [e3, bnd_some, sIPop N hv, bnd_some, e4, bnd_some]
theorem op_ranks (N : Nat) (hN : 10000 ≤ N) (x y : Int32) : OpEq (f_X_ranks N x y) (f_M_ranks N x y) := by
  refine op_of (fX := fun x => f_X_ranks N x y) (fM := fun x => f_M_ranks N x y) (-1) (fun x h μ => by simp [f_X_ranks, isNet_out N h, bnd_some]) (fun x h μ => by simp [f_M_ranks, mNet_out N h, bnd_some, lt']) (fun s hs μ σ hw hx => ?_) x
  have w := hw.1 s hs
  have nx := hx.1 s hs
  generalize hcs : (σ.1 s).2 = cs at *
  generalize hnn : (σ.1 s).1 = n at *
  have h8 := w.2.1
  have p8 := pow8 h8
  have n2 := w.1
  rcases ix4 y n (by omega) with hp | ⟨r, hr, rfl⟩
  · refine g_no hw hx (-1) (by simp (disch := omega) [f_X_ranks, isNet_in N hs, sNet_isWireNo N nx hp, lt', bnd_some, ck_tt, inb_nI, tn_nI, fa_lit, nI_add, pk_mul, nI_ltI, nI_eq]) (fun μ ν hν hm => ?_)
    have m := hm.1 s hs
    rw [hcs, hnn] at m
    unfold f_M_ranks
    rw [ltE, ← hν, mNet_in N hs, bnd_some, if_neg (by decide), mWire_out N m hs (by omega) (by omega) hp, bnd_some, if_pos rfl]
  have hv := rch_lt (r := r) (R := rt cs) (n := n) (fun x hx => rt_lt w hx) (2 ^ n) (Nat.le_refl _)
  refine g_q hw hx (nI (rch (rt cs) n r (2 ^ n))) [(nI (pop8 (rch (rt cs) n r (2 ^ n)))).toInt64] (by simp) ?_ (fun μ ν hν hm => ?_)
  · obtain ⟨μ1, e1, r1, f1⟩ := sX_findReach N hN nx w (by omega)
    obtain ⟨μ2, e2, r2, f2⟩ := sX_tellBits N (v := rch (rt cs) n r (2 ^ n)) (by omega) μ1
    refine ⟨μ2, ?_, r2, (f1.wide (by omega) (by omega)).tr (f2.wide (by omega) (by omega))⟩
    unfold f_X_ranks
    rw [isNet_in N hs, bnd_some, if_neg (by decide), inb_nI hs (by omega), ck_tt, tn_nI (show s < 2 ^ 31 by omega), sNet_isWire N nx hr (by omega), bnd_some, if_neg (by decide), ck_tt, e1, bnd_some, inb_nI (by omega) (by omega), ck_tt, tn_nI (by omega), r1 r hr, e2, bnd_some]
  · have m := hm.1 s hs
    rw [hcs, hnn] at m
    obtain ⟨ν1, g1, h1⟩ := sM_wiresOf N hN m w hs hr
    obtain ⟨ν2, g2, q2, h2⟩ := sM_tellsOne N ν1 (nI (pop8 (rch (rt cs) n r (2 ^ n)))).toInt64
    refine ⟨ν2, ?_, q2, (mS_mQ (mB_mS h1)).tr (mR_mQ h2)⟩
    unfold f_M_ranks
    rw [ltE, ← hν, mNet_in N hs, bnd_some, if_neg (by decide), mWire_in N m hs hr (by omega), bnd_some, if_neg (by decide), g1, bnd_some, sIPop N (by omega), bnd_some, g2, bnd_some]
def lvs (R : Nat → Nat) (n w : Nat) : Nat → Nat
  | 0 => 0
  | r + 1 => lvs R n w r ||| tb (rch R n r (2 ^ n)) w * 2 ^ r
theorem lvs_lt (R : Nat → Nat) (n w : Nat) : ∀ r, lvs R n w r < 2 ^ r
  | 0 => by simp [lvs]
  | r + 1 => by
    have ih := lvs_lt R n w r
    have t := tb_lt (rch R n r (2 ^ n)) w
    have e : 2 ^ r < 2 ^ (r + 1) := Nat.pow_lt_pow_right (by decide) (by omega)
    have t2 : tb (rch R n r (2 ^ n)) w * 2 ^ r ≤ 1 * 2 ^ r := Nat.mul_le_mul_right _ (by omega)
    rw [lvs]
    exact Nat.or_lt_two_pow (by omega) (by omega)
theorem tb_sh' {q v i : Nat} (h : i ≤ 8) : tb q v * 2 ^ i < 2 ^ 32 := by
  have := tb_lt q v
  exact Nat.lt_of_le_of_lt (Nat.mul_le_mul (show tb q v ≤ 1 by omega) (Nat.pow_le_pow_right (by decide) h)) (by decide)
theorem op_leaves (N : Nat) (hN : 10000 ≤ N) (x y : Int32) : OpEq (f_X_leaves N x y) (f_M_leaves N x y) := by
  refine op_of (fX := fun x => f_X_leaves N x y) (fM := fun x => f_M_leaves N x y) (-1) (fun x h μ => by simp [f_X_leaves, isNet_out N h, bnd_some]) (fun x h μ => by simp [f_M_leaves, mNet_out N h, bnd_some, lt']) (fun s hs μ σ hw hx => ?_) x
  have w := hw.1 s hs
  have nx := hx.1 s hs
  generalize hcs : (σ.1 s).2 = cs at *
  generalize hnn : (σ.1 s).1 = n at *
  have h8 := w.2.1
  have p8 := pow8 h8
  have n2 := w.1
  rcases ix4 y n (by omega) with hp | ⟨v, hv, rfl⟩
  · refine g_no hw hx (-1) (by simp (disch := omega) [f_X_leaves, isNet_in N hs, sNet_isWireNo N nx hp, lt', bnd_some, ck_tt, inb_nI, tn_nI, fa_lit, nI_add, pk_mul, nI_ltI, nI_eq]) (fun μ ν hν hm => ?_)
    have m := hm.1 s hs
    rw [hcs, hnn] at m
    unfold f_M_leaves
    rw [ltE, ← hν, mNet_in N hs, bnd_some, if_neg (by decide), mWire_out N m hs (by omega) (by omega) hp, bnd_some, if_pos rfl]
  have hR : ∀ r, rch (rt cs) n r (2 ^ n) < 2 ^ n := fun r => rch_lt (r := r) (R := rt cs) (n := n) (fun x hx => rt_lt w hx) (2 ^ n) (Nat.le_refl _)
  have hL := lvs_lt (rt cs) n v n
  refine g_q hw hx (nI (lvs (rt cs) n v n)) [(nI (pop8 (lvs (rt cs) n v n))).toInt64] (by simp) ?_ (fun μ ν hν hm => ?_)
  · obtain ⟨μ1, e1, r1, f1⟩ := sX_findReach N hN nx w (by omega)
    have n1 := nx.frg f1 (by omega)
    obtain ⟨μ2, e2, r2, f2⟩ := sX_tellBits N (v := lvs (rt cs) n v n) (by omega) μ1
    have key : ∀ K : Int32 → Mem → Option (Int32 × Mem), lp_X_leaves_37 N (nI s) (nI v) K N 0 0 μ1 = K (nI (lvs (rt cs) n v n)) μ1 := by
      intro K
      obtain ⟨⟨r, κ⟩, ⟨k1, k2⟩, e⟩ := for_up (fun n' i (q : Int32 × Mem) => lp_X_leaves_37 N (nI s) (nI v) K n' q.1 i q.2) (fun q => K q.1 q.2) n (fun i q => q.1 = nI (lvs (rt cs) n v i) ∧ q.2 = μ1)
        (by
          intro n' i ⟨r, κ⟩ hi ⟨i1, i2⟩
          dsimp only at i1 i2
          subst i1; subst i2
          refine ⟨(nI (lvs (rt cs) n v (i + 1)), κ), ⟨rfl, rfl⟩, ?_⟩
          dsimp only
          have := hR i
          rw [lp_X_leaves_37, inb_nI hs (by omega), ck_tt, tn_nI (show s < 2 ^ 31 by omega), n1.1, if_pos (nI_lt hi (by omega)), inb_nI (show i < 8 by omega) (by omega), ck_tt, tn_nI (show i < 2 ^ 31 by omega), r1 i hi, bitI (by omega) (by omega), shlI_nI (by omega) (tb_sh' (by omega)), orI, ltE, ltE, nI_1, lvs])
        (by
          intro n' ⟨r, κ⟩ ⟨i1, i2⟩
          dsimp only at i1 i2 ⊢
          subst i2
          rw [lp_X_leaves_37, inb_nI hs (by omega), ck_tt, tn_nI (show s < 2 ^ 31 by omega), n1.1, if_neg (nI_nlt (Nat.le_refl _) (by omega))])
        n 0 N (0, μ1) (by omega) (by omega) ⟨rfl, rfl⟩
      dsimp only at k1 k2 e
      subst k1; subst k2
      exact e
    refine ⟨μ2, ?_, r2, (f1.wide (by omega) (by omega)).tr (f2.wide (by omega) (by omega))⟩
    unfold f_X_leaves
    rw [isNet_in N hs, bnd_some, if_neg (by decide), inb_nI hs (by omega), ck_tt, tn_nI (show s < 2 ^ 31 by omega), sNet_isWire N nx hv (by omega), bnd_some, if_neg (by decide), ck_tt, e1, bnd_some, key, e2, bnd_some]
  · have m := hm.1 s hs
    rw [hcs, hnn] at m
    have key : ∀ K : Int32 → Mem → Option (Int32 × Mem), ∃ κ, Fr mB ν κ ∧ lp_M_leaves_28 N (nI s) (nI v) K N 0 0 ν = K (nI (lvs (rt cs) n v n)) κ := by
      intro K
      obtain ⟨⟨r, κ⟩, ⟨k1, k2⟩, e⟩ := for_up (fun n' i (q : Int32 × Mem) => lp_M_leaves_28 N (nI s) (nI v) K n' q.1 i q.2) (fun q => K q.1 q.2) n (fun i q => q.1 = nI (lvs (rt cs) n v i) ∧ Fr mB ν q.2)
        (by
          intro n' i ⟨r, κ⟩ hi ⟨i1, i2⟩
          dsimp only at i1 i2
          subst i1
          have mk := m.fr i2 (fun q k _ _ z => by unfold mB at z; omega)
          obtain ⟨κ', e', f'⟩ := sM_wiresOf N hN mk w hs hi
          refine ⟨(nI (lvs (rt cs) n v (i + 1)), κ'), ⟨rfl, i2.tr f'⟩, ?_⟩
          dsimp only
          have := hR i
          rw [lp_M_leaves_28, inb_nI hs (by omega), ck_tt, tn_nI (show s < 2 ^ 31 by omega), mk.1, if_pos (nI_lt hi (by omega)), e', bnd_some, bitI (by omega) (by omega), shlI_nI (by omega) (tb_sh' (by omega)), orI, ltE, ltE, nI_1, lvs])
        (by
          intro n' ⟨r, κ⟩ ⟨i1, i2⟩
          dsimp only at i1 i2 ⊢
          have mk := m.fr i2 (fun q k _ _ z => by unfold mB at z; omega)
          rw [lp_M_leaves_28, inb_nI hs (by omega), ck_tt, tn_nI (show s < 2 ^ 31 by omega), mk.1, if_neg (nI_nlt (Nat.le_refl _) (by omega))])
        n 0 N (0, ν) (by omega) (by omega) ⟨rfl, Fr.rf ν⟩
      dsimp only at k1 k2 e
      subst k1
      exact ⟨κ, k2, e⟩
    obtain ⟨ν1, h1, g1⟩ := key (fun v14 μ15 => bnd (f_JInt_bitCount N v14 μ15) fun r16 μ17 => bnd (f_M_tellsOne N (Int32.toInt64 r16) μ17) fun _ μ19 => some (v14, μ19))
    obtain ⟨ν2, g2, q2, h2⟩ := sM_tellsOne N ν1 (nI (pop8 (lvs (rt cs) n v n))).toInt64
    refine ⟨ν2, ?_, q2, (mS_mQ (mB_mS h1)).tr (mR_mQ h2)⟩
    unfold f_M_leaves
    rw [ltE, ← hν, mNet_in N hs, bnd_some, if_neg (by decide), mWire_in N m hs hv (by omega), bnd_some, if_neg (by decide)]
    refine Eq.trans g1 ?_
    rw [sIPop N (by omega), bnd_some, g2, bnd_some]

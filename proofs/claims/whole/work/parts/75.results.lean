/-! all results, one by one -/
theorem md_succ (q w : Nat) : q % 2 ^ (w + 1) = q % 2 ^ w ||| tb q w * 2 ^ w := by
  rw [Nat.mod_pow_succ, Nat.add_comm, Nat.two_pow_add_eq_or_of_lt (Nat.mod_lt _ (Nat.two_pow_pos w)), Nat.or_comm, Nat.mul_comm]
  rfl
theorem tbL {n : Nat} {W : Nat → Nat → Int64} {P : Nat → Nat} (g : Bits n W P) (h8 : n ≤ 8) {x w : Nat} (hx : x < 2 ^ n) (hw : w < n) : Int64.toInt32 (ushL (W w (x / 64)) (nI (x % 64)) &&& 1) = nI (tb (P x) w) := by
  have b64 := bks_64 n (by omega)
  have t := tb_lt (P x) w
  have e := g w hw (x / 64) (by omega) (x % 64) (by omega)
  rw [show 64 * (x / 64) + x % 64 = x by omega] at e
  rw [and1L, lb_ush _ (by omega), Nat.add_zero, e]
  by_cases z : tb (P x) w = 1
  · rw [if_pos (by simp [hx, z]), z]; rfl
  · have : tb (P x) w = 0 := (by omega)
    rw [if_neg (by simp [z]), this]; rfl
theorem tb_sh {q i : Nat} (h : i ≤ 8) : tb q i * 2 ^ i < 2 ^ 32 := by
  have := tb_lt q i
  exact Nat.lt_of_le_of_lt (Nat.mul_le_mul (show tb q i ≤ 1 by omega) (Nat.pow_le_pow_right (by decide) h)) (by decide)
theorem l_lr23 (N : Nat) (hN : 10000 ≤ N) {p n x : Nat} {W : Nat → Nat → Int64} {P : Nat → Nat} {κ : Mem} (h : TRW κ p n W) (g : Bits n W P) (h8 : n ≤ 8) (hx : x < 2 ^ n) (hP : P x < 2 ^ n) (K : Int32 → Mem → Option (Unit × Mem)) : lp_Trial_listResults_23 N p (nI x) K N 0 0 κ = K (nI (P x)) κ := by
  have p8 := pow8 h8
  have b64 := bks_64 n (by omega)
  have bb := bks_b n (by omega)
  have e6 : shrI (nI x) 6 = nI (x / 64) := shrI_nI (i := 6) (by omega) (by decide)
  have e63 : nI x &&& 63 = nI (x % 64) := (ps_ix (by omega)).2
  obtain ⟨⟨r, κ'⟩, ⟨k1, k2⟩, e⟩ := for_up (fun n' i (q : Int32 × Mem) => lp_Trial_listResults_23 N p (nI x) K n' q.1 i q.2) (fun q => K q.1 q.2) n (fun i q => q.1 = nI (P x % 2 ^ i) ∧ q.2 = κ)
    (by
      intro n' i ⟨r, κ2⟩ hi ⟨i1, i2⟩
      dsimp only at i1 i2
      subst i1; subst i2
      refine ⟨(nI (P x % 2 ^ (i + 1)), κ2), ⟨rfl, rfl⟩, ?_⟩
      dsimp only
      have a1 := h.2.2 i hi (x / 64) (by omega)
      rw [lp_Trial_listResults_23, h.1, if_pos (nI_lt hi (by omega)), e6, e63, show (4 : Int32) = nI 4 from rfl, pk_mul, nI_add, inb_nI (by omega) (by omega), ck_tt, tn_nI (by omega), a1]
      simp only [lt']
      rw [tbL g h8 hx hi, shlI_nI (by omega) (tb_sh (by omega)), orI, ← md_succ, nI_1])
    (by
      intro n' ⟨r, κ2⟩ ⟨i1, i2⟩
      dsimp only at i1 i2 ⊢
      subst i2
      rw [lp_Trial_listResults_23, h.1, if_neg (nI_nlt (Nat.le_refl _) (by omega))])
    n 0 N (0, κ) (by omega) (by omega) ⟨by rw [Nat.pow_zero, Nat.mod_one]; rfl, rfl⟩
  dsimp only at k1 k2 e
  subst k1; subst k2
  rw [Nat.mod_eq_of_lt hP] at e
  exact e
theorem sTr_list (N : Nat) (hN : 10000 ≤ N) {p n : Nat} {W : Nat → Nat → Int64} {P : Nat → Nat} {μ : Mem} (h : TRW μ p n W) (g : Bits n W P) (h8 : n ≤ 8) (hp : p + 1 < 33) (hP : ∀ x, x < 2 ^ n → P x < 2 ^ n) : ∃ μ', f_Trial_listResults N p μ = some ((), μ') ∧ (∀ x, x < 2 ^ n → gI μ' 33 x = nI (P x)) ∧ Fr (rg 33 33) μ μ' := by
  have p8 := pow8 h8
  obtain ⟨μ', ⟨k1, k2⟩, e⟩ := for_up (fun n' i ν => lp_Trial_listResults_2 N p (fun μ13 => some ((), μ13)) n' i ν) (fun ν => some ((), ν)) (2 ^ n) (fun i κ => Fr (rg 33 33) μ κ ∧ ∀ x, x < i → gI κ 33 x = nI (P x))
    (by
      intro n' i κ hi ⟨i1, i2⟩
      have a0 : gI κ p 1 = nI n := by rw [i1.I (rgo (by omega))]; exact h.1
      refine ⟨sI κ 33 i (nI (P i)), ⟨i1.sI (rgi (by omega) (by omega)), fun x hx => ?_⟩, ?_⟩
      · by_cases e : x = i
        · subst e; simp [gI_sI, gL_sL, gR_sR, gI_sL, gI_sR, gL_sI, gL_sR, gR_sI, gR_sL]
        · simp [gI_sI, gL_sL, gR_sR, gI_sL, gI_sR, gL_sI, gL_sR, gR_sI, gR_sL, e, i2 x (by omega)]
      · rw [lp_Trial_listResults_2, a0, one_shl (by omega), if_pos (nI_lt hi (by omega)), if_pos (show nI i < Int32.ofNat 256 from nI_lt (b := 256) (by omega) (by omega)), l_lr23 N hN (h.frg i1 (by omega)) g h8 hi (hP i hi), inb_nI (by omega) (by omega), ck_tt, tn_nI (by omega)]
        simp only [lt']
        rw [nI_1])
    (by
      intro n' κ ⟨i1, i2⟩
      have a0 : gI κ p 1 = nI n := by rw [i1.I (rgo (by omega))]; exact h.1
      rw [lp_Trial_listResults_2, a0, one_shl (by omega), if_neg (nI_nlt (Nat.le_refl _) (by omega))])
    (2 ^ n) 0 N μ (by omega) (by omega) ⟨Fr.rf μ, fun x hx => by omega⟩
  exact ⟨μ', e, k2, k1⟩
/-- result of pattern x -/
def rt (cs : List (Nat × Nat)) (x : Nat) : Nat := rs cs b0 0 x cs.length
theorem rt_lt {n : Nat} {cs : List (Nat × Nat)} (w : WN n cs) {x : Nat} (hx : x < 2 ^ n) : rt cs x < 2 ^ n := rs_lt w hx _ (Nat.le_refl _)
theorem sX_results (N : Nat) (hN : 10000 ≤ N) {q n : Nat} {cs : List (Nat × Nat)} {μ : Mem} (hq : NX μ q n cs) (w : WN n cs) (hpq : q + 2 < 27) : ∃ μ', f_X_findResults N q μ = some ((), μ') ∧ (∀ x, x < 2 ^ n → gI μ' 33 x = nI (rt cs x)) ∧ Fr (rg 27 33) μ μ' := by
  obtain ⟨μ1, e1, t1, f1⟩ := sTr_start N hN (p := 27) w.1 w.2.1 μ
  have hq1 : NX μ1 q n cs := hq.frg f1 (by omega)
  obtain ⟨μ2, e2, t2, f2⟩ := sTr_runPart N hN t1 hq1 w (by omega) (Nat.zero_le _) (Nat.le_refl cs.length)
  have bt := Bits.rp (b := b0) (how := 0) (a := 0) w (Bits.st cs _ 0 w.1 w.2.1) cs.length (by omega) (fun _ _ _ => rfl)
  rw [Nat.sub_zero] at t2
  rw [Nat.zero_add] at bt
  obtain ⟨μ3, e3, g3, f3⟩ := sTr_list N hN t2 bt w.2.1 (by omega) (fun x hx => rt_lt w hx)
  refine ⟨μ3, ?_, g3, ((f1.wide (by omega) (by omega)).tr (f2.wide (by omega) (by omega))).tr (f3.wide (by omega) (by omega))⟩
  unfold f_X_findResults
  rw [hq.1, e1, bnd_some, hq1.2.1, show (0 : Int32) = nI 0 from rfl, e2, bnd_some, e3, bnd_some]
def imR (R : Nat → Nat) : Nat → Nat → Bool
  | 0, _ => false
  | m + 1, y => imR R m y || decide (y = R m)
theorem imR_t (R : Nat → Nat) (y : Nat) : ∀ m, imR R m y = true ↔ ∃ x, x < m ∧ R x = y
  | 0 => by simp [imR]
  | m + 1 => by
    rw [imR, Bool.or_eq_true, imR_t R y m, decide_eq_true_iff]
    constructor
    · rintro (⟨x, h1, h2⟩ | h)
      · exact ⟨x, (by omega), h2⟩
      · exact ⟨m, (by omega), h.symm⟩
    · rintro ⟨x, h1, h2⟩
      by_cases e : x = m
      · subst e; exact Or.inr h2.symm
      · exact Or.inl ⟨x, (by omega), h2⟩
theorem imR_lt {n : Nat} {cs : List (Nat × Nat)} (w : WN n cs) {y : Nat} (h : imR (rt cs) (2 ^ n) y = true) : y < 2 ^ n := by
  obtain ⟨x, h1, h2⟩ := (imR_t _ _ _).mp h
  rw [← h2]; exact rt_lt w h1
theorem sX_takeImage (N : Nat) (hN : 10000 ≤ N) {q n : Nat} {cs : List (Nat × Nat)} {μ : Mem} (hq : NX μ q n cs) (w : WN n cs) (hpq : q + 2 < 27) : ∃ μ', f_X_takeImage N q μ = some ((), μ') ∧ PS μ' (imR (rt cs) (2 ^ n)) ∧ Fr (rg 27 33) μ μ' := by
  have h8 := w.2.1
  have p8 := pow8 h8
  obtain ⟨μ1, e1, r1, f1⟩ := sX_results N hN hq w hpq
  obtain ⟨μ2, e2, g2, f2⟩ := sPS_clear N hN μ1
  have n2 : NX μ2 q n cs := (hq.frg f1 (by omega)).frg f2 (by omega)
  obtain ⟨μ', ⟨k1, k2⟩, e⟩ := for_up (fun n' i ν => lp_X_takeImage_14 N q (fun μ10 => some ((), μ10)) n' i ν) (fun ν => some ((), ν)) (2 ^ n) (fun i κ => Fr (rg 32 32) μ2 κ ∧ PS κ (imR (rt cs) i))
    (by
      intro n' i κ hi ⟨i1, i2⟩
      have a0 : gI κ q 0 = nI n := by rw [i1.I (rgo (by omega))]; exact n2.1
      have a1 : gI κ 33 i = nI (rt cs i) := by rw [i1.I (rgo (by omega)), f2.I (rgo (by omega))]; exact r1 i hi
      have hl := rt_lt w hi
      obtain ⟨κ', e', p', f'⟩ := sPS_put N i2 (p := rt cs i) (by omega)
      refine ⟨κ', ⟨i1.tr f', p'⟩, ?_⟩
      rw [lp_X_takeImage_14, a0, one_shl (by omega), if_pos (nI_lt hi (by omega)), inb_nI (by omega) (by omega), ck_tt, tn_nI (by omega), a1, e', bnd_some]
      simp only [lt']
      rw [nI_1])
    (by
      intro n' κ ⟨i1, i2⟩
      have a0 : gI κ q 0 = nI n := by rw [i1.I (rgo (by omega))]; exact n2.1
      rw [lp_X_takeImage_14, a0, one_shl (by omega), if_neg (nI_nlt (Nat.le_refl _) (by omega))])
    (2 ^ n) 0 N μ2 (by omega) (by omega) ⟨Fr.rf μ2, fun b hb t ht => by rw [g2 b hb, lb_zero]; rfl⟩
  refine ⟨μ', ?_, k2, (f1.tr (f2.wide (by omega) (by omega))).tr (k1.wide (by omega) (by omega))⟩
  unfold f_X_takeImage
  rw [e1, bnd_some, e2, bnd_some]
  exact e
theorem IsF.hit {P : Nat → Bool} {i m : Nat} (h : P i = true) (hi : i < m) : IsF P i m (nI i) := Or.inr ⟨i, Nat.le_refl _, hi, rfl, h, fun q h1 h2 => by omega⟩
theorem IsF.miss {P : Nat → Bool} {i m : Nat} {v : Int32} (h : IsF P (i + 1) m v) (hP : P i = false) : IsF P i m v := by
  rcases h with ⟨q1, q2⟩ | ⟨p, q1, q2, q3, q4, q5⟩
  · refine Or.inl ⟨q1, fun p h1 h2 => ?_⟩
    by_cases e : p = i
    · subst e; exact hP
    · exact q2 p (by omega) h2
  · refine Or.inr ⟨p, (by omega), q2, q3, q4, fun q h1 h2 => ?_⟩
    by_cases e : q = i
    · subst e; exact hP
    · exact q5 q (by omega) h2
theorem cn_step (P : Nat → Bool) {i m : Nat} (h : i < m) : cn P m - cn P i = (cn P m - cn P (i + 1)) + (if P i then 1 else 0) := (cn_stp P h).symm
theorem dn_pm (i : Nat) : nI i + (-1) = pm i := by unfold pm; rw [Int32.sub_eq_add_neg]
def cmP (cs : List (Nat × Nat)) (p x : Nat) : Bool := decide (rt cs x = p)
theorem op_comes (N : Nat) (hN : 10000 ≤ N) (x y : Int32) : OpEq (f_X_comes N x y) (f_M_comes2 N x y) := by
  refine op_of (fX := fun x => f_X_comes N x y) (fM := fun x => f_M_comes2 N x y) (-1) (fun x h μ => by simp [f_X_comes, f_X_isPattern, isNet_out N h, bnd_some]) (fun x h μ => by simp [f_M_comes2, mNet_out N h, bnd_some, lt']) (fun s hs μ σ hw hx => ?_) x
  have w := hw.1 s hs
  have nx := hx.1 s hs
  have hl := w.2.2.1
  generalize hcs : (σ.1 s).2 = cs at *
  generalize hnn : (σ.1 s).1 = n at *
  have h8 := w.2.1
  have p8 := pow8 h8
  have pp := Nat.two_pow_pos n
  rcases ix4 y (2 ^ n) (by omega) with hp | ⟨p, hp, rfl⟩
  · refine g_no hw hx (-1) (by simp [f_X_comes, xPat_out N nx hs h8 hp, bnd_some]) (fun μ ν hν hm => ?_)
    have m := hm.1 s hs
    rw [hcs, hnn] at m
    unfold f_M_comes2
    simp only [lt', ← hν]
    rw [mNet_in N hs, bnd_some, if_neg (by decide), mPat_out N m hs h8 hp, bnd_some, if_pos rfl]
  obtain ⟨μ1, e1, r1, f1⟩ := sX_results N hN nx w (by omega)
  have n1 := nx.frg f1 (by omega)
  have cb := cn_256' h8 (cmP cs p)
  have key : ∀ K : Int32 → Int32 → Mem → Option (Int32 × Mem), ∃ v, IsF (cmP cs p) 0 (2 ^ n) v ∧ lp_X_comes_41 N (nI p) K N (-1) 0 (pm (2 ^ n)) μ1 = K v (nI (cn (cmP cs p) (2 ^ n))) μ1 := by
    intro K
    obtain ⟨⟨⟨v, r⟩, κ⟩, ⟨k1, k2, k3, -⟩, e⟩ := for_dn (fun n' i (q : (Int32 × Int32) × Mem) => lp_X_comes_41 N (nI p) K n' q.1.1 q.1.2 i q.2) (fun q => K q.1.1 q.1.2 q.2) (fun i q => IsF (cmP cs p) i (2 ^ n) q.1.1 ∧ q.1.2 = nI (cn (cmP cs p) (2 ^ n) - cn (cmP cs p) i) ∧ q.2 = μ1 ∧ i ≤ 2 ^ n)
      (by
        intro n' i ⟨⟨v, r⟩, κ⟩ ⟨i1, i2, i3, i4⟩
        dsimp only at i1 i2 i3 i4
        subst i2; subst i3
        have st := cn_step (cmP cs p) (show i < 2 ^ n from i4)
        have hr := rt_lt w (show i < 2 ^ n from i4)
        have q : (nI (rt cs i) = nI p) ↔ cmP cs p i = true := by
          unfold cmP; rw [decide_eq_true_iff]; exact nI_eq (by omega) (by omega)
        by_cases z : cmP cs p i = true
        · rw [if_pos z] at st
          refine ⟨((nI i, nI (cn (cmP cs p) (2 ^ n) - cn (cmP cs p) i)), κ), ⟨IsF.hit z i4, rfl, rfl, (by omega)⟩, ?_⟩
          dsimp only
          rw [lp_X_comes_41, if_neg (nI_pos (by omega)), inb_nI (by omega) (by omega), ck_tt, tn_nI (by omega), r1 i i4, if_pos (q.mpr z)]
          simp only [lt']
          rw [nI_1, dn_pm, st]
        · rw [if_neg z, Nat.add_zero] at st
          refine ⟨((v, nI (cn (cmP cs p) (2 ^ n) - cn (cmP cs p) i)), κ), ⟨i1.miss (by simpa using z), rfl, rfl, (by omega)⟩, ?_⟩
          dsimp only
          rw [lp_X_comes_41, if_neg (nI_pos (by omega)), inb_nI (by omega) (by omega), ck_tt, tn_nI (by omega), r1 i i4, if_neg (fun e => z (q.mp e))]
          simp only [lt']
          rw [dn_pm, st])
      (by
        intro n' ⟨⟨v, r⟩, κ⟩ _
        dsimp only
        rw [lp_X_comes_41, if_pos (by decide)])
      (2 ^ n) N ((-1, 0), μ1) (by omega) ⟨Or.inl ⟨rfl, fun p h1 h2 => by omega⟩, by rw [Nat.sub_self]; rfl, rfl, Nat.le_refl _⟩
    dsimp only at k1 k2 k3 e
    subst k2; subst k3
    exact ⟨v, k1, e⟩
  have key2 : ∀ ν, NM ν s n cs → ∀ K : Int32 → Int32 → Mem → Option (Int32 × Mem), ∃ v κ, IsF (cmP cs p) 0 (2 ^ n) v ∧ Fr mB ν κ ∧ lp_M_comes2_37 N (nI s) (nI p) K N 0 (-1) (pm (2 ^ n)) ν = K (nI (cn (cmP cs p) (2 ^ n))) v κ := by
    intro ν m K
    obtain ⟨⟨⟨r, v⟩, κ⟩, ⟨k1, k2, k3, -⟩, e⟩ := for_dn (fun n' i (q : (Int32 × Int32) × Mem) => lp_M_comes2_37 N (nI s) (nI p) K n' q.1.1 q.1.2 i q.2) (fun q => K q.1.1 q.1.2 q.2) (fun i q => IsF (cmP cs p) i (2 ^ n) q.1.2 ∧ q.1.1 = nI (cn (cmP cs p) (2 ^ n) - cn (cmP cs p) i) ∧ Fr mB ν q.2 ∧ i ≤ 2 ^ n)
      (by
        intro n' i ⟨⟨r, v⟩, κ⟩ ⟨i1, i2, i3, i4⟩
        dsimp only at i1 i2 i3 i4
        subst i2
        have st := cn_step (cmP cs p) (show i < 2 ^ n from i4)
        have hr := rt_lt w (show i < 2 ^ n from i4)
        have nk := m.fr i3 (fun q k _ _ z => by unfold mB at z; omega)
        obtain ⟨κ', e', b', f'⟩ := sM_result N hN nk w hs (show i < 2 ^ n from i4) (-1) b0 hb0 0 (by decide)
        have e'' : f_M_result N (nI s) (nI i) (-1) 0 κ = some (nI (rt cs i), κ') := e'
        have q : (nI (rt cs i) = nI p) ↔ cmP cs p i = true := by
          unfold cmP; rw [decide_eq_true_iff]; exact nI_eq (by omega) (by omega)
        by_cases z : cmP cs p i = true
        · rw [if_pos z] at st
          refine ⟨((nI (cn (cmP cs p) (2 ^ n) - cn (cmP cs p) i), nI i), κ'), ⟨IsF.hit z i4, rfl, i3.tr f', (by omega)⟩, ?_⟩
          dsimp only
          rw [lp_M_comes2_37, if_neg (nI_pos (by omega)), e'', bnd_some, if_pos (q.mpr z)]
          simp only [lt']
          rw [nI_1, dn_pm, st]
        · rw [if_neg z, Nat.add_zero] at st
          refine ⟨((nI (cn (cmP cs p) (2 ^ n) - cn (cmP cs p) i), v), κ'), ⟨i1.miss (by simpa using z), rfl, i3.tr f', (by omega)⟩, ?_⟩
          dsimp only
          rw [lp_M_comes2_37, if_neg (nI_pos (by omega)), e'', bnd_some, if_neg (fun e => z (q.mp e))]
          simp only [lt']
          rw [dn_pm, st])
      (by
        intro n' ⟨⟨r, v⟩, κ⟩ _
        dsimp only
        rw [lp_M_comes2_37, if_pos (by decide)])
      (2 ^ n) N ((0, -1), ν) (by omega) ⟨Or.inl ⟨rfl, fun p h1 h2 => by omega⟩, by rw [Nat.sub_self]; rfl, Fr.rf ν, Nat.le_refl _⟩
    dsimp only at k1 k2 k3 e
    subst k2
    exact ⟨v, κ, k1, k3, e⟩
  obtain ⟨v, hv, e2⟩ := key (fun v15 v16 μ17 => bnd (f_Numbers_clear N μ17) fun _ μ19 => bnd (f_Numbers_append N (Int32.toInt64 v15) μ19) fun _ μ21 => some (v16, μ21))
  refine g_q hw hx (nI (cn (cmP cs p) (2 ^ n))) [v.toInt64] (by simp) ?_ (fun μ ν hν hm => ?_)
  · obtain ⟨μ3, e3, r3, f3⟩ := sNum_clear N μ1
    obtain ⟨μ4, e4, r4, f4⟩ := sNum_append N v.toInt64 r3 (by decide)
    refine ⟨μ4, ?_, r4, ((f1.wide (by omega) (by omega)).tr (f3.wide (by omega) (by omega))).tr (f4.wide (by omega) (by omega))⟩
    unfold f_X_comes
    rw [xPat_in N nx hs h8 hp, bnd_some, if_neg (by decide), inb_nI hs (by omega), ck_tt, tn_nI (by omega), e1, bnd_some, ck_tt, n1.1, one_shl (by omega)]
    simp only [lt']
    refine Eq.trans e2 ?_
    rw [e3, bnd_some, e4, bnd_some]
  · have m := hm.1 s hs
    rw [hcs, hnn] at m
    obtain ⟨v', ν1, hv', h1, e3⟩ := key2 ν m (fun v18 v19 μ20 => bnd (f_M_tellsOne N (Int32.toInt64 v19) μ20) fun _ μ22 => some (v18, μ22))
    have := hv'.uniq hv
    subst this
    obtain ⟨ν2, g2, q2, h2⟩ := sM_tellsOne N ν1 v'.toInt64
    refine ⟨ν2, ?_, q2, (mS_mQ (mB_mS h1)).tr (mR_mQ h2)⟩
    unfold f_M_comes2
    simp only [lt', ← hν]
    rw [mNet_in N hs, bnd_some, if_neg (by decide), mPat_in N m hs h8 hp, bnd_some, if_neg (by decide), sM_all N m hs h8, bnd_some]
    refine Eq.trans e3 ?_
    rw [g2, bnd_some]

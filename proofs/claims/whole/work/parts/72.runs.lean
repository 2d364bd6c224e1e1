/-! one pattern -/
theorem xPat_in (N : Nat) {s n p : Nat} {cs : List (Nat × Nat)} {μ : Mem} (h : NX μ (2 + 3 * s) n cs) (hs : s < 4) (h8 : n ≤ 8) (hp : p < 2 ^ n) : f_X_isPattern N (nI s) (nI p) μ = some (1, μ) := by
  have p8 := pow8 h8
  unfold f_X_isPattern
  rw [isNet_in N hs, bnd_some, if_neg (by decide), if_neg (nI_pos (by omega)), inb_nI hs (by omega), ck_tt, tn_nI (by omega), h.1, one_shl (by omega), if_pos (nI_lt hp (by omega))]
theorem xPat_out (N : Nat) {s n : Nat} {x : Int32} {cs : List (Nat × Nat)} {μ : Mem} (h : NX μ (2 + 3 * s) n cs) (hs : s < 4) (h8 : n ≤ 8) (hx : x < 0 ∨ nI (2 ^ n) ≤ x) : f_X_isPattern N (nI s) x μ = some (0, μ) := by
  unfold f_X_isPattern
  rw [isNet_in N hs, bnd_some, if_neg (by decide)]
  rcases hx with hx | hx
  · rw [if_pos hx]
  · by_cases h0 : x < 0
    · rw [if_pos h0]
    · rw [if_neg h0, inb_nI hs (by omega), ck_tt, tn_nI (by omega), h.1, one_shl (by omega), if_neg (nle_lt hx)]
theorem sM_all (N : Nat) {s n : Nat} {cs : List (Nat × Nat)} {μ : Mem} (h : NM μ s n cs) (hs : s < 4) (h8 : n ≤ 8) : f_M_all N (nI s) μ = some (nI (2 ^ n), μ) := by
  unfold f_M_all
  rw [inb_nI hs (by omega), ck_tt, tn_nI (by omega), h.1, one_shl (by omega)]
theorem mPat_in (N : Nat) {s n p : Nat} {cs : List (Nat × Nat)} {μ : Mem} (h : NM μ s n cs) (hs : s < 4) (h8 : n ≤ 8) (hp : p < 2 ^ n) : f_M_isPattern N (nI s) (nI p) μ = some (1, μ) := by
  have p8 := pow8 h8
  unfold f_M_isPattern
  rw [sM_all N h hs h8, bnd_some, mIn_in N hp (by omega) μ (m1_int0 (by omega)), bnd_some]; rfl
theorem mPat_out (N : Nat) {s n : Nat} {x : Int32} {cs : List (Nat × Nat)} {μ : Mem} (h : NM μ s n cs) (hs : s < 4) (h8 : n ≤ 8) (hx : x < 0 ∨ nI (2 ^ n) ≤ x) : f_M_isPattern N (nI s) x μ = some (0, μ) := by
  have p8 := pow8 h8
  unfold f_M_isPattern
  rw [sM_all N h hs h8, bnd_some, mIn_out N (by omega) hx μ (m1_int0 (by omega)), bnd_some]; rfl
theorem op_runs (N : Nat) (hN : 10000 ≤ N) (x y : Int32) : OpEq (f_X_runs N x y) (f_M_runs N x y) := by
  refine op_of (fX := fun x => f_X_runs N x y) (fM := fun x => f_M_runs N x y) (-1) (fun x h μ => by simp [f_X_runs, f_X_isPattern, isNet_out N h, bnd_some]) (fun x h μ => by simp [f_M_runs, mNet_out N h, bnd_some, lt']) (fun s hs μ σ hw hx => ?_) x
  have w := hw.1 s hs
  have nx := hx.1 s hs
  have hl := w.2.2.1
  generalize hcs : (σ.1 s).2 = cs at *
  generalize hnn : (σ.1 s).1 = n at *
  have h8 := w.2.1
  have p8 := pow8 h8
  rcases ix4 y (2 ^ n) (by omega) with hp | ⟨p, hp, rfl⟩
  · refine g_no hw hx (-1) (by simp [f_X_runs, xPat_out N nx hs h8 hp, bnd_some]) (fun μ ν hν hm => ?_)
    have m := hm.1 s hs
    rw [hcs, hnn] at m
    unfold f_M_runs
    simp only [lt', ← hν]
    rw [mNet_in N hs, bnd_some, if_neg (by decide), mPat_out N m hs h8 hp, bnd_some, if_pos rfl]
  refine g_q hw hx (nI (rs cs b0 0 p cs.length)) [bz cs b0 0 p cs.length] (by simp) ?_ (fun μ ν hν hm => ?_)
  · obtain ⟨⟨⟨r, v⟩, μ1⟩, ⟨k1, k2, k3⟩, e⟩ := for_up (fun n' i (q : (Int32 × Int64) × Mem) => lp_X_runs_27 N (2 + 3 * s) (fun v14 v15 μ16 => bnd (f_Numbers_clear N μ16) fun _ μ18 => bnd (f_Numbers_append N v15 μ18) fun _ μ20 => some (v14, μ20)) n' q.1.1 q.1.2 i q.2) (fun q => bnd (f_Numbers_clear N q.2) fun _ μ18 => bnd (f_Numbers_append N q.1.2 μ18) fun _ μ20 => some (q.1.1, μ20)) cs.length (fun i q => q.1.1 = nI (rs cs b0 0 p i) ∧ q.1.2 = bz cs b0 0 p i ∧ q.2 = μ)
      (by
        intro n' i ⟨⟨r, v⟩, κ⟩ hi ⟨i1, i2, i3⟩
        dsimp only at i1 i2 i3
        subst i1; subst i2; subst i3
        have c := w.2.2.2 i hi
        have hq := rs_lt w (b := b0) (how := 0) hp i (by omega)
        refine ⟨((nI (rs cs b0 0 p (i + 1)), bz cs b0 0 p (i + 1)), κ), ⟨rfl, rfl, rfl⟩, ?_⟩
        dsimp only
        rw [lp_X_runs_27]
        simp (disch := omega) only [i10, i00, reduceIte, lt', bnd_some, ck_tt, inb_nI, tn_nI, nI_add, pk_mul, nI_ltI, nI_eq, nx.2.1, hi, (nx.2.2 i hi).1, (nx.2.2 i hi).2, bitI, one_shl, orI, xorI, nI_1]
        rw [rs_succ0 rfl, bz]
        unfold cmp xr
        have t1 := tb_lt (rs cs b0 0 p i) (cl cs i)
        have t2 := tb_lt (rs cs b0 0 p i) (ch cs i)
        have l : (nI (tb (rs cs b0 0 p i) (ch cs i)) < nI (tb (rs cs b0 0 p i) (cl cs i))) ↔ tb (rs cs b0 0 p i) (ch cs i) < tb (rs cs b0 0 p i) (cl cs i) := nI_ltI (by omega) (by omega)
        by_cases z : tb (rs cs b0 0 p i) (ch cs i) < tb (rs cs b0 0 p i) (cl cs i)
        · simp [z, l]
        · simp [z, l, or0L])
      (by
        intro n' ⟨⟨r, v⟩, κ⟩ ⟨i1, i2, i3⟩
        dsimp only at i1 i2 i3 ⊢
        subst i3
        rw [lp_X_runs_27]
        simp (disch := omega) only [i10, i00, reduceIte, lt', bnd_some, ck_tt, inb_nI, tn_nI, nI_add, pk_mul, nI_ltI, nI_eq, nx.2.1]
        simp)
      cs.length 0 N ((nI p, 0), μ) (by omega) (by omega) ⟨rfl, rfl, rfl⟩
    dsimp only at k1 k2 k3 e
    subst k1; subst k2; subst k3
    obtain ⟨μ3, e3, r3, f3⟩ := sNum_clear N μ1
    obtain ⟨μ4, e4, r4, f4⟩ := sNum_append N (bz cs b0 0 p cs.length) r3 (by decide)
    refine ⟨μ4, ?_, r4, (f3.wide (by omega) (by omega)).tr (f4.wide (by omega) (by omega))⟩
    unfold f_X_runs
    rw [xPat_in N nx hs h8 hp, bnd_some, if_neg (by decide), inb_nI hs (by omega), ck_tt, tn_nI (by omega)]
    rw [e3, bnd_some, e4, bnd_some] at e
    exact e
  · have m := hm.1 s hs
    rw [hcs, hnn] at m
    obtain ⟨ν1, g1, i1, h1⟩ := sM_result N hN m w hs hp (-1) b0 hb0 0 (by decide)
    obtain ⟨ν2, g2, q2, h2⟩ := sM_tellsOne N ν1 (bz cs b0 0 p cs.length)
    refine ⟨ν2, ?_, q2, (mS_mQ (mB_mS h1)).tr (mR_mQ h2)⟩
    unfold f_M_runs
    simp only [lt', ← hν]
    rw [mNet_in N hs, bnd_some, if_neg (by decide), mPat_in N m hs h8 hp, bnd_some, if_neg (by decide), show f_M_result N (nI s) (nI p) (-1) 0 ν = _ from g1, bnd_some, i1, g2, bnd_some]
-- two nets
def ul (W V : Nat → Nat → Int64) (b : Nat) : Nat → Int64
  | 0 => 0
  | k + 1 => ul W V b k ||| (W k b ^^^ V k b)
theorem sTr_unlike (N : Nat) (hN : 10000 ≤ N) {p r n : Nat} {W V : Nat → Nat → Int64} {μ : Mem} (h : TRW μ p n W) (g : TRW μ r n V) (h2 : 2 ≤ n) (h8 : n ≤ 8) (hp : p + 1 < 32) (hr : r + 1 < 32) : ∃ μ', f_Trial_findUnlike N p r μ = some ((), μ') ∧ FW μ' (fun b => if b < bks n then ul W V b n else 0) ∧ Fr (rg 32 32) μ μ' := by
  have bb := bks_b n (by omega)
  obtain ⟨μ1, e1, g1, f1⟩ := sPS_clear N hN μ
  have inner : ∀ (w : Nat) (κ : Mem) (K : Mem → Option (Unit × Mem)), w < n → Fr (rg 32 32) μ κ → FW κ (fun b => if b < bks n then ul W V b w else 0) → ∃ κ', lp_Trial_findUnlike_17 N p r (nI w) K N (nI 0) κ = K κ' ∧ Fr (rg 32 32) μ κ' ∧ FW κ' (fun b => if b < bks n then ul W V b (w + 1) else 0) := by
    intro w κ K hw f gg
    obtain ⟨κ', ⟨i1, i2⟩, e⟩ := for_up (fun n' i ν => lp_Trial_findUnlike_17 N p r (nI w) K n' i ν) K (bks n) (fun i ν => Fr (rg 32 32) μ ν ∧ FW ν (fun b => if b < bks n then (if b < i then ul W V b (w + 1) else ul W V b w) else 0))
      (by
        intro n' i ν hi ⟨i1, i2⟩
        have a0 : gI ν p 2 = nI (bks n) := by rw [i1.I (rgo (by omega))]; exact h.2.1
        have a1 : gL ν (p + 1) (4 * w + i) = W w i := by rw [i1.L (rgo (by omega))]; exact h.2.2 w (by omega) i hi
        have a2 : gL ν (r + 1) (4 * w + i) = V w i := by rw [i1.L (rgo (by omega))]; exact g.2.2 w (by omega) i hi
        have a3 := i2 i (by omega)
        dsimp only at a3
        rw [if_pos hi, if_neg (by omega)] at a3
        refine ⟨sL ν 32 i (ul W V i (w + 1)), ⟨i1.sL (rgi (by omega) (by omega)), fun b hb => ?_⟩, ?_⟩
        · have := i2 b hb
          dsimp only at this ⊢
          by_cases e : b = i
          · subst e; simp [gI_sI, gL_sL, gR_sR, gI_sL, gI_sR, gL_sI, gL_sR, gR_sI, gR_sL, hi]
          · simp only [gI_sI, gL_sL, gR_sR, gI_sL, gI_sR, gL_sI, gL_sR, gR_sI, gR_sL, e, and_false, if_false]
            rw [this]
            ((repeat' split) <;> first | rfl | omega | (exfalso; omega) | (congr 1; omega))
        · rw [lp_Trial_findUnlike_17]
          simp (disch := omega) only [i10, i00, reduceIte, lt', bnd_some, ck_tt, inb_nI, tn_nI, nI_add, pk_mul, nI_ltI, nI_eq, a0, hi, fa_lit, a1, a2, a3]
          rfl)
      (by
        intro n' ν ⟨i1, i2⟩
        have a0 : gI ν p 2 = nI (bks n) := by rw [i1.I (rgo (by omega))]; exact h.2.1
        simp (disch := omega) [lp_Trial_findUnlike_17, lt', bnd_some, ck_tt, inb_nI, tn_nI, fa_lit, nI_add, pk_mul, nI_ltI, nI_eq, a0])
      (bks n) 0 N κ (by omega) (by omega) ⟨f, fun b hb => by
        have := gg b hb
        dsimp only at this ⊢
        rw [this]
        ((repeat' split) <;> first | rfl | omega | (exfalso; omega) | (congr 1; omega))⟩
    exact ⟨κ', e, i1, fun b hb => by
      have := i2 b hb
      dsimp only at this ⊢
      rw [this]
      ((repeat' split) <;> first | rfl | omega | (exfalso; omega) | (congr 1; omega))⟩
  obtain ⟨μ', ⟨k1, k2⟩, e⟩ := for_up (fun n' i ν => lp_Trial_findUnlike_6 N p r (fun μ13 => some ((), μ13)) n' i ν) (fun ν => some ((), ν)) n (fun i κ => Fr (rg 32 32) μ κ ∧ FW κ (fun b => if b < bks n then ul W V b i else 0))
    (by
      intro n' i κ hi ⟨i1, i2⟩
      have a0 : gI κ p 1 = nI n := by rw [i1.I (rgo (by omega))]; exact h.1
      obtain ⟨κ', e, f, c⟩ := inner i κ (fun μ11 => lt' (nI i + 1) fun v12 => lp_Trial_findUnlike_6 N p r (fun μ13 => some ((), μ13)) n' v12 μ11) hi i1 i2
      refine ⟨κ', ⟨f, c⟩, ?_⟩
      rw [lp_Trial_findUnlike_6, a0, if_pos (nI_lt hi (by omega))]
      rw [nI_1] at e ⊢
      exact e)
    (by
      intro n' κ ⟨i1, i2⟩
      have a0 : gI κ p 1 = nI n := by rw [i1.I (rgo (by omega))]; exact h.1
      rw [lp_Trial_findUnlike_6, a0, if_neg (nI_nlt (Nat.le_refl _) (by omega))])
    n 0 N μ1 (by omega) (by omega) ⟨f1, fun b hb => by
      have := g1 b hb
      dsimp only at this ⊢
      rw [this]
      ((repeat' split) <;> first | rfl | omega | (exfalso; omega) | (congr 1; omega))⟩
  refine ⟨μ', ?_, k2, k1⟩
  unfold f_Trial_findUnlike
  rw [e1, bnd_some]
  exact e
def dfr (q r : Nat) : Nat → Bool
  | 0 => false
  | k + 1 => dfr q r k || decide (tb q k ≠ tb r k)
theorem lb_ul {n b t : Nat} {W V : Nat → Nat → Int64} {P Q : Nat → Nat} (h : Bits n W P) (g : Bits n V Q) (hb : b < bks n) (ht : t < 64) : ∀ k, k ≤ n → lb (ul W V b k) t = (decide (64 * b + t < 2 ^ n) && dfr (P (64 * b + t)) (Q (64 * b + t)) k)
  | 0, _ => by simp [ul, dfr, lb_zero]
  | k + 1, hk => by
    have ih := lb_ul h g hb ht k (by omega)
    have a1 := h k (by omega) b hb t ht
    have a2 := g k (by omega) b hb t ht
    have t1 := tb_lt (P (64 * b + t)) k
    have t2 := tb_lt (Q (64 * b + t)) k
    rw [ul, lb_or, ih, lb_xor, a1, a2, dfr]
    by_cases y : 64 * b + t < 2 ^ n
    · simp only [y, decide_true, Bool.true_and]
      congr 1
      by_cases z1 : tb (P (64 * b + t)) k = 1
      · by_cases z2 : tb (Q (64 * b + t)) k = 1
        · simp [z1, z2]
        · have : tb (Q (64 * b + t)) k = 0 := (by omega)
          simp [z1, this]
      · have z0 : tb (P (64 * b + t)) k = 0 := (by omega)
        by_cases z2 : tb (Q (64 * b + t)) k = 1
        · simp [z0, z2]
        · have : tb (Q (64 * b + t)) k = 0 := (by omega)
          simp [z0, this]
    · simp [y]
theorem dif_ne (q r : Nat) : ∀ k, dfr q r k = false ↔ ∀ w, w < k → tb q w = tb r w
  | 0 => by simp [dfr]
  | k + 1 => by
    rw [dfr, Bool.or_eq_false_iff, dif_ne q r k]
    constructor
    · intro ⟨h1, h2⟩ w hw
      by_cases e : w = k
      · subst e; simpa using h2
      · exact h1 w (by omega)
    · intro h
      exact ⟨fun w hw => h w (by omega), by simpa using h k (by omega)⟩
theorem tb_ext {q r n : Nat} (hq : q < 2 ^ n) (hr : r < 2 ^ n) (h : ∀ w, w < n → tb q w = tb r w) : q = r := by
  apply Nat.eq_of_testBit_eq
  intro i
  by_cases hi : i < n
  · rw [tb_bit, tb_bit, h i hi]
  · rw [Nat.testBit_lt_two_pow (Nat.lt_of_lt_of_le hq (Nat.pow_le_pow_right (by decide) (by omega))), Nat.testBit_lt_two_pow (Nat.lt_of_lt_of_le hr (Nat.pow_le_pow_right (by decide) (by omega)))]
theorem dif_iff {q r n : Nat} (hq : q < 2 ^ n) (hr : r < 2 ^ n) : dfr q r n = decide (q ≠ r) := by
  by_cases e : q = r
  · subst e
    have := (dif_ne q q n).mpr (fun _ _ => rfl)
    simp [this]
  · simp only [ne_eq, e, not_false_eq_true, decide_true]
    cases z : dfr q r n with
    | true => rfl
    | false => exact absurd (tb_ext hq hr ((dif_ne q r n).mp z)) e
theorem sTr_all (N : Nat) (hN : 10000 ≤ N) {p q n : Nat} {cs : List (Nat × Nat)} {μ : Mem} (hq : NX μ q n cs) (w : WN n cs) (hpq : q + 2 < p) : ∃ μ1 μ2 W, f_Trial_start N p (nI n) μ = some ((), μ1) ∧ NX μ1 q n cs ∧ f_Trial_runPart N p q 0 (nI cs.length) μ1 = some ((), μ2) ∧ TRW μ2 p n W ∧ Bits n W (fun x => rs cs b0 0 x cs.length) ∧ Fr (rg p (p + 1)) μ μ2 := by
  have hl := w.2.2.1
  obtain ⟨μ1, e1, t1, f1⟩ := sTr_start N hN (p := p) w.1 w.2.1 μ
  have hq1 : NX μ1 q n cs := hq.frg f1 (by omega)
  obtain ⟨μ2, e2, t2, f2⟩ := sTr_runPart N hN t1 hq1 w (by omega) (Nat.zero_le _) (Nat.le_refl cs.length)
  have bt := Bits.rp (b := b0) (how := 0) (a := 0) w (Bits.st cs _ _ w.1 w.2.1) cs.length (by omega) (fun _ _ _ => rfl)
  rw [Nat.sub_zero] at t2
  rw [Nat.zero_add] at bt
  exact ⟨μ1, μ2, _, e1, hq1, e2, t2, bt, f1.tr f2⟩

/-! patterns as numbers: the model's side -/
def tb (q i : Nat) : Nat := q / 2 ^ i % 2
theorem tb_lt (q i : Nat) : tb q i < 2 := Nat.mod_lt _ (by decide)
theorem tb_bit (q i : Nat) : q.testBit i = decide (tb q i = 1) := by
  unfold tb
  rw [Nat.testBit_eq_decide_div_mod_eq]
theorem sh31 : ∀ i, i < 32 → ((nI i &&& 31).toBitVec.smod 32).toNat = i := by decide
theorem shrI_nI {q i : Nat} (hq : q < 2 ^ 31) (hi : i < 32) : shrI (nI q) (nI i) = nI (q / 2 ^ i) := by
  unfold shrI
  exact pk_shrN hq _ i (sh31 i hi)
theorem shlI_nI {q i : Nat} (hi : i < 32) (h : q * 2 ^ i < 2 ^ 32) : shlI (nI q) (nI i) = nI (q * 2 ^ i) := by
  unfold shlI
  exact pk_shlN _ i (sh31 i hi) h
theorem and1 (q : Nat) : nI q &&& 1 = nI (q % 2) := by
  have := pk_and (nI q) (m := 1) 1 rfl
  rw [this]
  congr 1
  show q % 2 ^ 32 % 2 ^ 1 = q % 2
  exact Nat.mod_mod_of_dvd q (by decide)
theorem bitI {q i : Nat} (hq : q < 2 ^ 31) (hi : i < 32) : shrI (nI q) (nI i) &&& 1 = nI (tb q i) := by rw [shrI_nI hq hi, and1]; rfl
theorem one_shl {i : Nat} (hi : i < 31) : shlI 1 (nI i) = nI (2 ^ i) := by
  have : (1 : Int32) = nI 1 := rfl
  rw [this, shlI_nI (by omega) (by rw [Nat.one_mul]; exact Nat.pow_lt_pow_right (by decide) (by omega)), Nat.one_mul]
theorem orI (a b : Nat) : nI a ||| nI b = nI (a ||| b) := by
  apply Int32.toBitVec_inj.1
  show BitVec.ofNat 32 a ||| BitVec.ofNat 32 b = BitVec.ofNat 32 (a ||| b)
  apply BitVec.eq_of_getLsbD_eq
  intro i hi
  simp [hi]
theorem xorI (a b : Nat) : nI a ^^^ nI b = nI (a ^^^ b) := by
  apply Int32.toBitVec_inj.1
  show BitVec.ofNat 32 a ^^^ BitVec.ofNat 32 b = BitVec.ofNat 32 (a ^^^ b)
  apply BitVec.eq_of_getLsbD_eq
  intro i hi
  simp [hi]
/-- whether comparer k exchanges: b tells which is broken, how as the document has it -/
def swp (b : Nat → Bool) (how q i j k : Nat) : Bool := if b k then (if how = 1 then decide (tb q i ≠ tb q j) else if how = 2 then decide (tb q i < tb q j) else false) else decide (tb q j < tb q i)
def xr (q i j : Nat) : Nat := q ^^^ (2 ^ i ||| 2 ^ j)
def rs (cs : List (Nat × Nat)) (b : Nat → Bool) (how p : Nat) : Nat → Nat
  | 0 => p
  | k + 1 => if swp b how (rs cs b how p k) (cl cs k) (ch cs k) k then xr (rs cs b how p k) (cl cs k) (ch cs k) else rs cs b how p k
def bz (cs : List (Nat × Nat)) (b : Nat → Bool) (how p : Nat) : Nat → Int64
  | 0 => 0
  | k + 1 => bz cs b how p k ||| (if tb (rs cs b how p k) (ch cs k) < tb (rs cs b how p k) (cl cs k) then shlL 1 (nI k) else 0)
theorem sw_int {b : Nat → Bool} {x : Int32} {how q i a c : Nat} (hb : nI i = x ↔ b i = true) (hh : how < 3) : (if (if nI i = x then (if nI how = 1 then (if nI (tb q a) = nI (tb q c) then (0 : Int32) else 1) else if nI how = 2 then (if nI (tb q a) < nI (tb q c) then (1 : Int32) else 0) else 0) else if nI (tb q c) < nI (tb q a) then (1 : Int32) else 0) = 0 then nI q else nI (q ^^^ (2 ^ a ||| 2 ^ c))) = nI (if swp b how q a c i = true then xr q a c else q) := by
  have t1 := tb_lt q a
  have t2 := tb_lt q c
  have l1 : (nI (tb q a) = nI (tb q c)) ↔ tb q a = tb q c := nI_eq (by omega) (by omega)
  have l2 : (nI (tb q a) < nI (tb q c)) ↔ tb q a < tb q c := nI_ltI (by omega) (by omega)
  have l3 : (nI (tb q c) < nI (tb q a)) ↔ tb q c < tb q a := nI_ltI (by omega) (by omega)
  by_cases hbi : b i = true
  · have hx : nI i = x := hb.mpr hbi
    simp only [hx, if_true, swp, hbi, xr]
    have : how = 0 ∨ how = 1 ∨ how = 2 := (by omega)
    rcases this with rfl | rfl | rfl
    · have h1 : ¬ nI 0 = 1 := by decide
      have h2 : ¬ nI 0 = 2 := by decide
      simp [h1, h2]
    · have h1 : nI 1 = 1 := rfl
      by_cases z : tb q a = tb q c
      · simp [h1, z]
      · have z' : ¬ nI (tb q a) = nI (tb q c) := fun e => z (l1.mp e)
        simp [h1, z, z']
    · have h1 : ¬ nI 2 = 1 := by decide
      have h2 : nI 2 = 2 := rfl
      by_cases z : tb q a < tb q c
      · simp [h1, h2, l2, z]
      · simp [h1, h2, l2, z]
  · have hx : ¬ nI i = x := fun e => hbi (hb.mp e)
    by_cases z : tb q c < tb q a
    · simp [hx, swp, hbi, xr, l3, z]
    · simp [hx, swp, hbi, xr, l3, z]
theorem bz_int {q a c : Nat} {v : Int64} : (if (if nI (tb q c) < nI (tb q a) then (1 : Int32) else 0) = 0 then (0 : Int64) else v) = if tb q c < tb q a then v else 0 := by
  have t1 := tb_lt q a
  have t2 := tb_lt q c
  have l3 : (nI (tb q c) < nI (tb q a)) ↔ tb q c < tb q a := nI_ltI (by omega) (by omega)
  by_cases z : tb q c < tb q a
  · simp [l3, z]
  · simp [l3, z]
theorem xr_lt {q i j n : Nat} (hq : q < 2 ^ n) (hi : i < n) (hj : j < n) : xr q i j < 2 ^ n := by
  unfold xr
  exact Nat.xor_lt_two_pow hq (Nat.or_lt_two_pow (Nat.pow_lt_pow_right (by decide) hi) (Nat.pow_lt_pow_right (by decide) hj))
theorem rs_lt {cs : List (Nat × Nat)} {n : Nat} (w : WN n cs) {b : Nat → Bool} {how p : Nat} (hp : p < 2 ^ n) : ∀ k, k ≤ cs.length → rs cs b how p k < 2 ^ n
  | 0, _ => hp
  | k + 1, hk => by
    have ih := rs_lt w hp k (b := b) (how := how) (by omega)
    have c := w.2.2.2 k (by omega)
    rw [rs]
    split
    · exact xr_lt ih (by omega) c.2
    · exact ih
theorem pow8 {n : Nat} (h : n ≤ 8) : 2 ^ n ≤ 256 := Nat.pow_le_pow_right (by decide) h
abbrev mB : Nat → Nat → Prop := fun q k => q = 44 ∧ k = 21
theorem sM_result (N : Nat) (hN : 10000 ≤ N) {μ : Mem} {s n p : Nat} {cs : List (Nat × Nat)} (h : NM μ s n cs) (w : WN n cs) (hs : s < 4) (hp : p < 2 ^ n) (x : Int32) (b : Nat → Bool) (hb : ∀ k, k < 60 → (nI k = x ↔ b k = true)) (how : Nat) (hh : how < 3) : ∃ μ', f_M_result N (nI s) (nI p) x (nI how) μ = some (nI (rs cs b how p cs.length), μ') ∧ gL μ' 44 21 = bz cs b how p cs.length ∧ Fr mB μ μ' := by
  have hl := w.2.2.1
  have h8 := w.2.1
  have p8 := pow8 h8
  obtain ⟨⟨r, μ'⟩, ⟨k1, k2, k3⟩, e⟩ := for_up (fun n i (q : Int32 × Mem) => lp_M_result_11 N (nI s) x (nI how) (fun v28 μ29 => some (v28, μ29)) n q.1 i q.2) (fun q => some (q.1, q.2)) cs.length (fun i q => Fr mB μ q.2 ∧ q.1 = nI (rs cs b how p i) ∧ gL q.2 44 21 = bz cs b how p i)
    (by
      intro n' i ⟨r, κ⟩ hi ⟨i1, i2, i3⟩
      dsimp only at i1 i2 i3
      subst i2
      have a0 : gI κ 47 s = nI cs.length := by rw [i1.I (by omega)]; exact h.2.1
      have a1 : gI κ 48 (60 * s + i) = nI (cl cs i) := by rw [i1.I (by omega)]; exact (h.2.2 i hi).1
      have a2 : gI κ 49 (60 * s + i) = nI (ch cs i) := by rw [i1.I (by omega)]; exact (h.2.2 i hi).2
      have c := w.2.2.2 i hi
      have hq := rs_lt w (b := b) (how := how) hp i (by omega)
      have hbi := hb i (by omega)
      refine ⟨(nI (rs cs b how p (i + 1)), sL κ 44 21 (bz cs b how p (i + 1))), ⟨i1.sL (by omega), rfl, by simp [gI_sI, gL_sL, gR_sR, gI_sL, gI_sR, gL_sI, gL_sR, gR_sI, gR_sL]⟩, ?_⟩
      dsimp only
      rw [lp_M_result_11]
      simp (disch := omega) only [i10, i00, reduceIte, lt', bnd_some, ck_tt, inb_nI, tn_nI, nI_add, pk_mul, nI_ltI, nI_eq, a0, hi, sM_lowR, sM_highR, a1, a2, bitI, one_shl, orI, xorI, i3, rs, bz]
      generalize hQ : rs cs b how p i = q at hq ⊢
      rw [sw_int hbi hh, bz_int, nI_1])
    (by
      intro n' ⟨r, κ⟩ ⟨i1, i2, i3⟩
      have a0 : gI κ 47 s = nI cs.length := by rw [i1.I (by omega)]; exact h.2.1
      simp (disch := omega) [lp_M_result_11, lt', bnd_some, ck_tt, inb_nI, tn_nI, fa_lit, nI_add, pk_mul, nI_ltI, nI_eq, a0])
    cs.length 0 N (nI p, sL μ 44 21 0) (by omega) (by omega) ⟨(Fr.rf μ).sL (by omega), rfl, by simp [gI_sI, gL_sL, gR_sR, gI_sL, gI_sR, gL_sI, gL_sR, gR_sI, gR_sL]; rfl⟩
  dsimp only at k1 k2 k3 e
  subst k2
  exact ⟨μ', e, k3, k1⟩
def soK (p : Nat) : Nat → Bool
  | 0 => true
  | k + 1 => soK p k && decide (tb p k ≤ tb p (k + 1))
/-- sorted on n wires -/
def so (n p : Nat) : Bool := soK p (n - 1)
theorem sM_isSorted (N : Nat) (hN : 10000 ≤ N) {n p : Nat} (h1 : 1 ≤ n) (hn : n ≤ 8) (hp : p < 2 ^ 31) (μ : Mem) : f_M_isSorted N (nI n) (nI p) μ = some (if so n p then 1 else 0, μ) := by
  obtain ⟨⟨r, μ'⟩, ⟨k1, k2⟩, e⟩ := for_up (fun n' i (q : Int32 × Mem) => lp_M_isSorted_4 N (nI n) (nI p) (fun v7 μ8 => ck (isb v7) (some (v7, μ8))) n' q.1 i q.2) (fun q => ck (isb q.1) (some (q.1, q.2))) (n - 1) (fun i q => q.1 = (if soK p i then 1 else 0) ∧ q.2 = μ)
    (by
      intro n' i ⟨r, κ⟩ hi ⟨i1, i2⟩
      dsimp only at i1 i2
      subst i1; subst i2
      have t1 := tb_lt p i
      have t2 := tb_lt p (i + 1)
      have hi' : i + 1 < n := (by omega)
      refine ⟨(if soK p (i + 1) then 1 else 0, κ), ⟨rfl, rfl⟩, ?_⟩
      dsimp only
      rw [lp_M_isSorted_4, nI_1, if_pos (nI_lt hi' (by omega)), bitI hp (by omega), bitI hp (by omega)]
      simp only [lt']
      congr 1
      rw [soK]
      by_cases z : soK p i = true
      · by_cases y : tb p (i + 1) < tb p i
        · have y' : ¬ tb p i ≤ tb p (i + 1) := (by omega)
          simp [z, y', nI_lt y (by omega)]
        · have y' : tb p i ≤ tb p (i + 1) := (by omega)
          simp [z, y', nI_nlt y' (by omega)]
      · simp [z])
    (by
      intro n' ⟨r, κ⟩ ⟨i1, i2⟩
      dsimp only
      rw [lp_M_isSorted_4, nI_1, if_neg (nI_nlt (by omega) (by omega))])
    (n - 1) 0 N (1, μ) (by omega) (by omega) ⟨rfl, rfl⟩
  dsimp only at k1 k2 e
  subst k1; subst k2
  unfold f_M_isSorted
  refine Eq.trans e ?_
  unfold so
  by_cases z : soK p (n - 1) = true
  · simp [z]; rfl
  · simp [z]; rfl
/-- wrong with comparer 'b' broken -/
def wr (n : Nat) (cs : List (Nat × Nat)) (b : Nat → Bool) (how p : Nat) : Bool := !so n (rs cs b how p cs.length)
theorem sM_isWrong (N : Nat) (hN : 10000 ≤ N) {μ : Mem} {s n p : Nat} {cs : List (Nat × Nat)} (h : NM μ s n cs) (w : WN n cs) (hs : s < 4) (hp : p < 2 ^ n) (x : Int32) (b : Nat → Bool) (hb : ∀ k, k < 60 → (nI k = x ↔ b k = true)) (how : Nat) (hh : how < 3) : ∃ μ', f_M_isWrong N (nI s) (nI p) x (nI how) μ = some (if wr n cs b how p then 1 else 0, μ') ∧ Fr mB μ μ' := by
  obtain ⟨μ1, e1, -, f1⟩ := sM_result N hN h w hs hp x b hb how hh
  have hq := rs_lt w (b := b) (how := how) hp cs.length (Nat.le_refl _)
  have p8 := pow8 w.2.1
  have hn1 := w.1
  have e2 := sM_isSorted N hN (n := n) (p := rs cs b how p cs.length) (by omega) w.2.1 (by omega) μ1
  refine ⟨μ1, ?_, f1⟩
  simp (disch := omega) only [f_M_isWrong, i10, i00, reduceIte, lt', bnd_some, ck_tt, inb_nI, tn_nI, nI_add, pk_mul, nI_ltI, nI_eq, h.1, e1, e2, wr]
  by_cases z : so n (rs cs b how p cs.length) = true
  · simp [z]
  · simp [z]
/-- v tells the first p below m with P, or -1 -/
def IsF (P : Nat → Bool) (i m : Nat) (v : Int32) : Prop := (v = -1 ∧ ∀ p, i ≤ p → p < m → P p = false) ∨ ∃ p, i ≤ p ∧ p < m ∧ v = nI p ∧ P p = true ∧ ∀ q, i ≤ q → q < p → P q = false
theorem IsF.uniq {P : Nat → Bool} {i m : Nat} {v v' : Int32} (h : IsF P i m v) (h' : IsF P i m v') : v = v' := by
  rcases h with ⟨rfl, h⟩ | ⟨p, h1, h2, rfl, h3, h4⟩
  · rcases h' with ⟨rfl, -⟩ | ⟨p', g1, g2, rfl, g3, g4⟩
    · rfl
    · rw [h p' g1 g2] at g3; cases g3
  · rcases h' with ⟨rfl, g⟩ | ⟨p', g1, g2, rfl, g3, g4⟩
    · rw [g p h1 h2] at h3; cases h3
    · rcases Nat.lt_trichotomy p p' with z | z | z
      · rw [g4 p h1 z] at h3; cases h3
      · rw [z]
      · rw [h4 p' g1 z] at g3; cases g3
theorem cn_mono_n (P : Nat → Bool) {a b : Nat} (h : a ≤ b) : cn P a ≤ cn P b := by
  induction b with
  | zero => have : a = 0 := (by omega)
            subst this; exact Nat.le_refl _
  | succ b ih =>
    by_cases e : a = b + 1
    · subst e; exact Nat.le_refl _
    · have := ih (by omega)
      rw [cn]; omega
abbrev mW : Nat → Nat → Prop := fun q k => q = 44 ∧ (k = 21 ∨ k = 22)
theorem sM_wrongs (N : Nat) (hN : 10000 ≤ N) {μ : Mem} {s n : Nat} {cs : List (Nat × Nat)} (h : NM μ s n cs) (w : WN n cs) (hs : s < 4) (x : Int32) (b : Nat → Bool) (hb : ∀ k, k < 60 → (nI k = x ↔ b k = true)) (how : Nat) (hh : how < 3) : ∃ μ', f_M_wrongs N (nI s) x (nI how) μ = some (nI (cn (wr n cs b how) (2 ^ n)), μ') ∧ IsF (wr n cs b how) 0 (2 ^ n) (gI μ' 44 22) ∧ Fr mW μ μ' := by
  have p8 := pow8 w.2.1
  have h8 := w.2.1
  have cm : ∀ i, i ≤ 2 ^ n → cn (wr n cs b how) i ≤ cn (wr n cs b how) (2 ^ n) := fun i hi => cn_mono_n _ hi
  have cb := cn_le (wr n cs b how) (2 ^ n)
  obtain ⟨⟨r, μ'⟩, ⟨k1, k2, k3, -⟩, e⟩ := for_dn (fun n' i (q : Int32 × Mem) => lp_M_wrongs_17 N (nI s) x (nI how) (fun v15 μ16 => some (v15, μ16)) n' q.1 i q.2) (fun q => some (q.1, q.2)) (fun i q => Fr mW μ q.2 ∧ q.1 = nI (cn (wr n cs b how) (2 ^ n) - cn (wr n cs b how) i) ∧ IsF (wr n cs b how) i (2 ^ n) (gI q.2 44 22) ∧ i ≤ 2 ^ n)
    (by
      intro n' i ⟨r, κ⟩ ⟨i1, i2, i3, i4⟩
      dsimp only at i1 i2 i3 i4
      subst i2
      obtain ⟨κ', e', f'⟩ := sM_isWrong N hN (h.fr i1 (fun q k _ _ z => by omega)) w hs (p := i) (by omega) x b hb how hh
      have f2 : Fr mW κ κ' := f'.mono (fun q k z => by omega)
      have g : gI κ' 44 22 = gI κ 44 22 := f'.I (by omega)
      have hc := cm (i + 1) i4
      rw [cn] at hc
      have e0 : ¬ nI i < 0 := nI_pos (by omega)
      have ed : nI i + (-1) = pm i := by unfold pm; rw [Int32.sub_eq_add_neg]
      by_cases z : wr n cs b how i = true
      · rw [if_pos z] at hc
        refine ⟨(nI (cn (wr n cs b how) (2 ^ n) - cn (wr n cs b how) i), sI κ' 44 22 (nI i)), ⟨(i1.tr f2).sI (by omega), rfl, ?_, (by omega)⟩, ?_⟩
        · refine Or.inr ⟨i, Nat.le_refl _, (by omega), by simp [gI_sI, gL_sL, gR_sR, gI_sL, gI_sR, gL_sI, gL_sR, gR_sI, gR_sL], z, fun q h1 h2 => by omega⟩
        · dsimp only
          rw [lp_M_wrongs_17, if_neg e0, e', bnd_some]
          simp only [lt', z, if_true, i10, if_false, ed]
          rw [nI_1]
          congr 2
          rw [cn, if_pos z]; omega
      · rw [if_neg z] at hc
        refine ⟨(nI (cn (wr n cs b how) (2 ^ n) - cn (wr n cs b how) i), κ'), ⟨i1.tr f2, rfl, ?_, (by omega)⟩, ?_⟩
        · dsimp only
          rw [g]
          rcases i3 with ⟨q1, q2⟩ | ⟨p, q1, q2, q3, q4, q5⟩
          · refine Or.inl ⟨q1, fun p h1 h2 => ?_⟩
            by_cases e : p = i
            · subst e; simpa using z
            · exact q2 p (by omega) h2
          · refine Or.inr ⟨p, (by omega), q2, q3, q4, fun q h1 h2 => ?_⟩
            by_cases e : q = i
            · subst e; simpa using z
            · exact q5 q (by omega) h2
        · dsimp only
          rw [lp_M_wrongs_17, if_neg e0, e', bnd_some, if_neg z]
          simp only [lt', i00, if_true, ed]
          rw [cn, if_neg z, Nat.add_zero])
    (by
      intro n' ⟨r, κ⟩ _
      dsimp only
      rw [lp_M_wrongs_17, if_pos (by decide)])
    (2 ^ n) N (nI 0, sI μ 44 22 (-1)) (by omega) ⟨(Fr.rf μ).sI (by omega), by rw [Nat.sub_self], Or.inl ⟨by simp [gI_sI, gL_sL, gR_sR, gI_sL, gI_sR, gL_sI, gL_sR, gR_sI, gR_sL], fun p h1 h2 => by omega⟩, Nat.le_refl _⟩
  dsimp only at k1 k2 k3 e
  subst k2
  refine ⟨μ', ?_, k3, k1⟩
  have c0 : cn (wr n cs b how) 0 = 0 := rfl
  rw [c0, Nat.sub_zero] at e
  unfold f_M_wrongs f_M_all
  have g0 : gI (sI μ 44 22 (-1)) 46 s = nI n := by simp [gI_sI, gL_sL, gR_sR, gI_sL, gI_sR, gL_sI, gL_sR, gR_sI, gR_sL, h.1]
  simp only [lt', inb_nI hs (show 4 < 2 ^ 31 by decide), ck_tt, tn_nI (show s < 2 ^ 31 by omega), g0, one_shl (show n < 31 by omega), bnd_some]
  exact e

/-! all patterns at once -/
def bks (n : Nat) : Nat := if n ≤ 6 then 1 else 2 ^ (n - 6)
theorem bks_b : ∀ n, n < 9 → 1 ≤ bks n ∧ bks n ≤ 4 := by decide
theorem bks_64 : ∀ n, n < 9 → 2 ^ n ≤ 64 * bks n := by decide
def TRW (μ : Mem) (p n : Nat) (W : Nat → Nat → Int64) : Prop := gI μ p 1 = nI n ∧ gI μ p 2 = nI (bks n) ∧ ∀ w, w < n → ∀ b, b < bks n → gL μ (p + 1) (4 * w + b) = W w b
theorem TRW.frg {a b : Nat} {μ μ' : Mem} {p n : Nat} {W : Nat → Nat → Int64} (h : TRW μ p n W) (f : Fr (rg a b) μ μ') (h0 : p + 1 < a ∨ b < p) : TRW μ' p n W := ⟨by rw [f.I (rgo (by omega))]; exact h.1, by rw [f.I (rgo (by omega))]; exact h.2.1, fun w hw b hb => by rw [f.L (rgo (by omega))]; exact h.2.2 w hw b hb⟩
def col (w b : Nat) : Int64 := if w < 6 then colf w else if tb b (w - 6) = 1 then -1 else 0
def msk (n : Nat) : Int64 := if n < 6 then shlL 1 (shlI 1 (nI n)) - 1 else -1
theorem sColumn (N : Nat) {w b : Nat} (hw : w < 8) (hb : b < 4) (μ : Mem) : f_Trial_column N (nI w) (nI b) μ = some (col w b, μ) := by
  unfold f_Trial_column col
  by_cases h : w < 6
  · rw [if_pos (show nI w < 6 from nI_lt (b := 6) h (by omega)), if_pos h, inb_nI h (by omega), ck_tt, tn_nI (by omega)]
  · rw [if_neg (show ¬ nI w < 6 from nI_nlt (b := 6) (by omega) (by omega)), if_neg h]
    have e : nI w - 6 = nI (w - 6) := pk_sub (b := 6) (by omega)
    rw [e, bitI (by omega) (by omega)]
    have := tb_lt b (w - 6)
    by_cases z : tb b (w - 6) = 1
    · rw [if_pos z, if_pos (by rw [z]; rfl)]
    · rw [if_neg z, if_neg (fun q : nI (tb b (w - 6)) = 1 => z ((nI_eq (b := 1) (by omega) (by omega)).mp q))]
theorem sTr_start (N : Nat) (hN : 10000 ≤ N) {p n : Nat} (h2 : 2 ≤ n) (h8 : n ≤ 8) (μ : Mem) : ∃ μ', f_Trial_start N p (nI n) μ = some ((), μ') ∧ TRW μ' p n (fun w b => col w b &&& msk n) ∧ Fr (rg p (p + 1)) μ μ' := by
  have bb := bks_b n (by omega)
  have q3 : (if 6 < nI n then (shlI 1 (nI n - 6) : Int32) else (1 : Int32)) = nI (bks n) := by
    by_cases h : 6 < n
    · have e : nI n - 6 = nI (n - 6) := pk_sub (b := 6) (by omega)
      rw [if_pos (show (6 : Int32) < nI n from nI_lt (a := 6) h (by omega)), e, one_shl (by omega)]
      unfold bks; rw [if_neg (by omega)]
    · rw [if_neg (show ¬ (6 : Int32) < nI n from nI_nlt (a := 6) (by omega) (by omega))]
      unfold bks; rw [if_pos (by omega)]; rfl
  have q6 : (if nI n < 6 then ((shlL 1 (shlI 1 (nI n))) - 1 : Int64) else ((-1) : Int64)) = msk n := by
    unfold msk
    by_cases h : n < 6
    · rw [if_pos (show nI n < 6 from nI_lt (b := 6) h (by omega)), if_pos h]
    · rw [if_neg (show ¬ nI n < 6 from nI_nlt (b := 6) (by omega) (by omega)), if_neg h]
  have inner : ∀ (w : Nat) (κ : Mem) (K : Mem → Option (Unit × Mem)), w < n → Fr (rg p (p + 1)) μ κ → gI κ p 1 = nI n → gI κ p 2 = nI (bks n) → ∃ κ', lp_Trial_start_57 N p (nI n) (msk n) (nI w) K N (nI 0) κ = K κ' ∧ Fr (fun q k => q = p + 1 ∧ 4 * w ≤ k ∧ k < 4 * w + 4) κ κ' ∧ ∀ b, b < bks n → gL κ' (p + 1) (4 * w + b) = col w b &&& msk n := by
    intro w κ K hw f g1 g2
    obtain ⟨κ', ⟨i1, i2⟩, e⟩ := for_up (fun n' i ν => lp_Trial_start_57 N p (nI n) (msk n) (nI w) K n' i ν) K (bks n) (fun i ν => Fr (fun q k => q = p + 1 ∧ 4 * w ≤ k ∧ k < 4 * w + 4) κ ν ∧ ∀ b, b < i → gL ν (p + 1) (4 * w + b) = col w b &&& msk n)
      (by
        intro n' i ν hi ⟨i1, i2⟩
        have a0 : gI ν p 2 = nI (bks n) := by rw [i1.I (by omega)]; exact g2
        refine ⟨_, ?_, by simp (disch := omega) [lp_Trial_start_57, lt', bnd_some, ck_tt, inb_nI, tn_nI, fa_lit, nI_add, pk_mul, nI_ltI, nI_eq, a0, hi, sColumn]; rfl⟩
        refine ⟨i1.sL (by omega), fun b hb => ?_⟩
        by_cases e : b = i
        · subst e; simp [gI_sI, gL_sL, gR_sR, gI_sL, gI_sR, gL_sI, gL_sR, gR_sI, gR_sL]
        · simp [gI_sI, gL_sL, gR_sR, gI_sL, gI_sR, gL_sI, gL_sR, gR_sI, gR_sL, e, i2 b (by omega)])
      (by
        intro n' ν ⟨i1, i2⟩
        have a0 : gI ν p 2 = nI (bks n) := by rw [i1.I (by omega)]; exact g2
        simp (disch := omega) [lp_Trial_start_57, lt', bnd_some, ck_tt, inb_nI, tn_nI, fa_lit, nI_add, pk_mul, nI_ltI, nI_eq, a0])
      (bks n) 0 N κ (by omega) (by omega) ⟨Fr.rf κ, fun b hb => by omega⟩
    exact ⟨κ', e, i1, i2⟩
  obtain ⟨μ', ⟨k1, k2, k3, k4⟩, e⟩ := for_up (fun n' i ν => lp_Trial_start_48 N p (nI n) (msk n) (fun μ16 => some ((), μ16)) n' i ν) (fun ν => some ((), ν)) n (fun i κ => Fr (rg p (p + 1)) μ κ ∧ gI κ p 1 = nI n ∧ gI κ p 2 = nI (bks n) ∧ ∀ w, w < i → ∀ b, b < bks n → gL κ (p + 1) (4 * w + b) = col w b &&& msk n)
    (by
      intro n' i κ hi ⟨i1, i2, i3, i4⟩
      obtain ⟨κ', e, f, c⟩ := inner i κ (fun μ14 => lt' (nI i + 1) fun v15 => lp_Trial_start_48 N p (nI n) (msk n) (fun μ16 => some ((), μ16)) n' v15 μ14) hi i1 i2 i3
      refine ⟨κ', ⟨i1.tr (f.mono (fun q k z => ⟨by omega, by omega⟩)), by rw [f.I (by omega)]; exact i2, by rw [f.I (by omega)]; exact i3, fun w hw b hb => ?_⟩, ?_⟩
      · by_cases e : w = i
        · subst e; exact c b hb
        · rw [f.L (by omega)]; exact i4 w (by omega) b hb
      · rw [lp_Trial_start_48, if_pos (nI_lt hi (by omega))]
        rw [nI_1] at e ⊢
        exact e)
    (by
      intro n' κ _
      rw [lp_Trial_start_48, if_neg (nI_nlt (Nat.le_refl _) (by omega))])
    n 0 N (sI (sI μ p 1 (nI n)) p 2 (nI (bks n))) (by omega) (by omega) ⟨((Fr.rf μ).sI (rgi (by omega) (by omega))).sI (rgi (by omega) (by omega)), by simp [gI_sI, gL_sL, gR_sR, gI_sL, gI_sR, gL_sI, gL_sR, gR_sI, gR_sL], by simp [gI_sI, gL_sL, gR_sR, gI_sL, gI_sR, gL_sI, gL_sR, gR_sI, gR_sL], fun w hw => by omega⟩
  refine ⟨μ', ?_, ⟨k2, k3, k4⟩, k1⟩
  unfold f_Trial_start
  simp only [lt', q3, q6]
  exact e
def cmW (W : Nat → Nat → Int64) (i j w b : Nat) : Int64 := if w = i then W i b &&& W j b else if w = j then W i b ||| W j b else W w b
theorem sTr_compare (N : Nat) (hN : 10000 ≤ N) {p n i j : Nat} {W : Nat → Nat → Int64} {μ : Mem} (h : TRW μ p n W) (h8 : n ≤ 8) (hi : i < n) (hj : j < n) (hij : i ≠ j) : ∃ μ', f_Trial_compare N p (nI i) (nI j) μ = some ((), μ') ∧ TRW μ' p n (cmW W i j) ∧ Fr (rg p (p + 1)) μ μ' := by
  have bb := bks_b n (by omega)
  obtain ⟨μ', ⟨k1, k2, k3, k4⟩, e⟩ := for_up (fun n' t ν => lp_Trial_compare_2 N p (nI i) (nI j) (fun μ11 => some ((), μ11)) n' t ν) (fun ν => some ((), ν)) (bks n) (fun t κ => Fr (rg p (p + 1)) μ κ ∧ gI κ p 1 = nI n ∧ gI κ p 2 = nI (bks n) ∧ ∀ w, w < n → ∀ b, b < bks n → gL κ (p + 1) (4 * w + b) = if b < t then cmW W i j w b else W w b)
    (by
      intro n' t κ ht ⟨i1, i2, i3, i4⟩
      have a1 := i4 i hi t ht
      have a2 := i4 j hj t ht
      rw [if_neg (by omega)] at a1 a2
      have z1 : ¬ 4 * j + t = 4 * i + t := (by omega)
      refine ⟨_, ?_, by simp (disch := omega) [lp_Trial_compare_2, lt', bnd_some, ck_tt, inb_nI, tn_nI, fa_lit, nI_add, pk_mul, nI_ltI, nI_eq, i3, ht, a1, a2, gI_sI, gL_sL, gR_sR, gI_sL, gI_sR, gL_sI, gL_sR, gR_sI, gR_sL]; rfl⟩
      refine ⟨(i1.sL (rgi (by omega) (by omega))).sL (rgi (by omega) (by omega)), by simp [gI_sI, gL_sL, gR_sR, gI_sL, gI_sR, gL_sI, gL_sR, gR_sI, gR_sL, i2], by simp [gI_sI, gL_sL, gR_sR, gI_sL, gI_sR, gL_sI, gL_sR, gR_sI, gR_sL, i3], fun w hw b hb => ?_⟩
      have a := i4 w hw b hb
      by_cases e : b = t
      · subst e
        rw [if_pos (by omega)]
        unfold cmW
        by_cases e1 : w = i
        · subst e1
          have : ¬ w = j := hij
          simp [gI_sI, gL_sL, gR_sR, gI_sL, gI_sR, gL_sI, gL_sR, gR_sI, gR_sL]
          intro; omega
        · by_cases e2 : w = j
          · subst e2; simp [gI_sI, gL_sL, gR_sR, gI_sL, gI_sR, gL_sI, gL_sR, gR_sI, gR_sL, e1]
          · have z1 : ¬ 4 * w + b = 4 * j + b := (by omega)
            have z2 : ¬ 4 * w + b = 4 * i + b := (by omega)
            simp only [gI_sI, gL_sL, gR_sR, gI_sL, gI_sR, gL_sI, gL_sR, gR_sI, gR_sL, e1, e2, z1, z2, and_false, if_false]
            rw [a, if_neg (by omega)]
      · have z1 : ¬ 4 * w + b = 4 * j + t := (by omega)
        have z2 : ¬ 4 * w + b = 4 * i + t := (by omega)
        simp only [gI_sI, gL_sL, gR_sR, gI_sL, gI_sR, gL_sI, gL_sR, gR_sI, gR_sL, z1, z2, and_false, if_false]
        rw [a]
        ((repeat' split) <;> first | rfl | omega | (exfalso; omega) | (congr 1; omega)))
    (by
      intro n' κ ⟨i1, i2, i3, i4⟩
      simp (disch := omega) [lp_Trial_compare_2, lt', bnd_some, ck_tt, inb_nI, tn_nI, fa_lit, nI_add, pk_mul, nI_ltI, nI_eq, i3])
    (bks n) 0 N μ (by omega) (by omega) ⟨Fr.rf μ, h.1, h.2.1, fun w hw b hb => by rw [if_neg (by omega)]; exact h.2.2 w hw b hb⟩
  exact ⟨μ', e, ⟨k2, k3, fun w hw b hb => by rw [k4 w hw b hb, if_pos hb]⟩, k1⟩
def rpW (cs : List (Nat × Nat)) (W : Nat → Nat → Int64) (a : Nat) : Nat → Nat → Nat → Int64
  | 0 => W
  | m + 1 => cmW (rpW cs W a m) (cl cs (a + m)) (ch cs (a + m))
theorem sTr_runPart (N : Nat) (hN : 10000 ≤ N) {p q n a e : Nat} {cs : List (Nat × Nat)} {W : Nat → Nat → Int64} {μ : Mem} (h : TRW μ p n W) (hq : NX μ q n cs) (w : WN n cs) (hpq : q + 2 < p ∨ p + 1 < q) (hae : a ≤ e) (he : e ≤ cs.length) : ∃ μ', f_Trial_runPart N p q (nI a) (nI e) μ = some ((), μ') ∧ TRW μ' p n (rpW cs W a (e - a)) ∧ Fr (rg p (p + 1)) μ μ' := by
  have hl := w.2.2.1
  have h8 := w.2.1
  obtain ⟨μ', ⟨-, k1, k2⟩, e'⟩ := for_up (fun n' t ν => lp_Trial_runPart_3 N p q (nI e) (fun μ7 => some ((), μ7)) n' t ν) (fun ν => some ((), ν)) e (fun t κ => a ≤ t ∧ Fr (rg p (p + 1)) μ κ ∧ TRW κ p n (rpW cs W a (t - a)))
    (by
      intro n' t κ ht ⟨i0, i1, i2⟩
      have a1 : gI κ (q + 1) t = nI (cl cs t) := by rw [i1.I (rgo (by omega))]; exact (hq.2.2 t (by omega)).1
      have a2 : gI κ (q + 2) t = nI (ch cs t) := by rw [i1.I (rgo (by omega))]; exact (hq.2.2 t (by omega)).2
      have c := w.2.2.2 t (by omega)
      obtain ⟨κ', e1, t1, f1⟩ := sTr_compare N hN i2 h8 (i := cl cs t) (j := ch cs t) (by omega) (by omega) (by omega)
      refine ⟨κ', ⟨(by omega), i1.tr f1, ?_⟩, by simp (disch := omega) [lp_Trial_runPart_3, lt', bnd_some, ck_tt, inb_nI, tn_nI, fa_lit, nI_add, pk_mul, nI_ltI, nI_eq, ht, a1, a2, e1]⟩
      have : t + 1 - a = (t - a) + 1 := (by omega)
      rw [this, rpW, show a + (t - a) = t by omega]
      exact t1)
    (by
      intro n' κ _
      simp (disch := omega) [lp_Trial_runPart_3, lt', bnd_some, ck_tt, inb_nI, tn_nI, fa_lit, nI_add, pk_mul, nI_ltI, nI_eq])
    (e - a) a N μ (by omega) (by omega) ⟨Nat.le_refl _, Fr.rf μ, by rw [Nat.sub_self]; exact h⟩
  exact ⟨μ', e', k2, k1⟩
def FW (μ : Mem) (G : Nat → Int64) : Prop := ∀ b, b < 4 → gL μ 32 b = G b
theorem sPS_clear (N : Nat) (hN : 10000 ≤ N) (μ : Mem) : ∃ μ', f_PatternSet_clear N μ = some ((), μ') ∧ FW μ' (fun _ => 0) ∧ Fr (rg 32 32) μ μ' := by
  obtain ⟨μ', ⟨k1, k2⟩, e⟩ := for_up (fun n' t ν => lp_PatternSet_clear_2 N (fun μ5 => some ((), μ5)) n' t ν) (fun ν => some ((), ν)) 4 (fun t κ => Fr (rg 32 32) μ κ ∧ ∀ b, b < t → gL κ 32 b = 0)
    (by
      intro n' t κ ht ⟨i1, i2⟩
      refine ⟨_, ?_, by simp (disch := omega) [lp_PatternSet_clear_2, lt', bnd_some, ck_tt, inb_nI, tn_nI, fa_lit, nI_add, pk_mul, nI_ltI, nI_eq, ht]; rfl⟩
      refine ⟨i1.sL (rgi (by omega) (by omega)), fun b hb => ?_⟩
      by_cases e : b = t
      · subst e; simp [gI_sI, gL_sL, gR_sR, gI_sL, gI_sR, gL_sI, gL_sR, gR_sI, gR_sL]
      · simp [gI_sI, gL_sL, gR_sR, gI_sL, gI_sR, gL_sI, gL_sR, gR_sI, gR_sL, e, i2 b (by omega)])
    (by
      intro n' κ _
      simp (disch := omega) [lp_PatternSet_clear_2, lt', bnd_some, ck_tt, inb_nI, tn_nI, fa_lit, nI_add, pk_mul, nI_ltI, nI_eq])
    4 0 N μ (by omega) (by omega) ⟨Fr.rf μ, fun b hb => by omega⟩
  exact ⟨μ', e, k2, k1⟩
def uo (W : Nat → Nat → Int64) (b : Nat) : Nat → Int64
  | 0 => 0
  | k + 1 => uo W b k ||| (W k b &&& (W (k + 1) b ^^^ (-1)))
theorem sTr_unsorted (N : Nat) (hN : 10000 ≤ N) {p n : Nat} {W : Nat → Nat → Int64} {μ : Mem} (h : TRW μ p n W) (h2 : 2 ≤ n) (h8 : n ≤ 8) (hp : p + 1 < 32) : ∃ μ', f_Trial_findUnsorted N p μ = some ((), μ') ∧ FW μ' (fun b => if b < bks n then uo W b (n - 1) else 0) ∧ Fr (rg 32 32) μ μ' := by
  have bb := bks_b n (by omega)
  obtain ⟨μ1, e1, g1, f1⟩ := sPS_clear N hN μ
  have inner : ∀ (w : Nat) (κ : Mem) (K : Mem → Option (Unit × Mem)), w + 1 < n → Fr (rg 32 32) μ κ → FW κ (fun b => if b < bks n then uo W b w else 0) → ∃ κ', lp_Trial_findUnsorted_18 N p (nI w) K N (nI 0) κ = K κ' ∧ Fr (rg 32 32) μ κ' ∧ FW κ' (fun b => if b < bks n then uo W b (w + 1) else 0) := by
    intro w κ K hw f g
    obtain ⟨κ', ⟨i1, i2⟩, e⟩ := for_up (fun n' i ν => lp_Trial_findUnsorted_18 N p (nI w) K n' i ν) K (bks n) (fun i ν => Fr (rg 32 32) μ ν ∧ FW ν (fun b => if b < bks n then (if b < i then uo W b (w + 1) else uo W b w) else 0))
      (by
        intro n' i ν hi ⟨i1, i2⟩
        have a0 : gI ν p 2 = nI (bks n) := by rw [i1.I (rgo (by omega))]; exact h.2.1
        have a1 : gL ν (p + 1) (4 * w + i) = W w i := by rw [i1.L (rgo (by omega))]; exact h.2.2 w (by omega) i hi
        have a2 : gL ν (p + 1) (4 * (w + 1) + i) = W (w + 1) i := by rw [i1.L (rgo (by omega))]; exact h.2.2 (w + 1) (by omega) i hi
        have a3 := i2 i (by omega)
        dsimp only at a3
        rw [if_pos hi, if_neg (by omega)] at a3
        have e4 : uo W i w ||| (W w i &&& (W (w + 1) i ^^^ (-1))) = uo W i (w + 1) := rfl
        refine ⟨sL ν 32 i (uo W i (w + 1)), ⟨i1.sL (rgi (by omega) (by omega)), fun b hb => ?_⟩, ?_⟩
        · have := i2 b hb
          dsimp only at this ⊢
          by_cases e : b = i
          · subst e; simp [gI_sI, gL_sL, gR_sR, gI_sL, gI_sR, gL_sI, gL_sR, gR_sI, gR_sL, hi]
          · simp only [gI_sI, gL_sL, gR_sR, gI_sL, gI_sR, gL_sI, gL_sR, gR_sI, gR_sL, e, and_false, if_false]
            rw [this]
            ((repeat' split) <;> first | rfl | omega | (exfalso; omega) | (congr 1; omega))
        · rw [lp_Trial_findUnsorted_18]
          simp (disch := omega) only [i10, i00, reduceIte, lt', bnd_some, ck_tt, inb_nI, tn_nI, nI_add, pk_mul, nI_ltI, nI_eq, a0, hi, fa_lit, a1, a2, a3]
          rw [← fa_lit]
          rfl)
      (by
        intro n' ν ⟨i1, i2⟩
        have a0 : gI ν p 2 = nI (bks n) := by rw [i1.I (rgo (by omega))]; exact h.2.1
        simp (disch := omega) [lp_Trial_findUnsorted_18, lt', bnd_some, ck_tt, inb_nI, tn_nI, fa_lit, nI_add, pk_mul, nI_ltI, nI_eq, a0])
      (bks n) 0 N κ (by omega) (by omega) ⟨f, fun b hb => by
        have := g b hb
        dsimp only at this ⊢
        rw [this]
        ((repeat' split) <;> first | rfl | omega | (exfalso; omega) | (congr 1; omega))⟩
    exact ⟨κ', e, i1, fun b hb => by
      have := i2 b hb
      dsimp only at this ⊢
      rw [this]
      ((repeat' split) <;> first | rfl | omega | (exfalso; omega) | (congr 1; omega))⟩
  obtain ⟨μ', ⟨k1, k2⟩, e⟩ := for_up (fun n' i ν => lp_Trial_findUnsorted_6 N p (fun μ13 => some ((), μ13)) n' i ν) (fun ν => some ((), ν)) (n - 1) (fun i κ => Fr (rg 32 32) μ κ ∧ FW κ (fun b => if b < bks n then uo W b i else 0))
    (by
      intro n' i κ hi ⟨i1, i2⟩
      have a0 : gI κ p 1 = nI n := by rw [i1.I (rgo (by omega))]; exact h.1
      have e0 : nI n - 1 = nI (n - 1) := pk_sub (b := 1) (by omega)
      obtain ⟨κ', e, f, c⟩ := inner i κ (fun μ11 => lt' (nI i + 1) fun v12 => lp_Trial_findUnsorted_6 N p (fun μ13 => some ((), μ13)) n' v12 μ11) (by omega) i1 i2
      refine ⟨κ', ⟨f, c⟩, ?_⟩
      rw [lp_Trial_findUnsorted_6, a0, e0, if_pos (nI_lt hi (by omega))]
      rw [nI_1] at e ⊢
      exact e)
    (by
      intro n' κ ⟨i1, i2⟩
      have a0 : gI κ p 1 = nI n := by rw [i1.I (rgo (by omega))]; exact h.1
      have e0 : nI n - 1 = nI (n - 1) := pk_sub (b := 1) (by omega)
      rw [lp_Trial_findUnsorted_6, a0, e0, if_neg (nI_nlt (Nat.le_refl _) (by omega))])
    (n - 1) 0 N μ1 (by omega) (by omega) ⟨f1, fun b hb => by
      have := g1 b hb
      dsimp only at this ⊢
      rw [this]
      ((repeat' split) <;> first | rfl | omega | (exfalso; omega) | (congr 1; omega))⟩
  refine ⟨μ', ?_, k2, k1⟩
  unfold f_Trial_findUnsorted
  rw [e1, bnd_some]
  exact e

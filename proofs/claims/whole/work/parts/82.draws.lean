/-! nets that are drawn -/
def nxS (r : Int32) : Int32 := (r * 1103515245) + 12345
def u16 (r : Int32) : Nat := r.toBitVec.toNat / 65536
theorem u16_lt (r : Int32) : u16 r < 65536 := by
  have : r.toBitVec.toNat < 2 ^ 32 := r.toBitVec.isLt
  unfold u16
  omega
theorem ush16 (r : Int32) : ushI r 16 = nI (u16 r) := by
  have e : (ushI r 16).toBitVec.toNat = r.toBitVec.toNat / 2 ^ 16 := pk_ushr r 16 16 rfl
  apply Int32.toBitVec_inj.1
  apply BitVec.eq_of_toNat_eq
  have := u16_lt r
  rw [e, pk_tn (by omega)]
  rfl
theorem remN {u n : Nat} (hu : u < 65536) (h0 : 0 < n) (hn : n < 2 ^ 31) : remI (nI u) (nI n) = nI (u % n) := pk_rem (by omega) h0 hn
/-- the pair that is drawn from R, and what R is then -/
def drP (n : Nat) (r : Int32) : Nat × Nat := (u16 (nxS r) % n, if u16 (nxS (nxS r)) % (n - 1) < u16 (nxS r) % n then u16 (nxS (nxS r)) % (n - 1) else u16 (nxS (nxS r)) % (n - 1) + 1)
def drC (n : Nat) (r : Int32) : Nat × Nat := (min (drP n r).1 (drP n r).2, max (drP n r).1 (drP n r).2)
def dl (n : Nat) : Nat → Int32 → List (Nat × Nat)
  | 0, _ => []
  | c + 1, r => drC n r :: dl n c (nxS (nxS r))
theorem dl_len (n : Nat) : ∀ c r, (dl n c r).length = c
  | 0, _ => rfl
  | c + 1, r => by rw [dl, List.length_cons, dl_len n c]
theorem drC_ok {n : Nat} (h2 : 2 ≤ n) (r : Int32) : (drC n r).1 < (drC n r).2 ∧ (drC n r).2 < n := by
  have a : u16 (nxS r) % n < n := Nat.mod_lt _ (by omega)
  have b : u16 (nxS (nxS r)) % (n - 1) < n - 1 := Nat.mod_lt _ (by omega)
  unfold drC drP
  dsimp only
  generalize u16 (nxS r) % n = A at *
  generalize u16 (nxS (nxS r)) % (n - 1) = B at *
  split <;> omega
theorem dl_ok {n : Nat} (h2 : 2 ≤ n) : ∀ c r, ∀ x ∈ dl n c r, x.1 < x.2 ∧ x.2 < n
  | 0, _, x, h => by simp [dl] at h
  | c + 1, r, x, h => by
    rw [dl] at h
    rcases List.mem_cons.mp h with h | h
    · subst h; exact drC_ok h2 r
    · exact dl_ok h2 c _ x h
theorem l_d47 (N : Nat) {μ : Mem} {p n k : Nat} (h2 : 2 ≤ n) (h8 : n ≤ 8) (hk : k ≤ 60) (K : Mem → Option (Int32 × Mem)) : ∀ (m i n' : Nat) (r : Int32) (κ : Mem) (cs : List (Nat × Nat)), i + m = k → m < n' → HX μ p n κ cs → cs.length = i → ∃ κ', HX μ p n κ' (cs ++ dl n m r) ∧ lp_X_draws_47 N (nI n) (nI k) p K n' r (nI i) κ = K κ' := by
  have sb : nI n - 1 = nI (n - 1) := pk_sub (b := 1) (by omega)
  have n0 : ¬ nI n = 0 := fun q => by have := (nI_eq (b := 0) (by omega) (by omega)).mp q; omega
  have n1 : ¬ nI (n - 1) = 0 := fun q => by have := (nI_eq (b := 0) (by omega) (by omega)).mp q; omega
  intro m
  induction m with
  | zero =>
    intro i n' r κ cs h1 hn hc hl
    obtain ⟨n', rfl⟩ : ∃ k, n' = k + 1 := ⟨n' - 1, (by omega)⟩
    have : i = k := (by omega)
    subst this
    exact ⟨κ, by rw [dl, List.append_nil]; exact hc, by rw [lp_X_draws_47, if_neg (nI_nlt (Nat.le_refl _) (by omega))]⟩
  | succ m ih =>
    intro i n' r κ cs h1 hn hc hl
    obtain ⟨n', rfl⟩ : ∃ k, n' = k + 1 := ⟨n' - 1, (by omega)⟩
    obtain ⟨κ', g, e⟩ := hc.ap N (i := (drC n r).1) (j := (drC n r).2) (by omega)
    obtain ⟨κ2, g2, e2⟩ := ih (i + 1) n' (nxS (nxS r)) κ' _ (by omega) (by omega) g (by rw [List.length_append, List.length_singleton, hl])
    refine ⟨κ2, by rw [List.append_assoc] at g2; exact g2, ?_⟩
    have a : u16 (nxS r) % n < n := Nat.mod_lt _ (by omega)
    have b : u16 (nxS (nxS r)) % (n - 1) < n - 1 := Nat.mod_lt _ (by omega)
    have u1 := u16_lt (nxS r)
    have u2 := u16_lt (nxS (nxS r))
    have q : (if nI (u16 (nxS (nxS r)) % (n - 1)) < nI (u16 (nxS r) % n) then (nI (u16 (nxS (nxS r)) % (n - 1)) : Int32) else (nI (u16 (nxS (nxS r)) % (n - 1)) + 1 : Int32)) = nI (drP n r).2 := by
      have l : (nI (u16 (nxS (nxS r)) % (n - 1)) < nI (u16 (nxS r) % n)) ↔ u16 (nxS (nxS r)) % (n - 1) < u16 (nxS r) % n := nI_ltI (by omega) (by omega)
      unfold drP
      dsimp only
      by_cases z : u16 (nxS (nxS r)) % (n - 1) < u16 (nxS r) % n
      · rw [if_pos (l.mpr z), if_pos z]
      · rw [if_neg (fun y => z (l.mp y)), if_neg z, nI_1]
    have q1 : nI (u16 (nxS r) % n) = nI (drP n r).1 := rfl
    have b1 : (drP n r).1 < n := a
    have b2 : (drP n r).2 < n := by
      unfold drP
      dsimp only
      split <;> omega
    have s1 : f_X_nextState N r κ = some (nxS r, κ) := rfl
    have s2 : f_X_nextState N (nxS r) κ = some (nxS (nxS r), κ) := rfl
    rw [lp_X_draws_47, if_pos (nI_lt (by omega) (by omega)), s1, bnd_some, decide_eq_true n0, ck_tt, ush16, remN u1 (by omega) (by omega), ltE, s2, bnd_some, sb, decide_eq_true n1, ck_tt, ush16, remN u2 (by omega) (by omega), ltE, q, ltE, q1, mnI_nI (by omega) (by omega), mxI_nI (by omega) (by omega)]
    rw [show f_Net_append N p (nI (min (drP n r).1 (drP n r).2)) (nI (max (drP n r).1 (drP n r).2)) κ = _ from e, bnd_some, ltE, nI_1]
    exact e2
abbrev mD (s : Nat) : Nat → Nat → Prop := fun q k => mN s q k ∨ (q = 44 ∧ k = 17)
theorem l_d55 (N : Nat) {μ : Mem} {s n k : Nat} (hs : s < 4) (h2 : 2 ≤ n) (h8 : n ≤ 8) (hk : k ≤ 60) (K : Mem → Option (Int32 × Mem)) : ∀ (m i n' : Nat) (r : Int32) (κ : Mem) (cs : List (Nat × Nat)), i + m = k → m < n' → NM κ s n cs → Fr (mD s) μ κ → gI κ 44 17 = r → cs.length = i → ∃ κ', NM κ' s n (cs ++ dl n m r) ∧ Fr (mD s) μ κ' ∧ lp_M_draws_55 N (nI s) (nI n) (nI k) K n' (nI i) κ = K κ' := by
  have sb : nI n - 1 = nI (n - 1) := pk_sub (b := 1) (by omega)
  have n0 : ¬ nI n = 0 := fun q => by have := (nI_eq (b := 0) (by omega) (by omega)).mp q; omega
  have n1 : ¬ nI (n - 1) = 0 := fun q => by have := (nI_eq (b := 0) (by omega) (by omega)).mp q; omega
  intro m
  induction m with
  | zero =>
    intro i n' r κ cs h1 hn hc hf hr hl
    obtain ⟨n', rfl⟩ : ∃ k, n' = k + 1 := ⟨n' - 1, (by omega)⟩
    have : i = k := (by omega)
    subst this
    exact ⟨κ, by rw [dl, List.append_nil]; exact hc, hf, by rw [lp_M_draws_55, if_neg (nI_nlt (Nat.le_refl _) (by omega))]⟩
  | succ m ih =>
    intro i n' r κ cs h1 hn hc hf hr hl
    obtain ⟨n', rfl⟩ : ∃ k, n' = k + 1 := ⟨n' - 1, (by omega)⟩
    have a : u16 (nxS r) % n < n := Nat.mod_lt _ (by omega)
    have b : u16 (nxS (nxS r)) % (n - 1) < n - 1 := Nat.mod_lt _ (by omega)
    have u1 := u16_lt (nxS r)
    have u2 := u16_lt (nxS (nxS r))
    have d1 : f_M_draw N (nI n) κ = some (nI (u16 (nxS r) % n), sI κ 44 17 (nxS r)) := by
      unfold f_M_draw
      rw [hr, ltE, decide_eq_true n0, ck_tt, gI_sI, if_pos ⟨rfl, rfl⟩, show (r * 1103515245) + 12345 = nxS r from rfl, ush16, remN u1 (by omega) (by omega)]
    have d2 : f_M_draw N (nI (n - 1)) (sI κ 44 17 (nxS r)) = some (nI (u16 (nxS (nxS r)) % (n - 1)), sI (sI κ 44 17 (nxS r)) 44 17 (nxS (nxS r))) := by
      unfold f_M_draw
      rw [gI_sI, if_pos ⟨rfl, rfl⟩, ltE, decide_eq_true n1, ck_tt, gI_sI, if_pos ⟨rfl, rfl⟩, show (nxS r * 1103515245) + 12345 = nxS (nxS r) from rfl, ush16, remN u2 (by omega) (by omega)]
    have f0 : Fr (mD s) κ (sI (sI κ 44 17 (nxS r)) 44 17 (nxS (nxS r))) := ((Fr.rf κ).sI (Or.inr ⟨rfl, rfl⟩)).sI (Or.inr ⟨rfl, rfl⟩)
    have hc0 : NM (sI (sI κ 44 17 (nxS r)) 44 17 (nxS (nxS r))) s n cs := hc.fr (A := rg 44 44) (((Fr.rf κ).sI (rgi (by omega) (by omega))).sI (rgi (by omega) (by omega))) (fun q k _ _ z => by unfold rg at z; omega)
    obtain ⟨κ', e, g, f⟩ := sM_comes N (i := (drC n r).1) (j := (drC n r).2) hc0 hs (by omega)
    have f1 : Fr (mD s) _ κ' := f.mono (fun q k z => Or.inl z)
    have g17 : gI κ' 44 17 = nxS (nxS r) := by
      rw [f.I (fun z => by unfold mN at z; omega), gI_sI, if_pos ⟨rfl, rfl⟩]
    obtain ⟨κ2, g2, f2, e2⟩ := ih (i + 1) n' (nxS (nxS r)) κ' _ (by omega) (by omega) g ((hf.tr f0).tr f1) g17 (by rw [List.length_append, List.length_singleton, hl])
    refine ⟨κ2, by rw [List.append_assoc] at g2; exact g2, f2, ?_⟩
    have q : nI (u16 (nxS (nxS r)) % (n - 1)) + (if nI (u16 (nxS (nxS r)) % (n - 1)) < nI (u16 (nxS r) % n) then (0 : Int32) else (1 : Int32)) = nI (drP n r).2 := by
      have l : (nI (u16 (nxS (nxS r)) % (n - 1)) < nI (u16 (nxS r) % n)) ↔ u16 (nxS (nxS r)) % (n - 1) < u16 (nxS r) % n := nI_ltI (by omega) (by omega)
      unfold drP
      dsimp only
      by_cases z : u16 (nxS (nxS r)) % (n - 1) < u16 (nxS r) % n
      · rw [if_pos (l.mpr z), if_pos z, show (0 : Int32) = nI 0 from rfl, nI_add, Nat.add_zero]
      · rw [if_neg (fun y => z (l.mp y)), if_neg z, nI_1]
    have q1 : nI (u16 (nxS r) % n) = nI (drP n r).1 := rfl
    have b1 : (drP n r).1 < n := a
    have b2 : (drP n r).2 < n := by
      unfold drP
      dsimp only
      split <;> omega
    have fl : ∀ (P : Prop) [Decidable P] (ν : Mem), f_M_flag N (if P then (0 : Int32) else 1) ν = some (if P then (0 : Int32) else 1, ν) := by
      intro P _ ν
      by_cases z : P
      · rw [if_pos z, fl0]
      · rw [if_neg z, fl1]
    rw [lp_M_draws_55, if_pos (nI_lt (by omega) (by omega)), d1, bnd_some, sb, d2, bnd_some, ltE, fl, bnd_some, ltE, q, q1, mnI_nI (by omega) (by omega), mxI_nI (by omega) (by omega)]
    rw [show f_M_comes3 N (nI s) (nI (min (drP n r).1 (drP n r).2)) (nI (max (drP n r).1 (drP n r).2)) _ = _ from e, bnd_some, ltE, nI_1]
    exact e2
theorem op_draws (N : Nat) (hN : 10000 ≤ N) (x y z r : Int32) : OpEq (f_X_draws N x y z r) (f_M_draws N x y z r) := by
  refine op_of (fX := fun x => f_X_draws N x y z r) (fM := fun x => f_M_draws N x y z r) (-1) (fun x h μ => by simp [f_X_draws, isNet_out N h, bnd_some]) (fun x h μ => by simp [f_M_draws, mNet_out N h, bnd_some, lt']) (fun s hs μ σ hw hx => ?_) x
  by_cases hy : 2 ≤ y.toInt ∧ y.toInt ≤ 8
  · obtain ⟨n, h2, h8, rfl⟩ := nat_of (a := 2) (b := 8) hy
    by_cases hz : 0 ≤ z.toInt ∧ z.toInt ≤ 60
    · obtain ⟨k, -, hk, rfl⟩ := nat_of (a := 0) (b := 60) hz
      generalize hcs : dl n k r = cs
      have hl : cs.length = k := by rw [← hcs]; exact dl_len n k r
      have w : WN n cs := WN.of h2 h8 (by omega) (by rw [← hcs]; exact dl_ok h2 k r)
      obtain ⟨μ1, e1, n1, f1⟩ := sNet_clear N (μ := μ) (p := 2 + 3 * s) (n := n)
      refine g_u hw hx hs (n := n) (cs := cs) (nI (cn (wr n cs b0 0) (2 ^ n))) σ.2.2 hw.2.2.2 ⟨hw.2.1, hw.2.2.1⟩ w ?_ (fun μ ν hν hm => ?_)
      · obtain ⟨μ2, g2, e2⟩ := l_d47 N h2 h8 hk (fun μ27 => bnd (f_X_judge N (2 + 3 * s) (-1) μ27) fun _ μ29 => bnd (f_PatternSet_size N μ29) fun r30 μ31 => some (r30, μ31)) k 0 N r μ1 [] (by omega) (by omega) ⟨n1, Fr.rf μ1⟩ rfl
        rw [List.nil_append, hcs] at g2
        obtain ⟨μ3, e3, p3, f3⟩ := sX_judge0 N hN g2.1 w (by omega)
        have e4 := sPS_size N hN p3
        unfold PW at e4
        rw [PS.size h8] at e4
        have fa : Fr (rg (2 + 3 * s) (2 + 3 * s + 2)) μ μ2 := (f1.wide (by omega) (by omega)).tr g2.2
        refine ⟨μ3, ?_, g2.1.frg f3 (by omega), (hx.2.1.fr fa (rgo (by omega)) (fun _ => rgo (by omega))).fr f3 (rgo (by omega)) (fun _ => rgo (by omega)), (hx.2.2.fr fa (rgo (by omega)) (fun _ => rgo (by omega))).fr f3 (rgo (by omega)) (fun _ => rgo (by omega)), (rg_xU fa (Or.inl ⟨Nat.le_refl _, Nat.le_refl _⟩)).tr (rg_xU f3 (Or.inr ⟨by decide, by decide⟩))⟩
        unfold f_X_draws
        rw [isNet_in N hs, bnd_some, if_neg (by decide), sX_isWires, if_pos hy, bnd_some, if_neg (by decide), if_neg (nI_pos (by omega)), if_neg (show ¬ (60 : Int32) < nI k from nI_nlt (a := 60) hk (by omega)), inb_nI hs (by omega), ck_tt, tn_nI (by omega), e1, bnd_some]
        refine Eq.trans e2 ?_
        rw [e3, bnd_some, e4, bnd_some]
      · obtain ⟨ν1, g1, m1, h1⟩ := sM_begins N (n := n) hs ν
        have m1' : NM (sI ν1 44 17 r) s n [] := m1.fr (A := rg 44 44) ((Fr.rf ν1).sI (rgi (by omega) (by omega))) (fun q k _ _ z => by unfold rg at z; omega)
        have hf : Fr (mD s) ν (sI ν1 44 17 r) := (h1.mono (fun q k z => Or.inl z)).sI (Or.inr ⟨rfl, rfl⟩)
        obtain ⟨ν2, m2, h2', e2⟩ := l_d55 N hs h2 h8 hk (fun μ28 => bnd (f_M_wrongs N (nI s) (-1) 0 μ28) fun r29 μ30 => some (r29, μ30)) k 0 N r (sI ν1 44 17 r) [] (by omega) (by omega) m1' hf (by rw [gI_sI, if_pos ⟨rfl, rfl⟩]) rfl
        rw [List.nil_append, hcs] at m2
        obtain ⟨ν3, e3, -, h3⟩ := sM_wrongs N hN m2 w hs (-1) b0 hb0 0 (by decide)
        have h3' : Fr (mU s) ν2 ν3 := mS_mU (mW_mS h3)
        have hU : Fr (mU s) ν ν3 := (h2'.mono (fun q k z => by unfold mD mN at z; unfold mU; omega)).tr h3'
        have i2 : f_M_in N (Int32.toInt64 (nI k)) 0 60 ν = some (1, ν) := by
          rw [sM_in, if_pos]; exact hz
        have fq : Fr (fun q k => mN s q k ∨ (q = 44 ∧ (k = 17 ∨ k = 21 ∨ k = 22))) ν ν3 := (h2'.mono (fun q k z => by unfold mD mN at z; unfold mN; omega)).tr (h3.mono (fun q k z => by unfold mW at z; unfold mN; omega))
        refine ⟨ν3, ?_, m2.fr h3 (fun q k _ _ z => by unfold mW at z; omega), hm.2.1.fr fq (fun z => by unfold mN at z; omega) (fun k z => by unfold mN at z; omega), hm.2.2.1.fr fq (fun z => by unfold mN at z; omega) (fun k z => by unfold mN at z; omega), hU⟩
        unfold f_M_draws
        rw [ltE, ← hν, mNet_in N hs, bnd_some, if_neg (by decide), mW_in, if_pos hy, bnd_some, if_neg (by decide), i2, bnd_some, if_neg (by decide), g1, bnd_some, ltE]
        refine Eq.trans e2 ?_
        rw [show f_M_wrongs N (nI s) (-1) 0 ν2 = _ from e3, bnd_some]
    · refine g_no hw hx (-1) ?_ (fun μ ν hν hm => ?_)
      · unfold f_X_draws
        rw [isNet_in N hs, bnd_some, if_neg (by decide), sX_isWires, if_pos hy, bnd_some, if_neg (by decide)]
        by_cases q : z < 0
        · rw [if_pos q]
        · have q' : ¬ z.toInt < 0 := fun e => q (ltz.mpr e)
          rw [if_neg q, if_pos]
          rw [Int32.lt_iff_toInt_lt]
          have : (60 : Int32).toInt = 60 := rfl
          omega
      · have i2 : f_M_in N (Int32.toInt64 z) 0 60 ν = some (0, ν) := by
          rw [sM_in, if_neg]; exact hz
        unfold f_M_draws
        rw [ltE, ← hν, mNet_in N hs, bnd_some, if_neg (by decide), mW_in, if_pos hy, bnd_some, if_neg (by decide), i2, bnd_some, if_pos rfl]
  · refine g_no hw hx (-1) ?_ (fun μ ν hν hm => ?_)
    · unfold f_X_draws
      rw [isNet_in N hs, bnd_some, if_neg (by decide), sX_isWires, if_neg hy, bnd_some, if_pos rfl]
    · unfold f_M_draws
      rw [ltE, ← hν, mNet_in N hs, bnd_some, if_neg (by decide), mW_in, if_neg hy, bnd_some, if_pos rfl]

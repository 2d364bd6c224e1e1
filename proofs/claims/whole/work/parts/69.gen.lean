/-! forms of calls -/
def OpG {ρ : Type} (fX fM : Mem → Option (ρ × Mem)) (μ : Mem) (σ : Ab) : Prop := ∃ r σ' μ', fX μ = some (r, μ') ∧ SX μ' σ' ∧ Fr (rg 2 43) μ μ' ∧ Wf σ' ∧ ∀ μ, SM μ σ → ∃ μ2, fM μ = some (r, μ2) ∧ SM μ2 σ' ∧ Fr (rg 44 63) μ μ2
def NoN (x : Int32) : Prop := x < 0 ∨ nI 4 ≤ x
theorem op_of {ρ : Type} {fX fM : Int32 → Mem → Option (ρ × Mem)} (no : ρ) (h1 : ∀ x, NoN x → ∀ μ, fX x μ = some (no, μ)) (h2 : ∀ x, NoN x → ∀ μ, fM x μ = some (no, sI μ 44 0 0)) (h : ∀ s, s < 4 → ∀ μ σ, Wf σ → SX μ σ → OpG (fX (nI s)) (fM (nI s)) μ σ) (x : Int32) : OpEq (fX x) (fM x) := by
  refine op_mk (fun μ σ hw hx => ?_)
  rcases ix4 x 4 (by omega) with hs | ⟨s, hs, rfl⟩
  · exact ⟨no, σ, μ, h1 x hs μ, hx, Fr.rf μ, hw, op_no (fun μ _ => h2 x hs μ)⟩
  · exact h s hs μ σ hw hx
theorem g_no {ρ : Type} {fX fM : Mem → Option (ρ × Mem)} {μ : Mem} {σ : Ab} (hw : Wf σ) (hx : SX μ σ) (r : ρ) (h1 : fX μ = some (r, μ)) (h2 : ∀ μ ν, ν = sI μ 44 0 0 → SM ν σ → fM μ = some (r, ν)) : OpG fX fM μ σ :=
  ⟨r, σ, μ, h1, hx, Fr.rf μ, hw, fun μ hm => ⟨_, h2 μ _ rfl hm.thr, hm.thr, frT⟩⟩
theorem g_q {ρ : Type} {fX fM : Mem → Option (ρ × Mem)} {μ : Mem} {σ : Ab} (hw : Wf σ) (hx : SX μ σ) (r : ρ) (rw : List Int64) (hl : rw.length ≤ 64) (h1 : ∃ μ', fX μ = some (r, μ') ∧ RX μ' rw ∧ Fr (rg 16 43) μ μ') (h2 : ∀ μ ν, ν = sI μ 44 0 0 → SM ν σ → ∃ μ2, fM μ = some (r, μ2) ∧ RM μ2 rw ∧ Fr mQ ν μ2) : OpG fX fM μ σ := by
  refine op_q hw hx r rw hl h1 (fun μ hm => ?_)
  obtain ⟨μ2, e, r, f⟩ := h2 μ _ rfl hm.thr
  exact ⟨μ2, e, r, thrQ.tr f⟩
/-- scratch of the model -/
def mS : Nat → Nat → Prop := fun q k => (q = 44 ∧ k ≠ 1 ∧ k ≠ 8 ∧ k ≠ 27 ∧ k ≠ 28) ∨ (51 ≤ q ∧ q ≤ 63)
theorem mS_mQ {μ μ' : Mem} (f : Fr mS μ μ') : Fr mQ μ μ' := f.mono (fun q k z => by unfold mS at z; unfold mQ; omega)
theorem mW_mS {μ μ' : Mem} (f : Fr mW μ μ') : Fr mS μ μ' := f.mono (fun q k z => by unfold mW at z; unfold mS; omega)
theorem mB_mS {μ μ' : Mem} (f : Fr mB μ μ') : Fr mS μ μ' := f.mono (fun q k z => by unfold mB at z; unfold mS; omega)
theorem rgS {a b : Nat} {μ μ' : Mem} (f : Fr (rg a b) μ μ') (h1 : 51 ≤ a) (h2 : b ≤ 63) : Fr mS μ μ' := f.mono (fun q k z => by unfold rg at z; unfold mS; omega)
theorem SX.scr {μ μ' : Mem} {σ : Ab} (h : SX μ σ) (f : Fr (rg 18 43) μ μ') : SX μ' σ := h.row (f.wide (by omega) (by omega)) (h.2.2.fr f (rgo (by omega)) (fun _ => rgo (by omega)))
theorem SM.scr {μ μ' : Mem} {σ : Ab} (h : SM μ σ) (f : Fr mS μ μ') : SM μ' σ := h.row (mS_mQ f) (h.2.2.1.fr f (fun z => by unfold mS at z; omega) (fun k z => by unfold mS at z; omega))
theorem g_n {ρ : Type} {fX fM : Mem → Option (ρ × Mem)} {μ : Mem} {σ : Ab} (hw : Wf σ) (hx : SX μ σ) (r : ρ) (h1 : ∃ μ', fX μ = some (r, μ') ∧ Fr (rg 18 43) μ μ') (h2 : ∀ μ ν, ν = sI μ 44 0 0 → SM ν σ → ∃ μ2, fM μ = some (r, μ2) ∧ Fr mS ν μ2) : OpG fX fM μ σ := by
  obtain ⟨μ', e, f⟩ := h1
  refine ⟨r, σ, μ', e, hx.scr f, f.wide (by omega) (by omega), hw, fun μ hm => ?_⟩
  obtain ⟨μ2, e2, f2⟩ := h2 μ _ rfl hm.thr
  exact ⟨μ2, e2, hm.thr.scr f2, frT.tr (frQ (mS_mQ f2))⟩
def xU (s : Nat) : Nat → Nat → Prop := fun q _ => (2 + 3 * s ≤ q ∧ q ≤ 2 + 3 * s + 2) ∨ (14 ≤ q ∧ q ≤ 43)
def mU (s : Nat) : Nat → Nat → Prop := fun q k => (q = 46 ∧ k = s) ∨ (q = 47 ∧ k = s) ∨ ((q = 48 ∨ q = 49) ∧ 60 * s ≤ k ∧ k < 60 * s + 60) ∨ (q = 44 ∧ k ≠ 27 ∧ k ≠ 28) ∨ q = 45 ∨ (50 ≤ q ∧ q ≤ 63)
theorem mN_mU {s : Nat} {μ μ' : Mem} (f : Fr (mN s) μ μ') : Fr (mU s) μ μ' := f.mono (fun q k z => by unfold mN at z; unfold mU; omega)
theorem mQ_mU {s : Nat} {μ μ' : Mem} (f : Fr mQ μ μ') : Fr (mU s) μ μ' := f.mono (fun q k z => by unfold mQ at z; unfold mU; omega)
theorem mS_mU {s : Nat} {μ μ' : Mem} (f : Fr mS μ μ') : Fr (mU s) μ μ' := f.mono (fun q k z => by unfold mS at z; unfold mU; omega)
theorem rg_xU {s a b : Nat} {μ μ' : Mem} (f : Fr (rg a b) μ μ') (h : (2 + 3 * s ≤ a ∧ b ≤ 2 + 3 * s + 2) ∨ (14 ≤ a ∧ b ≤ 43)) : Fr (xU s) μ μ' := f.mono (fun q k z => by unfold rg at z; unfold xU; omega)
theorem NX.offU {s t n : Nat} {cs : List (Nat × Nat)} {μ μ' : Mem} (h : NX μ (2 + 3 * t) n cs) (f : Fr (xU s) μ μ') (ht : t < 4) (hst : t ≠ s) : NX μ' (2 + 3 * t) n cs := h.fr f (fun q k h1 h2 z => by unfold xU at z; omega)
theorem NM.offU {s t n : Nat} {cs : List (Nat × Nat)} {μ μ' : Mem} (h : NM μ t n cs) (f : Fr (mU s) μ μ') (hst : t ≠ s) (hl : cs.length ≤ 60) : NM μ' t n cs := ⟨by rw [f.I (fun z => by unfold mU at z; omega)]; exact h.1, by rw [f.I (fun z => by unfold mU at z; omega)]; exact h.2.1, fun k hk => ⟨by rw [f.I (fun z => by unfold mU at z; omega)]; exact (h.2.2 k hk).1, by rw [f.I (fun z => by unfold mU at z; omega)]; exact (h.2.2 k hk).2⟩⟩
theorem g_u {ρ : Type} {fX fM : Mem → Option (ρ × Mem)} {μ : Mem} {σ : Ab} {s n : Nat} {cs : List (Nat × Nat)} {tx : List Nat} (hw : Wf σ) (hx : SX μ σ) (hs : s < 4) (r : ρ) (rw : List Int64) (hl : rw.length ≤ 64) (ht : tx.length ≤ 200 ∧ ∀ k, tx.getD k 0 < 256) (hn : WN n cs) (h1 : ∃ μ', fX μ = some (r, μ') ∧ NX μ' (2 + 3 * s) n cs ∧ TX μ' tx ∧ RX μ' rw ∧ Fr (xU s) μ μ') (h2 : ∀ μ ν, ν = sI μ 44 0 0 → SM ν σ → ∃ μ2, fM μ = some (r, μ2) ∧ NM μ2 s n cs ∧ TM μ2 tx ∧ RM μ2 rw ∧ Fr (mU s) ν μ2) : OpG fX fM μ σ := by
  obtain ⟨μ', e, n1, t1, r1, f⟩ := h1
  refine ⟨r, (upN σ.1 s (n, cs), tx, rw), μ', e, ⟨fun t ht => ?_, t1, r1⟩, f.mono (fun q k z => ⟨by unfold xU at z; omega, by unfold xU at z; omega⟩), ⟨fun t ht => ?_, ht.1, ht.2, hl⟩, fun μ hm => ?_⟩
  · by_cases e : t = s
    · subst e; simpa [upN] using n1
    · simpa [upN, e] using (hx.1 t ht).offU f ht e
  · by_cases e : t = s
    · subst e; simpa [upN] using hn
    · simpa [upN, e] using hw.1 t ht
  · obtain ⟨μ2, e2, n2, t2, r2, f2⟩ := h2 μ _ rfl hm.thr
    refine ⟨μ2, e2, ⟨fun t ht => ?_, t2, r2, hm.thr.2.2.2.fr f2 (fun z => by unfold mU at z; omega) (fun z => by unfold mU at z; omega)⟩, frT.tr (f2.mono (fun q k z => ⟨by unfold mU at z; omega, by unfold mU at z; omega⟩))⟩
    by_cases e : t = s
    · subst e; simpa [upN] using n2
    · simpa [upN, e] using (hm.thr.1 t ht).offU f2 e (hw.1 t ht).2.2.1
theorem hb0 : ∀ k, k < 60 → (nI k = -1 ↔ b0 k = true) := fun k hk => ⟨fun e => absurd e (nI_ne_m1 (by omega)), fun e => by cases e⟩
theorem hbo {c : Nat} (hc : c < 60) : ∀ k, k < 60 → (nI k = nI c ↔ bo c k = true) := fun k hk => by
  unfold bo
  rw [decide_eq_true_iff]
  exact nI_eq (by omega) (by omega)
theorem sM_flag (N : Nat) (p : Prop) [Decidable p] (μ : Mem) : f_M_flag N (if p then 1 else 0) μ = some (if p then 1 else 0, μ) := by
  unfold f_M_flag
  by_cases h : p
  · simp [h]
  · simp [h]
theorem cn_256' {n : Nat} (h8 : n ≤ 8) (P : Nat → Bool) : cn P (2 ^ n) ≤ 256 := Nat.le_trans (cn_le _ _) (pow8 h8)
theorem op_sorts (N : Nat) (hN : 10000 ≤ N) (x : Int32) : OpEq (f_X_sorts N x) (f_M_sorts N x) := by
  refine op_of (-1) (fun x h μ => by simp [f_X_sorts, isNet_out N h, bnd_some]) (fun x h μ => by simp [f_M_sorts, mNet_out N h, bnd_some, lt']) (fun s hs μ σ hw hx => ?_) x
  have w := hw.1 s hs
  have nx := hx.1 s hs
  generalize hcs : (σ.1 s).2 = cs at *
  generalize hnn : (σ.1 s).1 = n at *
  have c256 := cn_256' w.2.1 (wr n cs b0 0)
  obtain ⟨μ1, e1, p1, f1⟩ := sX_judge0 N hN nx w (by omega)
  obtain ⟨μ2, e2, r2, f2⟩ := sNum_clear N μ1
  have p2 := p1.fr f2 (fun _ => rgo (by omega))
  have e3 := sPS_size N hN p2
  unfold PW at e3
  rw [PS.size w.2.1] at e3
  obtain ⟨μ4, e4, r4, f4⟩ := sNum_append N (nI (cn (wr n cs b0 0) (2 ^ n))).toInt64 r2 (by decide)
  have p4 := p2.fr f4 (fun _ => rgo (by omega))
  obtain ⟨v, e5, i5⟩ := sPS_first N hN p4
  have i6 := PS.frst w.2.1 i5
  obtain ⟨μ6, e6, r6, f6⟩ := sNum_append N v.toInt64 r4 (by simp)
  have p6 := p4.fr f6 (fun _ => rgo (by omega))
  have e7 := sPS_isEmpty N hN p6
  unfold PW at e7
  rw [PS.size w.2.1] at e7
  refine g_q hw hx (if cn (wr n cs b0 0) (2 ^ n) = 0 then 1 else 0) ([] ++ [(nI (cn (wr n cs b0 0) (2 ^ n))).toInt64] ++ [v.toInt64]) (by simp) ⟨μ6, ?_, r6, (((f1.wide (by omega) (by omega)).tr (f2.wide (by omega) (by omega))).tr (f4.wide (by omega) (by omega))).tr (f6.wide (by omega) (by omega))⟩ (fun μ ν hν hm => ?_)
  · simp (disch := omega) only [f_X_sorts, isNet_in N hs, i10, i00, reduceIte, lt', bnd_some, ck_tt, inb_nI, tn_nI, nI_add, pk_mul, nI_ltI, nI_eq, e1, e2, e3, e4, e5, e6, e7]
    split <;> simp
  · have m := hm.1 s hs
    rw [hcs, hnn] at m
    obtain ⟨ν1, g1, i1, h1⟩ := sM_wrongs N hN m w hs (-1) b0 hb0 0 (by decide)
    obtain ⟨ν2, g2, q2, h2⟩ := sM_tellsOne N ν1 (nI (cn (wr n cs b0 0) (2 ^ n))).toInt64
    have a : gI ν2 44 22 = v := by rw [h2.I (fun z => by unfold mR at z; omega)]; exact i1.uniq i6
    obtain ⟨ν3, g3, q3, h3⟩ := sM_enters N v.toInt64 q2 (by simp)
    refine ⟨ν3, ?_, q3, ((mS_mQ (mW_mS h1)).tr (mR_mQ h2)).tr (mR_mQ h3)⟩
    have z0 : (nI (cn (wr n cs b0 0) (2 ^ n)) = 0) ↔ cn (wr n cs b0 0) (2 ^ n) = 0 := nI_eq (b := 0) (by omega) (by omega)
    unfold f_M_sorts
    simp only [lt', ← hν]
    have g1' : f_M_wrongs N (nI s) (-1) 0 ν = _ := g1
    simp (disch := omega) only [mNet_in N hs, i10, i00, reduceIte, lt', bnd_some, ck_tt, inb_nI, tn_nI, nI_add, pk_mul, nI_ltI, nI_eq, g1', g2, a, g3, z0, sM_flag]

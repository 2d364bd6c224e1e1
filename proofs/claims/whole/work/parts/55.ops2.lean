/-! more calls that change one net -/
def mk (L : Nat) (f g : Nat → Nat) : List (Nat × Nat) := (List.range L).map (fun k => (f k, g k))
theorem mk_len (L : Nat) (f g : Nat → Nat) : (mk L f g).length = L := by simp [mk]
theorem cl_mk {L k : Nat} (f g : Nat → Nat) (h : k < L) : cl (mk L f g) k = f k := by simp [cl_def, mk, h]
theorem ch_mk {L k : Nat} (f g : Nat → Nat) (h : k < L) : ch (mk L f g) k = g k := by simp [ch_def, mk, h]
theorem NX.mk {μ : Mem} {p n L : Nat} {f g : Nat → Nat} (h0 : gI μ p 0 = nI n) (h1 : gI μ p 1 = nI L) (h2 : ∀ k, k < L → gI μ (p + 1) k = nI (f k) ∧ gI μ (p + 2) k = nI (g k)) : NX μ p n (mk L f g) := ⟨h0, by rw [mk_len]; exact h1, fun k hk => by rw [mk_len] at hk; rw [cl_mk _ _ hk, ch_mk _ _ hk]; exact h2 k hk⟩
theorem NM.mk {μ : Mem} {s n L : Nat} {f g : Nat → Nat} (h0 : gI μ 46 s = nI n) (h1 : gI μ 47 s = nI L) (h2 : ∀ k, k < L → gI μ 48 (60 * s + k) = nI (f k) ∧ gI μ 49 (60 * s + k) = nI (g k)) : NM μ s n (mk L f g) := ⟨h0, by rw [mk_len]; exact h1, fun k hk => by rw [mk_len] at hk; rw [cl_mk _ _ hk, ch_mk _ _ hk]; exact h2 k hk⟩
theorem WN.mk {n L : Nat} {f g : Nat → Nat} (h1 : 2 ≤ n) (h2 : n ≤ 8) (h3 : L ≤ 60) (h4 : ∀ k, k < L → f k < g k ∧ g k < n) : WN n (mk L f g) := ⟨h1, h2, by rw [mk_len]; exact h3, fun k hk => by rw [mk_len] at hk; rw [cl_mk _ _ hk, ch_mk _ _ hk]; exact h4 k hk⟩
theorem sM_lowR (N : Nat) {s k : Nat} (μ : Mem) (hs : s < 4) (hk : k < 60) : f_M_lowOf N (nI s) (nI k) μ = some (gI μ 48 (60 * s + k), μ) := by
  simp (disch := omega) [f_M_lowOf, lt', bnd_some, ck_tt, inb_nI, tn_nI, fa_lit, nI_add, pk_mul, nI_ltI, nI_eq]
theorem sM_highR (N : Nat) {s k : Nat} (μ : Mem) (hs : s < 4) (hk : k < 60) : f_M_highOf N (nI s) (nI k) μ = some (gI μ 49 (60 * s + k), μ) := by
  simp (disch := omega) [f_M_highOf, lt', bnd_some, ck_tt, inb_nI, tn_nI, fa_lit, nI_add, pk_mul, nI_ltI, nI_eq]
theorem sM_goes (N : Nat) (hN : 10000 ≤ N) {s n k : Nat} {cs : List (Nat × Nat)} {μ : Mem} (h : NM μ s n cs) (hs : s < 4) (hl : cs.length ≤ 60) (hk : k < cs.length) : ∃ μ', f_M_goes N (nI s) (nI k) μ = some ((), μ') ∧ NM μ' s n (cs.eraseIdx k) ∧ Fr (mN s) μ μ' := by
  obtain ⟨h0, h1, h2⟩ := h
  have hlen : (cs.eraseIdx k).length = cs.length - 1 := by rw [List.length_eraseIdx, if_pos hk]
  have e1 : nI cs.length - nI 1 = nI (cs.length - 1) := pk_sub (by omega)
  obtain ⟨μ', ⟨i1, ik, i2, i3, i4⟩, e⟩ := for_up (fun n i ν => lp_M_goes_4 N (nI s) (fun μ11 => ck (inb (nI s) 4) (ck (inb (nI s) 4) (lt' (sI μ11 47 (tn (nI s)) ((gI μ11 47 (tn (nI s))) - 1)) fun μ14 => some ((), μ14)))) n i ν) (fun ν => some ((), sI ν 47 s (nI (cs.length - 1)))) cs.length
    (fun i ν => Fr (mN s) μ ν ∧ k + 1 ≤ i ∧ gI ν 46 s = nI n ∧ gI ν 47 s = nI cs.length ∧ ∀ j, j < cs.length → (gI ν 48 (60 * s + j) = nI (if j < k ∨ i ≤ j + 1 then cl cs j else cl cs (j + 1)) ∧ gI ν 49 (60 * s + j) = nI (if j < k ∨ i ≤ j + 1 then ch cs j else ch cs (j + 1))))
    (by
      intro n' i ν hi ⟨i1, ik, i2, i3, i4⟩
      obtain ⟨i, rfl⟩ : ∃ t, i = t + 1 := ⟨i - 1, (by omega)⟩
      have ei : nI (i + 1) - nI 1 = nI i := pk_sub (by omega)
      refine ⟨_, ?_, by simp (disch := omega) [lp_M_goes_4, lt', bnd_some, ck_tt, inb_nI, tn_nI, fa_lit, nI_add, pk_mul, nI_ltI, nI_eq, i3, hi, sM_lowR, sM_highR, sM_sets, ei]; rfl⟩
      refine ⟨(i1.sI (by unfold mN; omega)).sI (by unfold mN; omega), (by omega), by simp [gI_sI, gL_sL, gR_sR, gI_sL, gI_sR, gL_sI, gL_sR, gR_sI, gR_sL, i2], by simp [gI_sI, gL_sL, gR_sR, gI_sL, gI_sR, gL_sI, gL_sR, gR_sI, gR_sL, i3], fun j hj => ?_⟩
      have a := i4 j hj
      have b := i4 (i + 1) hi
      by_cases hji : j = i
      · subst hji
        simp [gI_sI, gL_sL, gR_sR, gI_sL, gI_sR, gL_sI, gL_sR, gR_sI, gR_sL, b.1, b.2]
        constructor <;> ((repeat' split) <;> first | rfl | omega | (exfalso; omega) | (congr 1; omega))
      · simp [gI_sI, gL_sL, gR_sR, gI_sL, gI_sR, gL_sI, gL_sR, gR_sI, gR_sL, hji, a.1, a.2]
        constructor <;> ((repeat' split) <;> first | rfl | omega | (exfalso; omega) | (congr 1; omega)))
    (by
      intro n' ν ⟨i1, ik, i2, i3, i4⟩
      simp (disch := omega) [lp_M_goes_4, lt', bnd_some, ck_tt, inb_nI, tn_nI, fa_lit, nI_add, pk_mul, nI_ltI, nI_eq, i3, e1])
    (cs.length - (k + 1)) (k + 1) N μ (by omega) (by omega) ⟨Fr.rf μ, Nat.le_refl _, h0, h1, fun j hj => by
      have := h2 j hj
      rw [if_pos (by omega), if_pos (by omega)]; exact this⟩
  refine ⟨_, by simp only [f_M_goes, lt', fa_lit, nI_add]; exact e, ⟨by simp [gI_sI, gL_sL, gR_sR, gI_sL, gI_sR, gL_sI, gL_sR, gR_sI, gR_sL, i2], by simp [gI_sI, gL_sL, gR_sR, gI_sL, gI_sR, gL_sI, gL_sR, gR_sI, gR_sL, hlen], fun j hj => ?_⟩, i1.sI (by unfold mN; omega)⟩
  rw [hlen] at hj
  have := i4 j (by omega)
  simp only [gI_sI, gL_sL, gR_sR, gI_sL, gI_sR, gL_sI, gL_sR, gR_sI, gR_sL]
  rw [if_neg (by omega), if_neg (by omega), this.1, this.2, cl_erase, ch_erase]
  constructor <;> ((repeat' split) <;> first | rfl | omega | (exfalso; omega) | (congr 1; omega))
theorem WN.erase {n k : Nat} {cs : List (Nat × Nat)} (h : WN n cs) (hk : k < cs.length) : WN n (cs.eraseIdx k) := by
  have hlen : (cs.eraseIdx k).length = cs.length - 1 := by rw [List.length_eraseIdx, if_pos hk]
  refine ⟨h.1, h.2.1, by have := h.2.2.1; omega, fun j hj => ?_⟩
  rw [cl_erase, ch_erase]
  by_cases hjk : j < k
  · rw [if_pos hjk, if_pos hjk]; exact h.2.2.2 j (by omega)
  · rw [if_neg hjk, if_neg hjk]; exact h.2.2.2 (j + 1) (by omega)
theorem op_drops (N : Nat) (hN : 10000 ≤ N) (x y : Int32) : OpEq (f_X_drops N x y) (f_M_drops N x y) := by
  refine op_mk (fun μ σ hw hx => ?_)
  rcases ix4 x 4 (by omega) with hs | ⟨s, hs, rfl⟩
  · exact ⟨-1, σ, μ, by simp [f_X_drops, f_X_isComparer, isNet_out N hs, bnd_some], hx, Fr.rf μ, hw, op_no (fun μ _ => by simp [f_M_drops, mNet_out N hs, bnd_some, lt'])⟩
  have w := hw.1 s hs
  have nx := hx.1 s hs
  have hl := w.2.2.1
  rcases ix4 y (σ.1 s).2.length (by omega) with hk | ⟨k, hk, rfl⟩
  · exact ⟨-1, σ, μ, by simp [f_X_drops, xComp_out N nx hs hl hk, bnd_some], hx, Fr.rf μ, hw, op_no (fun μ hm => by simp [f_M_drops, mNet_in N hs, mComp_out N ((hm.thr (v := 0)).1 s hs) hs hl hk, bnd_some, lt'])⟩
  obtain ⟨μ', e, n', f⟩ := sNet_remove N hN nx hl hk
  have hlen : ((σ.1 s).2.eraseIdx k).length = (σ.1 s).2.length - 1 := by rw [List.length_eraseIdx, if_pos hk]
  refine ⟨nI ((σ.1 s).2.length - 1), _, μ', ?_, hx.net f hs n', frX f hs, hw.net (w.erase hk), ?_⟩
  · simp (disch := omega) [f_X_drops, xComp_in N nx hs hk hl, lt', bnd_some, ck_tt, inb_nI, tn_nI, fa_lit, nI_add, pk_mul, nI_ltI, nI_eq, e, n'.2.1, hlen]
  · refine m_net hw hs (fM := fun μ => bnd (f_M_goes N (nI s) (nI k) μ) fun _ μ15 => some (gI μ15 47 s, μ15)) (fun μ hm => ?_) (fun μ hm => ?_)
    · obtain ⟨μ2, e2, n2, f2⟩ := sM_goes N hN hm hs hl hk
      exact ⟨μ2, by rw [e2, bnd_some, n2.2.1, hlen], n2, f2⟩
    · have m := (hm.thr (v := 0)).1 s hs
      unfold f_M_drops; simp only [lt']; generalize sI μ 44 0 0 = ν at m ⊢
      simp (disch := omega) [mNet_in N hs, mComp_in N m hs hk hl, lt', bnd_some, ck_tt, inb_nI, tn_nI, fa_lit, nI_add, pk_mul, nI_ltI, nI_eq]
theorem sNet_exAt (N : Nat) {p a b : Nat} (μ : Mem) (ha : a < 60) (hb : b < 60) : ∃ μ', f_Net_exchangeAt N p (nI a) (nI b) μ = some ((), μ') ∧ Fr (rg (p + 1) (p + 2)) μ μ' ∧ (∀ j, gI μ' (p + 1) j = if j = b then gI μ (p + 1) a else if j = a then gI μ (p + 1) b else gI μ (p + 1) j) ∧ ∀ j, gI μ' (p + 2) j = if j = b then gI μ (p + 2) a else if j = a then gI μ (p + 2) b else gI μ (p + 2) j := by
  refine ⟨_, by simp (disch := omega) [f_Net_exchangeAt, lt', bnd_some, ck_tt, inb_nI, tn_nI, fa_lit, nI_add, pk_mul, nI_ltI, nI_eq]; rfl, ?_, ?_, ?_⟩
  · exact ((((Fr.rf μ).sI (rgi (by omega) (by omega))).sI (rgi (by omega) (by omega))).sI (rgi (by omega) (by omega))).sI (rgi (by omega) (by omega))
  · intro j; simp [gI_sI, gL_sL, gR_sR, gI_sL, gI_sR, gL_sI, gL_sR, gR_sI, gR_sL]
  · intro j; simp [gI_sI, gL_sL, gR_sR, gI_sL, gI_sR, gL_sI, gL_sR, gR_sI, gR_sL]
theorem sM_changes (N : Nat) {s a b : Nat} (μ : Mem) (hs : s < 4) (ha : a < 60) (hb : b < 60) : ∃ μ', f_M_changes N (nI s) (nI a) (nI b) μ = some ((), μ') ∧ Fr (fun q k => (q = 48 ∨ q = 49) ∧ 60 * s ≤ k ∧ k < 60 * s + 60) μ μ' ∧ (∀ j, gI μ' 48 (60 * s + j) = if j = b then gI μ 48 (60 * s + a) else if j = a then gI μ 48 (60 * s + b) else gI μ 48 (60 * s + j)) ∧ ∀ j, gI μ' 49 (60 * s + j) = if j = b then gI μ 49 (60 * s + a) else if j = a then gI μ 49 (60 * s + b) else gI μ 49 (60 * s + j) := by
  refine ⟨_, by simp (disch := omega) [f_M_changes, lt', bnd_some, ck_tt, inb_nI, tn_nI, fa_lit, nI_add, pk_mul, nI_ltI, nI_eq, sM_lowR, sM_highR, sM_sets]; rfl, ?_, ?_, ?_⟩
  · exact ((((Fr.rf μ).sI (by omega)).sI (by omega)).sI (by omega)).sI (by omega)
  · intro j; simp [gI_sI, gL_sL, gR_sR, gI_sL, gI_sR, gL_sI, gL_sR, gR_sI, gR_sL]
  · intro j; simp [gI_sI, gL_sL, gR_sR, gI_sL, gI_sR, gL_sI, gL_sR, gR_sI, gR_sL]

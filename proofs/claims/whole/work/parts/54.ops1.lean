/-! calls that change one net -/
def upN (ν : Nets) (s : Nat) (x : Nat × List (Nat × Nat)) : Nets := fun t => if t = s then x else ν t
theorem SX.net {μ μ' : Mem} {σ : Ab} {s n : Nat} {cs : List (Nat × Nat)} (h : SX μ σ) (f : Fr (rg (2 + 3 * s) (2 + 3 * s + 2)) μ μ') (hs : s < 4) (hn : NX μ' (2 + 3 * s) n cs) : SX μ' (upN σ.1 s (n, cs), σ.2) := by
  refine ⟨fun t ht => ?_, h.2.1.fr f (rgo (by omega)) (fun _ => rgo (by omega)), h.2.2.fr f (rgo (by omega)) (fun _ => rgo (by omega))⟩
  by_cases e : t = s
  · subst e
    simpa [upN] using hn
  · simpa [upN, e] using (h.1 t ht).frg f (by omega)
theorem SM.net {μ μ' : Mem} {σ : Ab} {s n : Nat} {cs : List (Nat × Nat)} (h : SM μ σ) (hw : Wf σ) (f : Fr (mN s) μ μ') (hs : s < 4) (hn : NM μ' s n cs) : SM μ' (upN σ.1 s (n, cs), σ.2) := by
  refine ⟨fun t ht => ?_, h.2.1.fr f (fun z => by unfold mN at z; omega) (fun k z => by unfold mN at z; omega), h.2.2.1.fr f (fun z => by unfold mN at z; omega) (fun k z => by unfold mN at z; omega), h.2.2.2.fr f (fun z => by unfold mN at z; omega) (fun z => by unfold mN at z; omega)⟩
  by_cases e : t = s
  · subst e
    simpa [upN] using hn
  · simpa [upN, e] using (h.1 t ht).off f e (hw.1 t ht).2.2.1
theorem Wf.net {σ : Ab} {s n : Nat} {cs : List (Nat × Nat)} (h : Wf σ) (hn : WN n cs) : Wf (upN σ.1 s (n, cs), σ.2) := by
  refine ⟨fun t ht => ?_, h.2⟩
  by_cases e : t = s
  · subst e
    simpa [upN] using hn
  · simpa [upN, e] using h.1 t ht
theorem frX {s : Nat} {μ μ' : Mem} (f : Fr (rg (2 + 3 * s) (2 + 3 * s + 2)) μ μ') (hs : s < 4) : Fr (rg 2 43) μ μ' := f.wide (by omega) (by omega)
theorem WN.app {n i j : Nat} {cs : List (Nat × Nat)} (h : WN n cs) (hl : cs.length < 60) (hij : i < j) (hj : j < n) : WN n (cs ++ [(i, j)]) := by
  refine ⟨h.1, h.2.1, by rw [List.length_append, List.length_singleton]; omega, fun k hk => ?_⟩
  rw [List.length_append, List.length_singleton] at hk
  rw [cl_app, ch_app]
  by_cases hk2 : k < cs.length
  · rw [if_pos hk2, if_pos hk2]
    exact h.2.2.2 k hk2
  · rw [if_neg hk2, if_neg hk2, if_pos (by omega), if_pos (by omega)]
    exact ⟨hij, hj⟩
/-- the model's side of a call that changes net s, behind thrown = 0 -/
theorem m_net {ρ : Type} {fM : Mem → Option (ρ × Mem)} {r : ρ} {σ : Ab} {s n : Nat} {cs : List (Nat × Nat)} (hw : Wf σ) (hs : s < 4) (h : ∀ μ, NM μ s (σ.1 s).1 (σ.1 s).2 → ∃ μ2, fM μ = some (r, μ2) ∧ NM μ2 s n cs ∧ Fr (mN s) μ μ2) {g : Mem → Option (ρ × Mem)} (hg : ∀ μ, SM μ σ → g μ = fM (sI μ 44 0 0)) : ∀ μ, SM μ σ → ∃ μ2, g μ = some (r, μ2) ∧ SM μ2 (upN σ.1 s (n, cs), σ.2) ∧ Fr (rg 44 63) μ μ2 := by
  intro μ hm
  have hm' : SM (sI μ 44 0 0) σ := hm.thr
  obtain ⟨μ2, e, h2, f⟩ := h _ (hm'.1 s hs)
  exact ⟨μ2, (hg μ hm).trans e, hm'.net hw f hs h2, frT.tr (frN f)⟩
theorem op_adds (N : Nat) (x y z : Int32) : OpEq (f_X_adds N x y z) (f_M_adds N x y z) := by
  refine op_mk (fun μ σ hw hx => ?_)
  rcases ix4 x 4 (by omega) with hs | ⟨s, hs, rfl⟩
  · exact ⟨-1, σ, μ, by simp [f_X_adds, isNet_out N hs, bnd_some], hx, Fr.rf μ, hw, op_no (fun μ _ => by simp [f_M_adds, mNet_out N hs, bnd_some, lt'])⟩
  have w := hw.1 s hs
  have nx := hx.1 s hs
  rcases ix4 y (σ.1 s).1 (by have := w.2.1; omega) with hi | ⟨i, hi, rfl⟩
  · exact ⟨-1, σ, μ, by simp (disch := omega) [f_X_adds, isNet_in N hs, sNet_isWireNo N nx hi, lt', bnd_some, ck_tt, inb_nI, tn_nI, fa_lit, nI_add, pk_mul, nI_ltI, nI_eq], hx, Fr.rf μ, hw, op_no (fun μ hm => by simp [f_M_adds, mNet_in N hs, mWire_out N ((hm.thr (v := 0)).1 s hs) hs (by have := w.1; omega) (by have := w.2.1; omega) hi, bnd_some, lt'])⟩
  rcases ix4 z (σ.1 s).1 (by have := w.2.1; omega) with hj | ⟨j, hj, rfl⟩
  · exact ⟨-1, σ, μ, by simp (disch := omega) [f_X_adds, isNet_in N hs, sNet_isWire N nx hi (by have := w.2.1; omega), sNet_isWireNo N nx hj, lt', bnd_some, ck_tt, inb_nI, tn_nI, fa_lit, nI_add, pk_mul, nI_ltI, nI_eq], hx, Fr.rf μ, hw, op_no (fun μ hm => by simp [f_M_adds, mNet_in N hs, mWire_in N ((hm.thr (v := 0)).1 s hs) hs hi (by have := w.2.1; omega), mWire_out N ((hm.thr (v := 0)).1 s hs) hs (by have := w.1; omega) (by have := w.2.1; omega) hj, bnd_some, lt'])⟩
  have hn8 := w.2.1
  by_cases hij : i < j
  · rcases Nat.lt_or_ge (σ.1 s).2.length 60 with hl | hl
    · obtain ⟨μ', e, n', f⟩ := sNet_append N (i := i) (j := j) nx hl
      refine ⟨nI ((σ.1 s).2.length + 1), _, μ', ?_, hx.net f hs n', frX f hs, hw.net (w.app hl hij hj), ?_⟩
      · simp (disch := omega) [f_X_adds, isNet_in N hs, sNet_isWire N nx hi (by omega), sNet_isWire N nx hj (by omega), lt', bnd_some, ck_tt, inb_nI, tn_nI, fa_lit, nI_add, pk_mul, nI_ltI, nI_eq, hij, e, n'.2.1]
      · refine m_net hw hs (fM := fun μ => bnd (f_M_comes3 N (nI s) (nI i) (nI j) μ) fun _ μ15 => some (gI μ15 47 s, μ15)) (fun μ hm => ?_) (fun μ hm => ?_)
        · obtain ⟨μ2, e2, n2, f2⟩ := sM_comes N (i := i) (j := j) hm hs hl
          refine ⟨μ2, ?_, n2, f2⟩
          rw [e2, bnd_some, n2.2.1, List.length_append]
          rfl
        · have m := (hm.thr (v := 0)).1 s hs
          have : ¬ (σ.1 s).2.length = 60 := (by omega)
          unfold f_M_adds; simp only [lt']; generalize sI μ 44 0 0 = ν at m ⊢
          simp (disch := omega) [mNet_in N hs, mWire_in N m hs hi (by omega), mWire_in N m hs hj (by omega), lt', bnd_some, ck_tt, inb_nI, tn_nI, fa_lit, nI_add, pk_mul, nI_ltI, nI_eq, hij, m.2.1, this]
    · have hl : (σ.1 s).2.length = 60 := by have := w.2.2.1; omega
      refine ⟨-1, σ, μ, ?_, hx, Fr.rf μ, hw, op_no (fun μ hm => ?_)⟩
      · simp (disch := omega) [f_X_adds, isNet_in N hs, sNet_isWire N nx hi (by omega), sNet_isWire N nx hj (by omega), lt', bnd_some, ck_tt, inb_nI, tn_nI, fa_lit, nI_add, pk_mul, nI_ltI, nI_eq, hij, sNet_appendFull N nx hl]
      · have m := (hm.thr (v := 0)).1 s hs
        unfold f_M_adds; simp only [lt']; generalize sI μ 44 0 0 = ν at m ⊢
        simp (disch := omega) [mNet_in N hs, mWire_in N m hs hi (by omega), mWire_in N m hs hj (by omega), lt', bnd_some, ck_tt, inb_nI, tn_nI, fa_lit, nI_add, pk_mul, nI_ltI, nI_eq, hij, m.2.1, hl]
  · refine ⟨-1, σ, μ, ?_, hx, Fr.rf μ, hw, op_no (fun μ hm => ?_)⟩
    · simp (disch := omega) [f_X_adds, isNet_in N hs, sNet_isWire N nx hi (by omega), sNet_isWire N nx hj (by omega), lt', bnd_some, ck_tt, inb_nI, tn_nI, fa_lit, nI_add, pk_mul, nI_ltI, nI_eq, hij]
    · have m := (hm.thr (v := 0)).1 s hs
      unfold f_M_adds; simp only [lt']; generalize sI μ 44 0 0 = ν at m ⊢
      simp (disch := omega) [mNet_in N hs, mWire_in N m hs hi (by omega), mWire_in N m hs hj (by omega), lt', bnd_some, ck_tt, inb_nI, tn_nI, fa_lit, nI_add, pk_mul, nI_ltI, nI_eq, hij]

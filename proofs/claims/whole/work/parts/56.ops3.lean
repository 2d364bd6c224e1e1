/-! swaps, copies, joins, flips, mirrors, has, count -/
theorem NM.sub {s n : Nat} {μ μ' : Mem} (f : Fr (fun q k => (q = 48 ∨ q = 49) ∧ 60 * s ≤ k ∧ k < 60 * s + 60) μ μ') : Fr (mN s) μ μ' := f.mono (fun q k z => by unfold mN; omega)
abbrev swf (f : Nat → Nat) (k j : Nat) : Nat := if j = k + 1 then f k else if j = k then f (k + 1) else f j
theorem op_swaps (N : Nat) (hN : 10000 ≤ N) (x y : Int32) : OpEq (f_X_swaps N x y) (f_M_swaps N x y) := by
  refine op_mk (fun μ σ hw hx => ?_)
  rcases ix4 x 4 (by omega) with hs | ⟨s, hs, rfl⟩
  · exact ⟨-1, σ, μ, by simp [f_X_swaps, f_X_isComparer, isNet_out N hs, bnd_some], hx, Fr.rf μ, hw, op_no (fun μ _ => by simp [f_M_swaps, mNet_out N hs, bnd_some, lt'])⟩
  have w := hw.1 s hs
  have nx := hx.1 s hs
  have hl := w.2.2.1
  rcases ix4 y (σ.1 s).2.length (by omega) with hk | ⟨k, hk, rfl⟩
  · exact ⟨-1, σ, μ, by simp [f_X_swaps, xComp_out N nx hs hl hk, bnd_some], hx, Fr.rf μ, hw, op_no (fun μ hm => by simp [f_M_swaps, mNet_in N hs, mComp_out N ((hm.thr (v := 0)).1 s hs) hs hl hk, bnd_some, lt'])⟩
  generalize hcs : (σ.1 s).2 = cs at *
  generalize hnn : (σ.1 s).1 = n at *
  by_cases hk1 : k + 1 < cs.length
  · obtain ⟨μ', e, f, g1, g2⟩ := sNet_exAt N (p := 2 + 3 * s) (a := k) (b := k + 1) μ (by omega) (by omega)
    have c1 : ∀ j, j < cs.length → gI μ' (2 + 3 * s + 1) j = nI (swf (cl cs) k j) := by
      intro j hj
      rw [g1, (nx.2.2 k hk).1, (nx.2.2 (k + 1) hk1).1, (nx.2.2 j hj).1]
      unfold swf
      ((repeat' split) <;> first | rfl | omega | (exfalso; omega) | (congr 1; omega))
    have c2 : ∀ j, j < cs.length → gI μ' (2 + 3 * s + 2) j = nI (swf (ch cs) k j) := by
      intro j hj
      rw [g2, (nx.2.2 k hk).2, (nx.2.2 (k + 1) hk1).2, (nx.2.2 j hj).2]
      unfold swf
      ((repeat' split) <;> first | rfl | omega | (exfalso; omega) | (congr 1; omega))
    have b1 := w.2.2.2 k hk
    have b2 := w.2.2.2 (k + 1) hk1
    have n' : NX μ' (2 + 3 * s) n (mk cs.length (swf (cl cs) k) (swf (ch cs) k)) := NX.mk (by rw [f.I (rgo (by omega))]; exact nx.1) (by rw [f.I (rgo (by omega))]; exact nx.2.1) (fun j hj => ⟨c1 j hj, c2 j hj⟩)
    have wn : WN n (mk cs.length (swf (cl cs) k) (swf (ch cs) k)) := WN.mk w.1 w.2.1 hl (fun j hj => by
      unfold swf
      have := w.2.2.2 j hj
      split
      · exact b1
      · split
        · exact b2
        · exact this)
    have hn8 := w.2.1
    refine ⟨if cl cs k = cl cs (k + 1) ∨ cl cs k = ch cs (k + 1) ∨ ch cs k = cl cs (k + 1) ∨ ch cs k = ch cs (k + 1) then 0 else 1, _, μ', ?_, hx.net (f.wide (by omega) (by omega)) hs n', frX (f.wide (by omega) (by omega)) hs, hw.net wn, ?_⟩
    · have a1 := c1 k hk
      have a2 := c1 (k + 1) hk1
      have a3 := c2 k hk
      have a4 := c2 (k + 1) hk1
      simp only [swf, if_pos, if_neg (show ¬ k = k + 1 by omega)] at a1 a2 a3 a4
      simp (disch := omega) only [f_X_swaps, xComp_in N nx hs hk hl, i10, i00, reduceIte, lt', bnd_some, ck_tt, inb_nI, tn_nI, nI_add, pk_mul, nI_ltI, nI_eq, nx.2.1, fa_lit, f_Net_exchangeWithNext, e, a1, a2, a3, a4, hk1, if_true, reduceIte]
      ((repeat' split) <;> first | rfl | omega | (exfalso; omega) | (congr 1; omega))
    · refine m_net hw hs (fM := fun μ => bnd (f_M_touch N (nI s) (nI k) (nI (k + 1)) μ) fun r μ => bnd (f_M_changes N (nI s) (nI k) (nI (k + 1)) μ) fun _ μ15 => some (if r = 0 then 1 else 0, μ15)) (fun μ hm => ?_) (fun μ hm => ?_)
      · rw [hcs, hnn] at hm
        obtain ⟨μ2, e2, f2, g1, g2⟩ := sM_changes N (a := k) (b := k + 1) μ hs (by omega) (by omega)
        refine ⟨μ2, ?_, NM.mk (by rw [f2.I (by omega)]; exact hm.1) (by rw [f2.I (by omega)]; exact hm.2.1) (fun j hj => ?_), NM.sub (n := n) f2⟩
        · simp (disch := omega) only [f_M_touch, sM_lowOf N hm hs _ hl, sM_highOf N hm hs _ hl, sM_lowOf N hm hs hk hl, sM_lowOf N hm hs hk1 hl, sM_highOf N hm hs hk hl, sM_highOf N hm hs hk1 hl, i10, i00, reduceIte, lt', bnd_some, ck_tt, inb_nI, tn_nI, nI_add, pk_mul, nI_ltI, nI_eq, e2]
          have q1 := w.2.2.2 k hk
          have q2 := w.2.2.2 (k + 1) hk1
          by_cases z1 : cl cs k = cl cs (k + 1)
          · simp [z1, bnd_some, e2]
          · by_cases z2 : cl cs k = ch cs (k + 1)
            · simp [z1, z2, bnd_some, e2]
            · by_cases z3 : ch cs k = cl cs (k + 1)
              · simp [z1, z2, z3, bnd_some, e2]
              · by_cases z4 : ch cs k = ch cs (k + 1)
                · simp [z1, z2, z3, z4, bnd_some, e2]
                · simp [z1, z2, z3, z4, bnd_some, e2]
        · rw [g1, g2, (hm.2.2 k hk).1, (hm.2.2 (k + 1) hk1).1, (hm.2.2 j hj).1, (hm.2.2 k hk).2, (hm.2.2 (k + 1) hk1).2, (hm.2.2 j hj).2]
          unfold swf
          constructor <;> ((repeat' split) <;> first | rfl | omega | (exfalso; omega) | (congr 1; omega))
      · have m := (hm.thr (v := 0)).1 s hs
        rw [hcs, hnn] at m
        unfold f_M_swaps; simp only [lt']; generalize sI μ 44 0 0 = ν at m ⊢
        simp (disch := omega) only [mNet_in N hs, mComp_in N m hs hk hl, mComp_in N m hs hk1 hl, bnd_some, fa_lit, nI_add]
        rw [if_neg (by decide), if_neg (by decide), if_neg (by decide)]
        congr 1
        funext r μ
        by_cases hr : r = nI 0
        · subst hr; rfl
        · have hr' : ¬ r = 0 := hr
          rw [if_neg hr]; rfl
  · refine ⟨-1, σ, μ, ?_, hx, Fr.rf μ, hw, op_no (fun μ hm => ?_)⟩
    · simp (disch := omega) [f_X_swaps, xComp_in N nx hs hk hl, lt', bnd_some, ck_tt, inb_nI, tn_nI, fa_lit, nI_add, pk_mul, nI_ltI, nI_eq, nx.2.1, hk1]
    · have m := (hm.thr (v := 0)).1 s hs
      rw [hcs, hnn] at m
      have ho : nI (k + 1) < 0 ∨ nI cs.length ≤ nI (k + 1) := Or.inr (nI_le (by omega) (by omega))
      unfold f_M_swaps; simp only [lt']; generalize sI μ 44 0 0 = ν at m ⊢
      simp (disch := omega) only [mNet_in N hs, mComp_in N m hs hk hl, bnd_some, fa_lit, nI_add, mComp_out N m hs hl ho]
      rfl
theorem sNet_take (N : Nat) (hN : 10000 ≤ N) {μ : Mem} {p q n : Nat} {cs : List (Nat × Nat)} (h : NX μ q n cs) (hl : cs.length ≤ 60) (hpq : p = q ∨ p + 2 < q ∨ q + 2 < p) : ∃ μ', f_Net_take N p q μ = some ((), μ') ∧ NX μ' p n cs ∧ Fr (rg p (p + 2)) μ μ' := by
  obtain ⟨h0, h1, h2⟩ := h
  unfold f_Net_take
  simp only [lt']
  have q0 : gI (sI (sI μ p 0 (nI n)) p 1 (nI cs.length)) q 0 = nI n := by simp only [gI_sI, gL_sL, gR_sR, gI_sL, gI_sR, gL_sI, gL_sR, gR_sI, gR_sL]; ((repeat' split) <;> first | rfl | omega | (exfalso; omega) | (congr 1; omega))
  obtain ⟨μ', ⟨i1, i2, i3, i4, i5⟩, e⟩ := for_up (fun n i ν => lp_Net_take_18 N p q (fun μ11 => some ((), μ11)) n i ν) (fun ν => some ((), ν)) cs.length
    (fun i ν => Fr (rg p (p + 2)) μ ν ∧ gI ν p 0 = nI n ∧ gI ν p 1 = nI cs.length ∧ (∀ j, j < cs.length → gI ν (q + 1) j = nI (cl cs j) ∧ gI ν (q + 2) j = nI (ch cs j)) ∧ ∀ j, j < i → gI ν (p + 1) j = nI (cl cs j) ∧ gI ν (p + 2) j = nI (ch cs j))
    (by
      intro n' i ν hi ⟨i1, i2, i3, i4, i5⟩
      refine ⟨_, ?_, by simp (disch := omega) [lp_Net_take_18, lt', bnd_some, ck_tt, inb_nI, tn_nI, fa_lit, nI_add, pk_mul, nI_ltI, nI_eq, i3, hi]; rfl⟩
      have a := i4 i hi
      have a2 : gI (sI ν (p + 1) i (gI ν (q + 1) i)) (q + 2) i = nI (ch cs i) := by
        rw [gI_sI, if_neg (by omega)]; exact a.2
      rw [a.1] at a2 ⊢
      rw [a2]
      refine ⟨(i1.sI (rgi (by omega) (by omega))).sI (rgi (by omega) (by omega)), by simp [gI_sI, gL_sL, gR_sR, gI_sL, gI_sR, gL_sI, gL_sR, gR_sI, gR_sL, i2], by simp [gI_sI, gL_sL, gR_sR, gI_sL, gI_sR, gL_sI, gL_sR, gR_sI, gR_sL, i3], fun j hj => ?_, fun j hj => ?_⟩
      · have b := i4 j hj
        simp only [gI_sI, gL_sL, gR_sR, gI_sL, gI_sR, gL_sI, gL_sR, gR_sI, gR_sL]
        constructor
        · (repeat' split) <;> first | exact b.1 | omega | (rename_i z; rw [z.2])
        · (repeat' split) <;> first | exact b.2 | omega | (rename_i z; rw [z.2])
      · by_cases hji : j = i
        · subst hji; simp [gI_sI, gL_sL, gR_sR, gI_sL, gI_sR, gL_sI, gL_sR, gR_sI, gR_sL]
        · have b := i5 j (by omega)
          simp [gI_sI, gL_sL, gR_sR, gI_sL, gI_sR, gL_sI, gL_sR, gR_sI, gR_sL, hji, b.1, b.2])
    (by
      intro n' ν ⟨i1, i2, i3, i4, i5⟩
      simp (disch := omega) [lp_Net_take_18, lt', bnd_some, ck_tt, inb_nI, tn_nI, fa_lit, nI_add, pk_mul, nI_ltI, nI_eq, i3])
    cs.length 0 N (sI (sI μ p 0 (nI n)) p 1 (nI cs.length)) (by omega) (by omega) ⟨((Fr.rf μ).sI (rgi (by omega) (by omega))).sI (rgi (by omega) (by omega)), by simp [gI_sI, gL_sL, gR_sR, gI_sL, gI_sR, gL_sI, gL_sR, gR_sI, gR_sL], by simp [gI_sI, gL_sL, gR_sR, gI_sL, gI_sR, gL_sI, gL_sR, gR_sI, gR_sL], fun j hj => by
      have := h2 j hj
      simp only [gI_sI, gL_sL, gR_sR, gI_sL, gI_sR, gL_sI, gL_sR, gR_sI, gR_sL]
      rw [if_neg (by omega), if_neg (by omega), if_neg (by omega), if_neg (by omega)]; exact this, fun j hj => by omega⟩
  refine ⟨μ', ?_, ⟨i2, i3, i5⟩, i1⟩
  rw [← e]
  have z1 : gI (sI μ p 0 (gI μ q 0)) q 1 = nI cs.length := by rw [gI_sI, if_neg (by omega)]; exact h1
  rw [z1, h0]
  rfl
theorem op_copies (N : Nat) (hN : 10000 ≤ N) (x y : Int32) : OpEq (f_X_copies N x y) (f_M_copies N x y) := by
  refine op_mk (fun μ σ hw hx => ?_)
  rcases ix4 x 4 (by omega) with hs | ⟨s, hs, rfl⟩
  · exact ⟨-1, σ, μ, by simp [f_X_copies, isNet_out N hs, bnd_some], hx, Fr.rf μ, hw, op_no (fun μ _ => by simp [f_M_copies, mNet_out N hs, bnd_some, lt'])⟩
  rcases ix4 y 4 (by omega) with ht | ⟨t, ht, rfl⟩
  · exact ⟨-1, σ, μ, by simp [f_X_copies, isNet_in N hs, isNet_out N ht, bnd_some], hx, Fr.rf μ, hw, op_no (fun μ _ => by simp [f_M_copies, mNet_in N hs, mNet_out N ht, bnd_some, lt'])⟩
  have w := hw.1 s hs
  have nx := hx.1 s hs
  have hl := w.2.2.1
  obtain ⟨μ', e, n', f⟩ := sNet_take N hN (p := 2 + 3 * t) nx hl (by omega)
  refine ⟨nI (σ.1 s).2.length, _, μ', ?_, hx.net f ht n', frX f ht, hw.net w, ?_⟩
  · simp (disch := omega) [f_X_copies, isNet_in N hs, isNet_in N ht, lt', bnd_some, ck_tt, inb_nI, tn_nI, fa_lit, nI_add, pk_mul, nI_ltI, nI_eq, e, n'.2.1]
  intro μ hm
  have hm' : SM (sI μ 44 0 0) σ := hm.thr
  have m := hm'.1 s hs
  generalize hcs : (σ.1 s).2 = cs at *
  generalize hnn : (σ.1 s).1 = n at *
  unfold f_M_copies
  simp only [lt']
  generalize hν : sI μ 44 0 0 = ν at hm' m ⊢
  have z1 : gI (sI ν 46 t (nI n)) 47 s = nI cs.length := by rw [gI_sI, if_neg (by omega)]; exact m.2.1
  obtain ⟨μ', ⟨i1, i2, i3, i0, i4, i5⟩, e⟩ := for_up (fun n i ν => lp_M_copies_47 N (nI s) (nI t) (fun μ23 => some (gI μ23 47 t, μ23)) n i ν) (fun ν => some (nI cs.length, ν)) cs.length
    (fun i κ => Fr (mN t) ν κ ∧ gI κ 46 t = nI n ∧ gI κ 47 t = nI cs.length ∧ gI κ 47 s = nI cs.length ∧ (∀ j, j < cs.length → gI κ 48 (60 * s + j) = nI (cl cs j) ∧ gI κ 49 (60 * s + j) = nI (ch cs j)) ∧ ∀ j, j < i → gI κ 48 (60 * t + j) = nI (cl cs j) ∧ gI κ 49 (60 * t + j) = nI (ch cs j))
    (by
      intro n' i κ hi ⟨i1, i2, i3, i0, i4, i5⟩
      have a := i4 i hi
      refine ⟨_, ?_, by simp (disch := omega) [lp_M_copies_47, lt', bnd_some, ck_tt, inb_nI, tn_nI, fa_lit, nI_add, pk_mul, nI_ltI, nI_eq, i0, hi, sM_lowR, sM_highR, sM_sets, a.1, a.2]; rfl⟩
      refine ⟨(i1.sI (by unfold mN; omega)).sI (by unfold mN; omega), by simp [gI_sI, gL_sL, gR_sR, gI_sL, gI_sR, gL_sI, gL_sR, gR_sI, gR_sL, i2], by simp [gI_sI, gL_sL, gR_sR, gI_sL, gI_sR, gL_sI, gL_sR, gR_sI, gR_sL, i3], by simp [gI_sI, gL_sL, gR_sR, gI_sL, gI_sR, gL_sI, gL_sR, gR_sI, gR_sL, i0], fun j hj => ?_, fun j hj => ?_⟩
      · have b := i4 j hj
        simp only [gI_sI, gL_sL, gR_sR, gI_sL, gI_sR, gL_sI, gL_sR, gR_sI, gR_sL]
        constructor
        · (repeat' split) <;> first | exact b.1 | omega | (rename_i z; rw [show j = i by omega])
        · (repeat' split) <;> first | exact b.2 | omega | (rename_i z; rw [show j = i by omega])
      · by_cases hji : j = i
        · subst hji; simp [gI_sI, gL_sL, gR_sR, gI_sL, gI_sR, gL_sI, gL_sR, gR_sI, gR_sL]
        · have b := i5 j (by omega)
          simp [gI_sI, gL_sL, gR_sR, gI_sL, gI_sR, gL_sI, gL_sR, gR_sI, gR_sL, hji, b.1, b.2])
    (by
      intro n' κ ⟨i1, i2, i3, i0, i4, i5⟩
      simp (disch := omega) [lp_M_copies_47, lt', bnd_some, ck_tt, inb_nI, tn_nI, fa_lit, nI_add, pk_mul, nI_ltI, nI_eq, i0, i3])
    cs.length 0 N (sI (sI ν 46 t (nI n)) 47 t (nI cs.length)) (by omega) (by omega) ⟨((Fr.rf ν).sI (by unfold mN; omega)).sI (by unfold mN; omega), by simp [gI_sI, gL_sL, gR_sR, gI_sL, gI_sR, gL_sI, gL_sR, gR_sI, gR_sL], by simp [gI_sI, gL_sL, gR_sR, gI_sL, gI_sR, gL_sI, gL_sR, gR_sI, gR_sL], by simp only [gI_sI, gL_sL, gR_sR, gI_sL, gI_sR, gL_sI, gL_sR, gR_sI, gR_sL]; split; rfl; rw [if_neg (by omega)]; exact m.2.1, fun j hj => by
      have := m.2.2 j hj
      simp only [gI_sI, gL_sL, gR_sR, gI_sL, gI_sR, gL_sI, gL_sR, gR_sI, gR_sL]
      rw [if_neg (by omega), if_neg (by omega), if_neg (by omega), if_neg (by omega)]; exact this, fun j hj => by omega⟩
  refine ⟨μ', ?_, hm'.net hw i1 ht ⟨i2, i3, i5⟩, (hν ▸ frT).tr (frN i1)⟩
  simp (disch := omega) only [mNet_in N hs, mNet_in N ht, i10, i00, reduceIte, lt', bnd_some, ck_tt, inb_nI, tn_nI, nI_add, pk_mul, nI_ltI, nI_eq, m.1, z1]
  exact e

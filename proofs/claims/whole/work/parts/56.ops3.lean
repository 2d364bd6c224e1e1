/-! swaps, copies, joins, flips, mirrors, has, count -/
theorem NM.sub {s n : Nat} {μ μ' : Mem} (f : Fr (fun q k => (q = 48 ∨ q = 49) ∧ 60 * s ≤ k ∧ k < 60 * s + 60) μ μ') : Fr (mN s) μ μ' := f.mono (fun q k z => by unfold mN; omega)
abbrev swf (f : Nat → Nat) (k j : Nat) : Nat := if j = k + 1 then f k else if j = k then f (k + 1) else f j
theorem op_swaps (N : Nat) (hN : 10000 ≤ N) (x y : Int32) : OpEq (f_X_swaps N x y) (f_M_swaps N x y) := by
  refine op_mk (fun μ σ hw hx => ?_)
  rcases ix4 x 4 (by omega) with hs | ⟨s, hs, rfl⟩
  · exact ⟨-1, σ, μ, by simp [f_X_swaps, f_X_isComparer, isNet_out N hs, bnd_some], hx, Fr.rf μ, hw, op_no (fun μ _ => by simp [f_M_swaps, mNet_out N hs, bnd_some, lt'])⟩
  have w := hw.1 s hs
  have nx := hx.1 s hs
  have hl := w.2.2.1
  rcases ix4 y (σ.1 s).2.length (by omega) with hk | ⟨k, hk, rfl⟩
  · exact ⟨-1, σ, μ, by simp [f_X_swaps, xComp_out N nx hs hl hk, bnd_some], hx, Fr.rf μ, hw, op_no (fun μ hm => by simp [f_M_swaps, mNet_in N hs, mComp_out N ((hm.thr (v := 0)).1 s hs) hs hl hk, bnd_some, lt'])⟩
  generalize hcs : (σ.1 s).2 = cs at *
  generalize hnn : (σ.1 s).1 = n at *
  by_cases hk1 : k + 1 < cs.length
  · obtain ⟨μ', e, f, g1, g2⟩ := sNet_exAt N (p := 2 + 3 * s) (a := k) (b := k + 1) μ (by omega) (by omega)
    have c1 : ∀ j, j < cs.length → gI μ' (2 + 3 * s + 1) j = nI (swf (cl cs) k j) := by
      intro j hj
      rw [g1, (nx.2.2 k hk).1, (nx.2.2 (k + 1) hk1).1, (nx.2.2 j hj).1]
      unfold swf
      ((repeat' split) <;> first | rfl | omega | (exfalso; omega) | (congr 1; omega))
    have c2 : ∀ j, j < cs.length → gI μ' (2 + 3 * s + 2) j = nI (swf (ch cs) k j) := by
      intro j hj
      rw [g2, (nx.2.2 k hk).2, (nx.2.2 (k + 1) hk1).2, (nx.2.2 j hj).2]
      unfold swf
      ((repeat' split) <;> first | rfl | omega | (exfalso; omega) | (congr 1; omega))
    have b1 := w.2.2.2 k hk
    have b2 := w.2.2.2 (k + 1) hk1
    have n' : NX μ' (2 + 3 * s) n (mk cs.length (swf (cl cs) k) (swf (ch cs) k)) := NX.mk (by rw [f.I (rgo (by omega))]; exact nx.1) (by rw [f.I (rgo (by omega))]; exact nx.2.1) (fun j hj => ⟨c1 j hj, c2 j hj⟩)
    have wn : WN n (mk cs.length (swf (cl cs) k) (swf (ch cs) k)) := WN.mk w.1 w.2.1 hl (fun j hj => by
      unfold swf
      have := w.2.2.2 j hj
      split
      · exact b1
      · split
        · exact b2
        · exact this)
    have hn8 := w.2.1
    refine ⟨if cl cs k = cl cs (k + 1) ∨ cl cs k = ch cs (k + 1) ∨ ch cs k = cl cs (k + 1) ∨ ch cs k = ch cs (k + 1) then 0 else 1, _, μ', ?_, hx.net (f.wide (by omega) (by omega)) hs n', frX (f.wide (by omega) (by omega)) hs, hw.net wn, ?_⟩
    · have a1 := c1 k hk
      have a2 := c1 (k + 1) hk1
      have a3 := c2 k hk
      have a4 := c2 (k + 1) hk1
      simp only [swf, if_pos, if_neg (show ¬ k = k + 1 by omega)] at a1 a2 a3 a4
      simp (disch := omega) only [f_X_swaps, xComp_in N nx hs hk hl, lt', bnd_some, ck_tt, inb_nI, tn_nI, nI_add, pk_mul, nI_ltI, nI_eq, nx.2.1, fa_lit, f_Net_exchangeWithNext, e, a1, a2, a3, a4, hk1, if_true, reduceIte]
      ((repeat' split) <;> first | rfl | omega | (exfalso; omega) | (congr 1; omega))
    · sorry
  · sorry

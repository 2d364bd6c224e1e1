/-! sign, end -/
def byt (v : Int32) (k : Nat) : Nat := v.toBitVec.toNat / 2 ^ k % 256
theorem byt_lt (v : Int32) (k : Nat) : byt v k < 256 := Nat.mod_lt _ (by decide)
theorem ush_byt (v s : Int32) (k : Nat) (hs : ((s.toUInt32 &&& Int32.toUInt32 31).toBitVec % 32).toNat = k) : (ushI v s) &&& 255 = nI (byt v k) := by
  rw [pk_and (ushI v s) 8 rfl]
  unfold ushI byt
  rw [pk_ushr v s k hs]
theorem shr_byt (v s : Int32) (k : Nat) (hs : ((s &&& 31).toBitVec.smod 32).toNat = k) (hk : k ≤ 24) : (shrI v s) &&& 255 = nI (byt v k) := by
  rw [pk_and (shrI v s) 8 rfl]
  congr 1
  unfold shrI byt
  show (v.toBitVec.sshiftRight ((s &&& 31).toBitVec.smod 32).toNat).toNat % 2 ^ 8 = _
  rw [hs]
  apply Nat.eq_of_testBit_eq
  intro i
  rw [show (256 : Nat) = 2 ^ 8 from rfl, Nat.testBit_mod_two_pow, Nat.testBit_mod_two_pow, Nat.testBit_div_two_pow]
  by_cases hi : i < 8
  · rw [← BitVec.getLsbD, ← BitVec.getLsbD, BitVec.getLsbD_sshiftRight]
    have h1 : ¬ 32 ≤ i := (by omega)
    have h2 : k + i < 32 := (by omega)
    simp [hi, h1, h2, Nat.add_comm]
  · simp [hi]
theorem char_byt {b : Nat} (h : b < 256) : vp_nar .char (chI (nI b)) = nI b := by
  have e : chI (nI b) = nI b := by
    unfold chI
    rw [pk_char, pk_tn (by omega), Nat.mod_eq_of_lt (by omega)]
  rw [e]
  have h1 := pk_vc (nI b)
  unfold chI at e
  rw [e] at h1
  exact h1
theorem getD_app4 (t : List Nat) (a b c d k : Nat) : (t ++ [a, b, c, d]).getD k 0 = if k < t.length then t.getD k 0 else if k = t.length then a else if k = t.length + 1 then b else if k = t.length + 2 then c else if k = t.length + 3 then d else 0 := by
  rw [List.getD_eq_getElem?_getD, List.getD_eq_getElem?_getD]
  by_cases h : k < t.length
  · rw [if_pos h, List.getElem?_append_left h]
  · rw [if_neg h, List.getElem?_append_right (by omega)]
    obtain ⟨j, rfl⟩ : ∃ j, k = t.length + j := ⟨k - t.length, (by omega)⟩
    rw [Nat.add_sub_cancel_left]
    match j with
    | 0 => simp
    | 1 => simp
    | 2 => simp
    | 3 => simp
    | j + 4 => rw [if_neg (by omega), if_neg (by omega), if_neg (by omega), if_neg (by omega)]; simp
theorem lpT_step (N : Nat) (v : Int32) (K : Mem → Option (Int32 × Mem)) (n : Nat) (a : Int32) (μ : Mem) (L b : Nat) (hL : gI μ 14 1 = nI L) (hL2 : L < 200) (ha : ¬ a < 0) (hb : (ushI v a) &&& 255 = nI b) (hb2 : b < 256) : lp_Text_append_17 N v K (n + 1) a μ = lp_Text_append_17 N v K n (a + (-8)) (sI (sI μ 15 L (nI b)) 14 1 (nI (L + 1))) := by
  rw [lp_Text_append_17, if_neg ha]
  simp (disch := omega) only [i10, i00, reduceIte, lt', bnd_some, ck_tt, inb_nI, tn_nI, nI_add, pk_mul, nI_ltI, nI_eq, hL, hb, char_byt hb2, gI_sI, gL_sL, gR_sR, gI_sL, gI_sR, gL_sI, gL_sR, gR_sI, gR_sL]
  simp [nI_1]
theorem lpM_step (N : Nat) (v : Int32) (K : Mem → Option (Int32 × Mem)) (n k b : Nat) (μ : Mem) (L : Nat) (hL : gI μ 44 8 = nI L) (hL2 : L + 4 ≤ 200) (hk : k < 4) (hb : (shrI v (24 - (8 * nI k))) &&& 255 = nI b) : lp_M_sign_19 N v K (n + 1) (nI k) μ = lp_M_sign_19 N v K n (nI (k + 1)) (sI μ 50 (L + k) (nI b)) := by
  rw [lp_M_sign_19]
  simp (disch := omega) only [i10, i00, reduceIte, lt', bnd_some, ck_tt, inb_nI, tn_nI, nI_add, pk_mul, nI_ltI, nI_eq, hL, hb, nI_1]
  rw [if_pos]
  show nI k < nI 4
  exact nI_lt hk (by omega)
theorem op_sign (N : Nat) (hN : 10000 ≤ N) (v : Int32) : OpEq (f_X_sign N v) (f_M_sign N v) := by
  refine op_mk (fun μ σ hw hx => ?_)
  obtain ⟨w1, w2, w3, w4⟩ := id hw
  obtain ⟨nx, tx, rx⟩ := id hx
  obtain ⟨N, rfl⟩ : ∃ t, N = t + 5 := ⟨N - 5, (by omega)⟩
  generalize ht : σ.2.1 = t at *
  by_cases hc : t.length + 4 ≤ 200
  · obtain ⟨μ', e, fr, c1, c2⟩ : ∃ μ', f_X_sign (N + 5) v μ = some (nI (t.length + 4), μ') ∧ Fr (rg 14 15) μ μ' ∧ gI μ' 14 1 = nI (t.length + 4) ∧ ∀ k, gI μ' 15 k = if k = t.length + 3 then nI (byt v 0) else if k = t.length + 2 then nI (byt v 8) else if k = t.length + 1 then nI (byt v 16) else if k = t.length then nI (byt v 24) else gI μ 15 k := by
      have h0 : ¬ (200 : Int32) < gI μ 14 1 + 4 := by
        rw [tx.1]; show ¬ nI 200 < nI t.length + nI 4; rw [nI_add]; exact nI_nlt (by omega) (by omega)
      refine ⟨_, by
        unfold f_X_sign f_Text_append
        rw [if_neg h0, lpT_step _ v _ _ 24 μ t.length (byt v 24) tx.1 (by omega) (by decide) (ush_byt v 24 24 rfl) (byt_lt _ _)]
        rw [lpT_step _ v _ _ (24 + -8) _ (t.length + 1) (byt v 16) (by simp [gI_sI, gL_sL, gR_sR, gI_sL, gI_sR, gL_sI, gL_sR, gR_sI, gR_sL]) (by omega) (by decide) (ush_byt v _ 16 rfl) (byt_lt _ _)]
        rw [lpT_step _ v _ _ (24 + -8 + -8) _ (t.length + 2) (byt v 8) (by simp [gI_sI, gL_sL, gR_sR, gI_sL, gI_sR, gL_sI, gL_sR, gR_sI, gR_sL]) (by omega) (by decide) (ush_byt v _ 8 rfl) (byt_lt _ _)]
        rw [lpT_step _ v _ _ (24 + -8 + -8 + -8) _ (t.length + 3) (byt v 0) (by simp [gI_sI, gL_sL, gR_sR, gI_sL, gI_sR, gL_sI, gL_sR, gR_sI, gR_sL]) (by omega) (by decide) (ush_byt v _ 0 rfl) (byt_lt _ _)]
        rw [lp_Text_append_17, if_pos (by decide), bnd_some, if_neg (by decide)]
        simp only [gI_sI, and_self, if_true]
        rfl, ?_, ?_, ?_⟩
      · exact ((((((((Fr.rf μ).sI (rgi (by omega) (by omega))).sI (rgi (by omega) (by omega))).sI (rgi (by omega) (by omega))).sI (rgi (by omega) (by omega))).sI (rgi (by omega) (by omega))).sI (rgi (by omega) (by omega))).sI (rgi (by omega) (by omega))).sI (rgi (by omega) (by omega))
      · simp [gI_sI, gL_sL, gR_sR, gI_sL, gI_sR, gL_sI, gL_sR, gR_sI, gR_sL]
      · intro k; simp [gI_sI, gL_sL, gR_sR, gI_sL, gI_sR, gL_sI, gL_sR, gR_sI, gR_sL]
    refine ⟨nI (t.length + 4), (σ.1, t ++ [byt v 24, byt v 16, byt v 8, byt v 0], σ.2.2), μ', e, ⟨fun s hs => (nx s hs).fr fr (fun q k h1 h2 => rgo (by omega)), ⟨by simpa using c1, fun k hk => ?_⟩, rx.fr fr (rgo (by omega)) (fun _ => rgo (by omega))⟩, fr.wide (by omega) (by omega), ⟨w1, by simp; omega, fun k => ?_, w4⟩, ?_⟩
    · rw [List.length_append] at hk
      have hk : k < t.length + 4 := hk
      rw [getD_app4, c2]
      have := tx.2 k
      by_cases hkt : k < t.length
      · rw [if_pos hkt, ← this hkt]
        ((repeat' split) <;> first | rfl | omega | (exfalso; omega) | (congr 1; omega))
      · rw [if_neg hkt]
        ((repeat' split) <;> first | rfl | omega | (exfalso; omega) | (congr 1; omega))
    · show (t ++ [byt v 24, byt v 16, byt v 8, byt v 0]).getD k 0 < 256
      rw [getD_app4]
      have := byt_lt v 0
      have := byt_lt v 8
      have := byt_lt v 16
      have := byt_lt v 24
      have := w3 k
      (repeat' split) <;> omega
    intro μ hm
    have hm' : SM (sI μ 44 0 0) σ := hm.thr
    unfold f_M_sign
    simp only [lt']
    generalize hν : sI μ 44 0 0 = ν at hm' ⊢
    obtain ⟨m1, m2, m3, m4⟩ := hm'
    rw [ht] at m2
    have h0 : ¬ (196 : Int32) < gI ν 44 8 := by
      rw [m2.1]; show ¬ nI 196 < nI t.length; exact nI_nlt (by omega) (by omega)
    have fr : Fr (fun q k => q = 50 ∨ (q = 44 ∧ k = 8)) ν (sI (sI (sI (sI (sI ν 50 (t.length + 0) (nI (byt v 24))) 50 (t.length + 1) (nI (byt v 16))) 50 (t.length + 2) (nI (byt v 8))) 50 (t.length + 3) (nI (byt v 0))) 44 8 (nI (t.length + 4))) := (((((Fr.rf ν).sI (by omega)).sI (by omega)).sI (by omega)).sI (by omega)).sI (by omega)
    refine ⟨(sI (sI (sI (sI (sI ν 50 (t.length + 0) (nI (byt v 24))) 50 (t.length + 1) (nI (byt v 16))) 50 (t.length + 2) (nI (byt v 8))) 50 (t.length + 3) (nI (byt v 0))) 44 8 (nI (t.length + 4))), ?_, ⟨m1.fr fr (fun q k _ _ z => by omega), ⟨by simp [gI_sI, gL_sL, gR_sR, gI_sL, gI_sR, gL_sI, gL_sR, gR_sI, gR_sL], fun k hk => ?_⟩, m3.fr fr (fun z => by omega) (fun k z => by omega), m4.fr fr (fun z => by omega) (fun z => by omega)⟩, (hν ▸ frT).tr (fr.mono (fun q k z => ⟨by omega, by omega⟩))⟩
    · rw [if_neg h0]
      show lp_M_sign_19 _ v _ _ (nI 0) ν = _
      rw [lpM_step _ v _ _ 0 (byt v 24) ν t.length m2.1 (by omega) (by omega) (shr_byt v _ 24 rfl (by omega))]
      rw [lpM_step _ v _ _ 1 (byt v 16) _ t.length (by simp [gI_sI, gL_sL, gR_sR, gI_sL, gI_sR, gL_sI, gL_sR, gR_sI, gR_sL, m2.1]) (by omega) (by omega) (shr_byt v _ 16 rfl (by omega))]
      rw [lpM_step _ v _ _ 2 (byt v 8) _ t.length (by simp [gI_sI, gL_sL, gR_sR, gI_sL, gI_sR, gL_sI, gL_sR, gR_sI, gR_sL, m2.1]) (by omega) (by omega) (shr_byt v _ 8 rfl (by omega))]
      rw [lpM_step _ v _ _ 3 (byt v 0) _ t.length (by simp [gI_sI, gL_sL, gR_sR, gI_sL, gI_sR, gL_sI, gL_sR, gR_sI, gR_sL, m2.1]) (by omega) (by omega) (shr_byt v _ 0 rfl (by omega))]
      rw [lp_M_sign_19, if_neg (by decide)]
      simp only [gI_sI, gL_sL, gR_sR, gI_sL, gI_sR, gL_sI, gL_sR, gR_sI, gR_sL, m2.1]
      simp [fa_lit, nI_add]
    · rw [List.length_append] at hk
      have hk : k < t.length + 4 := hk
      have c2 : gI (sI (sI (sI (sI (sI ν 50 (t.length + 0) (nI (byt v 24))) 50 (t.length + 1) (nI (byt v 16))) 50 (t.length + 2) (nI (byt v 8))) 50 (t.length + 3) (nI (byt v 0))) 44 8 (nI (t.length + 4))) 50 k = if k = t.length + 3 then nI (byt v 0) else if k = t.length + 2 then nI (byt v 8) else if k = t.length + 1 then nI (byt v 16) else if k = t.length then nI (byt v 24) else gI ν 50 k := by simp [gI_sI, gL_sL, gR_sR, gI_sL, gI_sR, gL_sI, gL_sR, gR_sI, gR_sL]
      rw [getD_app4, c2]
      have := m2.2 k
      by_cases hkt : k < t.length
      · rw [if_pos hkt, ← this hkt]
        ((repeat' split) <;> first | rfl | omega | (exfalso; omega) | (congr 1; omega))
      · rw [if_neg hkt]
        ((repeat' split) <;> first | rfl | omega | (exfalso; omega) | (congr 1; omega))
  · refine ⟨-1, σ, μ, ?_, hx, Fr.rf μ, hw, op_no (fun μ hm => ?_)⟩
    · unfold f_X_sign f_Text_append
      have h0 : (200 : Int32) < gI μ 14 1 + 4 := by
        rw [tx.1]; show nI 200 < nI t.length + nI 4; rw [nI_add]; exact nI_lt (by omega) (by omega)
      rw [if_pos h0]; rfl
    · have m := (hm.thr (v := 0)).2.1.1
      unfold f_M_sign; simp only [lt']; generalize sI μ 44 0 0 = ν at m ⊢
      have h0 : (196 : Int32) < gI ν 44 8 := by
        rw [m, ht]; show nI 196 < nI t.length; exact nI_lt (by omega) (by omega)
      rw [if_pos h0]
theorem op_end (N : Nat) (x : Int32) : OpEq (f_X_end N x) (f_M_end N x) := by
  refine op_mk (fun μ σ hw hx => ?_)
  obtain ⟨w1, w2, w3, w4⟩ := id hw
  obtain ⟨nx, tx, rx⟩ := id hx
  generalize ht : σ.2.1 = t at *
  rcases ix4 x (t.length + 1) (by omega) with h | ⟨k, hk, rfl⟩
  · refine ⟨0, σ, μ, ?_, hx, Fr.rf μ, hw, op_no (fun μ hm => ?_)⟩
    · unfold f_X_end
      rw [tx.1]
      by_cases h0 : x < 0
      · rw [if_pos h0]
      · rw [if_neg h0, if_pos]
        rcases h with h | h
        · exact absurd h h0
        · exact Int32.lt_of_lt_of_le (nI_lt (by omega) (by omega)) h
    · have m := (hm.thr (v := 0)).2.1.1
      unfold f_M_end; simp only [lt']; generalize sI μ 44 0 0 = ν at m ⊢
      rw [mIn_out N (n := t.length + 1) (by omega) h ν (by rw [m, ht, Int32.toInt_toInt64, nI_toInt (by omega)]; omega), bnd_some]
      rfl
  · have len : (t.take k).length = k := by rw [List.length_take]; omega
    have gd : ∀ j, j < k → (t.take k).getD j 0 = t.getD j 0 := by
      intro j hj
      rw [List.getD_eq_getElem?_getD, List.getD_eq_getElem?_getD, List.getElem?_take, if_pos hj]
    have fx : Fr (rg 14 15) μ (sI μ 14 1 (nI k)) := (Fr.rf μ).sI (rgi (by omega) (by omega))
    refine ⟨1, (σ.1, t.take k, σ.2.2), sI μ 14 1 (nI k), ?_, ⟨fun s hs => (nx s hs).fr fx (fun q k h1 h2 => rgo (by omega)), ⟨by simp [gI_sI, gL_sL, gR_sR, gI_sL, gI_sR, gL_sI, gL_sR, gR_sI, gR_sL, len], fun j hj => ?_⟩, rx.fr fx (rgo (by omega)) (fun _ => rgo (by omega))⟩, (Fr.rf μ).sI (rgi (by omega) (by omega)), ⟨w1, by simp only [len]; omega, fun j => ?_, w4⟩, ?_⟩
    · unfold f_X_end
      have a : ¬ nI k < 0 := nI_pos (by omega)
      have b : ¬ nI t.length < nI k := nI_nlt (by omega) (by omega)
      rw [if_neg a, tx.1, if_neg b]; rfl
    · have hj : j < k := by simpa only [len] using hj
      have := tx.2 j (by omega)
      simp only [gd j hj]
      simp [gI_sI, gL_sL, gR_sR, gI_sL, gI_sR, gL_sI, gL_sR, gR_sI, gR_sL, this]
    · show (t.take k).getD j 0 < 256
      by_cases hj : j < k
      · rw [gd j hj]; exact w3 j
      · rw [List.getD_eq_getElem?_getD, List.getElem?_eq_none (by rw [len]; omega)]; decide
    · intro μ hm
      have hm' : SM (sI μ 44 0 0) σ := hm.thr
      unfold f_M_end
      simp only [lt']
      generalize hν : sI μ 44 0 0 = ν at hm' ⊢
      obtain ⟨m1, m2, m3, m4⟩ := hm'
      rw [ht] at m2
      have fr : Fr (fun q k => q = 44 ∧ k = 8) ν (sI ν 44 8 (nI k)) := (Fr.rf ν).sI (by omega)
      refine ⟨sI ν 44 8 (nI k), ?_, ⟨m1.fr fr (fun q k _ _ z => by omega), ⟨by simp [gI_sI, gL_sL, gR_sR, gI_sL, gI_sR, gL_sI, gL_sR, gR_sI, gR_sL, len], fun j hj => ?_⟩, m3.fr fr (fun z => by omega) (fun k z => by omega), m4.fr fr (fun z => by omega) (fun z => by omega)⟩, (hν ▸ frT).tr (fr.mono (fun q k z => ⟨by omega, by omega⟩))⟩
      · rw [mIn_in N hk (by omega) ν (by rw [m2.1, Int32.toInt_toInt64, nI_toInt (by omega)]; omega), bnd_some]
        rfl
      · have hj : j < k := by simpa only [len] using hj
        have := m2.2 j (by omega)
        simp only [gd j hj]
        simp [gI_sI, gL_sL, gR_sR, gI_sL, gI_sR, gL_sI, gL_sR, gR_sI, gR_sL, this]

/-! nets that are told: the model, both -/
abbrev mP : Nat → Nat → Prop := fun q k => (q = 44 ∧ (k = 9 ∨ k = 11 ∨ k = 14)) ∨ q = 51 ∨ q = 52
theorem sM_takesDigit (N : Nat) {κ : Mem} {tx : List Nat} {p lo hi : Nat} (h : MT κ tx p) (hl : tx.length ≤ 200) (hb : ∀ k, tx.getD k 0 < 256) (hp : p ≤ 300) (hlo : lo < 10) (hhi : hi < 10) : f_M_takesDigit N (nI lo) (nI hi) κ = (match tdg tx lo hi p with
    | none => some (0, κ)
    | some d => some (1, sI (sI κ 44 11 (nI d)) 44 9 (nI (p + 1)))) := by
  have b := hb p
  unfold f_M_takesDigit
  rw [h.1, h.2.1]
  by_cases z : p < tx.length
  · have sb : (nI (tx.getD p 0) - 48).toInt = (tx.getD p 0 : Int) - 48 := pk_sub_toInt (b := 48) (by omega) (by omega)
    have el : (nI lo).toInt64.toInt = (lo : Int) := by rw [Int32.toInt_toInt64, nI_toInt (by omega)]
    have eh : (nI hi).toInt64.toInt = (hi : Int) := by rw [Int32.toInt_toInt64, nI_toInt (by omega)]
    rw [if_pos (nI_lt z (by omega)), inb_nI (by omega) (by omega), ck_tt, tn_nI (by omega), h.2.2 p z, sM_in, bnd_some, sb, el, eh]
    cases e : tdg tx lo hi p with
    | none =>
      have : ¬ ((lo : Int) ≤ (tx.getD p 0 : Int) - 48 ∧ (tx.getD p 0 : Int) - 48 ≤ (hi : Int)) := by
        intro q
        have := tdg_i (tx := tx) (lo := lo) (hi := hi) (p := p) (d := tx.getD p 0 - 48) z (by omega) (by omega) (by omega) (by omega)
        rw [e] at this; cases this
      rw [if_neg this, if_pos rfl]
    | some d =>
      have q := tdg_t e
      rw [if_pos (show (lo : Int) ≤ (tx.getD p 0 : Int) - 48 ∧ (tx.getD p 0 : Int) - 48 ≤ (hi : Int) by omega), if_neg (by decide), h.1, inb_nI (by omega) (by omega), ck_tt, tn_nI (by omega), h.2.2 p z, q.2.2.2.1, show nI (d + 48) - 48 = nI (d + 48 - 48) from pk_sub (b := 48) (by omega), Nat.add_sub_cancel, ltE, gI_sI, if_neg (by decide), h.1, nI_1, ltE]
  · have e : tdg tx lo hi p = none := by
      cases e : tdg tx lo hi p with
      | none => rfl
      | some d => exact absurd (tdg_t e).1 z
    rw [if_neg (nI_nlt (by omega) (by omega)), e]
theorem MT.dig {κ : Mem} {tx : List Nat} {p : Nat} (h : MT κ tx p) (d q : Nat) : MT (sI (sI κ 44 11 (nI d)) 44 9 (nI q)) tx q := (h.fr (A := fun q k => q = 44 ∧ k = 11) ((Fr.rf κ).sI ⟨rfl, rfl⟩) (fun z => by omega) (fun z => by omega) (fun k z => by omega)).to q
theorem sM_takesPair (N : Nat) {κ : Mem} {tx : List Nat} {p n : Nat} {ps : List (Nat × Nat)} (h : MT κ tx p) (hP : PMs κ ps) (hT : gI κ 44 15 = nI n) (h2 : 2 ≤ n) (h8 : n ≤ 8) (hl : tx.length ≤ 200) (hb : ∀ k, tx.getD k 0 < 256) (hp : p ≤ tx.length) (hps : ps.length < 60) : ∃ κ', Fr mP κ κ' ∧ (match pr tx n p with
    | .inl q => f_M_takesPair N κ = some (0, κ') ∧ MT κ' tx q
    | .inr (a, b) => f_M_takesPair N κ = some (1, κ') ∧ MT κ' tx (p + 2) ∧ PMs κ' (ps ++ [(a, b)])) := by
  have sb : nI n - 1 = nI (n - 1) := pk_sub (b := 1) (by omega)
  have t1 := sM_takesDigit N (lo := 0) (hi := n - 1) h hl hb (by omega) (by decide) (by omega)
  have t1' : f_M_takesDigit N 0 (nI (n - 1)) κ = _ := t1
  unfold pr
  cases e : tdg tx 0 (n - 1) p with
  | none =>
    rw [e] at t1'
    refine ⟨κ, Fr.rf κ, ?_⟩
    show f_M_takesPair N κ = some (0, κ) ∧ MT κ tx p
    refine ⟨?_, h⟩
    unfold f_M_takesPair
    rw [hT, sb, t1', bnd_some, if_pos rfl]
  | some a =>
    have qa := tdg_t e
    rw [e] at t1'
    dsimp only at t1' ⊢
    generalize hκ1 : sI (sI κ 44 11 (nI a)) 44 9 (nI (p + 1)) = κ1 at t1'
    have m1 : MT κ1 tx (p + 1) := by rw [← hκ1]; exact h.dig a (p + 1)
    have f1 : Fr (fun q k => q = 44 ∧ (k = 9 ∨ k = 11)) κ κ1 := by rw [← hκ1]; exact ((Fr.rf κ).sI (by omega)).sI (by omega)
    have g14 : gI κ1 44 14 = nI ps.length := by rw [f1.I (by omega)]; exact hP.1
    have g11 : gI κ1 44 11 = nI a := by rw [← hκ1]; simp [gI_sI, gL_sL, gR_sR, gI_sL, gI_sR, gL_sI, gL_sR, gR_sI, gR_sL]
    generalize hκ2 : sI κ1 51 ps.length (nI a) = κ2
    have f2 : Fr (fun q k => q = 51 ∧ k = ps.length) κ1 κ2 := by rw [← hκ2]; exact (Fr.rf κ1).sI ⟨rfl, rfl⟩
    have m2 : MT κ2 tx (p + 1) := m1.fr f2 (fun z => by omega) (fun z => by omega) (fun k z => by omega)
    have g15 : gI κ2 44 15 = nI n := by rw [f2.I (by omega), f1.I (by omega)]; exact hT
    have h11 : gI κ2 44 11 = nI a := by rw [f2.I (by omega)]; exact g11
    have h14 : gI κ2 44 14 = nI ps.length := by rw [f2.I (by omega)]; exact g14
    have fP : Fr mP κ κ2 := (f1.mono (fun q k z => by unfold mP; omega)).tr (f2.mono (fun q k z => by unfold mP; omega))
    have t2 := sM_takesDigit N (lo := 0) (hi := n - 1) m2 hl hb (by omega) (by decide) (by omega)
    have t2' : f_M_takesDigit N 0 (nI (n - 1)) κ2 = _ := t2
    have pre : f_M_takesPair N κ = lt' (fun (_ : Unit) => bnd (f_M_takesDigit N 0 (nI (n - 1)) κ2) fun r7 μ8 => if r7 = 0 then (some (0, μ8)) else (ck (inb (gI μ8 44 14) 60) (lt' (sI μ8 52 (tn (gI μ8 44 14)) (gI μ8 44 11)) fun μ11 => lt' (sI μ11 44 14 ((gI μ11 44 14) + 1)) fun μ12 => some (1, μ12)))) fun (k6 : Unit → Option (Int32 × Mem)) => if (gI κ2 44 9) < (gI κ2 44 10) then (ck (inb (gI κ2 44 9) 200) (if ((gI κ2 50 (tn (gI κ2 44 9))) - 48) = (gI κ2 44 11) then (some (0, κ2)) else (k6 ()))) else (k6 ()) := by
      unfold f_M_takesPair
      rw [hT, sb, t1', bnd_some, if_neg (by decide), g14, inb_nI hps (by omega), ck_tt, tn_nI (by omega), g11, hκ2, ltE, g15, sb]
    rw [ltE, m2.1, m2.2.1] at pre
    have bp := hb (p + 1)
    have k6 : ∀ b, a ≠ b → tdg tx 0 (n - 1) (p + 1) = some b → ∃ κ', Fr mP κ κ' ∧ (bnd (f_M_takesDigit N 0 (nI (n - 1)) κ2) fun r7 μ8 => if r7 = 0 then (some (0, μ8)) else (ck (inb (gI μ8 44 14) 60) (lt' (sI μ8 52 (tn (gI μ8 44 14)) (gI μ8 44 11)) fun μ11 => lt' (sI μ11 44 14 ((gI μ11 44 14) + 1)) fun μ12 => some (1, μ12)))) = some ((1 : Int32), κ') ∧ MT κ' tx (p + 2) ∧ PMs κ' (ps ++ [(a, b)]) := by
      intro b hab e2
      rw [e2] at t2'
      dsimp only at t2'
      generalize hκ3 : sI (sI κ2 44 11 (nI b)) 44 9 (nI (p + 1 + 1)) = κ3 at t2'
      have m3 : MT κ3 tx (p + 2) := by rw [← hκ3]; exact m2.dig b (p + 2)
      have f3 : Fr (fun q k => q = 44 ∧ (k = 9 ∨ k = 11)) κ2 κ3 := by rw [← hκ3]; exact ((Fr.rf κ2).sI (by omega)).sI (by omega)
      have k14 : gI κ3 44 14 = nI ps.length := by rw [f3.I (by omega)]; exact h14
      have k11 : gI κ3 44 11 = nI b := by rw [← hκ3]; simp [gI_sI, gL_sL, gR_sR, gI_sL, gI_sR, gL_sI, gL_sR, gR_sI, gR_sL]
      have f4 : Fr (fun q k => (q = 52 ∧ k = ps.length) ∨ (q = 44 ∧ k = 14)) κ3 (sI (sI κ3 52 ps.length (nI b)) 44 14 (nI (ps.length + 1))) := ((Fr.rf κ3).sI (by omega)).sI (by omega)
      refine ⟨sI (sI κ3 52 ps.length (nI b)) 44 14 (nI (ps.length + 1)), (fP.tr (f3.mono (fun q k z => by unfold mP; omega))).tr (f4.mono (fun q k z => by unfold mP; omega)), ?_, m3.fr f4 (fun z => by omega) (fun z => by omega) (fun k z => by omega), ?_, fun k hk => ?_⟩
      · rw [t2', bnd_some, if_neg (by decide), k14, inb_nI hps (by omega), ck_tt, tn_nI (by omega), k11, ltE, gI_sI, if_neg (show ¬ ((44 : Nat) = 52 ∧ 14 = ps.length) by omega), k14, nI_1, ltE]
      · rw [List.length_append, List.length_singleton, gI_sI, if_pos ⟨rfl, rfl⟩]
      · rw [List.length_append, List.length_singleton] at hk
        rw [cl_app, ch_app]
        by_cases e : k < ps.length
        · rw [if_pos e, if_pos e, f4.I (by omega), f3.I (by omega), f2.I (by omega), f1.I (by omega), f4.I (by omega), f3.I (by omega), f2.I (by omega), f1.I (by omega)]
          exact hP.2 k e
        · have ek : k = ps.length := (by omega)
          subst ek
          rw [if_neg e, if_neg e, if_pos rfl, if_pos rfl, f4.I (by omega), f3.I (by omega)]
          constructor
          · rw [← hκ2]; simp [gI_sI, gL_sL, gR_sR, gI_sL, gI_sR, gL_sI, gL_sR, gR_sI, gR_sL]
          · simp [gI_sI, gL_sL, gR_sR, gI_sL, gI_sR, gL_sI, gL_sR, gR_sI, gR_sL]
    cases e2 : tdg tx 0 (n - 1) (p + 1) with
    | none =>
      rw [e2] at t2'
      dsimp only at t2' ⊢
      refine ⟨κ2, fP, ?_, m2⟩
      rw [pre]
      by_cases z : p + 1 < tx.length
      · rw [if_pos (nI_lt z (by omega)), inb_nI (by omega) (by omega), ck_tt, t2', bnd_some, if_pos rfl]
        split <;> rfl
      · rw [if_neg (nI_nlt (by omega) (by omega)), t2', bnd_some, if_pos rfl]
    | some b =>
      have qb := tdg_t e2
      dsimp only
      have ev : ((gI κ2 50 (tn (nI (p + 1)))) - 48 = (gI κ2 44 11)) ↔ a = b := by
        rw [tn_nI (by omega), m2.2.2 _ qb.1, qb.2.2.2.1, show nI (b + 48) - 48 = nI (b + 48 - 48) from pk_sub (b := 48) (by omega), Nat.add_sub_cancel, h11, nI_eq (by omega) (by omega)]
        exact ⟨fun q => q.symm, fun q => q.symm⟩
      by_cases z : a = b
      · rw [if_pos z]
        refine ⟨κ2, fP, ?_, m2⟩
        rw [pre, if_pos (nI_lt qb.1 (by omega)), inb_nI (by omega) (by omega), ck_tt, if_pos (ev.mpr z)]
      · rw [if_neg z]
        obtain ⟨κ', r1, r2, r3, r4⟩ := k6 b z e2
        refine ⟨κ', r1, ?_, r3, r4⟩
        rw [pre, if_pos (nI_lt qb.1 (by omega)), inb_nI (by omega) (by omega), ck_tt, if_neg (fun q => z (ev.mp q))]
        dsimp only
        exact r2
theorem l_mtn51 (N : Nat) (hN : 10000 ≤ N) {tx : List Nat} {n : Nat} (h2 : 2 ≤ n) (h8 : n ≤ 8) (hl : tx.length ≤ 200) (hb : ∀ k, tx.getD k 0 < 256) : ∀ (m p n' : Nat) (ps : List (Nat × Nat)) (κ : Mem), MT κ tx p → PMs κ ps → gI κ 44 15 = nI n → ps.length + (m + 1) = 60 → p ≤ tx.length → m + 2 < n' → ∃ κ', Fr mP κ κ' ∧ (match rp tx n (m + 1) p ps with
      | .inl q => lp_M_takesNet_51 N (fun μ23 => if (gI μ23 44 9) = (gI μ23 44 10) then (some (1, μ23)) else (some (0, μ23))) n' 1 κ = some (0, κ') ∧ MT κ' tx q
      | .inr qs => lp_M_takesNet_51 N (fun μ23 => if (gI μ23 44 9) = (gI μ23 44 10) then (some (1, μ23)) else (some (0, μ23))) n' 1 κ = some (1, κ') ∧ PMs κ' qs)
  | m, p, n' + 2, ps, κ, h, hP, hT, hm, hp, hn => by
    obtain ⟨κ1, f1, r1⟩ := sM_takesPair N h hP hT h2 h8 hl hb hp (by omega)
    have ok := pr_ok (tx := tx) (n := n) (by omega) hp
    rw [rp]
    cases e : pr tx n p with
    | inl q =>
      rw [e] at r1
      refine ⟨κ1, f1, ?_, r1.2⟩
      rw [lp_M_takesNet_51, if_neg (by decide), r1.1, bnd_some, if_pos rfl]
    | inr c =>
      obtain ⟨a, b⟩ := c
      rw [e] at r1 ok
      obtain ⟨r2, r3, r4⟩ := r1
      obtain ⟨k1, k2, k3, k4⟩ := ok
      dsimp only
      have len1 : (ps ++ [(a, b)]).length = ps.length + 1 := by rw [List.length_append, List.length_singleton]
      have g14 : gI κ1 44 14 = nI (ps.length + 1) := by rw [← len1]; exact r4.1
      have tk := sM_takes N r3 hl hb (c := 44) (by omega) (by decide)
      have tk' : f_M_takes N 44 κ1 = _ := tk
      have T1 : gI κ1 44 15 = nI n := by rw [f1.I (fun z => by unfold mP at z; omega)]; exact hT
      have ce : (nI (p + 2) = nI tx.length) ↔ p + 2 = tx.length := nI_eq (by omega) (by omega)
      have stop : lp_M_takesNet_51 N (fun μ23 => if (gI μ23 44 9) = (gI μ23 44 10) then (some (1, μ23)) else (some (0, μ23))) (n' + 1) 0 κ1 = if p + 2 = tx.length then (some (1, κ1)) else (some (0, κ1)) := by
        rw [lp_M_takesNet_51, if_pos rfl, r3.1, r3.2.1]
        by_cases z : p + 2 = tx.length
        · rw [if_pos (ce.mpr z), if_pos z]
        · rw [if_neg (fun q => z (ce.mp q)), if_neg z]
      have pre : lp_M_takesNet_51 N (fun μ23 => if (gI μ23 44 9) = (gI μ23 44 10) then (some (1, μ23)) else (some (0, μ23))) (n' + 2) 1 κ = if nI (ps.length + 1) < 60 then (bnd (f_M_takes N 44 κ1) fun r20 μ21 => if r20 = 0 then (lp_M_takesNet_51 N (fun μ23 => if (gI μ23 44 9) = (gI μ23 44 10) then (some (1, μ23)) else (some (0, μ23))) (n' + 1) 0 μ21) else (lp_M_takesNet_51 N (fun μ23 => if (gI μ23 44 9) = (gI μ23 44 10) then (some (1, μ23)) else (some (0, μ23))) (n' + 1) 1 μ21)) else (lp_M_takesNet_51 N (fun μ23 => if (gI μ23 44 9) = (gI μ23 44 10) then (some (1, μ23)) else (some (0, μ23))) (n' + 1) 0 κ1) := by
        rw [lp_M_takesNet_51, if_neg (by decide), r2, bnd_some, if_neg (by decide), ltE, ltE, g14]
      by_cases x : cma tx 44 (p + 2) = true
      · obtain ⟨x1, x2⟩ := cma_t x
        rw [if_neg (show ¬ p + 2 = tx.length by omega)]
        rw [if_pos x] at tk'
        by_cases m0 : m = 0
        · rw [if_pos (Or.inr m0)]
          refine ⟨κ1, f1, ?_, r3⟩
          rw [pre, if_neg (show ¬ nI (ps.length + 1) < 60 from nI_nlt (b := 60) (by omega) (by omega)), stop, if_neg (by omega)]
        · rw [if_neg (fun q => by rcases q with q | q; · rw [x] at q; cases q
                                  · exact m0 q)]
          obtain ⟨m, rfl⟩ : ∃ k, m = k + 1 := ⟨m - 1, (by omega)⟩
          have f2 : Fr (fun q k => q = 44 ∧ k = 9) κ1 (sI κ1 44 9 (nI (p + 2 + 1))) := (Fr.rf κ1).sI ⟨rfl, rfl⟩
          obtain ⟨κ2, f3, r5⟩ := l_mtn51 N hN h2 h8 hl hb m (p + 3) (n' + 1) (ps ++ [(a, b)]) (sI κ1 44 9 (nI (p + 2 + 1))) (r3.to _) (r4.fr f2 (fun z => by omega) (fun k z => by omega) (fun k z => by omega)) (by rw [f2.I (by omega)]; exact T1) (by rw [len1]; omega) (by omega) (by omega)
          refine ⟨κ2, (f1.tr (f2.mono (fun q k z => by unfold mP; omega))).tr f3, ?_⟩
          rw [pre, if_pos (show nI (ps.length + 1) < 60 from nI_lt (b := 60) (by omega) (by omega)), tk', bnd_some, if_neg (by decide)]
          exact r5
      · have x' : cma tx 44 (p + 2) = false := by simpa using x
        rw [if_neg x] at tk'
        have fin : lp_M_takesNet_51 N (fun μ23 => if (gI μ23 44 9) = (gI μ23 44 10) then (some (1, μ23)) else (some (0, μ23))) (n' + 2) 1 κ = if p + 2 = tx.length then (some (1, κ1)) else (some (0, κ1)) := by
          rw [pre]
          by_cases y : nI (ps.length + 1) < 60
          · rw [if_pos y, tk', bnd_some, if_pos rfl, stop]
          · rw [if_neg y, stop]
        by_cases y : p + 2 = tx.length
        · rw [if_pos y]
          refine ⟨κ1, f1, ?_, r4⟩
          rw [fin, if_pos y]
        · rw [if_neg y, if_pos (Or.inl x')]
          refine ⟨κ1, f1, ?_, r3⟩
          rw [fin, if_neg y]
abbrev mTN : Nat → Nat → Prop := fun q k => (q = 44 ∧ (k = 9 ∨ k = 11 ∨ k = 14 ∨ k = 15)) ∨ q = 51 ∨ q = 52
theorem sM_takesNet (N : Nat) (hN : 10000 ≤ N) {κ : Mem} {tx : List Nat} (h : MT κ tx 0) (hl : tx.length ≤ 200) (hb : ∀ k, tx.getD k 0 < 256) : ∃ κ', Fr mTN κ κ' ∧ (match hdr tx with
    | .inl q => f_M_takesNet N κ = some (0, κ') ∧ MT κ' tx q
    | .inr (n, ps) => f_M_takesNet N κ = some (1, κ') ∧ PMs κ' ps ∧ gI κ' 44 15 = nI n) := by
  generalize hκ1 : sI κ 44 14 0 = κ1
  have f1 : Fr (fun q k => q = 44 ∧ k = 14) κ κ1 := by rw [← hκ1]; exact (Fr.rf κ).sI ⟨rfl, rfl⟩
  have m1 : MT κ1 tx 0 := h.fr f1 (fun z => by omega) (fun z => by omega) (fun k z => by omega)
  have g14 : gI κ1 44 14 = nI 0 := by rw [← hκ1]; simp [gI_sI, gL_sL, gR_sR, gI_sL, gI_sR, gL_sI, gL_sR, gR_sI, gR_sL]; rfl
  have t1 := sM_takesDigit N (lo := 2) (hi := 8) m1 hl hb (by omega) (by decide) (by decide)
  have t1' : f_M_takesDigit N 2 8 κ1 = _ := t1
  have F1 : Fr mTN κ κ1 := f1.mono (fun q k z => by unfold mTN; omega)
  unfold hdr
  cases e : tdg tx 2 8 0 with
  | none =>
    rw [e] at t1'
    refine ⟨κ1, F1, ?_, m1⟩
    unfold f_M_takesNet
    rw [hκ1, ltE, t1', bnd_some, if_pos rfl]
  | some n =>
    have qn := tdg_t e
    rw [e] at t1'
    dsimp only at t1' ⊢
    generalize hκ2 : sI (sI κ1 44 11 (nI n)) 44 9 (nI (0 + 1)) = κ2 at t1'
    have m2 : MT κ2 tx 1 := by rw [← hκ2]; exact m1.dig n 1
    have f2 : Fr (fun q k => q = 44 ∧ (k = 9 ∨ k = 11)) κ1 κ2 := by rw [← hκ2]; exact ((Fr.rf κ1).sI (by omega)).sI (by omega)
    have g11 : gI κ2 44 11 = nI n := by rw [← hκ2]; simp [gI_sI, gL_sL, gR_sR, gI_sL, gI_sR, gL_sI, gL_sR, gR_sI, gR_sL]
    generalize hκ3 : sI κ2 44 15 (nI n) = κ3
    have f3 : Fr (fun q k => q = 44 ∧ k = 15) κ2 κ3 := by rw [← hκ3]; exact (Fr.rf κ2).sI ⟨rfl, rfl⟩
    have m3 : MT κ3 tx 1 := m2.fr f3 (fun z => by omega) (fun z => by omega) (fun k z => by omega)
    have g15 : gI κ3 44 15 = nI n := by rw [← hκ3]; simp [gI_sI, gL_sL, gR_sR, gI_sL, gI_sR, gL_sI, gL_sR, gR_sI, gR_sL]
    have F3 : Fr mTN κ κ3 := (F1.tr (f2.mono (fun q k z => by unfold mTN; omega))).tr (f3.mono (fun q k z => by unfold mTN; omega))
    have P3 : PMs κ3 [] := ⟨by rw [f3.I (by omega), f2.I (by omega)]; exact g14, fun k hk => by simp at hk⟩
    have tk := sM_takes N m3 hl hb (c := 58) (by omega) (by decide)
    have tk' : f_M_takes N 58 κ3 = _ := tk
    have pre : f_M_takesNet N κ = bnd (f_M_takes N 58 κ3) fun r6 μ7 => if r6 = 0 then (some (0, μ7)) else (if (gI μ7 44 9) = (gI μ7 44 10) then (some (1, μ7)) else (lp_M_takesNet_51 N (fun μ23 => if (gI μ23 44 9) = (gI μ23 44 10) then (some (1, μ23)) else (some (0, μ23))) N 1 μ7)) := by
      unfold f_M_takesNet
      rw [hκ1, ltE, t1', bnd_some, if_neg (by decide), g11, hκ3, ltE]
    by_cases c : cma tx 58 1 = true
    · obtain ⟨c1, c2⟩ := cma_t c
      rw [if_neg (show ¬ cma tx 58 1 = false by rw [c]; decide)]
      rw [if_pos c] at tk'
      have m4 := m3.to (1 + 1)
      have f4 : Fr (fun q k => q = 44 ∧ k = 9) κ3 (sI κ3 44 9 (nI (1 + 1))) := (Fr.rf κ3).sI ⟨rfl, rfl⟩
      have ce : (nI (1 + 1) = nI tx.length) ↔ tx.length = 2 := by
        rw [nI_eq (by omega) (by omega)]; omega
      have pre2 : f_M_takesNet N κ = if nI (1 + 1) = nI tx.length then (some (1, sI κ3 44 9 (nI (1 + 1)))) else (lp_M_takesNet_51 N (fun μ23 => if (gI μ23 44 9) = (gI μ23 44 10) then (some (1, μ23)) else (some (0, μ23))) N 1 (sI κ3 44 9 (nI (1 + 1)))) := by
        rw [pre, tk', bnd_some, if_neg (by decide), m4.1, m4.2.1]
      have F4 : Fr mTN κ (sI κ3 44 9 (nI (1 + 1))) := F3.tr (f4.mono (fun q k z => by unfold mTN; omega))
      have P4 : PMs (sI κ3 44 9 (nI (1 + 1))) [] := P3.fr f4 (fun z => by omega) (fun k z => by omega) (fun k z => by omega)
      have T4 : gI (sI κ3 44 9 (nI (1 + 1))) 44 15 = nI n := by rw [f4.I (by omega)]; exact g15
      by_cases l : tx.length = 2
      · rw [if_pos l]
        exact ⟨_, F4, by rw [pre2, if_pos (ce.mpr l)], P4, T4⟩
      · rw [if_neg l]
        obtain ⟨κ5, f5, r5⟩ := l_mtn51 N hN (n := n) (by omega) (by omega) hl hb 59 2 N [] _ m4 P4 T4 rfl c1 (by omega)
        have F5 : Fr mTN κ κ5 := F4.tr (f5.mono (fun q k z => by unfold mP at z; unfold mTN; omega))
        have T5 : gI κ5 44 15 = nI n := by rw [f5.I (fun z => by unfold mP at z; omega)]; exact T4
        have pre3 := pre2
        rw [if_neg (fun q => l (ce.mp q))] at pre3
        cases er : rp tx n 60 2 [] with
        | inl q =>
          rw [show (59 + 1 : Nat) = 60 from rfl, er] at r5
          exact ⟨κ5, F5, pre3.trans r5.1, r5.2⟩
        | inr qs =>
          rw [show (59 + 1 : Nat) = 60 from rfl, er] at r5
          exact ⟨κ5, F5, pre3.trans r5.1, r5.2, T5⟩
    · have c' : cma tx 58 1 = false := by simpa using c
      rw [if_pos c']
      rw [if_neg c] at tk'
      exact ⟨κ3, F3, by rw [pre, tk', bnd_some, if_pos rfl], m3⟩
theorem l_xn53 (N : Nat) (hN : 10000 ≤ N) {n : Nat} {V : Nat → Nat} {cs : List (Nat × Nat)} {μ : Mem} (nx : NX μ 18 n cs) (h8 : n ≤ 8) (h : VF μ 22 n V) (hr : RX μ []) (K : Mem → Option (Int32 × Mem)) : ∃ μ', lp_X_net_53 N K N 0 μ = K μ' ∧ RX μ' (rwl V n) ∧ Fr (rg 16 17) μ μ' := by
  obtain ⟨μ', ⟨k1, k2⟩, e⟩ := for_up (fun n' i ν => lp_X_net_53 N K n' i ν) K n (fun i κ => RX κ (rwl V i) ∧ Fr (rg 16 17) μ κ)
    (by
      intro n' i κ hi ⟨i1, i2⟩
      obtain ⟨κ', e', r', f'⟩ := sNum_append N (nI (V i)).toInt64 i1 (by rw [rwl_len]; omega)
      refine ⟨κ', ⟨by rw [rwl_succ]; exact r', i2.tr f'⟩, ?_⟩
      have pl : f_Tangle_placeOf N (nI i) κ = some (nI (V i), κ) := by
        unfold f_Tangle_placeOf
        rw [inb_nI (by omega) (by omega), ck_tt, tn_nI (by omega), i2.I (rgo (by omega)), h i hi]
      rw [lp_X_net_53, i2.I (rgo (by omega)), nx.1, if_pos (nI_lt hi (by omega)), pl, bnd_some, e', bnd_some, ltE, nI_1])
    (by
      intro n' κ ⟨i1, i2⟩
      rw [lp_X_net_53, i2.I (rgo (by omega)), nx.1, if_neg (nI_nlt (Nat.le_refl _) (by omega))])
    n 0 N μ (by omega) (by omega) ⟨hr, Fr.rf μ⟩
  exact ⟨μ', e, k1, k2⟩
theorem l_mn49 (N : Nat) (hN : 10000 ≤ N) {n : Nat} {V : Nat → Nat} {μ : Mem} (x1 : Int32) (hT : gI μ 44 15 = nI n) (h8 : n ≤ 8) (h : VF μ 53 n V) (hr : RM μ []) (K : Mem → Option (Int32 × Mem)) : ∃ μ', lp_M_net_49 N x1 K N 0 μ = K μ' ∧ RM μ' (rwl V n) ∧ Fr mR μ μ' := by
  obtain ⟨μ', ⟨k1, k2⟩, e⟩ := for_up (fun n' i ν => lp_M_net_49 N x1 K n' i ν) K n (fun i κ => RM κ (rwl V i) ∧ Fr mR μ κ)
    (by
      intro n' i κ hi ⟨i1, i2⟩
      obtain ⟨κ', e', r', f'⟩ := sM_enters N (nI (V i)).toInt64 i1 (by rw [rwl_len]; omega)
      refine ⟨κ', ⟨by rw [rwl_succ]; exact r', i2.tr f'⟩, ?_⟩
      rw [lp_M_net_49, i2.I (fun z => by unfold mR at z; omega), hT, if_pos (nI_lt hi (by omega)), inb_nI (by omega) (by omega), ck_tt, tn_nI (by omega), i2.I (fun z => by unfold mR at z; omega), h i hi, e', bnd_some, ltE, nI_1])
    (by
      intro n' κ ⟨i1, i2⟩
      rw [lp_M_net_49, i2.I (fun z => by unfold mR at z; omega), hT, if_neg (nI_nlt (Nat.le_refl _) (by omega))])
    n 0 N μ (by omega) (by omega) ⟨hr, Fr.rf μ⟩
  exact ⟨μ', e, k1, k2⟩
theorem mTN_mX {μ μ' : Mem} (f : Fr mTN μ μ') : Fr mX μ μ' := f.mono (fun q k z => by unfold mTN at z; unfold mX; omega)
theorem op_net (N : Nat) (hN : 10000 ≤ N) (x : Int32) : OpEq (f_X_net N x) (f_M_net N x) := by
  refine op_mk (fun μ σ hw hx => ?_)
  show OpG (f_X_net N x) (f_M_net N x) μ σ
  have hl200 := hw.2.1
  have hb := hw.2.2.1
  have tx := hx.2.1
  generalize hT : σ.2.1 = T at *
  have ok := hdr_ok T
  obtain ⟨μ1, f1, r1⟩ := sX_readNet N hN tx hl200 hb
  have fx : Fr (rg 14 43) μ (sI μ1 14 1 0) := (f1.wide (by omega) (by omega)).sI (rgi (by omega) (by omega))
  have rx : RX (sI μ1 14 1 0) σ.2.2 := (hx.2.2.fr f1 (rgo (by omega)) (fun _ => rgo (by omega))).fr (A := rg 14 14) ((Fr.rf μ1).sI (rgi (by omega) (by omega))) (rgo (by omega)) (fun _ => rgo (by omega))
  have model : ∀ μ ν, ν = sI μ 44 0 0 → SM ν σ → ∃ ν2, TM ν2 [] ∧ RM ν2 σ.2.2 ∧ Fr mX ν ν2 ∧ (match hdr T with
      | .inl q => f_M_net N x μ = some ((-21) - nI q, ν2)
      | .inr (n, ps) => PMs ν2 ps ∧ gI ν2 44 15 = nI n ∧ f_M_net N x μ = bnd (f_M_isNet N x ν2) fun r7 μ8 => if r7 = 0 then (some ((-1), μ8)) else (bnd (f_M_untangles N x (gI μ8 44 15) μ8) fun _ μ11 => lt' (sI μ11 44 1 0) fun μ12 => lp_M_net_49 N x (fun μ18 => ck (inb x 4) (some (gI μ18 47 (tn x), μ18))) N 0 μ12)) := by
    intro μ ν hν hm
    have tm := hm.2.1
    rw [hT] at tm
    obtain ⟨ν1, e1, mt, t1, g1⟩ := sM_reads N tm
    obtain ⟨ν2, g2, r2⟩ := sM_takesNet N hN mt hl200 hb
    refine ⟨ν2, t1.fr g2 (fun z => by unfold mTN at z; omega) (fun k z => by unfold mTN at z; omega), (hm.2.2.1.fr g1 (fun z => by unfold mRd at z; omega) (fun k z => by unfold mRd at z; omega)).fr g2 (fun z => by unfold mTN at z; omega) (fun k z => by unfold mTN at z; omega), (mRd_mX g1).tr (mTN_mX g2), ?_⟩
    cases hr : hdr T with
    | inl q =>
      rw [hr] at r2
      show f_M_net N x μ = some ((-21) - nI q, ν2)
      unfold f_M_net
      rw [ltE, ← hν, e1, bnd_some, r2.1, bnd_some, if_pos rfl, r2.2.1]
    | inr c =>
      obtain ⟨n, ps⟩ := c
      rw [hr] at r2
      refine ⟨r2.2.1, r2.2.2, ?_⟩
      unfold f_M_net
      rw [ltE, ← hν, e1, bnd_some, r2.1, bnd_some, if_neg (by decide)]
  cases hr : hdr T with
  | inl q =>
    rw [hr] at r1 ok
    refine g_t hw hx ((-21) - nI q) σ.2.2 hw.2.2.2 ⟨sI μ1 14 1 0, ?_, TX0, rx, fx⟩ (fun μ ν hν hm => ?_)
    · unfold f_X_net
      rw [show f_X_readNet N μ = _ from r1, bnd_some, ltE, if_neg (nI_pos (by have : q ≤ T.length + 1 := ok; omega))]
    · obtain ⟨ν2, a2, a3, a4, a5⟩ := model μ ν hν hm
      rw [hr] at a5
      exact ⟨ν2, a5, a2, a3, a4⟩
  | inr c =>
    obtain ⟨n, ps⟩ := c
    rw [hr] at r1 ok
    obtain ⟨o1, o2, o3, o4⟩ := ok
    obtain ⟨r2, r3, r4⟩ := r1
    have fe : Fr (rg 14 14) μ1 (sI μ1 14 1 0) := (Fr.rf μ1).sI (rgi (by omega) (by omega))
    have nx1 := r3.frg fe (by omega)
    have vf1 := r4.fr fe (fun _ => rgo (by omega))
    rcases ix4 x 4 (by omega) with hs | ⟨s, hs, rfl⟩
    · refine g_t hw hx (-1) σ.2.2 hw.2.2.2 ⟨sI μ1 14 1 0, ?_, TX0, rx, fx⟩ (fun μ ν hν hm => ?_)
      · unfold f_X_net
        rw [r2, bnd_some, ltE, if_pos (by decide), isNet_out N hs, bnd_some, if_pos rfl]
      · obtain ⟨ν2, a2, a3, a4, a5⟩ := model μ ν hν hm
        rw [hr] at a5
        refine ⟨ν2, ?_, a2, a3, a4⟩
        rw [a5.2.2, mNet_out N hs, bnd_some, if_pos rfl]
    · have wn := us_WN o3 o1 o2 o4
      obtain ⟨μ2, e2, n2, f2⟩ := sNet_take N hN (p := 2 + 3 * s) nx1 (by rw [us_len]; exact o4) (by omega)
      obtain ⟨μ3, e3, q3, f3⟩ := sNum_clear N μ2
      have nx3 : NX μ3 18 n (us ps ps.length) := (nx1.frg f2 (by omega)).frg f3 (by omega)
      have vf3 : VF μ3 22 n (ua ps ps.length) := (vf1.fr f2 (fun _ => rgo (by omega))).fr f3 (fun _ => rgo (by omega))
      obtain ⟨μ4, e4, q4, f4⟩ := l_xn53 N hN nx3 o2 vf3 q3 (fun μ19 => some (gI μ19 18 1, μ19))
      have nx4 := nx3.frg f4 (by omega)
      refine g_u hw hx hs (n := n) (cs := us ps ps.length) (tx := []) (nI (us ps ps.length).length) (rwl (ua ps ps.length) n) (by rw [rwl_len]; omega) ⟨by simp, fun k => by simp⟩ wn ⟨μ4, ?_, (n2.frg f3 (by omega)).frg f4 (by omega), ((TX0.fr f2 (rgo (by omega)) (fun _ => rgo (by omega))).fr f3 (rgo (by omega)) (fun _ => rgo (by omega))).fr f4 (rgo (by omega)) (fun _ => rgo (by omega)), q4, (((rg_xU fx (Or.inr ⟨by decide, by decide⟩)).tr (rg_xU f2 (Or.inl ⟨Nat.le_refl _, Nat.le_refl _⟩))).tr (rg_xU f3 (Or.inr ⟨by decide, by decide⟩))).tr (rg_xU f4 (Or.inr ⟨by decide, by decide⟩))⟩ (fun μ ν hν hm => ?_)
      · unfold f_X_net
        rw [r2, bnd_some, ltE, if_pos (by decide), isNet_in N hs, bnd_some, if_neg (by decide), inb_nI hs (by omega), ck_tt, tn_nI (by omega), e2, bnd_some, e3, bnd_some]
        refine Eq.trans e4 ?_
        rw [nx4.2.1]
      · obtain ⟨ν2, a2, a3, a4, a5⟩ := model μ ν hν hm
        rw [hr] at a5
        obtain ⟨a6, a7, a8⟩ := a5
        obtain ⟨ν3, g3, m3, v3, h3⟩ := sM_untangles N hN hs o1 o2 a6 o3 o4
        obtain ⟨q5, h5⟩ := sM_told0 ν3
        have T5 : gI (sI ν3 44 1 0) 44 15 = nI n := by rw [h5.I (fun z => by unfold mR at z; omega), h3.I (fun z => by unfold mUn mN at z; omega)]; exact a7
        obtain ⟨ν6, g6, q6, h6⟩ := l_mn49 N hN (nI s) T5 o2 (v3.fr h5 (fun k z => by unfold mR at z; omega)) q5 (fun μ18 => ck (inb (nI s) 4) (some (gI μ18 47 (tn (nI s)), μ18)))
        have m6 : NM ν6 s n (us ps ps.length) := (m3.fr h5 (fun q k _ _ z => by unfold mR at z; omega)).fr h6 (fun q k _ _ z => by unfold mR at z; omega)
        refine ⟨ν6, ?_, m6, ((a2.fr h3 (fun z => by unfold mUn mN at z; omega) (fun k z => by unfold mUn mN at z; omega)).fr h5 (fun z => by unfold mR at z; omega) (fun k z => by unfold mR at z; omega)).fr h6 (fun z => by unfold mR at z; omega) (fun k z => by unfold mR at z; omega), q6, (((mX_mU a4).tr (h3.mono (fun q k z => by unfold mUn mN at z; unfold mU; omega))).tr (mQ_mU (mR_mQ h5))).tr (mQ_mU (mR_mQ h6))⟩
        rw [a8, mNet_in N hs, bnd_some, if_neg (by decide), a7, g3, bnd_some, ltE]
        refine Eq.trans g6 ?_
        rw [inb_nI hs (by omega), ck_tt, tn_nI (by omega), m6.2.1]

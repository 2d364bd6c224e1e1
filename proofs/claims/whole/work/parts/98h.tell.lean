/-! least and shallow: the class's whole -/
def mkp (n : Nat) (lay : Bool) (a : Nat) : List Nat := ((List.range a).map (fun k => k + 1)).filter (pmk n lay)
theorem mkp_len (n : Nat) (lay : Bool) (a : Nat) : (mkp n lay a).length = cn (fun k => pmk n lay (k + 1)) a := by
  unfold mkp
  rw [← List.countP_eq_length_filter, List.countP_map, cn_cP]; rfl
theorem mkp_succ (n : Nat) (lay : Bool) (a : Nat) : mkp n lay (a + 1) = mkp n lay a ++ (if pmk n lay (a + 1) then [a + 1] else []) := by
  unfold mkp
  rw [List.range_succ, List.map_append, List.filter_append]
  congr 1
  simp only [List.map_cons, List.map_nil]
  rw [List.filter_cons]
  split <;> rfl
theorem mkp_b {n : Nat} (h5 : n ≤ 5) (lay : Bool) {a : Nat} (ha : a ≤ 2 ^ (prs n).length - 1) : (mkp n lay a).length ≤ 25 := by
  have h1 := mkl_len h5 lay
  have h2 : (mkl n lay).length = cn (fun k => pmk n lay (k + 1)) (2 ^ (prs n).length - 1) := mkp_len n lay _
  have h3 := cn_mono_n (fun k => pmk n lay (k + 1)) ha
  rw [mkp_len]
  omega
theorem sX_listMoves (N : Nat) (hN : 10000 ≤ N) {n : Nat} {κ : Mem} (lay : Bool) (h5 : n ≤ 5) (hp : PRm κ (prs n)) : ∃ κ', f_Search_listMoves N (gI' lay) κ = some ((), κ') ∧ MVm κ' (mkl n lay) ∧ Fr (fun q k => q = 41 ∨ (q = 38 ∧ k = 7)) κ κ' := by
  have pl' := (prs_ok n (by omega)).1
  have p10 : 2 ^ (prs n).length ≤ 2 ^ 10 := Nat.pow_le_pow_right (by decide) pl'
  have pp := Nat.two_pow_pos (prs n).length
  have f0 : Fr (fun q k => q = 41 ∨ (q = 38 ∧ k = 7)) κ (sI κ 38 7 0) := (Fr.rf κ).sI (by omega)
  obtain ⟨κ', ⟨-, k1, k2⟩, e⟩ := for_up (fun n' m ν => lp_Search_listMoves_7 N (gI' lay) (fun μ19 => some ((), μ19)) n' m ν) (fun μ19 => some ((), μ19)) (2 ^ (prs n).length) (fun m ν => 1 ≤ m ∧ MVm ν (mkp n lay (m - 1)) ∧ Fr (fun q k => q = 41 ∨ (q = 38 ∧ k = 7)) κ ν)
    (by
      intro n' m ν hm ⟨i0, i1, i2⟩
      obtain ⟨a, rfl⟩ : ∃ a, m = a + 1 := ⟨m - 1, (by omega)⟩
      rw [Nat.add_sub_cancel] at i1
      have pn : PRm ν (prs n) := hp.fr i2 (fun z => by omega) (fun k z => by omega) (fun k z => by omega)
      have lb' := mkp_b h5 lay (a := a) (by omega)
      have bc : f_JInt_bitCount N (nI (a + 1)) ν = some (bcI (nI (a + 1)), ν) := rfl
      have il := sX_isLayer N hN h5 pn (show a + 1 < 2 ^ 20 by omega)
      have ms := mkp_succ n lay a
      have pre : ∀ b : Bool, pmk n lay (a + 1) = b → lp_Search_listMoves_7 N (gI' lay) (fun μ19 => some ((), μ19)) (n' + 1) (nI (a + 1)) ν = (if b then (lp_Search_listMoves_7 N (gI' lay) (fun μ19 => some ((), μ19)) n' (nI (a + 2)) (sI (sI ν 41 (mkp n lay a).length (nI (a + 1))) 38 7 (nI ((mkp n lay a).length + 1)))) else (lp_Search_listMoves_7 N (gI' lay) (fun μ19 => some ((), μ19)) n' (nI (a + 2)) ν)) := by
        intro b hb
        have g7 : gI (sI ν 41 (mkp n lay a).length (nI (a + 1))) 38 7 = nI (mkp n lay a).length := by rw [gI_sI, if_neg (by omega)]; exact i1.1
        rw [lp_Search_listMoves_7, pn.1, one_shl (by omega), if_pos (nI_lt hm (by omega)), i1.1, if_pos (show nI (mkp n lay a).length < 26 from nI_lt (b := 26) (by omega) (by omega)), bc, bnd_some, ltE, ltE, il, bnd_some]
        dsimp only
        rw [i1.1, inb_nI (show (mkp n lay a).length < 26 by omega) (by omega), tn_nI (by omega)]
        simp only [ckE, ltE, g7, nI_1]
        unfold pmk at hb
        by_cases z : bcI (nI (a + 1)) = 1
        · rw [decide_eq_true z, Bool.true_or] at hb
          subst hb
          rw [if_pos z, if_pos rfl]
        · rw [decide_eq_false z, Bool.false_or] at hb
          rw [if_neg z]
          cases lay with
          | false =>
            rw [Bool.false_and] at hb
            subst hb
            rw [if_pos (by decide)]; rfl
          | true =>
            rw [Bool.true_and] at hb
            rw [if_neg (by decide)]
            cases b with
            | true => rw [hb, if_pos rfl, if_neg (by decide)]; rfl
            | false => rw [hb, if_pos (by decide)]; rfl
      cases q : pmk n lay (a + 1) with
      | true =>
        rw [q, if_pos rfl] at ms
        refine ⟨sI (sI ν 41 (mkp n lay a).length (nI (a + 1))) 38 7 (nI ((mkp n lay a).length + 1)), ⟨(by omega), ?_, (i2.sI (by omega)).sI (by omega)⟩, by rw [pre true q]; rfl⟩
        show MVm _ (mkp n lay (a + 1 + 1 - 1))
        rw [Nat.add_sub_cancel, ms]
        refine ⟨by rw [List.length_append, List.length_singleton]; simp [gI_sI, gL_sL, gR_sR, gI_sL, gI_sR, gL_sI, gL_sR, gR_sI, gR_sL], fun k hk => ?_⟩
        rw [List.length_append, List.length_singleton] at hk
        rw [getD_ap, gI_sI, if_neg (by omega), gI_sI]
        by_cases e : k = (mkp n lay a).length
        · rw [if_pos ⟨rfl, e⟩, if_neg (by omega), if_pos e]
        · rw [if_neg (fun z => e z.2), if_pos (by omega)]; exact i1.2 k (by omega)
      | false =>
        rw [q, if_neg (by decide), List.append_nil] at ms
        refine ⟨ν, ⟨(by omega), ?_, i2⟩, by rw [pre false q]; rfl⟩
        show MVm _ (mkp n lay (a + 1 + 1 - 1))
        rw [Nat.add_sub_cancel, ms]; exact i1)
    (by
      intro n' ν ⟨i0, i1, i2⟩
      have pn : PRm ν (prs n) := hp.fr i2 (fun z => by omega) (fun k z => by omega) (fun k z => by omega)
      rw [lp_Search_listMoves_7, pn.1, one_shl (by omega), if_neg (nI_nlt (Nat.le_refl _) (by omega))])
    (2 ^ (prs n).length - 1) 1 N (sI κ 38 7 0) (by omega) (by omega) ⟨Nat.le_refl _, ⟨by simp [gI_sI, gL_sL, gR_sR, gI_sL, gI_sR, gL_sI, gL_sR, gR_sI, gR_sL, mkp]; rfl, fun k hk => by simp [mkp] at hk⟩, f0⟩
  refine ⟨κ', ?_, k1, k2⟩
  unfold f_Search_listMoves
  rw [ltE]
  exact e
theorem all_n : ∀ n, n < 6 → shlL 1 (shlI 1 (nI n)) - 1 = lN (2 ^ 2 ^ n - 1) := by decide +kernel
theorem chk_n {n : Nat} (h1 : 1 ≤ n) (h5 : n ≤ 5) : ∀ lay, chk n (mvs n lay) 15 [2 ^ 2 ^ n - 1] = true := by
  intro lay
  by_cases e : n = 5
  · subst e
    cases lay with
    | false => exact chk_5
    | true => exact chk_5l
  · have := chk_s n (by omega) h1
    cases lay with
    | false => exact this.1
    | true => exact this.2
theorem sX_tellSteps (N : Nat) (hN : 10000 ≤ N) {n : Nat} (lay : Bool) (h1 : 1 ≤ n) (h5 : n ≤ 5) (μ : Mem) : ∃ μ', f_Search_tellSteps N (nI n) (gI' lay) μ = some (nI (rws n (mvs n lay) 15 [2 ^ 2 ^ n - 1]).length, μ') ∧ RX μ' (rmp (rws n (mvs n lay) 15 [2 ^ 2 ^ n - 1])) ∧ Fr (rg 16 43) μ μ' := by
  have f0 : Fr (rg 16 43) μ (sI μ 38 5 (nI n)) := (Fr.rf μ).sI (rgi (by omega) (by omega))
  have w0 : gI (sI μ 38 5 (nI n)) 38 5 = nI n := by rw [gI_sI, if_pos ⟨rfl, rfl⟩]
  obtain ⟨μ1, e1, p1, f1⟩ := sX_listPairs N hN h1 h5 w0
  have w1 : gI μ1 38 5 = nI n := by rw [f1.I (by omega)]; exact w0
  obtain ⟨μ2, e2, v2, f2⟩ := sX_listMoves N hN lay h5 p1
  have p2 : PRm μ2 (prs n) := p1.fr f2 (fun z => by omega) (fun k z => by omega) (fun k z => by omega)
  have w2 : gI μ2 38 5 = nI n := by rw [f2.I (by omega)]; exact w1
  have sa : f_Sets_all N (nI n) μ2 = some (lN (2 ^ 2 ^ n - 1), μ2) := by
    unfold f_Sets_all
    rw [if_pos (show nI n < 6 from nI_lt (b := 6) (by omega) (by omega)), all_n n (by omega)]
  generalize hμ3 : sI (sL μ2 42 0 (lN (2 ^ 2 ^ n - 1))) 38 8 1 = μ3
  have f3 : Fr (fun q k => q = 42 ∨ (q = 38 ∧ k = 8)) μ2 μ3 := by rw [← hμ3]; exact ((Fr.rf μ2).sL (by omega)).sI (by omega)
  have g3 : LSt μ3 42 38 8 [2 ^ 2 ^ n - 1] := by
    rw [← hμ3]
    refine ⟨by simp [gI_sI, gL_sL, gR_sR, gI_sL, gI_sR, gL_sI, gL_sR, gR_sI, gR_sL]; rfl, fun k hk => ?_⟩
    have : k = 0 := by simp at hk; omega
    subst this
    rw [gL_sI, gL_sL, if_pos ⟨rfl, rfl⟩]; rfl
  obtain ⟨μ4, e4, r4, f4⟩ := sNum_clear N μ3
  have pw := Nat.two_pow_pos (2 ^ n)
  have hc := chk_n h1 h5 lay
  rw [← mkl_eq h5 lay] at hc
  have b4 : ∀ k, f_Search_tellSteps N (nI n) (gI' lay) μ = k → f_Search_tellSteps N (nI n) (gI' lay) μ = k := fun _ h => h
  obtain ⟨μ5, e5, r5, f5⟩ := l_ts36 N hN h1 h5 (mkl_b h5 lay) (by have := mkl_len h5 lay; omega) (ms_ok h5 lay) (fun v22 μ23 => some (v22, μ23)) 15 0 N [2 ^ 2 ^ n - 1] [] μ4 hc rfl (by omega) (fun s hs => by rw [List.mem_singleton] at hs; subst hs; omega) (by simp) (by rw [f4.I (rgo (by omega)), f3.I (by omega)]; exact w2) ((p2.fr f3 (fun z => by omega) (fun k z => by omega) (fun k z => by omega)).fr f4 (rgo (by omega)) (fun _ => rgo (by omega)) (fun _ => rgo (by omega))) ((v2.fr f3 (fun z => by omega) (fun k z => by omega)).fr f4 (rgo (by omega)) (fun _ => rgo (by omega))) (g3.fr f4 (rgo (by omega)) (fun _ => rgo (by omega))) r4 rfl
  rw [mkl_eq h5 lay, Nat.zero_add] at e5
  rw [mkl_eq h5 lay, List.nil_append] at r5
  refine ⟨μ5, ?_, r5, ((((f0.tr (f1.mono (fun q k z => ⟨by omega, by omega⟩))).tr (f2.mono (fun q k z => ⟨by omega, by omega⟩))).tr (f3.mono (fun q k z => ⟨by omega, by omega⟩))).tr (f4.wide (by omega) (by omega))).tr (f5.mono (fun q k z => by unfold xK at z; exact ⟨by omega, by omega⟩))⟩
  unfold f_Search_tellSteps
  rw [ltE, e1, bnd_some, e2, bnd_some, sa, bnd_some, show inb 0 64 = true from inb_nI (k := 0) (by decide) (by decide), ckE, show tn 0 = 0 from tn_nI (k := 0) (by decide), ltE, hμ3, ltE, e4, bnd_some]
  exact e5

/-! a wire taken out -/
abbrev CS : Type := (Nat → Nat) × Nat × List (Nat × Nat)
def cstep (g : Bool) (i j : Nat) (st : CS) : CS :=
  if i ≠ st.2.1 ∧ j ≠ st.2.1 then (st.1, st.2.1, st.2.2 ++ [(st.1 i, st.1 j)])
  else if st.2.1 = (if g then i else j) then ((fun v => if v = st.2.1 then st.1 (if g then j else i) else st.1 v), (if g then j else i), st.2.2)
  else st
def cst (g : Bool) (cs : List (Nat × Nat)) (w : Nat) : Nat → CS
  | 0 => ((fun v => if v ≤ w then v else v - 1), w, [])
  | k + 1 => cstep g (cl cs k) (ch cs k) (cst g cs w k)
def CI (n k : Nat) (st : CS) : Prop := st.2.1 < n ∧ (∀ v, v < n → v ≠ st.2.1 → st.1 v < n - 1) ∧ (∀ u v, u < n → v < n → u ≠ st.2.1 → v ≠ st.2.1 → st.1 u = st.1 v → u = v) ∧ PO (n - 1) st.2.2 ∧ st.2.2.length ≤ k
theorem CI.st {n k i j : Nat} {g : Bool} {st : CS} (h : CI n k st) (hi : i < j) (hj : j < n) : CI n (k + 1) (cstep g i j st) := by
  obtain ⟨ln, here, ps⟩ := st
  obtain ⟨h1, h2, h3, h4, h5⟩ := h
  dsimp only at h1 h2 h3 h4 h5
  unfold cstep
  dsimp only
  by_cases z : i ≠ here ∧ j ≠ here
  · rw [if_pos z]
    refine ⟨h1, h2, h3, ?_, ?_⟩
    · dsimp only
      exact h4.sn (h2 i (by omega) z.1) (h2 j hj z.2) (fun e => by have := h3 i j (by omega) hj z.1 z.2 e; omega)
    · dsimp only
      rw [List.length_append, List.length_singleton]; omega
  · rw [if_neg z]
    by_cases y : here = (if g then i else j)
    · rw [if_pos y]
      generalize ht : (if g then j else i) = t
      have htn : t < n ∧ t ≠ here := by
        cases g
        · simp at y ht; omega
        · simp at y ht; omega
      refine ⟨htn.1, fun v hv hne => ?_, fun u v hu hv hu' hv' e => ?_, h4, by dsimp only; omega⟩
      · dsimp only at hne ⊢
        by_cases e : v = here
        · rw [if_pos e]; exact h2 t htn.1 htn.2
        · rw [if_neg e]; exact h2 v hv e
      · dsimp only at hu' hv' e
        by_cases e1 : u = here
        · by_cases e2 : v = here
          · omega
          · rw [if_pos e1, if_neg e2] at e
            have := h3 t v htn.1 hv htn.2 e2 e
            omega
        · by_cases e2 : v = here
          · rw [if_neg e1, if_pos e2] at e
            have := h3 u t hu htn.1 e1 htn.2 e
            omega
          · rw [if_neg e1, if_neg e2] at e
            exact h3 u v hu hv e1 e2 e
    · rw [if_neg y]
      exact ⟨h1, h2, h3, h4, Nat.le_succ_of_le h5⟩
theorem cst_ok {n w : Nat} {g : Bool} {cs : List (Nat × Nat)} (W : WN n cs) (hw : w < n) : ∀ k, k ≤ cs.length → CI n k (cst g cs w k)
  | 0, _ => by
    refine ⟨hw, fun v hv hne => ?_, fun u v hu hv hu' hv' e => ?_, fun k hk => by simp [cst] at hk, by simp [cst]⟩
    · simp only [cst] at hne ⊢
      split <;> omega
    · simp only [cst] at hu' hv' e
      split at e <;> split at e <;> omega
  | k + 1, hk => by
    have c := W.2.2.2 k hk
    exact (cst_ok W hw k (by omega)).st c.1 c.2
abbrev xC : Nat → Nat → Prop := fun q _ => (18 ≤ q ∧ q ≤ 22) ∨ q = 36
def CX (n : Nat) (κ : Mem) (st : CS) : Prop := VF κ 36 n st.1 ∧ VF κ 22 (n - 1) (ua st.2.2 st.2.2.length) ∧ NX κ 18 (n - 1) (us st.2.2 st.2.2.length)
def gI' (g : Bool) : Int32 := if g then 1 else 0
theorem sX_cutAt (N : Nat) {n i j k : Nat} {g : Bool} {st : CS} {κ : Mem} (h : CX n κ st) (c : CI n k st) (h3 : 3 ≤ n) (h8 : n ≤ 8) (hi : i < j) (hj : j < n) (hk : k < 60) : ∃ κ', f_X_cutAt N (nI i) (nI j) (nI st.2.1) (gI' g) κ = some (nI (cstep g i j st).2.1, κ') ∧ CX n κ' (cstep g i j st) ∧ Fr xC κ κ' := by
  obtain ⟨ln, here, ps⟩ := st
  obtain ⟨v1, v2, v3⟩ := h
  obtain ⟨c1, c2, c3, c4, c5⟩ := c
  dsimp only at v1 v2 v3 c1 c2 c3 c4 c5 ⊢
  have ei : (nI i = nI here) ↔ i = here := nI_eq (by omega) (by omega)
  have ej : (nI j = nI here) ↔ j = here := nI_eq (by omega) (by omega)
  unfold f_X_cutAt cstep
  dsimp only
  rw [ltE]
  by_cases z : i ≠ here ∧ j ≠ here
  · rw [if_pos z]
    have I := ua_inj c4 ps.length (Nat.le_refl _)
    obtain ⟨κ1, u1, u2, u3, u4⟩ := sT_un N (a := ln i) (b := ln j) v2 v3 (by omega) (c2 i (by omega) z.1) (c2 j hj z.2) (fun e => by have := c3 i j (by omega) hj z.1 z.2 e; omega) (by rw [us_len]; omega) I.1
    rw [← us_sn] at u3
    rw [← ua_sn] at u2
    have len1 : (ps ++ [(ln i, ln j)]).length = ps.length + 1 := by rw [List.length_append, List.length_singleton]
    rw [← len1] at u2 u3
    refine ⟨κ1, ?_, ⟨v1.fr u4 (fun _ => rgo (by omega)), u2, u3⟩, u4.mono (fun q k z => by unfold rg at z; unfold xC; omega)⟩
    rw [if_neg (fun q => z.1 (ei.mp q)), if_neg (fun q => z.2 (ej.mp q)), inb_nI (show i < 8 by omega) (by omega), inb_nI (show j < 8 by omega) (by omega), ck_tt, ck_tt, tn_nI (show i < 2 ^ 31 by omega), tn_nI (show j < 2 ^ 31 by omega), v1 i (by omega), v1 j hj, u1, bnd_some]
  · rw [if_neg z]
    have red : ∀ o : Option (Int32 × Mem), (if nI i = nI here then o else if nI j = nI here then o else ck (inb (nI i) 8) (ck (inb (nI j) 8) (bnd (f_Tangle_untangle N (gI κ 36 (tn (nI i))) (gI κ 36 (tn (nI j))) 18 κ) fun _ μ17 => some (nI here, μ17)))) = o := by
      intro o
      by_cases y : i = here
      · rw [if_pos (ei.mpr y)]
      · rw [if_neg (fun q => y (ei.mp q)), if_pos (ej.mpr (by omega))]
    rw [red]
    have e1 : (if gI' g = 0 then (nI j : Int32) else (nI i : Int32)) = nI (if g then i else j) := by cases g <;> rfl
    have e2 : (if gI' g = 0 then (nI i : Int32) else (nI j : Int32)) = nI (if g then j else i) := by cases g <;> rfl
    rw [e1, e2, ltE]
    generalize hq : (if g then i else j) = q
    generalize ht : (if g then j else i) = t
    have hb : q < n ∧ t < n := by cases g <;> simp at hq ht <;> omega
    have eq : (nI here = nI q) ↔ here = q := nI_eq (by omega) (by omega)
    by_cases y : here = q
    · rw [if_pos y, if_pos (eq.mpr y)]
      refine ⟨sI κ 36 here (nI (ln t)), ?_, ⟨fun k hk => ?_, v2.fr (A := rg 36 36) ((Fr.rf κ).sI (rgi (by omega) (by omega))) (fun _ => rgo (by omega)), v3.frg (a := 36) (b := 36) ((Fr.rf κ).sI (rgi (by omega) (by omega))) (by omega)⟩, (Fr.rf κ).sI (Or.inr rfl)⟩
      · rw [ltE, inb_nI (show t < 8 by omega) (by omega), inb_nI (show here < 8 by omega) (by omega), ck_tt, ck_tt, tn_nI (show t < 2 ^ 31 by omega), tn_nI (show here < 2 ^ 31 by omega), v1 t hb.2, ltE]
      · dsimp only
        rw [gI_sI]
        by_cases e : k = here
        · rw [if_pos ⟨rfl, e⟩, if_pos e]
        · rw [if_neg (fun z => e z.2), if_neg e, v1 k hk]
    · rw [if_neg y, if_neg (fun z => y (eq.mp z))]
      exact ⟨κ, rfl, ⟨v1, v2, v3⟩, Fr.rf κ⟩
abbrev mC : Nat → Nat → Prop := fun q k => (q = 44 ∧ k = 14) ∨ q = 51 ∨ q = 52 ∨ q = 56
theorem l_mc105 (N : Nat) (hN : 10000 ≤ N) {s n w : Nat} {g : Bool} {cs : List (Nat × Nat)} {μ : Mem} (x4 x5 : Int32) (m : NM μ s n cs) (W : WN n cs) (hs : s < 4) (hw : w < n) (v : VF μ 56 n (cst g cs w 0).1) (hP : PMs μ []) (K : Int32 → Mem → Option (Int32 × Mem)) : ∃ μ', lp_M_cuts_105 N (nI s) (gI' g) x4 x5 K N (nI w) 0 μ = K (nI (cst g cs w cs.length).2.1) μ' ∧ PMs μ' (cst g cs w cs.length).2.2 ∧ Fr mC μ μ' := by
  have hl := W.2.2.1
  have h8 := W.2.1
  obtain ⟨⟨r, μ'⟩, ⟨k1, k2, k3, k4⟩, e⟩ := for_up (fun n' i (z : Int32 × Mem) => lp_M_cuts_105 N (nI s) (gI' g) x4 x5 K n' z.1 i z.2) (fun z => K z.1 z.2) cs.length (fun i z => z.1 = nI (cst g cs w i).2.1 ∧ VF z.2 56 n (cst g cs w i).1 ∧ PMs z.2 (cst g cs w i).2.2 ∧ Fr mC μ z.2)
    (by
      intro n' k ⟨r, κ⟩ hk ⟨i1, i2, i3, i4⟩
      dsimp only at i1 i2 i3 i4
      subst i1
      have mk := m.fr i4 (fun q k _ _ z => by unfold mC at z; omega)
      have c := W.2.2.2 k hk
      obtain ⟨c1, c2, c3, c4, c5⟩ := cst_ok (g := g) W hw k (by omega)
      have es : cst g cs w (k + 1) = cstep g (cl cs k) (ch cs k) (cst g cs w k) := rfl
      rw [es]
      generalize cst g cs w k = st at *
      obtain ⟨ln, here, ps⟩ := st
      generalize hi' : cl cs k = i at *
      generalize hj' : ch cs k = j at *
      dsimp only at i2 i3 c1 c2 c3 c4 c5 ⊢
      have ei : (nI here = nI i) ↔ i = here := by rw [nI_eq (by omega) (by omega)]; exact ⟨fun q => q.symm, fun q => q.symm⟩
      have ej : (nI here = nI j) ↔ j = here := by rw [nI_eq (by omega) (by omega)]; exact ⟨fun q => q.symm, fun q => q.symm⟩
      have lo := sM_lowOf N mk hs hk hl
      have hi := sM_highOf N mk hs hk hl
      rw [hi'] at lo
      rw [hj'] at hi
      unfold cstep
      dsimp only
      by_cases z : i ≠ here ∧ j ≠ here
      · rw [if_pos z]
        have len1 : (ps ++ [(ln i, ln j)]).length = ps.length + 1 := by rw [List.length_append, List.length_singleton]
        have f1 : Fr (fun q k => (q = 51 ∧ k = ps.length) ∨ (q = 52 ∧ k = ps.length) ∨ (q = 44 ∧ k = 14)) κ (sI (sI (sI κ 51 ps.length (nI (ln i))) 52 ps.length (nI (ln j))) 44 14 (nI (ps.length + 1))) := (((Fr.rf κ).sI (by omega)).sI (by omega)).sI (by omega)
        refine ⟨(nI here, sI (sI (sI κ 51 ps.length (nI (ln i))) 52 ps.length (nI (ln j))) 44 14 (nI (ps.length + 1))), ⟨rfl, i2.fr f1 (fun k z => by omega), ⟨by rw [len1]; simp [gI_sI, gL_sL, gR_sR, gI_sL, gI_sR, gL_sI, gL_sR, gR_sI, gR_sL], fun t ht => ?_⟩, i4.tr (f1.mono (fun q k z => by unfold mC; omega))⟩, ?_⟩
        · rw [len1] at ht
          rw [cl_app, ch_app]
          by_cases e : t < ps.length
          · rw [if_pos e, if_pos e, f1.I (by omega), f1.I (by omega)]; exact i3.2 t e
          · have et : t = ps.length := (by omega)
            subst et
            rw [if_neg e, if_neg e, if_pos rfl, if_pos rfl]
            constructor
            · simp [gI_sI, gL_sL, gR_sR, gI_sL, gI_sR, gL_sI, gL_sR, gR_sI, gR_sL]
            · simp [gI_sI, gL_sL, gR_sR, gI_sL, gI_sR, gL_sI, gL_sR, gR_sI, gR_sL]
        · dsimp only
          have g1 : gI (sI κ 51 ps.length (nI (ln i))) 44 14 = nI ps.length := by rw [gI_sI, if_neg (by omega)]; exact i3.1
          have g2 : gI (sI κ 51 ps.length (nI (ln i))) 56 j = nI (ln j) := by rw [gI_sI, if_neg (by omega)]; exact i2 j (by omega)
          have g3 : gI (sI (sI κ 51 ps.length (nI (ln i))) 52 ps.length (nI (ln j))) 44 14 = nI ps.length := by rw [gI_sI, if_neg (by omega)]; exact g1
          rw [lp_M_cuts_105, inb_nI hs (by omega), ck_tt, tn_nI (show s < 2 ^ 31 by omega), mk.2.1, if_pos (nI_lt hk (by omega)), lo, bnd_some, hi, bnd_some, ltE, ltE, if_neg (fun q => z.1 (ei.mp q)), if_neg (fun q => z.2 (ej.mp q)), inb_nI (show i < 8 by omega) (by omega), ck_tt, i3.1, inb_nI (show ps.length < 60 by omega) (by omega), ck_tt, tn_nI (show ps.length < 2 ^ 31 by omega), tn_nI (show i < 2 ^ 31 by omega), i2 i (by omega), ltE, inb_nI (show j < 8 by omega) (by omega), ck_tt, g1, inb_nI (show ps.length < 60 by omega) (by omega), ck_tt, tn_nI (show ps.length < 2 ^ 31 by omega), tn_nI (show j < 2 ^ 31 by omega), g2, ltE, g3, nI_1, ltE]
          dsimp only
          rw [ltE, nI_1]
      · rw [if_neg z]
        have red : ∀ o o' : Option (Int32 × Mem), (if nI here = nI i then o else if nI here = nI j then o else o') = o := by
          intro o o'
          by_cases y : i = here
          · rw [if_pos (ei.mpr y)]
          · rw [if_neg (fun q => y (ei.mp q)), if_pos (ej.mpr (by omega))]
        have cond : (gI' g = (if nI here = nI i then (1 : Int32) else 0)) ↔ here = (if g then i else j) := by
          by_cases y : i = here
          · rw [if_pos (ei.mpr y)]
            cases g
            · constructor
              · intro q; exact absurd q (by decide)
              · intro q; simp at q; omega
            · constructor
              · intro _; simp; omega
              · intro _; rfl
          · rw [if_neg (fun q => y (ei.mp q))]
            cases g
            · constructor
              · intro _; simp; omega
              · intro _; rfl
            · constructor
              · intro q; exact absurd q (by decide)
              · intro q; simp at q; omega
        have thr : here = (if g then i else j) → (nI i + nI j) - nI here = nI (if g then j else i) := by
          intro y
          rw [nI_add, pk_sub (by cases g <;> simp at y <;> omega)]
          congr 1
          cases g <;> simp at y ⊢ <;> omega
        generalize hq : (if g then i else j) = q at *
        generalize ht : (if g then j else i) = t at *
        have hb : q < n ∧ t < n := by cases g <;> simp at hq ht <;> omega
        by_cases y : here = q
        · rw [if_pos y]
          have f1 : Fr (fun q k => q = 56 ∧ k = here) κ (sI κ 56 here (nI (ln t))) := (Fr.rf κ).sI ⟨rfl, rfl⟩
          refine ⟨(nI t, sI κ 56 here (nI (ln t))), ⟨rfl, fun k hk => ?_, i3.fr f1 (fun z => by omega) (fun k z => by omega) (fun k z => by omega), i4.tr (f1.mono (fun q k z => by unfold mC; omega))⟩, ?_⟩
          · dsimp only
            rw [gI_sI]
            by_cases e : k = here
            · rw [if_pos ⟨rfl, e⟩, if_pos e]
            · rw [if_neg (fun z => e z.2), if_neg e, i2 k hk]
          · dsimp only
            rw [lp_M_cuts_105, inb_nI hs (by omega), ck_tt, tn_nI (show s < 2 ^ 31 by omega), mk.2.1, if_pos (nI_lt hk (by omega)), lo, bnd_some, hi, bnd_some, ltE, ltE, red, ltE, if_pos (cond.mpr y), thr y, ltE, inb_nI (show t < 8 by omega) (by omega), ck_tt, inb_nI (show here < 8 by omega) (by omega), ck_tt, tn_nI (show t < 2 ^ 31 by omega), tn_nI (show here < 2 ^ 31 by omega), i2 t hb.2, ltE]
            dsimp only
            rw [ltE, nI_1]
        · rw [if_neg y]
          refine ⟨(nI here, κ), ⟨rfl, i2, i3, i4⟩, ?_⟩
          dsimp only
          rw [lp_M_cuts_105, inb_nI hs (by omega), ck_tt, tn_nI (show s < 2 ^ 31 by omega), mk.2.1, if_pos (nI_lt hk (by omega)), lo, bnd_some, hi, bnd_some, ltE, ltE, red, ltE, if_neg (fun q => y (cond.mp q))]
          dsimp only
          rw [ltE, nI_1])
    (by
      intro n' ⟨r, κ⟩ ⟨i1, i2, i3, i4⟩
      dsimp only at i1 i2 i3 i4 ⊢
      have mk := m.fr i4 (fun q k _ _ z => by unfold mC at z; omega)
      rw [lp_M_cuts_105, inb_nI hs (by omega), ck_tt, tn_nI (show s < 2 ^ 31 by omega), mk.2.1, if_neg (nI_nlt (Nat.le_refl _) (by omega))])
    cs.length 0 N (nI w, μ) (by omega) (by omega) ⟨rfl, v, hP, Fr.rf μ⟩
  dsimp only at k1 k2 k3 k4 e
  subst k1
  exact ⟨μ', e, k3, k4⟩
theorem op_cuts (N : Nat) (hN : 10000 ≤ N) (x y : Int32) (g : Bool) (z : Int32) : OpEq (f_X_cuts N x y (gI' g) z) (f_M_cuts N x y (gI' g) z) := by
  refine op_of (fX := fun x => f_X_cuts N x y (gI' g) z) (fM := fun x => f_M_cuts N x y (gI' g) z) (-1) (fun x h μ => by simp [f_X_cuts, isNet_out N h, bnd_some]) (fun x h μ => by simp [f_M_cuts, mNet_out N h, bnd_some, lt']) (fun s hs μ σ hw hx => ?_) x
  rcases ix4 z 4 (by omega) with ht | ⟨t, ht, rfl⟩
  · refine g_no hw hx (-1) (by simp [f_X_cuts, isNet_in N hs, isNet_out N ht, bnd_some]) (fun μ ν hν hm => ?_)
    unfold f_M_cuts
    rw [ltE, ← hν, mNet_in N hs, bnd_some, if_neg (by decide), mNet_out N ht, bnd_some, if_pos rfl]
  have W := hw.1 s hs
  have nx := hx.1 s hs
  generalize hcs : (σ.1 s).2 = cs at *
  generalize hnn : (σ.1 s).1 = n at *
  have h8 := W.2.1
  have n2 := W.1
  have hl := W.2.2.1
  rcases ix4 y n (by omega) with hp | ⟨w, hw', rfl⟩
  · refine g_no hw hx (-1) (by simp (disch := omega) [f_X_cuts, isNet_in N hs, isNet_in N ht, sNet_isWireNo N nx hp, lt', bnd_some, ck_tt, inb_nI, tn_nI, fa_lit, nI_add, pk_mul, nI_ltI, nI_eq]) (fun μ ν hν hm => ?_)
    have m := hm.1 s hs
    rw [hcs, hnn] at m
    unfold f_M_cuts
    rw [ltE, ← hν, mNet_in N hs, bnd_some, if_neg (by decide), mNet_in N ht, bnd_some, if_neg (by decide), mWire_out N m hs (by omega) (by omega) hp, bnd_some, if_pos rfl]
  have c2 : ((2 : Int32) < nI n) ↔ 2 < n := nI_ltI (a := 2) (by omega) (by omega)
  have d2 : (nI n = (2 : Int32)) ↔ n = 2 := nI_eq (b := 2) (by omega) (by omega)
  have sb : nI n - 1 = nI (n - 1) := pk_sub (b := 1) (by omega)
  by_cases n3 : n = 2
  · refine g_no hw hx (-2) ?_ (fun μ ν hν hm => ?_)
    · unfold f_X_cuts
      rw [isNet_in N hs, bnd_some, if_neg (by decide), isNet_in N ht, bnd_some, if_neg (by decide), inb_nI hs (by omega), ck_tt, tn_nI (show s < 2 ^ 31 by omega), sNet_isWire N nx hw' (by omega), bnd_some, if_neg (by decide), ck_tt, nx.1, if_neg (fun q => by have := c2.mp q; omega)]
    · have m := hm.1 s hs
      rw [hcs, hnn] at m
      unfold f_M_cuts
      rw [ltE, ← hν, mNet_in N hs, bnd_some, if_neg (by decide), mNet_in N ht, bnd_some, if_neg (by decide), mWire_in N m hs hw' (by omega), bnd_some, if_neg (by decide), inb_nI hs (by omega), ck_tt, tn_nI (show s < 2 ^ 31 by omega), m.1, if_pos (d2.mpr n3)]
  have C := cst_ok (g := g) W hw' cs.length (Nat.le_refl _)
  generalize hfin : cst g cs w cs.length = fin at C
  have wn := us_WN C.2.2.2.1 (show 2 ≤ n - 1 by omega) (by omega) (by have := C.2.2.2.2; omega)
  have hpl : fin.2.2.length ≤ 60 := by have := C.2.2.2.2; omega
  refine g_u hw hx ht (n := n - 1) (cs := us fin.2.2 fin.2.2.length) (tx := σ.2.1) (nI (us fin.2.2 fin.2.2.length).length) [(nI fin.2.1).toInt64] (by simp) ⟨hw.2.1, hw.2.2.1⟩ wn ?_ (fun μ ν hν hm => ?_)
  · -- names of the lines
    obtain ⟨μ1, ⟨j1, j2⟩, e1⟩ := for_up (fun n' i ν => lp_X_nameLines_2 N (nI n) (nI w) (fun μ8 => some ((), μ8)) n' i ν) (fun μ8 => some ((), μ8)) n (fun i κ => VF κ 36 i (cst g cs w 0).1 ∧ Fr (rg 36 36) μ κ)
      (by
        intro n' i κ hi ⟨i1, i2⟩
        have l : (nI w < nI i) ↔ w < i := nI_ltI (by omega) (by omega)
        have q : (if nI w < nI i then (nI i - 1 : Int32) else (nI i : Int32)) = nI ((cst g cs w 0).1 i) := by
          simp only [cst]
          by_cases u : w < i
          · rw [if_pos (l.mpr u), if_neg (by omega), show nI i - 1 = nI (i - 1) from pk_sub (b := 1) (by omega)]
          · rw [if_neg (fun q => u (l.mp q)), if_pos (by omega)]
        refine ⟨sI κ 36 i (nI ((cst g cs w 0).1 i)), ⟨fun k hk => ?_, i2.sI (rgi (by omega) (by omega))⟩, ?_⟩
        · rw [gI_sI]
          by_cases e : k = i
          · rw [if_pos ⟨rfl, e⟩, e]
          · rw [if_neg (fun z => e z.2)]; exact i1 k (by omega)
        · rw [lp_X_nameLines_2, if_pos (nI_lt hi (by omega)), q, ltE, inb_nI (by omega) (by omega), ck_tt, tn_nI (by omega), ltE, ltE, nI_1])
      (by
        intro n' κ _
        rw [lp_X_nameLines_2, if_neg (nI_nlt (Nat.le_refl _) (by omega))])
      n 0 N μ (by omega) (by omega) ⟨fun k hk => by omega, Fr.rf μ⟩
    have e1' : f_X_nameLines N (nI n) (nI w) μ = some ((), μ1) := e1
    have n1 := nx.frg j2 (by omega)
    obtain ⟨μ2, e2, v2, f2⟩ := sT_start N hN (n := n - 1) (by omega) μ1
    have n2' := n1.frg f2 (by omega)
    obtain ⟨μ3, e3, n3', f3⟩ := sNet_clear N (μ := μ2) (p := 18) (n := n - 1)
    have n3'' := n2'.frg f3 (by omega)
    have cx0 : CX n μ3 (cst g cs w 0) := ⟨(j1.fr f2 (fun _ => rgo (by omega))).fr f3 (fun _ => rgo (by omega)), v2.fr f3 (fun _ => rgo (by omega)), n3'⟩
    have key : ∀ K : Int32 → Mem → Option (Int32 × Mem), ∃ κ, lp_X_cuts_94 N (gI' g) (nI t) (2 + 3 * s) K N (nI w) 0 μ3 = K (nI fin.2.1) κ ∧ CX n κ fin ∧ Fr xC μ3 κ := by
      intro K
      obtain ⟨⟨r, κ⟩, ⟨k1, k2, k3⟩, e⟩ := for_up (fun n' i (z : Int32 × Mem) => lp_X_cuts_94 N (gI' g) (nI t) (2 + 3 * s) K n' z.1 i z.2) (fun z => K z.1 z.2) cs.length (fun i z => z.1 = nI (cst g cs w i).2.1 ∧ CX n z.2 (cst g cs w i) ∧ Fr xC μ3 z.2)
        (by
          intro n' k ⟨r, κ⟩ hk ⟨i1, i2, i3⟩
          dsimp only at i1 i2 i3
          subst i1
          have nk := n3''.fr i3 (fun q k h1 h2 z => by unfold xC at z; omega)
          have c := W.2.2.2 k hk
          have Ck := cst_ok (g := g) W hw' k (by omega)
          obtain ⟨κ', e', x', f'⟩ := sX_cutAt N (g := g) i2 Ck (by omega) h8 c.1 c.2 (by omega)
          refine ⟨(nI (cst g cs w (k + 1)).2.1, κ'), ⟨rfl, x', i3.tr f'⟩, ?_⟩
          dsimp only
          rw [lp_X_cuts_94, nk.2.1, if_pos (nI_lt hk (by omega)), inb_nI (by omega) (by omega), ck_tt, ck_tt, tn_nI (by omega), (nk.2.2 k hk).1, (nk.2.2 k hk).2, e', bnd_some, ltE, nI_1, cst])
        (by
          intro n' ⟨r, κ⟩ ⟨i1, i2, i3⟩
          dsimp only at i1 i2 i3 ⊢
          have nk := n3''.fr i3 (fun q k h1 h2 z => by unfold xC at z; omega)
          rw [lp_X_cuts_94, nk.2.1, if_neg (nI_nlt (Nat.le_refl _) (by omega))])
        cs.length 0 N (nI w, μ3) (by omega) (by omega) ⟨rfl, cx0, Fr.rf μ3⟩
      dsimp only at k1 k2 k3 e
      subst k1
      rw [hfin] at e k2
      exact ⟨κ, e, k2, k3⟩
    obtain ⟨μ4, e4, x4, f4⟩ := key (fun v25 μ26 => ck (inb (nI t) 4) (bnd (f_Net_take N (2 + 3 * tn (nI t)) 18 μ26) fun _ μ29 => bnd (f_Numbers_clear N μ29) fun _ μ31 => bnd (f_Numbers_append N (Int32.toInt64 v25) μ31) fun _ μ33 => some (gI μ33 18 1, μ33)))
    obtain ⟨μ5, e5, n5, f5⟩ := sNet_take N hN (p := 2 + 3 * t) x4.2.2 (by rw [us_len]; exact hpl) (by omega)
    obtain ⟨μ6, e6, q6, f6⟩ := sNum_clear N μ5
    obtain ⟨μ7, e7, q7, f7⟩ := sNum_append N (nI fin.2.1).toInt64 q6 (by decide)
    have d7 := ((x4.2.2.frg f5 (by omega)).frg f6 (by omega)).frg f7 (by omega)
    have F4 : Fr (rg 18 43) μ μ4 := (((j2.wide (by omega) (by omega)).tr (f2.wide (by omega) (by omega))).tr (f3.wide (by omega) (by omega))).tr (f4.mono (fun q k z => ⟨by unfold xC at z; omega, by unfold xC at z; omega⟩))
    refine ⟨μ7, ?_, (n5.frg f6 (by omega)).frg f7 (by omega), (((hx.2.1.fr F4 (rgo (by omega)) (fun _ => rgo (by omega))).fr f5 (rgo (by omega)) (fun _ => rgo (by omega))).fr f6 (rgo (by omega)) (fun _ => rgo (by omega))).fr f7 (rgo (by omega)) (fun _ => rgo (by omega)), q7, (((rg_xU F4 (Or.inr ⟨by decide, by decide⟩)).tr (rg_xU f5 (Or.inl ⟨Nat.le_refl _, Nat.le_refl _⟩))).tr (rg_xU f6 (Or.inr ⟨by decide, by decide⟩))).tr (rg_xU f7 (Or.inr ⟨by decide, by decide⟩))⟩
    unfold f_X_cuts
    rw [isNet_in N hs, bnd_some, if_neg (by decide), isNet_in N ht, bnd_some, if_neg (by decide), inb_nI hs (by omega), ck_tt, tn_nI (show s < 2 ^ 31 by omega), sNet_isWire N nx hw' (by omega), bnd_some, if_neg (by decide), ck_tt, nx.1, if_pos (c2.mpr (by omega)), e1', bnd_some, n1.1, sb, e2, bnd_some, n2'.1, sb, e3, bnd_some]
    refine Eq.trans e4 ?_
    rw [inb_nI ht (by omega), ck_tt, tn_nI (show t < 2 ^ 31 by omega), e5, bnd_some, e6, bnd_some, e7, bnd_some, d7.2.1]
  · have m := hm.1 s hs
    rw [hcs, hnn] at m
    obtain ⟨ν1, ⟨j1, j2⟩, e1⟩ := for_up (fun n' i ν => lp_M_cuts_57 N (nI s) (nI w) (gI' g) (nI t) (nI (n - 1)) (fun μ24 => lt' (sI μ24 44 14 0) fun μ25 => lp_M_cuts_105 N (nI s) (gI' g) (nI t) (nI (n - 1)) (fun v54 μ55 => bnd (f_M_untangles N (nI t) (nI (n - 1)) μ55) fun _ μ57 => bnd (f_M_tellsOne N (Int32.toInt64 v54) μ57) fun _ μ59 => ck (inb (nI t) 4) (some (gI μ59 47 (tn (nI t)), μ59))) N (nI w) 0 μ25) n' i ν) (fun μ24 => lt' (sI μ24 44 14 0) fun μ25 => lp_M_cuts_105 N (nI s) (gI' g) (nI t) (nI (n - 1)) (fun v54 μ55 => bnd (f_M_untangles N (nI t) (nI (n - 1)) μ55) fun _ μ57 => bnd (f_M_tellsOne N (Int32.toInt64 v54) μ57) fun _ μ59 => ck (inb (nI t) 4) (some (gI μ59 47 (tn (nI t)), μ59))) N (nI w) 0 μ25) n (fun i κ => VF κ 56 i (cst g cs w 0).1 ∧ Fr (rg 56 56) ν κ)
      (by
        intro n' i κ hi ⟨i1, i2⟩
        have l : (nI w < nI i) ↔ w < i := nI_ltI (by omega) (by omega)
        have q : nI i - (if nI w < nI i then (1 : Int32) else (0 : Int32)) = nI ((cst g cs w 0).1 i) := by
          simp only [cst]
          by_cases u : w < i
          · rw [if_pos (l.mpr u), if_neg (by omega), show nI i - 1 = nI (i - 1) from pk_sub (b := 1) (by omega)]
          · rw [if_neg (fun q => u (l.mp q)), if_pos (by omega), show nI i - 0 = nI (i - 0) from pk_sub (b := 0) (by omega)]; rfl
        refine ⟨sI κ 56 i (nI ((cst g cs w 0).1 i)), ⟨fun k hk => ?_, i2.sI (rgi (by omega) (by omega))⟩, ?_⟩
        · rw [gI_sI]
          by_cases e : k = i
          · rw [if_pos ⟨rfl, e⟩, e]
          · rw [if_neg (fun z => e z.2)]; exact i1 k (by omega)
        · rw [lp_M_cuts_57, if_neg (nI_nlt (by omega) (by omega)), ltE, sM_flag, bnd_some, q, inb_nI (by omega) (by omega), ck_tt, tn_nI (by omega), ltE, ltE, nI_1])
      (by
        intro n' κ _
        rw [lp_M_cuts_57, if_pos (nI_lt (by omega) (by omega))])
      n 0 N ν (by omega) (by omega) ⟨fun k hk => by omega, Fr.rf ν⟩
    have f14 : Fr (fun q k => q = 44 ∧ k = 14) ν1 (sI ν1 44 14 0) := (Fr.rf ν1).sI ⟨rfl, rfl⟩
    have m1 : NM (sI ν1 44 14 0) s n cs := (m.fr j2 (fun q k _ _ z => by unfold rg at z; omega)).fr f14 (fun q k _ _ z => by omega)
    have v1 : VF (sI ν1 44 14 0) 56 n (cst g cs w 0).1 := j1.fr f14 (fun k z => by omega)
    have P1 : PMs (sI ν1 44 14 0) [] := ⟨by simp [gI_sI, gL_sL, gR_sR, gI_sL, gI_sR, gL_sI, gL_sR, gR_sI, gR_sL]; rfl, fun k hk => by simp at hk⟩
    obtain ⟨ν2, e2, P2, f2⟩ := l_mc105 N hN (nI t) (nI (n - 1)) m1 W hs hw' v1 P1 (fun v54 μ55 => bnd (f_M_untangles N (nI t) (nI (n - 1)) μ55) fun _ μ57 => bnd (f_M_tellsOne N (Int32.toInt64 v54) μ57) fun _ μ59 => ck (inb (nI t) 4) (some (gI μ59 47 (tn (nI t)), μ59)))
    rw [hfin] at e2 P2
    obtain ⟨ν3, g3, m3, v3, f3⟩ := sM_untangles N hN ht (show 2 ≤ n - 1 by omega) (by omega) P2 C.2.2.2.1 hpl
    obtain ⟨ν4, g4, q4, f4⟩ := sM_tellsOne N ν3 (nI fin.2.1).toInt64
    have m4 := m3.fr f4 (fun q k _ _ z => by unfold mR at z; omega)
    have F2 : Fr (fun q k => (q = 44 ∧ k = 14) ∨ q = 51 ∨ q = 52 ∨ q = 56) ν ν2 := ((j2.mono (fun q k z => by unfold rg at z; omega)).tr (f14.mono (fun q k z => by omega))).tr f2
    refine ⟨ν4, ?_, m4, ((hm.2.1.fr F2 (fun z => by omega) (fun k z => by omega)).fr f3 (fun z => by unfold mUn mN at z; omega) (fun k z => by unfold mUn mN at z; omega)).fr f4 (fun z => by unfold mR at z; omega) (fun k z => by unfold mR at z; omega), q4, ((F2.mono (fun q k z => by unfold mU; omega)).tr (f3.mono (fun q k z => by unfold mUn mN at z; unfold mU; omega))).tr (mQ_mU (mR_mQ f4))⟩
    unfold f_M_cuts
    rw [ltE, ← hν, mNet_in N hs, bnd_some, if_neg (by decide), mNet_in N ht, bnd_some, if_neg (by decide), mWire_in N m hs hw' (by omega), bnd_some, if_neg (by decide), inb_nI hs (by omega), ck_tt, tn_nI (show s < 2 ^ 31 by omega), m.1, if_neg (fun q => n3 (d2.mp q)), ck_tt, sb, ltE]
    refine Eq.trans e1 ?_
    rw [ltE]
    refine Eq.trans e2 ?_
    rw [g3, bnd_some, g4, bnd_some, inb_nI ht (by omega), ck_tt, tn_nI (show t < 2 ^ 31 by omega), m4.2.1]

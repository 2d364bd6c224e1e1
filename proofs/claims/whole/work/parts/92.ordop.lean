/-! all orders: the call -/
abbrev OS : Type := Nat × List Int64
def lrow (l : List Nat) (n : Nat) : List Int64 := rwl (fun k => l.getD k 0) n
def ost (n : Nat) (U : List Nat → Bool) (l : List Nat) (s : OS) : OS := if U l then (s.1 + 1, if s.1 = 0 then lrow l n else s.2) else s
def oit (n : Nat) (U : List Nat → Bool) : Nat → List Nat → OS → OS
  | 0, _, s => s
  | f + 1, l, s => match nx n l with
    | none => ost n U l s
    | some l' => oit n U f l' (ost n U l s)
theorem VV_VF {μ : Mem} {q n : Nat} {l : List Nat} (h : VV μ q l) (hl : l.length = n) : VF μ q n (fun k => l.getD k 0) := fun k hk => h k (by rw [hl]; exact hk)
theorem l_xo71 (N : Nat) (hN : 10000 ≤ N) {n : Nat} {cs : List (Nat × Nat)} (h2 : 2 ≤ n) (h7 : n ≤ 7) (K : Int32 → Mem → Option (Int32 × Mem)) : ∀ (f n' : Nat) (l : List Nat) (s : OS) (κ : Mem), f ≤ 5040 → f < n' → s.1 + f ≤ 5040 → OL n l → VV κ 35 l → PS κ (PW n (wr n cs b0 0)) → RX κ s.2 → ∃ κ', lp_X_orders_71 N (nI n) K n' (nI s.1) (nI (5040 - f)) κ = K (nI (oit n (fun l => Uno n cs l (n - 1)) f l s).1) κ' ∧ RX κ' (oit n (fun l => Uno n cs l (n - 1)) f l s).2 ∧ Fr (fun q _ => q = 16 ∨ q = 17 ∨ q = 35 ∨ q = 36) κ κ'
  | 0, n' + 1, l, s, κ, hf, hn, hs, ho, hv, hp, hr => ⟨κ, by rw [lp_X_orders_71, if_neg (show ¬ nI (5040 - 0) < 5040 from nI_nlt (b := 5040) (Nat.le_refl _) (by omega)), oit], hr, Fr.rf κ⟩
  | f + 1, n' + 1, l, s, κ, hf, hn, hs, ho, hv, hp, hr => by
    have hb := ho.b (by omega)
    obtain ⟨κ1, e1, f1⟩ := sX_leavesUnsorted N hN hv ho h2 (by omega) hp
    have v1 := hv.fr f1 (fun _ => rgo (by omega))
    have r1 := hr.fr f1 (rgo (by omega)) (fun _ => rgo (by omega))
    have p1 := hp.fr f1 (fun _ => rgo (by omega))
    -- what is told
    have tell : ∀ k20 : Int32 → Mem → Option (Int32 × Mem), ∃ κ2, RX κ2 (ost n (fun l => Uno n cs l (n - 1)) l s).2 ∧ VV κ2 35 l ∧ PS κ2 (PW n (wr n cs b0 0)) ∧ Fr (fun q _ => q = 16 ∨ q = 17) κ1 κ2 ∧ (if (if Uno n cs l (n - 1) then (1 : Int32) else 0) = 0 then (k20 (nI s.1) κ1) else (lt' (fun (μ29 : Mem) => lt' (nI s.1 + 1) fun v30 => k20 v30 μ29) fun (k28 : Mem → Option (Int32 × Mem)) => if nI s.1 = 0 then (bnd (f_X_tellFirst N 35 8 (nI n) κ1) fun _ μ33 => k28 μ33) else (k28 κ1))) = k20 (nI (ost n (fun l => Uno n cs l (n - 1)) l s).1) κ2 := by
      intro k20
      unfold ost
      dsimp only
      by_cases z : Uno n cs l (n - 1) = true
      · rw [if_pos z]
        have c0 : (nI s.1 = 0) ↔ s.1 = 0 := nI_eq (b := 0) (by omega) (by omega)
        by_cases y : s.1 = 0
        · obtain ⟨κ2, e2, r2, f2⟩ := sX_tellFirst N hN (m := 8) (VV_VF v1 ho.1) (by omega) (by omega) (by omega)
          refine ⟨κ2, by rw [if_pos y]; exact r2, v1.fr f2 (fun _ => rgo (by omega)), p1.fr f2 (fun _ => rgo (by omega)), f2.mono (fun q k z => by unfold rg at z; omega), ?_⟩
          rw [if_pos z, if_neg (by decide), ltE, if_pos (c0.mpr y), e2, bnd_some]
          dsimp only
          rw [ltE, nI_1]
        · refine ⟨κ1, by rw [if_neg y]; exact r1, v1, p1, Fr.rf κ1, ?_⟩
          rw [if_pos z, if_neg (by decide), ltE, if_neg (fun q => y (c0.mp q))]
          dsimp only
          rw [ltE, nI_1]
      · rw [if_neg z]
        exact ⟨κ1, r1, v1, p1, Fr.rf κ1, by rw [if_neg z, if_pos rfl]⟩
    obtain ⟨κ2, r2, v2, p2, f2, t2⟩ := tell (fun w21 μ22 => bnd (f_X_nextOrder N (nI n) μ22) fun r23 μ24 => if r23 = 0 then (K w21 μ24) else (lt' (nI (5040 - (f + 1)) + 1) fun v26 => lp_X_orders_71 N (nI n) K n' w21 v26 μ24))
    obtain ⟨κ3, e3, v3, f3⟩ := sX_next N hN v2 ho.1 (by omega) (by omega) (fun k => by have := hb k; omega)
    have r3 := r2.fr f3 (rgo (by omega)) (fun _ => rgo (by omega))
    have p3 := p2.fr f3 (fun _ => rgo (by omega))
    have F : Fr (fun q _ => q = 16 ∨ q = 17 ∨ q = 35 ∨ q = 36) κ κ3 := ((f1.mono (fun q k z => by unfold rg at z; omega)).tr (f2.mono (fun q k z => by omega))).tr (f3.mono (fun q k z => by unfold rg at z; omega))
    have sle : (ost n (fun l => Uno n cs l (n - 1)) l s).1 ≤ s.1 + 1 := by
      unfold ost; split
      · exact Nat.le_refl _
      · omega
    have pre : lp_X_orders_71 N (nI n) K (n' + 1) (nI s.1) (nI (5040 - (f + 1))) κ = if (if (nx n l).isSome then (1 : Int32) else 0) = 0 then (K (nI (ost n (fun l => Uno n cs l (n - 1)) l s).1) κ3) else (lt' (nI (5040 - (f + 1)) + 1) fun v26 => lp_X_orders_71 N (nI n) K n' (nI (ost n (fun l => Uno n cs l (n - 1)) l s).1) v26 κ3) := by
      rw [lp_X_orders_71, if_pos (show nI (5040 - (f + 1)) < 5040 from nI_lt (b := 5040) (by omega) (by omega)), e1, bnd_some, ltE]
      refine Eq.trans t2 ?_
      rw [e3, bnd_some]
    rw [pre, oit]
    cases q : nx n l with
    | none =>
      refine ⟨κ3, ?_, r3, F⟩
      rw [if_neg (show ¬ (none : Option (List Nat)).isSome = true by decide), if_pos rfl]
    | some l' =>
      obtain ⟨κ4, e4, r4, f4⟩ := l_xo71 N hN (cs := cs) h2 h7 K f n' l' (ost n (fun l => Uno n cs l (n - 1)) l s) κ3 (by omega) (by omega) (by omega) (ho.nxt (by omega) q) (v3 l' q) p3 r3
      refine ⟨κ4, ?_, r4, F.tr f4⟩
      rw [if_pos (show (some l' : Option (List Nat)).isSome = true from rfl), if_neg (by decide), ltE, nI_1, show 5040 - (f + 1) + 1 = 5040 - f by omega]
      exact e4
theorem l_mo62 (N : Nat) (hN : 10000 ≤ N) {s n : Nat} {cs : List (Nat × Nat)} {l : List Nat} {μ : Mem} (m : NM μ s n cs) (h8 : n ≤ 8) (hs : s < 4) (h : VV μ 59 l) (hl : l.length = n) (hr : RM μ []) (K : Mem → Option (Int32 × Mem)) : ∃ μ', lp_M_orders_62 N (nI s) 0 K N 0 μ = K μ' ∧ RM μ' (lrow l n) ∧ Fr mR μ μ' := by
  obtain ⟨μ', ⟨k1, k2⟩, e⟩ := for_up (fun n' i ν => lp_M_orders_62 N (nI s) 0 K n' i ν) K n (fun i κ => RM κ (lrow l i) ∧ Fr mR μ κ)
    (by
      intro n' i κ hi ⟨i1, i2⟩
      have mk := m.fr i2 (fun q k _ _ z => by unfold mR at z; omega)
      obtain ⟨κ', e', r', f'⟩ := sM_enters N (nI (l.getD i 0)).toInt64 i1 (by unfold lrow; rw [rwl_len]; omega)
      refine ⟨κ', ⟨by unfold lrow; rw [rwl_succ]; exact r', i2.tr f'⟩, ?_⟩
      rw [lp_M_orders_62, inb_nI hs (by omega), ckE, tn_nI (show s < 2 ^ 31 by omega), mk.1, if_pos (nI_lt hi (by omega)), if_pos rfl, inb_nI (by omega) (by omega), ckE, tn_nI (by omega), i2.I (fun z => by unfold mR at z; omega), h i (by omega), e', bnd_some, ltE, nI_1])
    (by
      intro n' κ ⟨i1, i2⟩
      have mk := m.fr i2 (fun q k _ _ z => by unfold mR at z; omega)
      rw [lp_M_orders_62, inb_nI hs (by omega), ckE, tn_nI (show s < 2 ^ 31 by omega), mk.1, if_neg (nI_nlt (Nat.le_refl _) (by omega))])
    n 0 N μ (by omega) (by omega) ⟨hr, Fr.rf μ⟩
  exact ⟨μ', e, k1, k2⟩
theorem l_mo62n (N : Nat) (hN : 10000 ≤ N) {s n b : Nat} {cs : List (Nat × Nat)} {μ : Mem} (m : NM μ s n cs) (h2 : 2 ≤ n) (h8 : n ≤ 8) (hs : s < 4) (hb : b ≠ 0) (hb2 : b < 2 ^ 31) (K : Mem → Option (Int32 × Mem)) : lp_M_orders_62 N (nI s) (nI b) K N 0 μ = K μ := by
  obtain ⟨N', rfl⟩ : ∃ k, N = k + 1 := ⟨N - 1, (by omega)⟩
  rw [lp_M_orders_62, inb_nI hs (by omega), ckE, tn_nI (show s < 2 ^ 31 by omega), m.1, if_pos (show (0 : Int32) < nI n from nI_lt (a := 0) (by omega) (by omega)), if_neg (show ¬ nI b = 0 from fun q => hb ((nI_eq (b := 0) hb2 (by omega)).mp q))]
abbrev mO : Nat → Nat → Prop := fun q k => q = 57 ∨ q = 59 ∨ q = 45 ∨ (q = 44 ∧ k = 1)
theorem NM.mo {s n : Nat} {cs : List (Nat × Nat)} {μ μ' : Mem} (h : NM μ s n cs) (f : Fr mO μ μ') : NM μ' s n cs := h.fr f (fun q k _ _ z => by unfold mO at z; omega)
theorem l_mo47 (N : Nat) (hN : 10000 ≤ N) {t n : Nat} {cs : List (Nat × Nat)} (w : WN n cs) (ht : t < 4) (K : Int32 → Mem → Option (Int32 × Mem)) : ∀ (f n' : Nat) (l : List Nat) (s : OS) (κ : Mem), fin n f l = true → f + 1 < n' → s.1 + f ≤ 5040 → (s.1 = 0 → s.2 = []) → OL n l → VV κ 59 l → NM κ t n cs → RM κ s.2 → ∃ κ', lp_M_orders_47 N (nI t) K n' (nI s.1) 1 κ = K (nI (oit n (fun l => Uno n cs l (n - 1)) f l s).1) κ' ∧ RM κ' (oit n (fun l => Uno n cs l (n - 1)) f l s).2 ∧ Fr mO κ κ'
  | 0, n' + 1, l, s, κ, hf, hn, hs, hz, ho, hv, m, hr => by rw [fin] at hf; cases hf
  | f + 1, n' + 2, l, s, κ, hf, hn, hs, hz, ho, hv, m, hr => by
    have h8 := w.2.1
    have h2 := w.1
    have hb := ho.b (by omega)
    obtain ⟨κ1, e1, f1⟩ := sM_leavesSorted N hN m w ht hv ho
    have v1 := hv.fr f1 (fun _ => rgo (by omega))
    have r1 := hr.fr f1 (rgo (by omega)) (fun _ => rgo (by omega))
    have m1 := m.m7 f1
    have tell : ∀ k14 : Int32 → Mem → Option (Int32 × Mem), ∃ κ2, RM κ2 (ost n (fun l => Uno n cs l (n - 1)) l s).2 ∧ VV κ2 59 l ∧ NM κ2 t n cs ∧ Fr mR κ1 κ2 ∧ (if (if Uno n cs l (n - 1) then (0 : Int32) else 1) = 0 then (lp_M_orders_62 N (nI t) (nI s.1) (fun μ28 => lt' (nI s.1 + 1) fun v29 => k14 v29 μ28) N 0 κ1) else (k14 (nI s.1) κ1)) = k14 (nI (ost n (fun l => Uno n cs l (n - 1)) l s).1) κ2 := by
      intro k14
      unfold ost
      dsimp only
      by_cases z : Uno n cs l (n - 1) = true
      · rw [if_pos z]
        by_cases y : s.1 = 0
        · have r1' : RM κ1 [] := by rw [← hz y]; exact r1
          obtain ⟨κ2, e2, r2, f2⟩ := l_mo62 N hN m1 h8 ht v1 ho.1 r1' (fun μ28 => lt' (nI s.1 + 1) fun v29 => k14 v29 μ28)
          refine ⟨κ2, by rw [if_pos y]; exact r2, v1.fr f2 (fun k z => by unfold mR at z; omega), m1.fr f2 (fun q k _ _ z => by unfold mR at z; omega), f2, ?_⟩
          rw [if_pos z, if_pos rfl]
          have y' : nI s.1 = (0 : Int32) := by rw [y]; rfl
          rw [y'] at e2 ⊢
          rw [e2, ltE, y]; rfl
        · refine ⟨κ1, by rw [if_neg y]; exact r1, v1, m1, Fr.rf κ1, ?_⟩
          rw [if_pos z, if_pos rfl, l_mo62n N hN m1 h2 h8 ht y (by omega), ltE, nI_1]
      · rw [if_neg z]
        exact ⟨κ1, r1, v1, m1, Fr.rf κ1, by rw [if_neg z, if_neg (by decide)]⟩
    obtain ⟨κ2, r2, v2, m2, f2, t2⟩ := tell (fun w15 μ16 => ck (inb (nI t) 4) (bnd (f_M_nextOrder N (gI μ16 46 (tn (nI t))) μ16) fun r18 μ19 => lp_M_orders_47 N (nI t) K (n' + 1) w15 r18 μ19))
    obtain ⟨κ3, e3, v3, f3⟩ := sM_next N hN v2 ho.1 (by omega) h8 (fun k => by have := hb k; omega)
    have r3 := r2.fr f3 (rgo (by omega)) (fun _ => rgo (by omega))
    have m3 := m2.fr f3 (fun q k _ _ z => by unfold rg at z; omega)
    have F : Fr mO κ κ3 := ((f1.mono (fun q k z => by unfold m57 rg at z; unfold mO; omega)).tr (f2.mono (fun q k z => by unfold mR at z; unfold mO; omega))).tr (f3.mono (fun q k z => by unfold rg at z; unfold mO; omega))
    have sle : (ost n (fun l => Uno n cs l (n - 1)) l s).1 ≤ s.1 + 1 := by
      unfold ost; split
      · exact Nat.le_refl _
      · omega
    have pre : lp_M_orders_47 N (nI t) K (n' + 2) (nI s.1) 1 κ = lp_M_orders_47 N (nI t) K (n' + 1) (nI (ost n (fun l => Uno n cs l (n - 1)) l s).1) (if (nx n l).isSome then (1 : Int32) else 0) κ3 := by
      rw [lp_M_orders_47, if_neg (by decide), e1, bnd_some, ltE]
      refine Eq.trans t2 ?_
      rw [inb_nI ht (by omega), ckE, tn_nI (by omega), m2.1, e3, bnd_some]
    rw [pre, oit]
    rw [fin] at hf
    cases q : nx n l with
    | none =>
      refine ⟨κ3, ?_, r3, F⟩
      rw [if_neg (show ¬ (none : Option (List Nat)).isSome = true by decide), lp_M_orders_47, if_pos rfl]
    | some l' =>
      rw [q] at hf
      dsimp only at hf
      rw [nrm_eq] at hf
      have hz' : (ost n (fun l => Uno n cs l (n - 1)) l s).1 = 0 → (ost n (fun l => Uno n cs l (n - 1)) l s).2 = [] := by
        unfold ost
        dsimp only
        split
        · intro q; exact absurd q (Nat.succ_ne_zero _)
        · exact hz
      obtain ⟨κ4, e4, r4, f4⟩ := l_mo47 N hN w ht K f (n' + 1) l' (ost n (fun l => Uno n cs l (n - 1)) l s) κ3 hf (by omega) (by omega) hz' (ho.nxt (by omega) q) (v3 l' q) m3 r3
      refine ⟨κ4, ?_, r4, F.tr f4⟩
      rw [if_pos (show (some l' : Option (List Nat)).isSome = true from rfl)]
      exact e4
theorem op_orders (N : Nat) (hN : 10000 ≤ N) (x : Int32) : OpEq (f_X_orders N x) (f_M_orders N x) := by
  refine op_of (-1) (fun x h μ => by simp [f_X_orders, isNet_out N h, bnd_some]) (fun x h μ => by simp [f_M_orders, mNet_out N h, bnd_some, lt']) (fun s hs μ σ hw hx => ?_) x
  have w := hw.1 s hs
  have nx' := hx.1 s hs
  generalize hcs : (σ.1 s).2 = cs at *
  generalize hnn : (σ.1 s).1 = n at *
  have h8 := w.2.1
  have n2 := w.1
  have c7 : ((7 : Int32) < nI n) ↔ 7 < n := nI_ltI (a := 7) (by omega) (by omega)
  have d8 : (nI n = (8 : Int32)) ↔ n = 8 := nI_eq (b := 8) (by omega) (by omega)
  by_cases z : n = 8
  · refine g_no hw hx (-2) ?_ (fun μ ν hν hm => ?_)
    · unfold f_X_orders
      rw [isNet_in N hs, bnd_some, if_neg (by decide), inb_nI hs (by omega), ckE, tn_nI (by omega), nx'.1, ltE, if_pos (c7.mpr (by omega))]
    · have m := hm.1 s hs
      rw [hcs, hnn] at m
      unfold f_M_orders
      rw [ltE, ← hν, mNet_in N hs, bnd_some, if_neg (by decide), inb_nI hs (by omega), ckE, tn_nI (by omega), m.1, if_pos (d8.mpr z)]
  have h7 : n ≤ 7 := (by omega)
  generalize hU : (fun l => Uno n cs l (n - 1)) = U
  generalize hfin : oit n U 5040 (List.range n) (0, []) = fi
  have hle : fi.2.length ≤ 64 := by
    have : ∀ f l (s : OS), s.2.length ≤ 64 → (oit n U f l s).2.length ≤ 64 := by
      intro f
      induction f with
      | zero => intro l s h; exact h
      | succ f ih =>
        intro l s h
        have h' : (ost n U l s).2.length ≤ 64 := by
          unfold ost
          split
          · dsimp only
            split
            · unfold lrow; rw [rwl_len]; omega
            · exact h
          · exact h
        rw [oit]
        split
        · exact h'
        · exact ih _ _ h'
    rw [← hfin]
    exact this _ _ _ (by simp)
  refine g_q hw hx (nI fi.1) fi.2 hle ?_ (fun μ ν hν hm => ?_)
  · obtain ⟨μ1, e1, p1, f1⟩ := sX_judge0 N hN nx' w (by omega)
    obtain ⟨μ2, ⟨j1, j2⟩, e2⟩ := for_up (fun n' i ν => lp_X_orders_41 N (nI n) (fun μ14 => bnd (f_Numbers_clear N μ14) fun _ μ16 => lp_X_orders_71 N (nI n) (fun v34 μ35 => some (v34, μ35)) N 0 0 μ16) n' i ν) (fun μ14 => bnd (f_Numbers_clear N μ14) fun _ μ16 => lp_X_orders_71 N (nI n) (fun v34 μ35 => some (v34, μ35)) N 0 0 μ16) n (fun i κ => VF κ 35 i (fun w => w) ∧ Fr (rg 35 35) μ1 κ)
      (by
        intro n' i κ hi ⟨i1, i2⟩
        refine ⟨sI κ 35 i (nI i), ⟨fun k hk => ?_, i2.sI (rgi (by omega) (by omega))⟩, ?_⟩
        · rw [gI_sI]
          by_cases e : k = i
          · rw [if_pos ⟨rfl, e⟩, e]
          · rw [if_neg (fun z => e z.2)]; exact i1 k (by omega)
        · rw [lp_X_orders_41, if_pos (nI_lt hi (by omega)), inb_nI (by omega) (by omega), ckE, tn_nI (by omega), ltE, ltE, nI_1])
      (by
        intro n' κ _
        rw [lp_X_orders_41, if_neg (nI_nlt (Nat.le_refl _) (by omega))])
      n 0 N μ1 (by omega) (by omega) ⟨fun k hk => by omega, Fr.rf μ1⟩
    have v2 : VV μ2 35 (List.range n) := fun k hk => by
      rw [List.length_range] at hk
      rw [j1 k hk]
      simp [List.getD_eq_getElem?_getD, hk]
    have p2 := p1.fr j2 (fun _ => rgo (by omega))
    obtain ⟨μ3, e3, r3, f3⟩ := sNum_clear N μ2
    obtain ⟨μ4, e4, r4, f4⟩ := l_xo71 N hN (cs := cs) n2 h7 (fun v34 μ35 => some (v34, μ35)) 5040 N (List.range n) (0, []) μ3 (Nat.le_refl _) (by omega) (by omega) OL.id (v2.fr f3 (fun _ => rgo (by omega))) (p2.fr f3 (fun _ => rgo (by omega))) r3
    rw [hU, hfin] at e4 r4
    refine ⟨μ4, ?_, r4, (((f1.wide (by omega) (by omega)).tr (j2.wide (by omega) (by omega))).tr (f3.wide (by omega) (by omega))).tr (f4.mono (fun q k z => ⟨by omega, by omega⟩))⟩
    unfold f_X_orders
    rw [isNet_in N hs, bnd_some, if_neg (by decide), inb_nI hs (by omega), ckE, tn_nI (by omega), nx'.1, ltE, if_neg (fun q => by have := c7.mp q; omega), ckE, e1, bnd_some]
    refine Eq.trans e2 ?_
    rw [e3, bnd_some]
    exact e4
  · have m := hm.1 s hs
    rw [hcs, hnn] at m
    obtain ⟨r1, h1⟩ := sM_told0 ν
    have m1 := m.fr h1 (fun q k _ _ z => by unfold mR at z; omega)
    obtain ⟨ν2, e2, v2, f2⟩ := m_first N hN (n := n) h8 (sI ν 44 1 0)
    have m2 := m1.fr f2 (fun q k _ _ z => by unfold rg at z; omega)
    have r2 := r1.fr f2 (rgo (by omega)) (fun _ => rgo (by omega))
    obtain ⟨ν3, e3, r3, f3⟩ := l_mo47 N hN w hs (fun v30 μ31 => some (v30, μ31)) 5040 N (List.range n) (0, []) ν2 (fin_ok (by omega) h7) (by omega) (by omega) (fun _ => rfl) OL.id v2 m2 r2
    rw [hU, hfin] at e3 r3
    refine ⟨ν3, ?_, r3, ((mR_mQ h1).tr (f2.mono (fun q k z => by unfold rg at z; unfold mQ; omega))).tr (f3.mono (fun q k z => by unfold mO at z; unfold mQ; omega))⟩
    unfold f_M_orders
    rw [ltE, ← hν, mNet_in N hs, bnd_some, if_neg (by decide), inb_nI hs (by omega), ckE, tn_nI (by omega), m.1, if_neg (fun q => z (d8.mp q)), ltE, ckE, m1.1, e2, bnd_some]
    exact e3

/-! least and shallow: what the model keeps -/
theorem sM_turns0 (N : Nat) (hN : 10000 ≤ N) {n a b : Nat} (h1 : 1 ≤ n) (h6 : n ≤ 6) (ha : a < 2 ^ 2 ^ n) (μ : Mem) : ∃ μ' r, f_M_turns N (nI n) (lN a) (lN b) 0 μ = some (r, μ') ∧ ((0 : Int32) < r ↔ Wi n a b = true) ∧ Fr (rg 59 59) μ μ' := by
  obtain ⟨μ', e, f⟩ := sM_turns N hN (n := n) (S := a) (G := b) false h6 h1 ha μ
  refine ⟨μ', _, e, ?_, f⟩
  unfold Wi tcn
  rw [if_neg (by decide), decide_eq_true_iff]
  by_cases z : cw n b (n - 1) a = 0
  · rw [if_pos z]
    constructor
    · intro q; exact absurd q (by decide)
    · intro q; exact absurd z q
  · rw [if_neg z]
    constructor
    · intro _; exact z
    · intro _; decide
def RK (κ : Mem) (a b : Nat) : Prop := gR κ 44 27 = a ∧ gR κ 44 28 = b ∧ ((a = 61 ∧ b = 62) ∨ (a = 62 ∧ b = 61))
theorem RK.fr {A : Nat → Nat → Prop} {μ μ' : Mem} {a b : Nat} (h : RK μ a b) (f : Fr A μ μ') (h0 : ¬ A 44 27) (h1 : ¬ A 44 28) : RK μ' a b := ⟨by rw [f.R h0]; exact h.1, by rw [f.R h1]; exact h.2.1, h.2.2⟩
theorem RK.k {κ : Mem} {a b : Nat} (h : RK κ a b) : isK a = true ∧ isK b = true ∧ 61 ≤ b ∧ b ≤ 62 ∧ 61 ≤ a ∧ a ≤ 62 ∧ a ≠ b := by
  rcases h.2.2 with ⟨rfl, rfl⟩ | ⟨rfl, rfl⟩ <;> decide
def mF2 (b : Nat) : Nat → Nat → Prop := fun q k => q = b ∨ q = 59 ∨ (q = 44 ∧ k = 30)
theorem sM_offers (N : Nat) (hN : 10000 ≤ N) {n S a b : Nat} {fr : List Nat} {κ : Mem} (h1 : 1 ≤ n) (h6 : n ≤ 6) (hS : S < 2 ^ 2 ^ n) (hf : BS n fr) (hl : fr.length ≤ 60) (hk : RK κ a b) (h : LSt κ b 44 30 fr) : ∃ κ', f_M_offers N (nI n) (lN S) κ = some ((), κ') ∧ LSt κ' b 44 30 (cns n (Wi n) fr S) ∧ Fr (mF2 b) κ κ' := by
  obtain ⟨ka, kb, b1, b2, a1, a2, ab⟩ := hk.k
  have key : ∀ (K : Mem → Option (Unit × Mem)) (r k n' : Nat) (ν : Mem), k + r = fr.length → r < n' → (∀ t, t < k → Wi n (fr.getD t 0) S = false) → Fr (rg 59 59) κ ν → ∃ ν', Fr (rg 59 59) κ ν' ∧ lp_M_offers_3 N (nI n) (lN S) K n' (nI k) ν = if fr.any (fun f => Wi n f S) then some ((), ν') else K ν' := by
    intro K r
    induction r with
    | zero =>
      intro k n' ν hk' hn hz f
      obtain ⟨n', rfl⟩ : ∃ k, n' = k + 1 := ⟨n' - 1, (by omega)⟩
      have : k = fr.length := (by omega)
      subst this
      have an : ¬ fr.any (fun f => Wi n f S) = true := fun q => by
        obtain ⟨k, hk, e⟩ := any_ix.mp q
        rw [hz k hk] at e; cases e
      refine ⟨ν, f, ?_⟩
      rw [lp_M_offers_3, f.I (rgo (by omega)), h.1, if_neg (nI_nlt (Nat.le_refl _) (by omega)), if_neg an]
    | succ r ih =>
      intro k n' ν hk' hn hz f
      obtain ⟨n', rfl⟩ : ∃ k, n' = k + 1 := ⟨n' - 1, (by omega)⟩
      have kl : k < fr.length := (by omega)
      obtain ⟨ν1, v, e1, w1, f1⟩ := sM_turns0 N hN (b := S) h1 h6 (hf _ (getD_mem kl)) ν
      have gv : gL ν b k = lN (fr.getD k 0) := by rw [f.L (rgo (by omega))]; exact h.2 k kl
      have gr : gR ν 44 28 = b := by rw [f.R (rgo (by omega))]; exact hk.2.1
      have pre : lp_M_offers_3 N (nI n) (lN S) K (n' + 1) (nI k) ν = if (0 : Int32) < v then (some ((), ν1)) else (lp_M_offers_3 N (nI n) (lN S) K n' (nI (k + 1)) ν1) := by
        rw [lp_M_offers_3, f.I (rgo (by omega)), h.1, if_pos (nI_lt kl (by omega)), gr, kb, ckE, inb_nI (show k < 2000 by omega) (by omega), ckE, tn_nI (by omega), gv, e1, bnd_some, ltE, nI_1]
      cases z : Wi n (fr.getD k 0) S with
      | true =>
        have an : fr.any (fun f => Wi n f S) = true := any_ix.mpr ⟨k, kl, z⟩
        exact ⟨ν1, f.tr f1, by rw [pre, if_pos (w1.mpr z), if_pos an]⟩
      | false =>
        obtain ⟨ν2, f2, e2⟩ := ih (k + 1) n' ν1 (by omega) (by omega) (fun t ht => by
          by_cases e : t = k
          · subst e; exact z
          · exact hz t (by omega)) (f.tr f1)
        exact ⟨ν2, f2, by rw [pre, if_neg (fun q => by rw [w1.mp q] at z; cases z), e2]⟩
  unfold f_M_offers
  obtain ⟨ν1, f1, e1⟩ := key (fun μ8 => lp_M_offers_42 N (nI n) (lN S) (fun v25 μ26 => ck (isK (gR μ26 44 28)) (ck (inb v25 2000) (lt' (sL μ26 (gR μ26 44 28) (tn v25) (lN S)) fun μ29 => lt' (sI μ29 44 30 (v25 + 1)) fun μ30 => some ((), μ30)))) N 0 0 μ8) fr.length 0 N κ (by omega) (by omega) (fun t ht => by omega) (Fr.rf κ)
  have h' : LSt ν1 b 44 30 fr := h.fr f1 (rgo (by omega)) (fun _ => rgo (by omega))
  have hk1 : RK ν1 a b := hk.fr f1 (rgo (by omega)) (rgo (by omega))
  rw [show nI 0 = (0 : Int32) from rfl] at e1
  rw [e1]
  unfold cns
  by_cases an : fr.any (fun f => Wi n f S) = true
  · rw [if_pos an, if_pos an]
    exact ⟨ν1, rfl, h', f1.mono (fun q k z => by unfold rg at z; unfold mF2; omega)⟩
  · rw [if_neg an, if_neg an]
    generalize hp : (fun f => !Wi n S f) = p
    have hpe : ∀ x, p x = !Wi n S x := fun x => by rw [← hp]
    have flt : ∀ k, ((fr.take k).filter p).length ≤ k := fun k => Nat.le_trans (List.length_filter_le _ _) (by rw [List.length_take]; omega)
    obtain ⟨⟨v, κ1⟩, ⟨k1, k2, k3, k5⟩, e⟩ := for_up (fun n' i (z : Int32 × Mem) => lp_M_offers_42 N (nI n) (lN S) (fun v25 μ26 => ck (isK (gR μ26 44 28)) (ck (inb v25 2000) (lt' (sL μ26 (gR μ26 44 28) (tn v25) (lN S)) fun μ29 => lt' (sI μ29 44 30 (v25 + 1)) fun μ30 => some ((), μ30)))) n' z.1 i z.2) (fun z => ck (isK (gR z.2 44 28)) (ck (inb z.1 2000) (lt' (sL z.2 (gR z.2 44 28) (tn z.1) (lN S)) fun μ29 => lt' (sI μ29 44 30 (z.1 + 1)) fun μ30 => some ((), μ30)))) fr.length (fun k z => z.1 = nI ((fr.take k).filter p).length ∧ (∀ t, t < ((fr.take k).filter p).length → gL z.2 b t = lN (((fr.take k).filter p).getD t 0)) ∧ (∀ t, k ≤ t → t < fr.length → gL z.2 b t = lN (fr.getD t 0)) ∧ Fr (fun q k => q = b ∨ q = 59) ν1 z.2)
      (by
        intro n' k ⟨v, ν⟩ hk' ⟨i1, i2, i3, i5⟩
        dsimp only at i1 i2 i3 i5
        subst i1
        have fk := flt k
        have g30 : gI ν 44 30 = nI fr.length := by rw [i5.I (by omega)]; exact h'.1
        have gr : gR ν 44 28 = b := by rw [i5.R (by omega)]; exact hk1.2.1
        obtain ⟨ν2, w, e2, w2, f2⟩ := sM_turns0 N hN (b := fr.getD k 0) h1 h6 hS ν
        have gr2 : gR ν2 44 28 = b := by rw [f2.R (rgo (by omega))]; exact gr
        have gl2 : ∀ t, gL ν2 b t = gL ν b t := fun t => f2.L (rgo (by omega))
        have i5' : Fr (fun q k => q = b ∨ q = 59) ν1 ν2 := i5.tr (f2.mono (fun q k z => by unfold rg at z; omega))
        have ts : (fr.take (k + 1)).filter p = (fr.take k).filter p ++ (if p (fr.getD k 0) then [fr.getD k 0] else []) := by
          rw [take_sn fr hk', List.filter_append, List.filter_cons]
          split <;> simp
        have pre : lp_M_offers_42 N (nI n) (lN S) (fun v25 μ26 => ck (isK (gR μ26 44 28)) (ck (inb v25 2000) (lt' (sL μ26 (gR μ26 44 28) (tn v25) (lN S)) fun μ29 => lt' (sI μ29 44 30 (v25 + 1)) fun μ30 => some ((), μ30)))) (n' + 1) (nI ((fr.take k).filter p).length) (nI k) ν = if (0 : Int32) < w then (lp_M_offers_42 N (nI n) (lN S) (fun v25 μ26 => ck (isK (gR μ26 44 28)) (ck (inb v25 2000) (lt' (sL μ26 (gR μ26 44 28) (tn v25) (lN S)) fun μ29 => lt' (sI μ29 44 30 (v25 + 1)) fun μ30 => some ((), μ30)))) n' (nI ((fr.take k).filter p).length) (nI (k + 1)) ν2) else (lp_M_offers_42 N (nI n) (lN S) (fun v25 μ26 => ck (isK (gR μ26 44 28)) (ck (inb v25 2000) (lt' (sL μ26 (gR μ26 44 28) (tn v25) (lN S)) fun μ29 => lt' (sI μ29 44 30 (v25 + 1)) fun μ30 => some ((), μ30)))) n' (nI (((fr.take k).filter p).length + 1)) (nI (k + 1)) (sL ν2 b ((fr.take k).filter p).length (lN (fr.getD k 0)))) := by
          rw [lp_M_offers_42, g30, if_pos (nI_lt hk' (by omega)), gr, kb, ckE, inb_nI (show k < 2000 by omega) (by omega), ckE, tn_nI (show k < 2 ^ 31 by omega), i3 k (Nat.le_refl _) hk', e2, bnd_some, ltE, gr2, kb, ckE, ckE, ckE, inb_nI (show ((fr.take k).filter p).length < 2000 by omega) (by omega), ckE, tn_nI (show ((fr.take k).filter p).length < 2 ^ 31 by omega), gl2, i3 k (Nat.le_refl _) hk', ltE, ltE]
          dsimp only
          simp only [ltE, nI_1]
        cases z : Wi n S (fr.getD k 0) with
        | true =>
          have pz : p (fr.getD k 0) = false := by rw [hpe, z]; rfl
          rw [pz, if_neg (by decide), List.append_nil] at ts
          refine ⟨(nI ((fr.take k).filter p).length, ν2), ?_, by dsimp only; rw [pre, if_pos (w2.mpr z)]⟩
          dsimp only
          rw [ts]
          exact ⟨rfl, fun t ht => by rw [gl2]; exact i2 t ht, fun t h1 h2 => by rw [gl2]; exact i3 t (by omega) h2, i5'⟩
        | false =>
          have pz : p (fr.getD k 0) = true := by rw [hpe, z]; rfl
          rw [pz, if_pos rfl] at ts
          have ln : ((fr.take (k + 1)).filter p).length = ((fr.take k).filter p).length + 1 := by rw [ts, List.length_append, List.length_singleton]
          refine ⟨(nI (((fr.take k).filter p).length + 1), sL ν2 b ((fr.take k).filter p).length (lN (fr.getD k 0))), ?_, by dsimp only; rw [pre, if_neg (fun q => by rw [w2.mp q] at z; cases z)]⟩
          dsimp only
          refine ⟨by rw [ln], fun t ht => ?_, fun t t1 t2 => ?_, i5'.sL (Or.inl rfl)⟩
          · rw [ln] at ht
            rw [ts, getD_ap, gL_sL]
            by_cases e : t = ((fr.take k).filter p).length
            · rw [if_pos ⟨rfl, e⟩, if_neg (by omega), if_pos e]
            · rw [if_neg (fun z => e z.2), if_pos (by omega), gl2]; exact i2 t (by omega)
          · rw [gL_sL, if_neg (by omega), gl2]; exact i3 t (by omega) t2)
      (by
        intro n' ⟨v, ν⟩ ⟨i1, i2, i3, i5⟩
        dsimp only at i1 i2 i3 i5 ⊢
        have g30 : gI ν 44 30 = nI fr.length := by rw [i5.I (by omega)]; exact h'.1
        rw [lp_M_offers_42, g30, if_neg (nI_nlt (Nat.le_refl _) (by omega))])
      fr.length 0 N (0, ν1) (by omega) (by omega) ⟨rfl, fun t ht => by simp at ht, fun t _ h2 => h'.2 t h2, Fr.rf ν1⟩
    dsimp only at k1 k2 k3 k5 e
    subst k1
    rw [List.take_length] at e k2
    have fl' := flt fr.length
    rw [List.take_length] at fl'
    generalize hL : fr.filter p = L at *
    have gr : gR κ1 44 28 = b := by rw [k5.R (by omega)]; exact hk1.2.1
    refine ⟨sI (sL κ1 b L.length (lN S)) 44 30 (nI (L.length + 1)), ?_, ⟨?_, fun t ht => ?_⟩, ?_⟩
    · refine Eq.trans e ?_
      rw [gr, kb, ckE, inb_nI (show L.length < 2000 by omega) (by omega), ckE, tn_nI (by omega), ltE, nI_1, ltE]
    · rw [List.length_append, List.length_singleton, gI_sI, if_pos ⟨rfl, rfl⟩]
    · rw [List.length_append, List.length_singleton] at ht
      rw [getD_ap, gL_sI, gL_sL]
      by_cases e : t = L.length
      · rw [if_pos ⟨rfl, e⟩, if_neg (by omega), if_pos e]
      · rw [if_neg (fun z => e z.2), if_pos (by omega)]; exact k2 t (by omega)
    · exact (((f1.mono (fun q k z => by unfold rg at z; unfold mF2; omega)).tr (k5.mono (fun q k z => by unfold mF2; omega))).sL (Or.inl rfl)).sI (Or.inr (Or.inr ⟨rfl, rfl⟩))

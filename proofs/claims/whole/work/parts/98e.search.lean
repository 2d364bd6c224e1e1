/-! least and shallow: the class's steps -/
theorem sX_isWithin (N : Nat) (hN : 10000 ≤ N) {n a b : Nat} (h1 : 1 ≤ n) (h6 : n ≤ 6) (ha : a < 2 ^ 2 ^ n) (μ : Mem) : f_Sets_isWithin N (lN a) (lN b) (nI n) μ = some (if Wi n a b then 1 else 0, μ) := by
  have pa := pcn_le a
  have pb := pcn_le b
  have l : (nI (pcn b) < nI (pcn a)) ↔ pcn b < pcn a := nI_ltI (by omega) (by omega)
  have e3 := sX_ways N hN (n := n) (G := b) h1 h6 (n - 1) 12 a 1 (by omega) (by omega) ha (by decide) (by decide) μ
  rw [show n - 1 - (n - 1) = 0 by omega] at e3
  have e3' : f_Sets_waysWithin N 12 (lN a) (lN b) (nI n) 0 1 μ = some (nI (min (cw n b (n - 1) a) 1), μ) := e3
  unfold f_Sets_isWithin Wi
  rw [sX_pop, bnd_some, sX_pop, bnd_some]
  by_cases z : pcn b < pcn a
  · have c0 : cw n b (n - 1) a = 0 := by
      apply Classical.byContradiction
      intro q
      have := cw_le h6 (show n - 1 < n by omega) ha q
      omega
    rw [if_pos (l.mpr z), c0]; rfl
  · rw [if_neg (fun q => z (l.mp q)), e3', bnd_some]
    by_cases y : cw n b (n - 1) a = 0
    · rw [y]; rfl
    · rw [Nat.min_eq_right (by omega), if_pos (by decide), if_pos (decide_eq_true y)]
def LSt (κ : Mem) (q o f : Nat) (l : List Nat) : Prop := gI κ o f = nI l.length ∧ ∀ k, k < l.length → gL κ q k = lN (l.getD k 0)
theorem LSt.fr {A : Nat → Nat → Prop} {μ μ' : Mem} {q o f : Nat} {l : List Nat} (h : LSt μ q o f l) (fr : Fr A μ μ') (h0 : ¬ A o f) (h1 : ∀ k, ¬ A q k) : LSt μ' q o f l := ⟨by rw [fr.I h0]; exact h.1, fun k hk => by rw [fr.L (h1 k)]; exact h.2 k hk⟩
theorem any_ix {f : Nat → Bool} {l : List Nat} : l.any f = true ↔ ∃ k, k < l.length ∧ f (l.getD k 0) = true := by
  rw [List.any_eq_true]
  constructor
  · rintro ⟨x, hx, h⟩
    obtain ⟨k, hk, e⟩ := List.mem_iff_getElem.mp hx
    exact ⟨k, hk, by rw [List.getD_eq_getElem?_getD, List.getElem?_eq_getElem hk, e]; exact h⟩
  · rintro ⟨k, hk, h⟩
    rw [List.getD_eq_getElem?_getD, List.getElem?_eq_getElem hk] at h
    exact ⟨l[k], List.getElem_mem hk, h⟩
theorem getD_mem {l : List Nat} {k : Nat} (hk : k < l.length) : l.getD k 0 ∈ l := by
  rw [List.getD_eq_getElem?_getD, List.getElem?_eq_getElem hk]
  exact List.getElem_mem hk
theorem take_sn (l : List Nat) {k : Nat} (hk : k < l.length) : l.take (k + 1) = l.take k ++ [l.getD k 0] := by
  rw [List.take_succ, List.getElem?_eq_getElem hk, List.getD_eq_getElem?_getD, List.getElem?_eq_getElem hk]; rfl
theorem getD_ap (a : List Nat) (v k : Nat) : (a ++ [v]).getD k 0 = if k < a.length then a.getD k 0 else if k = a.length then v else 0 := getD_sn a v k
abbrev xF : Nat → Nat → Prop := fun q k => q = 43 ∨ (q = 38 ∧ k = 9)
theorem sX_consider (N : Nat) (hN : 10000 ≤ N) {n S : Nat} {fr : List Nat} {κ : Mem} (h1 : 1 ≤ n) (h6 : n ≤ 6) (hS : S < 2 ^ 2 ^ n) (hf : BS n fr) (hl : fr.length ≤ 60) (h : LSt κ 43 38 9 fr) (hw : gI κ 38 5 = nI n) : ∃ κ', f_Search_consider N (lN S) κ = some ((), κ') ∧ LSt κ' 43 38 9 (cns n (Wi n) fr S) ∧ Fr xF κ κ' := by
  have key : ∀ K : Mem → Option (Unit × Mem), lp_Search_consider_2 N (lN S) K N 0 κ = if fr.any (fun f => Wi n f S) then some ((), κ) else K κ := by
    intro K
    refine for_post (fun n' i (κ' : Mem) => lp_Search_consider_2 N (lN S) K n' i κ') (fun o => o = if fr.any (fun f => Wi n f S) then some ((), κ) else K κ) fr.length (fun i κ' => κ' = κ ∧ ∀ k, k < i → Wi n (fr.getD k 0) S = false)
      (by
        intro n' i κ' hi ⟨i1, i2⟩
        subst i1
        have w := sX_isWithin N hN (b := S) h1 h6 (hf _ (getD_mem hi)) κ'
        cases z : Wi n (fr.getD i 0) S with
        | true =>
          refine Or.inr ?_
          have an : fr.any (fun f => Wi n f S) = true := any_ix.mpr ⟨i, hi, z⟩
          rw [lp_Search_consider_2, h.1, if_pos (nI_lt hi (by omega)), inb_nI (by omega) (by omega), ckE, tn_nI (by omega), h.2 i hi, hw, w, bnd_some, z, if_pos rfl, if_neg (by decide), if_pos an]
        | false =>
          refine Or.inl ⟨κ', ⟨rfl, fun k hk => ?_⟩, ?_⟩
          · by_cases e : k = i
            · subst e; exact z
            · exact i2 k (by omega)
          · rw [lp_Search_consider_2, h.1, if_pos (nI_lt hi (by omega)), inb_nI (by omega) (by omega), ckE, tn_nI (by omega), h.2 i hi, hw, w, bnd_some, z, if_pos (by decide), ltE, nI_1])
      (by
        intro n' κ' ⟨i1, i2⟩
        subst i1
        have an : ¬ fr.any (fun f => Wi n f S) = true := fun q => by
          obtain ⟨k, hk, e⟩ := any_ix.mp q
          rw [i2 k hk] at e; cases e
        rw [lp_Search_consider_2, h.1, if_neg (nI_nlt (Nat.le_refl _) (by omega)), if_neg an])
      fr.length 0 N κ (by omega) (by omega) ⟨rfl, fun k hk => by omega⟩
  unfold f_Search_consider
  rw [key]
  unfold cns
  by_cases an : fr.any (fun f => Wi n f S) = true
  · rw [if_pos an, if_pos an]
    exact ⟨κ, rfl, h, Fr.rf κ⟩
  · rw [if_neg an, if_neg an]
    generalize hp : (fun f => !Wi n S f) = p
    have hpe : ∀ x, p x = !Wi n S x := fun x => by rw [← hp]
    have flt : ∀ k, ((fr.take k).filter p).length ≤ k := fun k => Nat.le_trans (List.length_filter_le _ _) (by rw [List.length_take]; omega)
    obtain ⟨⟨v, κ1⟩, ⟨k1, k2, k3, k4, k5⟩, e⟩ := for_up (fun n' i (z : Int32 × Mem) => lp_Search_consider_39 N (lN S) (fun v21 μ22 => lt' (sI μ22 38 9 v21) fun μ23 => if (gI μ23 38 9) < 64 then (ck (inb (gI μ23 38 9) 64) (lt' (sL μ23 43 (tn (gI μ23 38 9)) (lN S)) fun μ26 => lt' (sI μ26 38 9 ((gI μ26 38 9) + 1)) fun μ27 => some ((), μ27))) else (some ((), μ23))) n' z.1 i z.2) (fun z => lt' (sI z.2 38 9 z.1) fun μ23 => if (gI μ23 38 9) < 64 then (ck (inb (gI μ23 38 9) 64) (lt' (sL μ23 43 (tn (gI μ23 38 9)) (lN S)) fun μ26 => lt' (sI μ26 38 9 ((gI μ26 38 9) + 1)) fun μ27 => some ((), μ27))) else (some ((), μ23))) fr.length (fun k z => z.1 = nI ((fr.take k).filter p).length ∧ (∀ t, t < ((fr.take k).filter p).length → gL z.2 43 t = lN (((fr.take k).filter p).getD t 0)) ∧ (∀ t, k ≤ t → t < fr.length → gL z.2 43 t = lN (fr.getD t 0)) ∧ gI z.2 38 9 = nI fr.length ∧ Fr (rg 43 43) κ z.2)
      (by
        intro n' k ⟨v, ν⟩ hk ⟨i1, i2, i3, i4, i5⟩
        dsimp only at i1 i2 i3 i4 i5
        subst i1
        have fk := flt k
        have w := sX_isWithin N hN (b := fr.getD k 0) h1 h6 hS ν
        have hw' : gI ν 38 5 = nI n := by rw [i5.I (rgo (by omega))]; exact hw
        have ts : (fr.take (k + 1)).filter p = (fr.take k).filter p ++ (if p (fr.getD k 0) then [fr.getD k 0] else []) := by
          rw [take_sn fr hk, List.filter_append, List.filter_cons]
          split <;> simp
        cases z : Wi n S (fr.getD k 0) with
        | true =>
          have pz : p (fr.getD k 0) = false := by rw [hpe, z]; rfl
          rw [pz, if_neg (by decide), List.append_nil] at ts
          refine ⟨(nI ((fr.take k).filter p).length, ν), ?_, ?_⟩
          · dsimp only
            rw [ts]
            exact ⟨rfl, i2, fun t h1 h2 => i3 t (by omega) h2, i4, i5⟩
          · dsimp only
            rw [lp_Search_consider_39, i4, if_pos (nI_lt hk (by omega)), inb_nI (by omega) (by omega), ckE, tn_nI (by omega), i3 k (Nat.le_refl _) hk, hw', w, bnd_some, z, if_pos rfl, ltE, if_neg (by decide)]
            dsimp only
            rw [ltE, nI_1]
        | false =>
          have pz : p (fr.getD k 0) = true := by rw [hpe, z]; rfl
          rw [pz, if_pos rfl] at ts
          have ln : ((fr.take (k + 1)).filter p).length = ((fr.take k).filter p).length + 1 := by rw [ts, List.length_append, List.length_singleton]
          refine ⟨(nI (((fr.take k).filter p).length + 1), sL ν 43 ((fr.take k).filter p).length (lN (fr.getD k 0))), ?_, ?_⟩
          · dsimp only
            refine ⟨by rw [ln], fun t ht => ?_, fun t t1 t2 => ?_, by rw [gI_sL]; exact i4, i5.sL (rgi (by omega) (by omega))⟩
            · rw [ln] at ht
              rw [ts, getD_ap, gL_sL]
              by_cases e : t = ((fr.take k).filter p).length
              · rw [if_pos ⟨rfl, e⟩, if_neg (by omega), if_pos e]
              · rw [if_neg (fun z => e z.2), if_pos (by omega)]; exact i2 t (by omega)
            · rw [gL_sL, if_neg (by omega)]; exact i3 t (by omega) t2
          · dsimp only
            rw [lp_Search_consider_39, i4, if_pos (nI_lt hk (by omega)), inb_nI (show k < 64 by omega) (by omega), ckE, tn_nI (show k < 2 ^ 31 by omega), i3 k (Nat.le_refl _) hk, hw', w, bnd_some, z, if_neg (by decide), ltE, if_pos rfl, ckE, inb_nI (show ((fr.take k).filter p).length < 64 by omega) (by omega), ckE, tn_nI (by omega), ltE, ltE]
            dsimp only
            rw [ltE, nI_1, nI_1, i3 k (Nat.le_refl _) hk])
      (by
        intro n' ⟨v, ν⟩ ⟨i1, i2, i3, i4, i5⟩
        dsimp only at i1 i2 i3 i4 i5 ⊢
        rw [lp_Search_consider_39, i4, if_neg (nI_nlt (Nat.le_refl _) (by omega))])
      fr.length 0 N (0, κ) (by omega) (by omega) ⟨rfl, fun t ht => by simp at ht, fun t _ h2 => h.2 t h2, h.1, Fr.rf κ⟩
    dsimp only at k1 k2 k3 k4 k5 e
    subst k1
    rw [List.take_length] at e k2
    have fl' := flt fr.length
    rw [List.take_length] at fl'
    generalize hL : fr.filter p = L at *
    refine ⟨sI (sL (sI κ1 38 9 (nI L.length)) 43 L.length (lN S)) 38 9 (nI (L.length + 1)), ?_, ⟨?_, fun t ht => ?_⟩, ?_⟩
    · refine Eq.trans e ?_
      have g9 : gI (sI κ1 38 9 (nI L.length)) 38 9 = nI L.length := by rw [gI_sI, if_pos ⟨rfl, rfl⟩]
      rw [ltE, g9, if_pos (show nI L.length < 64 from nI_lt (b := 64) (by omega) (by omega)), inb_nI (show L.length < 64 by omega) (by omega), ckE, tn_nI (by omega), ltE, gI_sL, g9, nI_1, ltE]
    · rw [List.length_append, List.length_singleton, gI_sI, if_pos ⟨rfl, rfl⟩]
    · rw [List.length_append, List.length_singleton] at ht
      rw [getD_ap, gL_sI, gL_sL]
      by_cases e : t = L.length
      · rw [if_pos ⟨rfl, e⟩, if_neg (by omega), if_pos e]
      · rw [if_neg (fun z => e z.2), if_pos (by omega), gL_sI]; exact k2 t (by omega)
    · exact (((k5.mono (fun q k z => by unfold rg at z; unfold xF; omega)).sI (Or.inr ⟨rfl, rfl⟩)).sL (Or.inl rfl)).sI (Or.inr ⟨rfl, rfl⟩)

/-! least and shallow: the class -/
theorem tk_app (c : Nat × Nat) : ∀ (a : List (Nat × Nat)) (m : Nat), tk (a ++ [c]) m = tk a m ++ (if tb m a.length = 1 then [c] else [])
  | [], m => by
    have e : tb m ([] : List (Nat × Nat)).length = m % 2 := by
      show m / 2 ^ 0 % 2 = m % 2
      rw [Nat.pow_zero, Nat.div_one]
    rw [e]
    show (if m % 2 = 1 then c :: tk [] (m / 2) else tk [] (m / 2)) = [] ++ (if m % 2 = 1 then [c] else [])
    split <;> rfl
  | x :: a, m => by
    have ih := tk_app c a (m / 2)
    have e : tb (m / 2) a.length = tb m (x :: a).length := by
      unfold tb
      rw [Nat.div_div_eq_div_mul, List.length_cons, Nat.pow_succ, Nat.mul_comm]
    rw [e] at ih
    rw [List.cons_append, tk, tk, ih]
    split <;> rfl
theorem stS_app : ∀ (a b : List (Nat × Nat)) (S : Nat), stS (a ++ b) S = stS b (stS a S)
  | [], b, S => rfl
  | c :: a, b, S => by rw [List.cons_append, stS, stS, stS_app a b]
theorem prs_ok : ∀ n, n < 6 → (prs n).length ≤ 10 ∧ ∀ c ∈ prs n, c.1 < c.2 ∧ c.2 < n := by decide
theorem prs_at {n k : Nat} (h5 : n ≤ 5) (hk : k < (prs n).length) : cl (prs n) k < ch (prs n) k ∧ ch (prs n) k < n := by
  have := (prs_ok n (by omega)).2 ((prs n)[k]) (List.getElem_mem hk)
  rw [cl_def, ch_def, List.getElem?_eq_getElem hk]
  exact this
def PRm (κ : Mem) (l : List (Nat × Nat)) : Prop := gI κ 38 6 = nI l.length ∧ ∀ k, k < l.length → gI κ 39 k = nI (cl l k) ∧ gI κ 40 k = nI (ch l k)
def MVm (κ : Mem) (mk : List Nat) : Prop := gI κ 38 7 = nI mk.length ∧ ∀ k, k < mk.length → gI κ 41 k = nI (mk.getD k 0)
theorem PRm.fr {A : Nat → Nat → Prop} {μ μ' : Mem} {l : List (Nat × Nat)} (h : PRm μ l) (f : Fr A μ μ') (h0 : ¬ A 38 6) (h1 : ∀ k, ¬ A 39 k) (h2 : ∀ k, ¬ A 40 k) : PRm μ' l := ⟨by rw [f.I h0]; exact h.1, fun k hk => ⟨by rw [f.I (h1 k)]; exact (h.2 k hk).1, by rw [f.I (h2 k)]; exact (h.2 k hk).2⟩⟩
theorem MVm.fr {A : Nat → Nat → Prop} {μ μ' : Mem} {l : List Nat} (h : MVm μ l) (f : Fr A μ μ') (h0 : ¬ A 38 7) (h1 : ∀ k, ¬ A 41 k) : MVm μ' l := ⟨by rw [f.I h0]; exact h.1, fun k hk => by rw [f.I (h1 k)]; exact h.2 k hk⟩
theorem sX_moved (N : Nat) (hN : 10000 ≤ N) {n S m : Nat} {κ : Mem} (h5 : n ≤ 5) (hp : PRm κ (prs n)) (hm : m < 2 ^ 20) : f_Search_moved N (lN S) (nI m) κ = some (lN (stS (tk (prs n) m) S), κ) := by
  have pl' := (prs_ok n (by omega)).1
  obtain ⟨⟨v, κ'⟩, ⟨k1, k2⟩, e⟩ := for_up (fun n' i (z : Int64 × Mem) => lp_Search_moved_6 N (nI m) (fun v11 μ12 => some (v11, μ12)) n' z.1 i z.2) (fun z => some (z.1, z.2)) (prs n).length (fun k z => z.1 = lN (stS (tk ((prs n).take k) m) S) ∧ z.2 = κ)
    (by
      intro n' k ⟨v, ν⟩ hk ⟨i1, i2⟩
      dsimp only at i1 i2
      subst i1; subst i2
      have c := prs_at h5 hk
      have ts : tk ((prs n).take (k + 1)) m = tk ((prs n).take k) m ++ (if tb m k = 1 then [(cl (prs n) k, ch (prs n) k)] else []) := by
        rw [take_succ' (prs n) hk, tk_app, List.length_take, Nat.min_eq_left (by omega)]
      refine ⟨(lN (stS (tk ((prs n).take (k + 1)) m) S), ν), ⟨rfl, rfl⟩, ?_⟩
      dsimp only
      rw [lp_Search_moved_6, hp.1, if_pos (nI_lt hk (by omega)), ltE, bitI (by omega) (by omega), ts, stS_app]
      by_cases z : tb m k = 1
      · rw [if_pos (nI_is1.mpr z), if_pos z, inb_nI (show k < 10 by omega) (by omega), ckE, ckE, tn_nI (by omega), (hp.2 k hk).1, (hp.2 k hk).2, sX_compared N c.1 (by omega), bnd_some]
        dsimp only
        rw [ltE, nI_1]; rfl
      · rw [if_neg (fun q => z (nI_is1.mp q)), if_neg z]
        dsimp only
        rw [ltE, nI_1]; rfl)
    (by
      intro n' ⟨v, ν⟩ ⟨i1, i2⟩
      dsimp only at i1 i2 ⊢
      subst i2
      rw [lp_Search_moved_6, hp.1, if_neg (nI_nlt (Nat.le_refl _) (by omega))])
    (prs n).length 0 N (lN S, κ) (by omega) (by omega) ⟨rfl, rfl⟩
  dsimp only at k1 k2 e
  subst k1; subst k2
  rw [List.take_length] at e
  exact e
theorem drop_c {x : Nat} : ∀ (l : List Nat) (m : Nat) (r : List Nat), l.drop m = x :: r → m < l.length ∧ l.getD m 0 = x ∧ l.drop (m + 1) = r
  | [], m, r, h => by rw [List.drop_nil] at h; cases h
  | a :: l, 0, r, h => by
    rw [List.drop_zero] at h
    cases h
    exact ⟨by rw [List.length_cons]; omega, rfl, rfl⟩
  | a :: l, m + 1, r, h => by
    have h' : l.drop m = x :: r := h
    have ih := drop_c l m r h'
    exact ⟨by rw [List.length_cons]; omega, ih.2.1, ih.2.2⟩
theorem drop_n {l : List Nat} {m : Nat} (h : l.drop m = []) : l.length ≤ m := List.drop_eq_nil_iff.mp h
theorem fCd_len {n : Nat} {W : Nat → Nat → Bool} : ∀ {cd fr : List Nat}, capC n W cd fr → fr.length ≤ 60 → (fCd n W cd fr).length ≤ 60
  | [], fr, _, h => h
  | S :: l, fr, hc, h => by
    rw [capC] at hc
    rw [fCd]
    exact fCd_len hc.2 hc.1
theorem l_ms17 (N : Nat) (hN : 10000 ≤ N) {n S k : Nat} {mk : List Nat} (h1 : 1 ≤ n) (h5 : n ≤ 5) (hS : S < 2 ^ 2 ^ n) (hk : k < 64) (hmk : ∀ x ∈ mk, x < 1024) (hml : mk.length ≤ 26) (K : Mem → Option (Unit × Mem)) : ∀ (rest : List Nat) (m n' : Nat) (fr : List Nat) (κ : Mem), mk.drop m = rest → m ≤ 26 → rest.length < n' → BS n fr → fr.length ≤ 60 → capC n (Wi n) (cnd1 (rest.map (tk (prs n))) S) fr → LSt κ 43 38 9 fr → gI κ 38 5 = nI n → PRm κ (prs n) → MVm κ mk → gL κ 42 k = lN S → ∃ κ', lp_Search_makeStep_17 N (nI k) K n' (nI m) κ = K κ' ∧ LSt κ' 43 38 9 (fCd n (Wi n) (cnd1 (rest.map (tk (prs n))) S) fr) ∧ Fr xF κ κ'
  | [], m, n' + 1, fr, κ, hd, hm, hn, hb, hl, hc, h, hw, hp, hv, hg => by
    have := drop_n hd
    refine ⟨κ, ?_, h, Fr.rf κ⟩
    rw [lp_Search_makeStep_17, hv.1, if_neg (nI_nlt this (by omega))]
  | x :: rest, m, n' + 1, fr, κ, hd, hm, hn, hb, hl, hc, h, hw, hp, hv, hg => by
    obtain ⟨d1, d2, d3⟩ := drop_c mk m rest hd
    have xb := hmk x (by rw [← d2]; exact getD_mem d1)
    have prok := (prs_ok n (by omega)).2
    have sub : ∀ (l : List (Nat × Nat)) (q : Nat), (∀ c ∈ l, c.1 < c.2 ∧ c.2 < n) → ∀ c ∈ tk l q, c.1 < c.2 ∧ c.2 < n := by
      intro l
      induction l with
      | nil => intro q _ c hc; rw [tk] at hc; cases hc
      | cons y l ih =>
        intro q hy c hc
        rw [tk] at hc
        have hy' : ∀ c ∈ l, c.1 < c.2 ∧ c.2 < n := fun c hc => hy c (List.mem_cons_of_mem _ hc)
        split at hc
        · rcases List.mem_cons.mp hc with e | e
          · subst e; exact hy c List.mem_cons_self
          · exact ih _ hy' c e
        · exact ih _ hy' c hc
    have st := stS_lt (show n ≤ 6 by omega) (tk (prs n) x) S (sub _ _ prok) hS
    rw [List.map_cons] at hc ⊢
    have hc' : capC n (Wi n) (stS (tk (prs n) x) S :: cnd1 (rest.map (tk (prs n))) S) fr := hc
    rw [capC] at hc'
    obtain ⟨κ1, e1, l1, f1⟩ := sX_consider N hN h1 (show n ≤ 6 by omega) st hb hl h hw
    obtain ⟨κ2, e2, l2, f2⟩ := l_ms17 N hN h1 h5 hS hk hmk hml K rest (m + 1) n' (cns n (Wi n) fr (stS (tk (prs n) x) S)) κ1 d3 (by omega) (by rw [List.length_cons] at hn; omega) (bs_cns hb st) hc'.1 hc'.2 l1 (by rw [f1.I (fun z => by unfold xF at z; omega)]; exact hw) (hp.fr f1 (fun z => by unfold xF at z; omega) (fun k z => by unfold xF at z; omega) (fun k z => by unfold xF at z; omega)) (hv.fr f1 (fun z => by unfold xF at z; omega) (fun k z => by unfold xF at z; omega)) (by rw [f1.L (fun z => by unfold xF at z; omega)]; exact hg)
    refine ⟨κ2, ?_, l2, f1.tr f2⟩
    rw [lp_Search_makeStep_17, hv.1, if_pos (nI_lt d1 (by omega)), inb_nI hk (by omega), ckE, inb_nI (show m < 26 by omega) (by omega), ckE, tn_nI (show k < 2 ^ 31 by omega), tn_nI (show m < 2 ^ 31 by omega), hg, hv.2 m d1, d2, sX_moved N hN h5 hp (show x < 2 ^ 20 by omega), bnd_some, e1, bnd_some, ltE, nI_1]
    exact e2
theorem l_ms7 (N : Nat) (hN : 10000 ≤ N) {n : Nat} {mk kept : List Nat} (h1 : 1 ≤ n) (h5 : n ≤ 5) (hmk : ∀ x ∈ mk, x < 1024) (hml : mk.length ≤ 26) (hkb : BS n kept) (hkl : kept.length ≤ 60) (K : Mem → Option (Unit × Mem)) : ∀ (rest : List Nat) (k n' : Nat) (fr : List Nat) (κ : Mem), kept.drop k = rest → k ≤ 60 → rest.length < n' → BS n fr → fr.length ≤ 60 → capK n (Wi n) (mk.map (tk (prs n))) rest fr → LSt κ 43 38 9 fr → gI κ 38 5 = nI n → PRm κ (prs n) → MVm κ mk → LSt κ 42 38 8 kept → (∀ ms, ms = mk.map (tk (prs n)) → MSok n ms) → ∃ κ', lp_Search_makeStep_7 N K n' (nI k) κ = K κ' ∧ LSt κ' 43 38 9 (fK n (Wi n) (mk.map (tk (prs n))) rest fr) ∧ (fK n (Wi n) (mk.map (tk (prs n))) rest fr).length ≤ 60 ∧ Fr xF κ κ'
  | [], k, n' + 1, fr, κ, hd, hk, hn, hb, hl, hc, h, hw, hp, hv, hg, hms => by
    have := drop_n hd
    refine ⟨κ, ?_, h, hl, Fr.rf κ⟩
    rw [lp_Search_makeStep_7, hg.1, if_neg (nI_nlt this (by omega))]
  | S :: rest, k, n' + 1, fr, κ, hd, hk, hn, hb, hl, hc, h, hw, hp, hv, hg, hms => by
    obtain ⟨d1, d2, d3⟩ := drop_c kept k rest hd
    have hS : S < 2 ^ 2 ^ n := hkb S (by rw [← d2]; exact getD_mem d1)
    rw [capK] at hc
    have gk : gL κ 42 k = lN S := by rw [hg.2 k d1, d2]
    obtain ⟨κ1, e1, l1, f1⟩ := l_ms17 N hN h1 h5 hS (show k < 64 by omega) hmk hml (fun μ11 => lt' (nI k + 1) fun v12 => lp_Search_makeStep_7 N K n' v12 μ11) mk 0 N fr κ (List.drop_zero) (by omega) (by omega) hb hl hc.1 h hw hp hv gk
    have b1 := bs_fC (W := Wi n) (bs_cnd (show n ≤ 6 by omega) (hms _ rfl) hS) hb
    have ln1 := fCd_len hc.1 hl
    obtain ⟨κ2, e2, l2, l3, f2⟩ := l_ms7 N hN h1 h5 hmk hml hkb hkl K rest (k + 1) n' _ κ1 d3 (by omega) (by rw [List.length_cons] at hn; omega) b1 ln1 hc.2 l1 (by rw [f1.I (fun z => by unfold xF at z; omega)]; exact hw) (hp.fr f1 (fun z => by unfold xF at z; omega) (fun k z => by unfold xF at z; omega) (fun k z => by unfold xF at z; omega)) (hv.fr f1 (fun z => by unfold xF at z; omega) (fun k z => by unfold xF at z; omega)) (hg.fr f1 (fun z => by unfold xF at z; omega) (fun k z => by unfold xF at z; omega)) hms
    refine ⟨κ2, ?_, l2, l3, f1.tr f2⟩
    rw [lp_Search_makeStep_7, hg.1, if_pos (nI_lt d1 (by omega))]
    refine Eq.trans e1 ?_
    rw [ltE, nI_1]
    exact e2
abbrev xK : Nat → Nat → Prop := fun q k => q = 42 ∨ q = 43 ∨ (q = 38 ∧ (k = 8 ∨ k = 9))
theorem sX_makeStep (N : Nat) (hN : 10000 ≤ N) {n : Nat} {mk kept : List Nat} {κ : Mem} (h1 : 1 ≤ n) (h5 : n ≤ 5) (hmk : ∀ x ∈ mk, x < 1024) (hml : mk.length ≤ 26) (hkb : BS n kept) (hkl : kept.length ≤ 60) (hc : capK n (Wi n) (mk.map (tk (prs n))) kept []) (hw : gI κ 38 5 = nI n) (hp : PRm κ (prs n)) (hv : MVm κ mk) (hg : LSt κ 42 38 8 kept) (hms : MSok n (mk.map (tk (prs n)))) : ∃ κ', f_Search_makeStep N κ = some ((), κ') ∧ LSt κ' 42 38 8 (fK n (Wi n) (mk.map (tk (prs n))) kept []) ∧ (fK n (Wi n) (mk.map (tk (prs n))) kept []).length ≤ 60 ∧ Fr xK κ κ' := by
  have f0 : Fr (fun q k => q = 38 ∧ k = 9) κ (sI κ 38 9 0) := (Fr.rf κ).sI ⟨rfl, rfl⟩
  have l0 : LSt (sI κ 38 9 0) 43 38 9 [] := ⟨by simp [gI_sI, gL_sL, gR_sR, gI_sL, gI_sR, gL_sI, gL_sR, gR_sI, gR_sL]; rfl, fun k hk => by simp at hk⟩
  obtain ⟨κ1, e1, l1, ln, f1⟩ := l_ms7 N hN h1 h5 hmk hml hkb hkl (fun μ13 => lp_Search_makeStep_59 N (fun μ19 => lt' (sI μ19 38 8 (gI μ19 38 9)) fun μ20 => some ((), μ20)) N 0 μ13) kept 0 N [] (sI κ 38 9 0) List.drop_zero (by omega) (by omega) (fun s hs => by simp at hs) (by simp) hc l0 (by rw [f0.I (by omega)]; exact hw) (hp.fr f0 (by omega) (fun k z => by omega) (fun k z => by omega)) (hv.fr f0 (by omega) (fun k z => by omega)) (hg.fr f0 (by omega) (fun k z => by omega)) (fun ms e => by rw [e]; exact hms)
  generalize hF : fK n (Wi n) (mk.map (tk (prs n))) kept [] = F at *
  obtain ⟨κ2, ⟨k1, k2⟩, e2⟩ := for_up (fun n' i ν => lp_Search_makeStep_59 N (fun μ19 => lt' (sI μ19 38 8 (gI μ19 38 9)) fun μ20 => some ((), μ20)) n' i ν) (fun μ19 => lt' (sI μ19 38 8 (gI μ19 38 9)) fun μ20 => some ((), μ20)) F.length (fun i ν => (∀ t, t < i → gL ν 42 t = lN (F.getD t 0)) ∧ Fr (rg 42 42) κ1 ν)
    (by
      intro n' i ν hi ⟨i1, i2⟩
      have a9 : gI ν 38 9 = nI F.length := by rw [i2.I (rgo (by omega))]; exact l1.1
      have ag : gL ν 43 i = lN (F.getD i 0) := by rw [i2.L (rgo (by omega))]; exact l1.2 i hi
      refine ⟨sL ν 42 i (lN (F.getD i 0)), ⟨fun t ht => ?_, i2.sL (rgi (by omega) (by omega))⟩, ?_⟩
      · rw [gL_sL]
        by_cases e : t = i
        · subst e; rw [if_pos ⟨rfl, rfl⟩]
        · rw [if_neg (fun z => e z.2)]; exact i1 t (by omega)
      · rw [lp_Search_makeStep_59, a9, if_pos (nI_lt hi (by omega)), inb_nI (by omega) (by omega), ckE, ckE, tn_nI (by omega), ag, ltE, ltE, nI_1])
    (by
      intro n' ν ⟨i1, i2⟩
      have a9 : gI ν 38 9 = nI F.length := by rw [i2.I (rgo (by omega))]; exact l1.1
      rw [lp_Search_makeStep_59, a9, if_neg (nI_nlt (Nat.le_refl _) (by omega))])
    F.length 0 N κ1 (by omega) (by omega) ⟨fun t ht => by omega, Fr.rf κ1⟩
  have a9 : gI κ2 38 9 = nI F.length := by rw [k2.I (rgo (by omega))]; exact l1.1
  refine ⟨sI κ2 38 8 (nI F.length), ?_, ⟨by simp [gI_sI, gL_sL, gR_sR, gI_sL, gI_sR, gL_sI, gL_sR, gR_sI, gR_sL], fun k hk => by rw [gL_sI]; exact k1 k hk⟩, ln, ?_⟩
  · unfold f_Search_makeStep
    rw [ltE]
    refine Eq.trans e1 (Eq.trans e2 ?_)
    rw [a9, ltE]
  · exact (((f0.mono (fun q k z => by unfold xK; omega)).tr (f1.mono (fun q k z => by unfold xF at z; unfold xK; omega))).tr (k2.mono (fun q k z => by unfold rg at z; unfold xK; omega))).sI (by unfold xK; omega)
theorem sX_isOver (N : Nat) (hN : 10000 ≤ N) {n : Nat} {kept : List Nat} {κ : Mem} (h5 : n ≤ 5) (hkl : kept.length ≤ 60) (hw : gI κ 38 5 = nI n) (hg : LSt κ 42 38 8 kept) : f_Search_isOver N κ = some (if ovr n kept then 1 else 0, κ) := by
  unfold f_Search_isOver
  refine for_post (fun n' i (κ' : Mem) => lp_Search_isOver_2 N (fun μ7 => some (0, μ7)) n' i κ') (fun o => o = some (if ovr n kept then 1 else 0, κ)) kept.length (fun i κ' => κ' = κ ∧ ∀ k, k < i → ¬ pcn (kept.getD k 0) = n + 1)
    (by
      intro n' i κ' hi ⟨i1, i2⟩
      subst i1
      have p := pcn_le (kept.getD i 0)
      have ce : (nI (pcn (kept.getD i 0)) = nI (n + 1)) ↔ pcn (kept.getD i 0) = n + 1 := nI_eq (by omega) (by omega)
      by_cases z : pcn (kept.getD i 0) = n + 1
      · refine Or.inr ?_
        have ov : ovr n kept = true := any_ix.mpr ⟨i, hi, decide_eq_true z⟩
        rw [lp_Search_isOver_2, hg.1, if_pos (nI_lt hi (by omega)), inb_nI (by omega) (by omega), ckE, tn_nI (by omega), hg.2 i hi, sX_pop, bnd_some, hw, nI_1, if_pos (ce.mpr z), if_pos ov]
      · refine Or.inl ⟨κ', ⟨rfl, fun k hk => ?_⟩, ?_⟩
        · by_cases e : k = i
          · subst e; exact z
          · exact i2 k (by omega)
        · rw [lp_Search_isOver_2, hg.1, if_pos (nI_lt hi (by omega)), inb_nI (by omega) (by omega), ckE, tn_nI (by omega), hg.2 i hi, sX_pop, bnd_some, hw, nI_1, if_neg (fun q => z (ce.mp q)), ltE, nI_1])
    (by
      intro n' κ' ⟨i1, i2⟩
      subst i1
      have ov : ¬ ovr n kept = true := fun q => by
        obtain ⟨k, hk, e⟩ := any_ix.mp q
        exact i2 k hk (of_decide_eq_true e)
      rw [lp_Search_isOver_2, hg.1, if_neg (nI_nlt (Nat.le_refl _) (by omega)), if_neg ov])
    kept.length 0 N κ (by omega) (by omega) ⟨rfl, fun k hk => by omega⟩
def rmp (l : List Nat) : List Int64 := l.map (fun x => (nI x).toInt64)
theorem l_ts36 (N : Nat) (hN : 10000 ≤ N) {n : Nat} {mk : List Nat} (h1 : 1 ≤ n) (h5 : n ≤ 5) (hmk : ∀ x ∈ mk, x < 1024) (hml : mk.length ≤ 26) (hms : MSok n (mk.map (tk (prs n)))) (K : Int32 → Mem → Option (Int32 × Mem)) : ∀ (f t n' : Nat) (kept : List Nat) (rw : List Int64) (κ : Mem), chk n (mk.map (tk (prs n))) f kept = true → t + f = 15 → f < n' → BS n kept → kept.length ≤ 60 → gI κ 38 5 = nI n → PRm κ (prs n) → MVm κ mk → LSt κ 42 38 8 kept → RX κ rw → rw.length = t → ∃ κ', lp_Search_tellSteps_36 N K n' (nI t) κ = K (nI (t + (rws n (mk.map (tk (prs n))) f kept).length)) κ' ∧ RX κ' (rw ++ rmp (rws n (mk.map (tk (prs n))) f kept)) ∧ Fr (fun q k => xK q k ∨ q = 16 ∨ q = 17) κ κ'
  | 0, t, n' + 1, kept, rw, κ, hc, ht, hn, hb, hl, hw, hp, hv, hg, hr, hrl => by rw [chk] at hc; cases hc
  | f + 1, t, n' + 1, kept, rw, κ, hc, ht, hn, hb, hl, hw, hp, hv, hg, hr, hrl => by
    have io := sX_isOver N hN h5 hl hw hg
    rw [lp_Search_tellSteps_36, io, bnd_some, rws]
    rcases chk_t h1 (show n ≤ 6 by omega) hms hb hc with z | ⟨z, c1, c2, c3⟩
    · rw [z, if_pos rfl, if_pos rfl, if_neg (by decide)]
      exact ⟨κ, rfl, by rw [show rmp [] = [] from rfl, List.append_nil]; exact hr, Fr.rf κ⟩
    · obtain ⟨κ1, e1, l1, ln1, f1⟩ := sX_makeStep N hN h1 h5 hmk hml hb hl c1 hw hp hv hg hms
      obtain ⟨κ2, e2, r2, f2⟩ := sNum_append N (nI (fK n (Wi n) (mk.map (tk (prs n))) kept []).length).toInt64 (hr.fr f1 (fun z => by unfold xK at z; omega) (fun k z => by unfold xK at z; omega)) (by omega)
      have w1 : gI κ2 38 5 = nI n := by rw [f2.I (rgo (by omega)), f1.I (fun z => by unfold xK at z; omega)]; exact hw
      have p1 : PRm κ2 (prs n) := (hp.fr f1 (fun z => by unfold xK at z; omega) (fun k z => by unfold xK at z; omega) (fun k z => by unfold xK at z; omega)).fr f2 (rgo (by omega)) (fun _ => rgo (by omega)) (fun _ => rgo (by omega))
      have v1 : MVm κ2 mk := (hv.fr f1 (fun z => by unfold xK at z; omega) (fun k z => by unfold xK at z; omega)).fr f2 (rgo (by omega)) (fun _ => rgo (by omega))
      obtain ⟨κ3, e3, r3, f3⟩ := l_ts36 N hN h1 h5 hmk hml hms K f (t + 1) n' (fK n (Wi n) (mk.map (tk (prs n))) kept []) _ κ2 c2 (by omega) (by omega) c3 ln1 w1 p1 v1 (l1.fr f2 (rgo (by omega)) (fun _ => rgo (by omega))) r2 (by rw [List.length_append, List.length_singleton, hrl])
      rw [z, if_pos (show (if false = true then (1 : Int32) else 0) = 0 by decide), if_neg (show ¬ (false = true) by decide), if_pos (show nI t < 16 from nI_lt (b := 16) (by omega) (by omega)), e1, bnd_some, l1.1, e2, bnd_some, ltE, nI_1]
      refine ⟨κ3, ?_, ?_, ((f1.mono (fun q k z => Or.inl z)).tr (f2.mono (fun q k z => by unfold rg at z; omega))).tr f3⟩
      · rw [e3, List.length_cons, show t + 1 + (rws n (mk.map (tk (prs n))) f (fK n (Wi n) (mk.map (tk (prs n))) kept [])).length = t + ((rws n (mk.map (tk (prs n))) f (fK n (Wi n) (mk.map (tk (prs n))) kept [])).length + 1) by omega]
      · rw [List.append_assoc] at r3
        exact r3

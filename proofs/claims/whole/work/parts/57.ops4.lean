/-! joins, flips, mirrors, has, count -/
theorem cl_app2 (a b : List (Nat × Nat)) (k : Nat) : cl (a ++ b) k = if k < a.length then cl a k else cl b (k - a.length) := by
  rw [cl_def, cl_def, cl_def]
  by_cases h : k < a.length
  · rw [if_pos h, List.getElem?_append_left h]
  · rw [if_neg h, List.getElem?_append_right (by omega)]
theorem ch_app2 (a b : List (Nat × Nat)) (k : Nat) : ch (a ++ b) k = if k < a.length then ch a k else ch b (k - a.length) := by
  rw [ch_def, ch_def, ch_def]
  by_cases h : k < a.length
  · rw [if_pos h, List.getElem?_append_left h]
  · rw [if_neg h, List.getElem?_append_right (by omega)]
theorem take_succ' (b : List (Nat × Nat)) {i : Nat} (h : i < b.length) : b.take (i + 1) = b.take i ++ [(cl b i, ch b i)] := by
  rw [List.take_succ, List.getElem?_eq_getElem h]
  have : (cl b i, ch b i) = b[i] := by rw [cl_def, ch_def, List.getElem?_eq_getElem h]; rfl
  rw [this]; rfl
theorem WN.app2 {n : Nat} {a b : List (Nat × Nat)} (ha : WN n a) (hb : WN n b) (hl : a.length + b.length ≤ 60) : WN n (a ++ b) := by
  refine ⟨ha.1, ha.2.1, by rw [List.length_append]; exact hl, fun k hk => ?_⟩
  rw [List.length_append] at hk
  rw [cl_app2, ch_app2]
  by_cases h : k < a.length
  · rw [if_pos h, if_pos h]; exact ha.2.2.2 k h
  · rw [if_neg h, if_neg h]; exact hb.2.2.2 _ (by omega)
theorem op_joins (N : Nat) (hN : 10000 ≤ N) (x y : Int32) : OpEq (f_X_joins N x y) (f_M_joins N x y) := by
  refine op_mk (fun μ σ hw hx => ?_)
  rcases ix4 x 4 (by omega) with hs | ⟨s, hs, rfl⟩
  · exact ⟨-1, σ, μ, by simp [f_X_joins, isNet_out N hs, bnd_some], hx, Fr.rf μ, hw, op_no (fun μ _ => by simp [f_M_joins, mNet_out N hs, bnd_some, lt'])⟩
  rcases ix4 y 4 (by omega) with ht | ⟨t, ht, rfl⟩
  · exact ⟨-1, σ, μ, by simp [f_X_joins, isNet_in N hs, isNet_out N ht, bnd_some], hx, Fr.rf μ, hw, op_no (fun μ _ => by simp [f_M_joins, mNet_in N hs, mNet_out N ht, bnd_some, lt'])⟩
  have w := hw.1 s hs
  have nx := hx.1 s hs
  have w2 := hw.1 t ht
  have nx2 := hx.1 t ht
  have hl := w.2.2.1
  have hl2 := w2.2.2.1
  have h8 := w.2.1
  have h82 := w2.2.1
  by_cases hn : (σ.1 s).1 = (σ.1 t).1
  · by_cases hc : 60 < (σ.1 s).2.length + (σ.1 t).2.length
    · refine ⟨-3, σ, μ, ?_, hx, Fr.rf μ, hw, op_no (fun μ hm => ?_)⟩
      · simp (disch := omega) [f_X_joins, isNet_in N hs, isNet_in N ht, lt', bnd_some, ck_tt, inb_nI, tn_nI, fa_lit, nI_add, pk_mul, nI_ltI, nI_eq, nx.1, nx2.1, nx.2.1, nx2.2.1, hn, hc]
      · have m := (hm.thr (v := 0)).1
        unfold f_M_joins; simp only [lt']; generalize sI μ 44 0 0 = ν at m ⊢
        simp (disch := omega) [mNet_in N hs, mNet_in N ht, lt', bnd_some, ck_tt, inb_nI, tn_nI, fa_lit, nI_add, pk_mul, nI_ltI, nI_eq, (m s hs).1, (m t ht).1, (m s hs).2.1, (m t ht).2.1, hn, hc]
    · generalize hcs : (σ.1 s).2 = cs at *
      generalize hct : (σ.1 t).2 = ct at *
      have hr : s = t → cs = ct := fun e => by rw [← hcs, ← hct, e]
      have rd : ∀ (i : Nat), i < ct.length → s = t → cl (cs ++ ct.take i) i = cl ct i ∧ ch (cs ++ ct.take i) i = ch ct i := by
        intro i hi e
        have := hr e
        subst this
        rw [cl_app2, ch_app2, if_pos hi, if_pos hi]
        exact ⟨rfl, rfl⟩
      obtain ⟨μ', ⟨i1, i2⟩, e⟩ := for_up (fun n i ν => lp_X_joins_71 N (2 + 3 * s) (2 + 3 * t) (nI ct.length) (fun μ18 => some (gI μ18 (2 + 3 * s) 1, μ18)) n i ν) (fun ν => some (gI ν (2 + 3 * s) 1, ν)) ct.length
        (fun i κ => Fr (rg (2 + 3 * s) (2 + 3 * s + 2)) μ κ ∧ NX κ (2 + 3 * s) (σ.1 s).1 (cs ++ ct.take i))
        (by
          intro n' i κ hi ⟨i1, i2⟩
          have hlen : (cs ++ ct.take i).length = cs.length + i := by rw [List.length_append, List.length_take]; omega
          have a : gI κ (2 + 3 * t + 1) i = nI (cl ct i) ∧ gI κ (2 + 3 * t + 2) i = nI (ch ct i) := by
            by_cases est : s = t
            · subst est
              have := i2.2.2 i (by rw [hlen, hr rfl]; omega)
              rw [(rd i hi rfl).1, (rd i hi rfl).2] at this
              exact this
            · have := nx2.2.2 i hi
              rw [i1.I (rgo (by omega)), i1.I (rgo (by omega))]
              exact this
          obtain ⟨κ', e', n', f'⟩ := sNet_append N (i := cl ct i) (j := ch ct i) i2 (by omega)
          refine ⟨κ', ⟨i1.tr f', ?_⟩, by simp (disch := omega) [lp_X_joins_71, lt', bnd_some, ck_tt, inb_nI, tn_nI, fa_lit, nI_add, pk_mul, nI_ltI, nI_eq, hi, a.1, a.2, e']⟩
          rw [take_succ' ct hi, ← List.append_assoc]
          exact n')
        (by
          intro n' κ ⟨i1, i2⟩
          simp (disch := omega) [lp_X_joins_71, lt', bnd_some, ck_tt, inb_nI, tn_nI, fa_lit, nI_add, pk_mul, nI_ltI, nI_eq])
        ct.length 0 N μ (by omega) (by omega) ⟨Fr.rf μ, by simpa using nx⟩
      rw [List.take_length] at i2
      refine ⟨nI (cs.length + ct.length), _, μ', ?_, hx.net i1 hs i2, frX i1 hs, hw.net (w.app2 (hn ▸ w2) (by omega)), ?_⟩
      · have : gI μ' (2 + 3 * s) 1 = nI (cs.length + ct.length) := by rw [i2.2.1, List.length_append]
        rw [this] at e
        simp (disch := omega) only [f_X_joins, isNet_in N hs, isNet_in N ht, i10, i00, reduceIte, lt', bnd_some, ck_tt, inb_nI, tn_nI, nI_add, pk_mul, nI_ltI, nI_eq, fa_lit, nx.1, nx2.1, nx.2.1, nx2.2.1, hn, hc]
        exact e
      intro μ hm
      have hm' : SM (sI μ 44 0 0) σ := hm.thr
      unfold f_M_joins
      simp only [lt']
      generalize hν : sI μ 44 0 0 = ν at hm' ⊢
      have m := hm'.1 s hs
      have m2 := hm'.1 t ht
      rw [hcs] at m
      rw [hct] at m2
      obtain ⟨μ2, ⟨j1, j2⟩, e2⟩ := for_up (fun n i ν => lp_M_joins_65 N (nI s) (nI t) (nI ct.length) (fun μ23 => some (gI μ23 47 s, μ23)) n i ν) (fun ν => some (gI ν 47 s, ν)) ct.length
        (fun i κ => Fr (mN s) ν κ ∧ NM κ s (σ.1 s).1 (cs ++ ct.take i))
        (by
          intro n' i κ hi ⟨i1, i2⟩
          have hlen : (cs ++ ct.take i).length = cs.length + i := by rw [List.length_append, List.length_take]; omega
          have a : gI κ 48 (60 * t + i) = nI (cl ct i) ∧ gI κ 49 (60 * t + i) = nI (ch ct i) := by
            by_cases est : s = t
            · subst est
              have := i2.2.2 i (by rw [hlen, hr rfl]; omega)
              rw [(rd i hi rfl).1, (rd i hi rfl).2] at this
              exact this
            · have := m2.2.2 i hi
              rw [i1.I (fun z => by unfold mN at z; omega), i1.I (fun z => by unfold mN at z; omega)]
              exact this
          obtain ⟨κ', e', n', f'⟩ := sM_comes N (i := cl ct i) (j := ch ct i) i2 hs (by omega)
          refine ⟨κ', ⟨i1.tr f', ?_⟩, by simp (disch := omega) [lp_M_joins_65, lt', bnd_some, ck_tt, inb_nI, tn_nI, fa_lit, nI_add, pk_mul, nI_ltI, nI_eq, hi, sM_lowR, sM_highR, a.1, a.2, e']⟩
          rw [take_succ' ct hi, ← List.append_assoc]
          exact n')
        (by
          intro n' κ ⟨i1, i2⟩
          simp (disch := omega) [lp_M_joins_65, lt', bnd_some, ck_tt, inb_nI, tn_nI, fa_lit, nI_add, pk_mul, nI_ltI, nI_eq])
        ct.length 0 N ν (by omega) (by omega) ⟨Fr.rf ν, by simpa using m⟩
      rw [List.take_length] at j2
      refine ⟨μ2, ?_, hm'.net hw j1 hs j2, (hν ▸ frT).tr (frN j1)⟩
      have : gI μ2 47 s = nI (cs.length + ct.length) := by rw [j2.2.1, List.length_append]
      rw [this] at e2
      simp (disch := omega) only [mNet_in N hs, mNet_in N ht, i10, i00, reduceIte, lt', bnd_some, ck_tt, inb_nI, tn_nI, nI_add, pk_mul, nI_ltI, nI_eq, fa_lit, m.1, m2.1, m.2.1, m2.2.1, hn, hc]
      exact e2
  · refine ⟨-2, σ, μ, ?_, hx, Fr.rf μ, hw, op_no (fun μ hm => ?_)⟩
    · simp (disch := omega) [f_X_joins, isNet_in N hs, isNet_in N ht, lt', bnd_some, ck_tt, inb_nI, tn_nI, fa_lit, nI_add, pk_mul, nI_ltI, nI_eq, nx.1, nx2.1, hn]
    · have m := (hm.thr (v := 0)).1
      unfold f_M_joins; simp only [lt']; generalize sI μ 44 0 0 = ν at m ⊢
      simp (disch := omega) [mNet_in N hs, mNet_in N ht, lt', bnd_some, ck_tt, inb_nI, tn_nI, fa_lit, nI_add, pk_mul, nI_ltI, nI_eq, (m s hs).1, (m t ht).1, hn]
theorem op_has (N : Nat) (x y : Int32) : OpEq (f_X_has N x y) (f_M_has N x y) := by
  refine op_mk (fun μ σ hw hx => ?_)
  rcases ix4 x 4 (by omega) with hs | ⟨s, hs, rfl⟩
  · exact ⟨-1, σ, μ, by simp [f_X_has, isNet_out N hs, bnd_some], hx, Fr.rf μ, hw, op_no (fun μ _ => by simp [f_M_has, mNet_out N hs, bnd_some, lt'])⟩
  have nx := hx.1 s hs
  rcases ix4 y 2 (by omega) with hk | ⟨k, hk, rfl⟩
  · refine ⟨-1, σ, μ, ?_, hx, Fr.rf μ, hw, op_no (fun μ hm => ?_)⟩
    · unfold f_X_has
      rw [isNet_in N hs, bnd_some, if_neg (by decide)]
      by_cases h0 : y < 0
      · rw [if_pos h0]
      · rw [if_neg h0, if_pos]
        rcases hk with hk | hk
        · exact absurd hk h0
        · have := out_int (n := 2) (by omega) (Or.inr hk)
          rw [Int32.lt_iff_toInt_lt]
          have h1 : (1 : Int32).toInt = 1 := rfl
          have h2 : ¬ y.toInt < 0 := fun z => h0 (Int32.lt_iff_toInt_lt.mpr z)
          omega
    · simp [f_M_has, mNet_in N hs, bnd_some, lt', mIn_out N (n := 2) (by omega) hk _ (b := 1) rfl]
  · have : k = 0 ∨ k = 1 := (by omega)
    rcases this with rfl | rfl
    · refine ⟨nI (σ.1 s).1, σ, μ, ?_, hx, Fr.rf μ, hw, op_no (fun μ hm => ?_)⟩
      · simp (disch := omega) [f_X_has, isNet_in N hs, lt', bnd_some, ck_tt, inb_nI, tn_nI, fa_lit, nI_add, pk_mul, nI_ltI, nI_eq, nx.1]
      · have m := (hm.thr (v := 0)).1 s hs
        unfold f_M_has; simp only [lt']; generalize sI μ 44 0 0 = ν at m ⊢
        simp (disch := omega) only [mNet_in N hs, i10, i00, reduceIte, lt', bnd_some, ck_tt, inb_nI, tn_nI, nI_add, pk_mul, nI_ltI, nI_eq, mIn_in N (j := 0) (n := 2) (by omega) (by omega) _ (b := 1) rfl, m.1, fa_lit]
        simp
    · refine ⟨nI (σ.1 s).2.length, σ, μ, ?_, hx, Fr.rf μ, hw, op_no (fun μ hm => ?_)⟩
      · simp (disch := omega) [f_X_has, isNet_in N hs, lt', bnd_some, ck_tt, inb_nI, tn_nI, fa_lit, nI_add, pk_mul, nI_ltI, nI_eq, nx.2.1]
      · have m := (hm.thr (v := 0)).1 s hs
        unfold f_M_has; simp only [lt']; generalize sI μ 44 0 0 = ν at m ⊢
        simp (disch := omega) only [mNet_in N hs, i10, i00, reduceIte, lt', bnd_some, ck_tt, inb_nI, tn_nI, nI_add, pk_mul, nI_ltI, nI_eq, mIn_in N (j := 1) (n := 2) (by omega) (by omega) _ (b := 1) rfl, m.2.1, fa_lit]
        simp
abbrev rvf (f : Nat → Nat) (L i j : Nat) : Nat := if j < i ∨ L ≤ j + i then f (L - 1 - j) else f j
theorem rvf_step (f : Nat → Nat) {L i j : Nat} (hi : i + i + 1 < L) (hj : j < L) : (if j = L - 1 - i then rvf f L i i else if j = i then rvf f L i (L - 1 - i) else rvf f L i j) = rvf f L (i + 1) j := by
  unfold rvf
  by_cases h1 : j = L - 1 - i
  · subst h1
    rw [if_pos rfl, if_neg (by omega), if_pos (by omega)]
    congr 1; omega
  · rw [if_neg h1]
    by_cases h2 : j = i
    · subst h2
      rw [if_pos rfl, if_neg (by omega), if_pos (by omega)]
    · rw [if_neg h2]
      ((repeat' split) <;> first | rfl | omega | (exfalso; omega) | (congr 1; omega))
theorem rvf_end (f : Nat → Nat) {L i j : Nat} (hi : L ≤ i + i + 1) (hj : j < L) : rvf f L i j = f (L - 1 - j) := by
  unfold rvf
  by_cases h : j < i ∨ L ≤ j + i
  · rw [if_pos h]
  · rw [if_neg h]; congr 1; omega
theorem sNet_reverse (N : Nat) (hN : 10000 ≤ N) {μ : Mem} {p n : Nat} {cs : List (Nat × Nat)} (h : NX μ p n cs) (hl : cs.length ≤ 60) : ∃ μ', f_Net_reverse N p μ = some ((), μ') ∧ NX μ' p n (mk cs.length (fun j => cl cs (cs.length - 1 - j)) (fun j => ch cs (cs.length - 1 - j))) ∧ Fr (rg p (p + 2)) μ μ' := by
  obtain ⟨h0, h1, h2⟩ := h
  have key : ∀ (m i k : Nat) (b : Int32) (ν : Mem), b.toInt = (cs.length : Int) - 1 - i → i ≤ 60 → cs.length - 2 * i ≤ m → m < k → Fr (rg p (p + 2)) μ ν → gI ν p 0 = nI n → gI ν p 1 = nI cs.length → (∀ j, j < cs.length → gI ν (p + 1) j = nI (rvf (cl cs) cs.length i j) ∧ gI ν (p + 2) j = nI (rvf (ch cs) cs.length i j)) → ∃ μ' i', lp_Net_reverse_9 N p (fun μ7 => some ((), μ7)) k (nI i) b ν = some ((), μ') ∧ Fr (rg p (p + 2)) μ μ' ∧ gI μ' p 0 = nI n ∧ gI μ' p 1 = nI cs.length ∧ cs.length ≤ i' + i' + 1 ∧ (∀ j, j < cs.length → gI μ' (p + 1) j = nI (rvf (cl cs) cs.length i' j) ∧ gI μ' (p + 2) j = nI (rvf (ch cs) cs.length i' j)) := by
    intro m
    induction m with
    | zero =>
      intro i k b ν hb hi hm hk f a a1 c
      obtain ⟨k, rfl⟩ : ∃ t, k = t + 1 := ⟨k - 1, (by omega)⟩
      refine ⟨ν, i, ?_, f, a, a1, (by omega), c⟩
      rw [lp_Net_reverse_9, if_neg (fun z => by have := (ltN hb (by omega)).mp z; omega)]
    | succ m ih =>
      intro i k b ν hb hi hm hk f a a1 c
      obtain ⟨k, rfl⟩ : ∃ t, k = t + 1 := ⟨k - 1, (by omega)⟩
      by_cases hlt : i + i + 1 < cs.length
      · have hbn : b = nI (cs.length - 1 - i) := asN (by rw [hb]; omega) (by omega)
        obtain ⟨ν', e, f', g1, g2⟩ := sNet_exAt N (p := p) (a := i) (b := cs.length - 1 - i) ν (by omega) (by omega)
        obtain ⟨μ', i', e2, r⟩ := ih (i + 1) k (b + (-1)) ν' (by rw [dec1 hb (by omega) (by omega)]; omega) (by omega) (by omega) (by omega) (f.tr (f'.wide (by omega) (by omega))) (by rw [f'.I (rgo (by omega))]; exact a) (by rw [f'.I (rgo (by omega))]; exact a1) (fun j hj => by
          rw [g1, g2, (c i (by omega)).1, (c i (by omega)).2, (c (cs.length - 1 - i) (by omega)).1, (c (cs.length - 1 - i) (by omega)).2, (c j hj).1, (c j hj).2]
          constructor
          · rw [← rvf_step (cl cs) hlt hj]
            ((repeat' split) <;> first | rfl | omega | (exfalso; omega) | (congr 1; omega))
          · rw [← rvf_step (ch cs) hlt hj]
            ((repeat' split) <;> first | rfl | omega | (exfalso; omega) | (congr 1; omega)))
        refine ⟨μ', i', ?_, r⟩
        rw [lp_Net_reverse_9, if_pos ((ltN hb (by omega)).mpr (by omega))]
        rw [hbn] at e2 ⊢
        rw [e, bnd_some]
        simp only [lt']
        rw [nI_1 i]
        exact e2
      · refine ⟨ν, i, ?_, f, a, a1, (by omega), c⟩
        rw [lp_Net_reverse_9, if_neg (fun z => by have := (ltN hb (by omega)).mp z; omega)]
  have hb0 : (nI cs.length - 1).toInt = (cs.length : Int) - 1 - (0 : Nat) := by
    have e : (1 : Int32).toInt = 1 := rfl
    rw [fb_subI (by rw [nI_toInt (by omega), e]; omega) (by rw [nI_toInt (by omega), e]; omega), nI_toInt (by omega), e]
    omega
  obtain ⟨μ', i', e, f, a, b, hi', c⟩ := key cs.length 0 N (nI cs.length - 1) μ hb0 (by omega) (by omega) (by omega) (Fr.rf μ) h0 h1 (fun j hj => by
    unfold rvf
    rw [if_neg (by omega), if_neg (by omega)]
    exact h2 j hj)
  refine ⟨μ', by unfold f_Net_reverse; rw [h1]; exact e, NX.mk a b (fun j hj => ?_), f⟩
  rw [(c j hj).1, (c j hj).2, rvf_end _ hi' hj, rvf_end _ hi' hj]
  exact ⟨rfl, rfl⟩
theorem wnRev {n : Nat} {cs : List (Nat × Nat)} (w : WN n cs) : WN n (mk cs.length (fun j => cl cs (cs.length - 1 - j)) (fun j => ch cs (cs.length - 1 - j))) := WN.mk w.1 w.2.1 w.2.2.1 (fun j hj => w.2.2.2 _ (by omega))
theorem op_flips (N : Nat) (hN : 10000 ≤ N) (x : Int32) : OpEq (f_X_flips N x) (f_M_flips N x) := by
  refine op_mk (fun μ σ hw hx => ?_)
  rcases ix4 x 4 (by omega) with hs | ⟨s, hs, rfl⟩
  · exact ⟨-1, σ, μ, by simp [f_X_flips, isNet_out N hs, bnd_some], hx, Fr.rf μ, hw, op_no (fun μ _ => by simp [f_M_flips, mNet_out N hs, bnd_some, lt'])⟩
  have w := hw.1 s hs
  have nx := hx.1 s hs
  have hl := w.2.2.1
  obtain ⟨μ', e, n', f⟩ := sNet_reverse N hN nx hl
  refine ⟨nI (σ.1 s).2.length, _, μ', ?_, hx.net f hs n', frX f hs, hw.net (wnRev w), ?_⟩
  · simp (disch := omega) [f_X_flips, isNet_in N hs, lt', bnd_some, ck_tt, inb_nI, tn_nI, fa_lit, nI_add, pk_mul, nI_ltI, nI_eq, e, n'.2.1, mk_len]
  refine m_net hw hs (fM := fun ν => lp_M_flips_16 N (nI s) (fun μ11 => some (gI μ11 47 s, μ11)) N 0 ν) (fun ν m => ?_) (fun μ hm => ?_)
  · generalize (σ.1 s).2 = cs at *
    generalize (σ.1 s).1 = n at *
    have e2 : nI cs.length / nI 2 = nI (cs.length / 2) := pk_div (by omega) (by omega) (by omega)
    obtain ⟨μ2, ⟨j1, j2, j3, j4⟩, e3⟩ := for_up (fun n i ν => lp_M_flips_16 N (nI s) (fun μ11 => some (gI μ11 47 s, μ11)) n i ν) (fun ν => some (gI ν 47 s, ν)) (cs.length / 2)
      (fun i κ => Fr (mN s) ν κ ∧ gI κ 46 s = nI n ∧ gI κ 47 s = nI cs.length ∧ ∀ j, j < cs.length → gI κ 48 (60 * s + j) = nI (rvf (cl cs) cs.length i j) ∧ gI κ 49 (60 * s + j) = nI (rvf (ch cs) cs.length i j))
      (by
        intro n' i κ hi ⟨i1, i2, i3, i4⟩
        have e4 : nI cs.length - nI 1 - nI i = nI (cs.length - 1 - i) := by rw [pk_sub (by omega), pk_sub (by omega)]
        obtain ⟨ν', e, f', g1, g2⟩ := sM_changes N (a := i) (b := cs.length - 1 - i) κ hs (by omega) (by omega)
        refine ⟨ν', ⟨i1.tr (NM.sub (n := n) f'), by rw [f'.I (by omega)]; exact i2, by rw [f'.I (by omega)]; exact i3, fun j hj => ?_⟩, by simp (disch := omega) [lp_M_flips_16, lt', bnd_some, ck_tt, inb_nI, tn_nI, fa_lit, nI_add, pk_mul, nI_ltI, nI_eq, i3, e2, hi, e4, e]⟩
        rw [g1, g2, (i4 i (by omega)).1, (i4 i (by omega)).2, (i4 (cs.length - 1 - i) (by omega)).1, (i4 (cs.length - 1 - i) (by omega)).2, (i4 j hj).1, (i4 j hj).2]
        constructor
        · rw [← rvf_step (cl cs) (by omega : i + i + 1 < cs.length) hj]
          ((repeat' split) <;> first | rfl | omega | (exfalso; omega) | (congr 1; omega))
        · rw [← rvf_step (ch cs) (by omega : i + i + 1 < cs.length) hj]
          ((repeat' split) <;> first | rfl | omega | (exfalso; omega) | (congr 1; omega)))
      (by
        intro n' κ ⟨i1, i2, i3, i4⟩
        simp (disch := omega) [lp_M_flips_16, lt', bnd_some, ck_tt, inb_nI, tn_nI, fa_lit, nI_add, pk_mul, nI_ltI, nI_eq, i3, e2])
      (cs.length / 2) 0 N ν (by omega) (by omega) ⟨Fr.rf ν, m.1, m.2.1, fun j hj => by
        unfold rvf
        rw [if_neg (by omega), if_neg (by omega)]
        exact m.2.2 j hj⟩
    refine ⟨μ2, by rw [j3] at e3; exact e3, NM.mk j2 j3 (fun j hj => ?_), j1⟩
    rw [(j4 j hj).1, (j4 j hj).2, rvf_end _ (by omega) hj, rvf_end _ (by omega) hj]
    exact ⟨rfl, rfl⟩
  · have m := (hm.thr (v := 0)).1 s hs
    unfold f_M_flips; simp only [lt']; generalize sI μ 44 0 0 = ν at m ⊢
    simp (disch := omega) only [mNet_in N hs, i10, i00, reduceIte, lt', bnd_some, ck_tt, inb_nI, tn_nI, nI_add, pk_mul, nI_ltI, nI_eq]
theorem sNet_reflect (N : Nat) (hN : 10000 ≤ N) {μ : Mem} {p n : Nat} {cs : List (Nat × Nat)} (h : NX μ p n cs) (w : WN n cs) : ∃ μ', f_Net_reflect N p μ = some ((), μ') ∧ NX μ' p n (mk cs.length (fun j => n - 1 - ch cs j) (fun j => n - 1 - cl cs j)) ∧ Fr (rg p (p + 2)) μ μ' := by
  obtain ⟨h0, h1, h2⟩ := h
  have hl := w.2.2.1
  have hn1 := w.1
  have hn2 := w.2.1
  obtain ⟨μ', ⟨i1, i2, i3, i4, i5⟩, e⟩ := for_up (fun n i ν => lp_Net_reflect_2 N p (fun μ10 => some ((), μ10)) n i ν) (fun ν => some ((), ν)) cs.length
    (fun i ν => Fr (rg p (p + 2)) μ ν ∧ gI ν p 0 = nI n ∧ gI ν p 1 = nI cs.length ∧ (∀ j, i ≤ j → j < cs.length → gI ν (p + 1) j = nI (cl cs j) ∧ gI ν (p + 2) j = nI (ch cs j)) ∧ ∀ j, j < i → gI ν (p + 1) j = nI (n - 1 - ch cs j) ∧ gI ν (p + 2) j = nI (n - 1 - cl cs j))
    (by
      intro n' i ν hi ⟨i1, i2, i3, i4, i5⟩
      have a := i4 i (Nat.le_refl _) hi
      have b := w.2.2.2 i hi
      have e1 : nI n - nI 1 - nI (ch cs i) = nI (n - 1 - ch cs i) := by rw [pk_sub (by omega), pk_sub (by omega)]
      have e2 : nI n - nI 1 - nI (cl cs i) = nI (n - 1 - cl cs i) := by rw [pk_sub (by omega), pk_sub (by omega)]
      refine ⟨_, ?_, by simp (disch := omega) [lp_Net_reflect_2, lt', bnd_some, ck_tt, inb_nI, tn_nI, fa_lit, nI_add, pk_mul, nI_ltI, nI_eq, i3, i2, hi, a.1, a.2, e1, e2, gI_sI, gL_sL, gR_sR, gI_sL, gI_sR, gL_sI, gL_sR, gR_sI, gR_sL]; rfl⟩
      refine ⟨(i1.sI (rgi (by omega) (by omega))).sI (rgi (by omega) (by omega)), by simp [gI_sI, gL_sL, gR_sR, gI_sL, gI_sR, gL_sI, gL_sR, gR_sI, gR_sL, i2], by simp [gI_sI, gL_sL, gR_sR, gI_sL, gI_sR, gL_sI, gL_sR, gR_sI, gR_sL, i3], fun j hj hj2 => ?_, fun j hj => ?_⟩
      · have hne : j ≠ i := (by omega)
        have := i4 j (by omega) hj2
        simp [gI_sI, gL_sL, gR_sR, gI_sL, gI_sR, gL_sI, gL_sR, gR_sI, gR_sL, hne, this.1, this.2]
      · by_cases hji : j = i
        · subst hji; simp [gI_sI, gL_sL, gR_sR, gI_sL, gI_sR, gL_sI, gL_sR, gR_sI, gR_sL]
        · have b := i5 j (by omega)
          simp [gI_sI, gL_sL, gR_sR, gI_sL, gI_sR, gL_sI, gL_sR, gR_sI, gR_sL, hji, b.1, b.2])
    (by
      intro n' ν ⟨i1, i2, i3, i4, i5⟩
      simp (disch := omega) [lp_Net_reflect_2, lt', bnd_some, ck_tt, inb_nI, tn_nI, fa_lit, nI_add, pk_mul, nI_ltI, nI_eq, i3])
    cs.length 0 N μ (by omega) (by omega) ⟨Fr.rf μ, h0, h1, fun j _ hj => h2 j hj, fun j hj => by omega⟩
  exact ⟨μ', e, NX.mk i2 i3 i5, i1⟩
theorem wnMir {n : Nat} {cs : List (Nat × Nat)} (w : WN n cs) : WN n (mk cs.length (fun j => n - 1 - ch cs j) (fun j => n - 1 - cl cs j)) := WN.mk w.1 w.2.1 w.2.2.1 (fun j hj => by have := w.2.2.2 j hj; have := w.1; omega)
theorem op_mirrors (N : Nat) (hN : 10000 ≤ N) (x : Int32) : OpEq (f_X_mirrors N x) (f_M_mirrors N x) := by
  refine op_mk (fun μ σ hw hx => ?_)
  rcases ix4 x 4 (by omega) with hs | ⟨s, hs, rfl⟩
  · exact ⟨-1, σ, μ, by simp [f_X_mirrors, isNet_out N hs, bnd_some], hx, Fr.rf μ, hw, op_no (fun μ _ => by simp [f_M_mirrors, mNet_out N hs, bnd_some, lt'])⟩
  have w := hw.1 s hs
  have nx := hx.1 s hs
  have hl := w.2.2.1
  obtain ⟨μ', e, n', f⟩ := sNet_reflect N hN nx w
  refine ⟨nI (σ.1 s).2.length, _, μ', ?_, hx.net f hs n', frX f hs, hw.net (wnMir w), ?_⟩
  · simp (disch := omega) [f_X_mirrors, isNet_in N hs, lt', bnd_some, ck_tt, inb_nI, tn_nI, fa_lit, nI_add, pk_mul, nI_ltI, nI_eq, e, n'.2.1, mk_len]
  refine m_net hw hs (fM := fun ν => lp_M_mirrors_16 N (nI s) (fun μ11 => some (gI μ11 47 s, μ11)) N 0 ν) (fun ν m => ?_) (fun μ hm => ?_)
  · generalize (σ.1 s).2 = cs at *
    generalize (σ.1 s).1 = n at *
    have hn1 := w.1
    have hn2 := w.2.1
    obtain ⟨μ2, ⟨j1, j2, j3, j4, j5⟩, e3⟩ := for_up (fun n i ν => lp_M_mirrors_16 N (nI s) (fun μ11 => some (gI μ11 47 s, μ11)) n i ν) (fun ν => some (gI ν 47 s, ν)) cs.length
      (fun i κ => Fr (mN s) ν κ ∧ gI κ 46 s = nI n ∧ gI κ 47 s = nI cs.length ∧ (∀ j, i ≤ j → j < cs.length → gI κ 48 (60 * s + j) = nI (cl cs j) ∧ gI κ 49 (60 * s + j) = nI (ch cs j)) ∧ ∀ j, j < i → gI κ 48 (60 * s + j) = nI (n - 1 - ch cs j) ∧ gI κ 49 (60 * s + j) = nI (n - 1 - cl cs j))
      (by
        intro n' i κ hi ⟨i1, i2, i3, i4, i5⟩
        have a := i4 i (Nat.le_refl _) hi
        have b := w.2.2.2 i hi
        have e1 : nI n - nI 1 - nI (ch cs i) = nI (n - 1 - ch cs i) := by rw [pk_sub (by omega), pk_sub (by omega)]
        have e2 : nI n - nI 1 - nI (cl cs i) = nI (n - 1 - cl cs i) := by rw [pk_sub (by omega), pk_sub (by omega)]
        refine ⟨_, ?_, by simp (disch := omega) [lp_M_mirrors_16, lt', bnd_some, ck_tt, inb_nI, tn_nI, fa_lit, nI_add, pk_mul, nI_ltI, nI_eq, i3, i2, hi, sM_lowR, sM_highR, sM_sets, a.1, a.2, e1, e2]; rfl⟩
        refine ⟨(i1.sI (by unfold mN; omega)).sI (by unfold mN; omega), by simp [gI_sI, gL_sL, gR_sR, gI_sL, gI_sR, gL_sI, gL_sR, gR_sI, gR_sL, i2], by simp [gI_sI, gL_sL, gR_sR, gI_sL, gI_sR, gL_sI, gL_sR, gR_sI, gR_sL, i3], fun j hj hj2 => ?_, fun j hj => ?_⟩
        · have hne : j ≠ i := (by omega)
          have := i4 j (by omega) hj2
          simp [gI_sI, gL_sL, gR_sR, gI_sL, gI_sR, gL_sI, gL_sR, gR_sI, gR_sL, hne, this.1, this.2]
        · by_cases hji : j = i
          · subst hji; simp [gI_sI, gL_sL, gR_sR, gI_sL, gI_sR, gL_sI, gL_sR, gR_sI, gR_sL]
          · have b := i5 j (by omega)
            simp [gI_sI, gL_sL, gR_sR, gI_sL, gI_sR, gL_sI, gL_sR, gR_sI, gR_sL, hji, b.1, b.2])
      (by
        intro n' κ ⟨i1, i2, i3, i4, i5⟩
        simp (disch := omega) [lp_M_mirrors_16, lt', bnd_some, ck_tt, inb_nI, tn_nI, fa_lit, nI_add, pk_mul, nI_ltI, nI_eq, i3])
      cs.length 0 N ν (by omega) (by omega) ⟨Fr.rf ν, m.1, m.2.1, fun j _ hj => m.2.2 j hj, fun j hj => by omega⟩
    exact ⟨μ2, by rw [j3] at e3; exact e3, NM.mk j2 j3 j5, j1⟩
  · have m := (hm.thr (v := 0)).1 s hs
    unfold f_M_mirrors; simp only [lt']; generalize sI μ 44 0 0 = ν at m ⊢
    simp (disch := omega) only [mNet_in N hs, i10, i00, reduceIte, lt', bnd_some, ck_tt, inb_nI, tn_nI, nI_add, pk_mul, nI_ltI, nI_eq]
theorem op_count (N : Nat) (hN : 10000 ≤ N) (x : Int32) : OpEq (f_X_count N x) (f_M_count N x) := by
  refine op_mk (fun μ σ hw hx => ?_)
  by_cases h0 : x = 0
  · refine ⟨nI σ.2.2.length, σ, μ, ?_, hx, Fr.rf μ, hw, op_no (fun μ hm => ?_)⟩
    · unfold f_X_count; rw [if_pos h0, hx.2.2.1]
    · have m := (hm.thr (v := 0)).2.2.1.1
      unfold f_M_count; simp only [lt']; generalize sI μ 44 0 0 = ν at m ⊢
      rw [if_pos h0, m]
  · by_cases h1 : x = 1
    · refine ⟨nI σ.2.1.length, σ, μ, ?_, hx, Fr.rf μ, hw, op_no (fun μ hm => ?_)⟩
      · unfold f_X_count; rw [if_neg h0, if_pos h1, hx.2.1.1]
      · have m := (hm.thr (v := 0)).2.1.1
        unfold f_M_count; simp only [lt']; generalize sI μ 44 0 0 = ν at m ⊢
        rw [if_neg h0, if_pos h1, m]
    · by_cases h2 : x = 2
      · refine ⟨nI ((σ.1 0).2.length + (σ.1 1).2.length + (σ.1 2).2.length + (σ.1 3).2.length), σ, μ, ?_, hx, Fr.rf μ, hw, op_no (fun μ hm => ?_)⟩
        · unfold f_X_count; rw [if_neg h0, if_neg h1, if_pos h2]
          obtain ⟨N, rfl⟩ : ∃ t, N = t + 5 := ⟨N - 5, (by omega)⟩
          have a0 := (hx.1 0 (by omega)).2.1
          have a1 := (hx.1 1 (by omega)).2.1
          have a2 := (hx.1 2 (by omega)).2.1
          have a3 := (hx.1 3 (by omega)).2.1
          simp (disch := omega) only [Nat.mul_zero, Nat.mul_one, Nat.reduceMul, Nat.reduceAdd] at a0 a1 a2 a3
          simp (disch := omega) [f_X_allComparers, lp_X_allComparers_4, lt', bnd_some, ck_tt, inb_nI, tn_nI, fa_lit, nI_add, pk_mul, nI_ltI, nI_eq, a0, a1, a2, a3]
        · have m := (hm.thr (v := 0)).1
          have a0 := (m 0 (by omega)).2.1
          have a1 := (m 1 (by omega)).2.1
          have a2 := (m 2 (by omega)).2.1
          have a3 := (m 3 (by omega)).2.1
          clear m
          unfold f_M_count
          simp only [lt']
          generalize sI μ 44 0 0 = ν at a0 a1 a2 a3 ⊢
          rw [if_neg h0, if_neg h1, if_pos h2]
          simp (disch := omega) [lt', bnd_some, ck_tt, inb_nI, tn_nI, fa_lit, nI_add, pk_mul, nI_ltI, nI_eq, a0, a1, a2, a3]
      · refine ⟨-1, σ, μ, ?_, hx, Fr.rf μ, hw, op_no (fun μ hm => ?_)⟩
        · unfold f_X_count; rw [if_neg h0, if_neg h1, if_neg h2]
        · unfold f_M_count; simp only [lt']; rw [if_neg h0, if_neg h1, if_neg h2]

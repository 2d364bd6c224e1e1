/-! rest: the call -/
def PT (κ : Mem) (q u d : Nat) (t : List Nat) : Prop := ∀ k, k < d → gI κ q (u + k) = nI (t.getD k 0)
def aPt (q u : Nat) : Nat → Nat → Prop := fun x k => x = q ∧ u ≤ k
theorem PT.cons {κ κ' : Mem} {q u d c : Nat} {t : List Nat} (h : PT κ' q (u + 1) d t) (f : Fr (aPt q (u + 1)) κ κ') (h0 : gI κ q u = nI c) : PT κ' q u (d + 1) (c :: t) := by
  intro k hk
  cases k with
  | zero =>
    rw [Nat.add_zero, f.I (fun z => by unfold aPt at z; omega), h0]; rfl
  | succ k =>
    have := h k (by omega)
    rw [show u + (k + 1) = u + 1 + k by omega, this]; rfl
theorem x_fj (N : Nat) {n d u many S i : Nat} {r : Nat → Option (List Nat)} (F : Int64 → Int32 → Int32 → Int32 → Mem → Option (Int32 × Mem)) (h6 : n ≤ 4) (hS : S < 2 ^ 2 ^ n) (hu : u < 6) (IH : ∀ T κ, T < 2 ^ 2 ^ n → ∃ κ', F (lN T) (nI n) (nI (u + 1)) (nI many) κ = some (if (r T).isSome then 1 else 0, κ') ∧ (∀ t, r T = some t → PT κ' 37 (u + 1) d t) ∧ Fr (aPt 37 (u + 1)) κ κ') (K : Mem → Option (Int32 × Mem)) : ∀ m j n' κ, j + m = n → m < n' → i < j → ∃ κ', Fr (aPt 37 u) κ κ' ∧ (match fpj r S i m j with
      | some t => lp_X_isFinishedBy_46 N (lN S) (nI n) (nI u) (nI many) (nI i) F K n' (nI j) κ = some (1, κ') ∧ PT κ' 37 u (d + 1) t
      | none => lp_X_isFinishedBy_46 N (lN S) (nI n) (nI u) (nI many) (nI i) F K n' (nI j) κ = K κ')
  | 0, j, n' + 1, κ, hj, hn, hi => ⟨κ, Fr.rf κ, by
      rw [fpj]
      show lp_X_isFinishedBy_46 N (lN S) (nI n) (nI u) (nI many) (nI i) F K (n' + 1) (nI j) κ = K κ
      rw [lp_X_isFinishedBy_46, if_neg (nI_nlt (by omega) (by omega))]⟩
  | m + 1, j, n' + 1, κ, hj, hn, hi => by
    have cl' := cmpN_lt (show n ≤ 6 by omega) hS hi (show j < n by omega)
    have f0 : Fr (aPt 37 u) κ (sI κ 37 u (nI (10 * i + j))) := (Fr.rf κ).sI ⟨rfl, Nat.le_refl _⟩
    obtain ⟨κ1, e1, p1, f1⟩ := IH (cmpN S i j) (sI κ 37 u (nI (10 * i + j))) cl'
    have f1' : Fr (aPt 37 u) κ κ1 := f0.tr (f1.mono (fun q k z => by unfold aPt at z ⊢; omega))
    have pre : lp_X_isFinishedBy_46 N (lN S) (nI n) (nI u) (nI many) (nI i) F K (n' + 1) (nI j) κ = if (if (r (cmpN S i j)).isSome then (1 : Int32) else 0) = 0 then (lp_X_isFinishedBy_46 N (lN S) (nI n) (nI u) (nI many) (nI i) F K n' (nI (j + 1)) κ1) else (some (1, κ1)) := by
      have cd : f_X_code N (nI i) (nI j) κ = some (nI (10 * i + j), κ) := by
        unfold f_X_code
        rw [show (10 : Int32) = nI 10 from rfl, pk_mul, nI_add]
      rw [lp_X_isFinishedBy_46, if_pos (nI_lt (by omega) (by omega)), cd, bnd_some, inb_nI hu (by omega), ckE, tn_nI (by omega), ltE, sX_compared N hi (by omega), bnd_some, nI_1 u, e1, bnd_some, ltE, nI_1]
    rw [fpj]
    cases q : r (cmpN S i j) with
    | some t =>
      refine ⟨κ1, f1', ?_, (p1 t q).cons f1 (by rw [gI_sI, if_pos ⟨rfl, rfl⟩])⟩
      rw [pre, q, if_pos (show (some t : Option (List Nat)).isSome = true from rfl), if_neg (by decide)]
    | none =>
      obtain ⟨κ2, f2, r2⟩ := x_fj N (many := many) (S := S) (i := i) F h6 hS hu IH K m (j + 1) n' κ1 (by omega) (by omega) (by omega)
      refine ⟨κ2, f1'.tr f2, ?_⟩
      rw [pre, q, if_neg (show ¬ (none : Option (List Nat)).isSome = true by decide), if_pos rfl]
      exact r2
theorem x_fi (N : Nat) (hN : 10000 ≤ N) {n d u many S : Nat} {r : Nat → Option (List Nat)} (F : Int64 → Int32 → Int32 → Int32 → Mem → Option (Int32 × Mem)) (h1 : 1 ≤ n) (h6 : n ≤ 4) (hS : S < 2 ^ 2 ^ n) (hu : u < 6) (IH : ∀ T κ, T < 2 ^ 2 ^ n → ∃ κ', F (lN T) (nI n) (nI (u + 1)) (nI many) κ = some (if (r T).isSome then 1 else 0, κ') ∧ (∀ t, r T = some t → PT κ' 37 (u + 1) d t) ∧ Fr (aPt 37 (u + 1)) κ κ') : ∀ m i n' κ, i + m = n - 1 → m < n' → ∃ κ', lp_X_isFinishedBy_32 N (lN S) (nI n) (nI u) (nI many) F (fun μ22 => some (0, μ22)) n' (nI i) κ = some (if (fpi n r S m i).isSome then 1 else 0, κ') ∧ (∀ t, fpi n r S m i = some t → PT κ' 37 u (d + 1) t) ∧ Fr (aPt 37 u) κ κ'
  | 0, i, n' + 1, κ, hi, hn => by
    have sb : nI n - 1 = nI (n - 1) := pk_sub (b := 1) h1
    refine ⟨κ, ?_, fun t e => (by rw [fpi] at e; cases e), Fr.rf κ⟩
    rw [lp_X_isFinishedBy_32, sb, if_neg (nI_nlt (by omega) (by omega)), fpi]; rfl
  | m + 1, i, n' + 1, κ, hi, hn => by
    have sb : nI n - 1 = nI (n - 1) := pk_sub (b := 1) h1
    obtain ⟨κ1, f1, r1⟩ := x_fj N (many := many) (S := S) (i := i) F h6 hS hu IH (fun μ20 => lt' (nI i + 1) fun v21 => lp_X_isFinishedBy_32 N (lN S) (nI n) (nI u) (nI many) F (fun μ22 => some (0, μ22)) n' v21 μ20) (n - (i + 1)) (i + 1) N κ (by omega) (by omega) (by omega)
    have pre : lp_X_isFinishedBy_32 N (lN S) (nI n) (nI u) (nI many) F (fun μ22 => some (0, μ22)) (n' + 1) (nI i) κ = lp_X_isFinishedBy_46 N (lN S) (nI n) (nI u) (nI many) (nI i) F (fun μ20 => lt' (nI i + 1) fun v21 => lp_X_isFinishedBy_32 N (lN S) (nI n) (nI u) (nI many) F (fun μ22 => some (0, μ22)) n' v21 μ20) N (nI (i + 1)) κ := by
      rw [lp_X_isFinishedBy_32, sb, if_pos (nI_lt (by omega) (by omega)), ltE, nI_1]
    rw [fpi]
    cases q : fpj r S i (n - (i + 1)) (i + 1) with
    | some t =>
      rw [q] at r1
      refine ⟨κ1, by rw [pre, r1.1]; rfl, fun t' e => ?_, f1⟩
      cases e
      exact r1.2
    | none =>
      rw [q] at r1
      dsimp only at r1 ⊢
      obtain ⟨κ2, e2, p2, f2⟩ := x_fi N hN F h1 h6 hS hu IH m (i + 1) n' κ1 (by omega) (by omega)
      refine ⟨κ2, ?_, p2, f1.tr f2⟩
      rw [pre, r1, ltE, nI_1, e2]
theorem sX_fin (N : Nat) (hN : 10000 ≤ N) {n : Nat} (h1 : 1 ≤ n) (h6 : n ≤ 4) (many : Nat) (hm : many ≤ 6) : ∀ d D u S μ, u + d = many → d < D → S < 2 ^ 2 ^ n → ∃ μ', f_X_isFinishedBy N D (lN S) (nI n) (nI u) (nI many) μ = some (if (fp n d S).isSome then 1 else 0, μ') ∧ (∀ t, fp n d S = some t → PT μ' 37 u d t) ∧ Fr (aPt 37 u) μ μ'
  | 0, D + 1, u, S, μ, hu, hD, hS => by
    have ps := pcn_le S
    have ce : (nI (pcn S) = nI (n + 1)) ↔ pcn S = n + 1 := nI_eq (by omega) (by omega)
    refine ⟨μ, ?_, fun t _ k hk => by omega, Fr.rf μ⟩
    rw [f_X_isFinishedBy, ltE, if_neg (nI_nlt (by omega) (by omega)), sX_pop, bnd_some, nI_1, fp]
    by_cases z : pcn S = n + 1
    · rw [if_pos (ce.mpr z), if_pos z]; rfl
    · rw [if_neg (fun q => z (ce.mp q)), if_neg z]; rfl
  | d + 1, D + 1, u, S, μ, hu, hD, hS => by
    obtain ⟨μ', e, p, f⟩ := x_fi N hN (many := many) (r := fun T => fp n d T) (f_X_isFinishedBy N D) h1 h6 hS (show u < 6 by omega) (fun T κ hT => sX_fin N hN h1 h6 many hm d D (u + 1) T κ (by omega) (by omega) hT) (n - 1) 0 N μ (by omega) (by omega)
    refine ⟨μ', ?_, p, f⟩
    rw [f_X_isFinishedBy, ltE, if_pos (nI_lt (by omega) (by omega)), if_pos (show nI u < Int32.ofNat 6 from nI_lt (b := 6) (by omega) (by omega)), fp]
    exact e
-- the model
theorem m_fj (N : Nat) (hN : 10000 ≤ N) {n d u v S i : Nat} {r : Nat → Option (List Nat)} (F : Int32 → Int64 → Int32 → Int32 → Mem → Option (Int32 × Mem)) (h6 : n ≤ 4) (hS : S < 2 ^ 2 ^ n) (hu : u < 8) (IH : ∀ T κ, T < 2 ^ 2 ^ n → ∃ κ', F (nI n) (lN T) (nI (u + 1)) (nI v) κ = some (if (r T).isSome then 1 else 0, κ') ∧ (∀ t, r T = some t → PT κ' 63 (u + 1) d t) ∧ Fr (aPt 63 (u + 1)) κ κ') (K : Mem → Option (Int32 × Mem)) : ∀ m j n' κ, j + m = n → m < n' → i < j → ∃ κ', Fr (aPt 63 u) κ κ' ∧ (match fpj r S i m j with
      | some t => lp_M_canBe_41 N (nI n) (lN S) (nI u) (nI (v + 1)) (nI i) F K n' (nI j) κ = some (1, κ') ∧ PT κ' 63 u (d + 1) t
      | none => lp_M_canBe_41 N (nI n) (lN S) (nI u) (nI (v + 1)) (nI i) F K n' (nI j) κ = K κ')
  | 0, j, n' + 1, κ, hj, hn, hi => ⟨κ, Fr.rf κ, by
      rw [fpj]
      show lp_M_canBe_41 N (nI n) (lN S) (nI u) (nI (v + 1)) (nI i) F K (n' + 1) (nI j) κ = K κ
      rw [lp_M_canBe_41, if_neg (nI_nlt (by omega) (by omega))]⟩
  | m + 1, j, n' + 1, κ, hj, hn, hi => by
    have cl' := cmpN_lt (show n ≤ 6 by omega) hS hi (show j < n by omega)
    have f0 : Fr (aPt 63 u) κ (sI κ 63 u (nI (10 * i + j))) := (Fr.rf κ).sI ⟨rfl, Nat.le_refl _⟩
    obtain ⟨κ1, e1, p1, f1⟩ := IH (cmpN S i j) (sI κ 63 u (nI (10 * i + j))) cl'
    have f1' : Fr (aPt 63 u) κ κ1 := f0.tr (f1.mono (fun q k z => by unfold aPt at z ⊢; omega))
    have sv : nI (v + 1) - 1 = nI v := nI_pred v
    have pre : lp_M_canBe_41 N (nI n) (lN S) (nI u) (nI (v + 1)) (nI i) F K (n' + 1) (nI j) κ = if (if (r (cmpN S i j)).isSome then (1 : Int32) else 0) = 0 then (lp_M_canBe_41 N (nI n) (lN S) (nI u) (nI (v + 1)) (nI i) F K n' (nI (j + 1)) κ1) else (some (1, κ1)) := by
      rw [lp_M_canBe_41, if_pos (nI_lt (by omega) (by omega)), inb_nI hu (by omega), ckE, tn_nI (by omega), show (10 : Int32) = nI 10 from rfl, pk_mul, nI_add, ltE, sM_comparedAll N hN (show n ≤ 6 by omega) hS hi (by omega), bnd_some, nI_1 u, sv, e1, bnd_some, ltE, nI_1]
    rw [fpj]
    cases q : r (cmpN S i j) with
    | some t =>
      refine ⟨κ1, f1', ?_, (p1 t q).cons f1 (by rw [gI_sI, if_pos ⟨rfl, rfl⟩])⟩
      rw [pre, q, if_pos (show (some t : Option (List Nat)).isSome = true from rfl), if_neg (by decide)]
    | none =>
      obtain ⟨κ2, f2, r2⟩ := m_fj N hN (v := v) (S := S) (i := i) F h6 hS hu IH K m (j + 1) n' κ1 (by omega) (by omega) (by omega)
      refine ⟨κ2, f1'.tr f2, ?_⟩
      rw [pre, q, if_neg (show ¬ (none : Option (List Nat)).isSome = true by decide), if_pos rfl]
      exact r2
theorem m_fi (N : Nat) (hN : 10000 ≤ N) {n d u v S : Nat} {r : Nat → Option (List Nat)} (F : Int32 → Int64 → Int32 → Int32 → Mem → Option (Int32 × Mem)) (h6 : n ≤ 4) (hS : S < 2 ^ 2 ^ n) (hu : u < 8) (hv : v < 100) (IH : ∀ T κ, T < 2 ^ 2 ^ n → ∃ κ', F (nI n) (lN T) (nI (u + 1)) (nI v) κ = some (if (r T).isSome then 1 else 0, κ') ∧ (∀ t, r T = some t → PT κ' 63 (u + 1) d t) ∧ Fr (aPt 63 (u + 1)) κ κ') : ∀ m i n' κ, i + m = n → m < n' → ∃ κ', lp_M_canBe_24 N (nI n) (lN S) (nI u) (nI (v + 1)) F (fun μ18 => some (0, μ18)) n' (nI i) κ = some (if (fpi n r S m i).isSome then 1 else 0, κ') ∧ (∀ t, fpi n r S m i = some t → PT κ' 63 u (d + 1) t) ∧ Fr (aPt 63 u) κ κ'
  | 0, i, n' + 1, κ, hi, hn => by
    refine ⟨κ, ?_, fun t e => (by rw [fpi] at e; cases e), Fr.rf κ⟩
    rw [lp_M_canBe_24, if_neg (nI_nlt (by omega) (by omega)), fpi]; rfl
  | m + 1, i, n' + 1, κ, hi, hn => by
    obtain ⟨κ1, f1, r1⟩ := m_fj N hN (v := v) (S := S) (i := i) F h6 hS hu IH (fun μ16 => lt' (nI i + 1) fun v17 => lp_M_canBe_24 N (nI n) (lN S) (nI u) (nI (v + 1)) F (fun μ18 => some (0, μ18)) n' v17 μ16) (n - (i + 1)) (i + 1) N κ (by omega) (by omega) (by omega)
    have pre : lp_M_canBe_24 N (nI n) (lN S) (nI u) (nI (v + 1)) F (fun μ18 => some (0, μ18)) (n' + 1) (nI i) κ = lp_M_canBe_41 N (nI n) (lN S) (nI u) (nI (v + 1)) (nI i) F (fun μ16 => lt' (nI i + 1) fun v17 => lp_M_canBe_24 N (nI n) (lN S) (nI u) (nI (v + 1)) F (fun μ18 => some (0, μ18)) n' v17 μ16) N (nI (i + 1)) κ := by
      rw [lp_M_canBe_24, if_pos (nI_lt (by omega) (by omega)), if_pos (show (0 : Int32) < nI (v + 1) from nI_lt (a := 0) (by omega) (by omega)), ltE, nI_1 i]
    rw [fpi]
    cases q : fpj r S i (n - (i + 1)) (i + 1) with
    | some t =>
      rw [q] at r1
      refine ⟨κ1, by rw [pre, r1.1]; rfl, fun t' e => ?_, f1⟩
      cases e
      exact r1.2
    | none =>
      rw [q] at r1
      dsimp only at r1 ⊢
      obtain ⟨κ2, e2, p2, f2⟩ := m_fi N hN F h6 hS hu hv IH m (i + 1) n' κ1 (by omega) (by omega)
      refine ⟨κ2, ?_, p2, f1.tr f2⟩
      rw [pre, r1, ltE, nI_1, e2]
theorem sM_fin (N : Nat) (hN : 10000 ≤ N) {n : Nat} (h1 : 1 ≤ n) (h6 : n ≤ 4) : ∀ d D u S μ, u + d < 8 → d < D → S < 2 ^ 2 ^ n → ∃ μ', f_M_canBe N D (nI n) (lN S) (nI u) (nI d) μ = some (if (cb n d S).isSome then 1 else 0, μ') ∧ (∀ t, cb n d S = some t → PT μ' 63 u d t) ∧ Fr (aPt 63 u) μ μ'
  | 0, D + 1, u, S, μ, hu, hD, hS => by
    have ps := pcn_le S
    have ce : (nI (pcn S) = nI (n + 1)) ↔ pcn S = n + 1 := nI_eq (by omega) (by omega)
    refine ⟨μ, ?_, fun t _ k hk => by omega, Fr.rf μ⟩
    rw [f_M_canBe, sM_pop, bnd_some, nI_1, cb]
    by_cases z : pcn S = n + 1
    · rw [if_pos (ce.mpr z), if_pos z, if_pos (by decide)]; rfl
    · obtain ⟨N', rfl⟩ : ∃ k, N = k + 1 := ⟨N - 1, (by omega)⟩
      rw [if_neg (fun q => z (ce.mp q)), if_neg z, lp_M_canBe_24, if_pos (show (0 : Int32) < nI n from nI_lt (a := 0) (by omega) (by omega)), if_neg (by decide)]; rfl
  | d + 1, D + 1, u, S, μ, hu, hD, hS => by
    have ps := pcn_le S
    have ce : (nI (pcn S) = nI (n + 1)) ↔ pcn S = n + 1 := nI_eq (by omega) (by omega)
    by_cases z : pcn S = n + 1
    · refine ⟨μ, ?_, fun t e => (by rw [cb, if_pos z] at e; cases e), Fr.rf μ⟩
      have ne : ¬ nI (d + 1) = 0 := fun q => by have := (nI_eq (b := 0) (by omega) (by omega)).mp q; omega
      rw [f_M_canBe, sM_pop, bnd_some, nI_1, if_pos (ce.mpr z), if_neg ne, cb, if_pos z]; rfl
    · obtain ⟨μ', e, p, f⟩ := m_fi N hN (v := d) (r := fun T => cb n d T) (f_M_canBe N D) h6 hS (show u < 8 by omega) (by omega) (fun T κ hT => sM_fin N hN h1 h6 d D (u + 1) T κ (by omega) (by omega) hT) n 0 N μ (by omega) (by omega)
      refine ⟨μ', ?_, fun t e => p t (by rw [cb, if_neg z] at e; exact e), f⟩
      rw [f_M_canBe, sM_pop, bnd_some, nI_1, if_neg (fun q => z (ce.mp q)), cb, if_neg z]
      exact e
theorem op_rest (N : Nat) (hN : 10000 ≤ N) (x : Int32) : OpEq (f_X_rest N x) (f_M_rest N x) := by
  refine op_of (-1) (fun x h μ => by simp [f_X_rest, isNet_out N h, bnd_some]) (fun x h μ => by simp [f_M_rest, mNet_out N h, bnd_some, lt']) (fun s hs μ σ hw hx => ?_) x
  have w := hw.1 s hs
  have nx' := hx.1 s hs
  generalize hcs : (σ.1 s).2 = cs at *
  generalize hnn : (σ.1 s).1 = n at *
  have h8 := w.2.1
  have n2 := w.1
  have c4 : ((4 : Int32) < nI n) ↔ 4 < n := nI_ltI (a := 4) (by omega) (by omega)
  by_cases z : 4 < n
  · refine g_no hw hx (-2) ?_ (fun μ ν hν hm => ?_)
    · unfold f_X_rest
      rw [isNet_in N hs, bnd_some, if_neg (by decide), inb_nI hs (by omega), ckE, tn_nI (by omega), nx'.1, ltE, if_pos (c4.mpr z)]
    · have m := hm.1 s hs
      rw [hcs, hnn] at m
      unfold f_M_rest
      rw [ltE, ← hν, mNet_in N hs, bnd_some, if_neg (by decide), inb_nI hs (by omega), ckE, tn_nI (by omega), m.1, if_pos (c4.mpr z)]
  have h4 : n ≤ 4 := (by omega)
  have lt := imN_lt w (show n ≤ 6 by omega)
  obtain ⟨M, m5, mne, mno⟩ := rest_ex w h4
  generalize hS : imN n cs = S at *
  obtain ⟨t, ht⟩ : ∃ t, fp n M S = some t := by
    cases q : fp n M S with
    | none => exact absurd q mne
    | some t => exact ⟨t, rfl⟩
  have cbe : ∀ d, d ≤ M → cb n d S = fp n d S := fun d hd => cb_fp (by omega) d S (fun e he => mno e (by omega))
  refine g_q hw hx (nI M) (rwl (fun k => t.getD k 0) M) (by rw [rwl_len]; omega) ?_ (fun μ ν hν hm => ?_)
  · obtain ⟨μ1, e1, f1⟩ := sX_smallImage N hN nx' w (show n ≤ 6 by omega) (by omega)
    rw [hS] at e1
    have key : ∀ (K : Int32 → Mem → Option (Int32 × Mem)) (r a n' : Nat) (κ : Mem), a + r = M → r < n' → ∃ κ', lp_X_rest_41 N (nI n) (lN S) K n' (nI a) κ = K (nI M) κ' ∧ PT κ' 37 0 M t ∧ Fr (rg 37 37) κ κ' := by
      intro K r
      induction r with
      | zero =>
        intro a n' κ ha hn
        obtain ⟨n', rfl⟩ : ∃ k, n' = k + 1 := ⟨n' - 1, (by omega)⟩
        have : a = M := (by omega)
        subst this
        obtain ⟨κ1, e', p', f'⟩ := sX_fin N hN (n := n) (by omega) h4 a (by omega) a 12 0 S κ (by omega) (by omega) lt
        rw [ht] at e' p'
        have e'' : f_X_isFinishedBy N 12 (lN S) (nI n) 0 (nI a) κ = some (1, κ1) := e'
        exact ⟨κ1, by rw [lp_X_rest_41, if_pos (show nI a < 6 from nI_lt (b := 6) (by omega) (by omega)), e'', bnd_some, if_neg (by decide)], p' t rfl, f'.mono (fun q k z => by unfold aPt at z; exact ⟨by omega, by omega⟩)⟩
      | succ r ih =>
        intro a n' κ ha hn
        obtain ⟨n', rfl⟩ : ∃ k, n' = k + 1 := ⟨n' - 1, (by omega)⟩
        obtain ⟨κ1, e', p', f'⟩ := sX_fin N hN (n := n) (by omega) h4 a (by omega) a 12 0 S κ (by omega) (by omega) lt
        rw [mno a (by omega)] at e'
        have e'' : f_X_isFinishedBy N 12 (lN S) (nI n) 0 (nI a) κ = some (0, κ1) := e'
        obtain ⟨κ2, e2, p2, f2⟩ := ih (a + 1) n' κ1 (by omega) (by omega)
        refine ⟨κ2, ?_, p2, (f'.mono (fun q k z => by unfold aPt at z; exact ⟨by omega, by omega⟩)).tr f2⟩
        rw [lp_X_rest_41, if_pos (show nI a < 6 from nI_lt (b := 6) (by omega) (by omega)), e'', bnd_some, if_pos rfl, ltE, nI_1]
        exact e2
    obtain ⟨μ2, e2, p2, f2⟩ := key (fun v15 μ16 => bnd (f_X_tellFirst N 37 6 v15 μ16) fun _ μ18 => some (v15, μ18)) M 0 N μ1 (by omega) (by omega)
    have vf : VF μ2 37 M (fun k => t.getD k 0) := fun k hk => by
      have := p2 k hk
      rw [Nat.zero_add] at this
      exact this
    obtain ⟨μ3, e3, r3, f3⟩ := sX_tellFirst N hN (m := 6) vf (by omega) (by omega) (by omega)
    refine ⟨μ3, ?_, r3, ((f1.wide (by omega) (by omega)).tr (f2.wide (by omega) (by omega))).tr (f3.wide (by omega) (by omega))⟩
    unfold f_X_rest
    rw [isNet_in N hs, bnd_some, if_neg (by decide), inb_nI hs (by omega), ckE, tn_nI (by omega), nx'.1, ltE, if_neg (fun q => z (c4.mp q)), ckE, e1, bnd_some]
    refine Eq.trans e2 ?_
    rw [e3, bnd_some]
  · have m := hm.1 s hs
    rw [hcs, hnn] at m
    obtain ⟨ν1, g1, h1⟩ := sM_imageOf N hN m w hs (show n ≤ 6 by omega)
    rw [hS] at g1
    have m1 := m.fr h1 (fun q k _ _ z => by unfold mB at z; omega)
    have key : ∀ (K : Int32 → Mem → Option (Int32 × Mem)) (r a n' : Nat) (κ : Mem), NM κ s n cs → a + r = M → r < n' → ∃ κ', lp_M_rest_36 N (nI s) (lN S) K n' (nI a) κ = K (nI M) κ' ∧ PT κ' 63 0 M t ∧ Fr (rg 63 63) κ κ' := by
      intro K r
      induction r with
      | zero =>
        intro a n' κ mk ha hn
        obtain ⟨n', rfl⟩ : ∃ k, n' = k + 1 := ⟨n' - 1, (by omega)⟩
        have : a = M := (by omega)
        subst this
        obtain ⟨κ1, e', p', f'⟩ := sM_fin N hN (n := n) (by omega) h4 a 12 0 S κ (by omega) (by omega) lt
        rw [cbe a (Nat.le_refl _), ht] at e' p'
        have e'' : f_M_canBe N 12 (nI n) (lN S) 0 (nI a) κ = some (1, κ1) := e'
        exact ⟨κ1, by rw [lp_M_rest_36, inb_nI hs (by omega), ckE, tn_nI (by omega), mk.1, e'', bnd_some, if_neg (by decide)], p' t rfl, f'.mono (fun q k z => by unfold aPt at z; exact ⟨by omega, by omega⟩)⟩
      | succ r ih =>
        intro a n' κ mk ha hn
        obtain ⟨n', rfl⟩ : ∃ k, n' = k + 1 := ⟨n' - 1, (by omega)⟩
        obtain ⟨κ1, e', p', f'⟩ := sM_fin N hN (n := n) (by omega) h4 a 12 0 S κ (by omega) (by omega) lt
        rw [cbe a (by omega), mno a (by omega)] at e'
        have e'' : f_M_canBe N 12 (nI n) (lN S) 0 (nI a) κ = some (0, κ1) := e'
        have mk1 := mk.fr f' (fun q k _ _ z => by unfold aPt at z; omega)
        obtain ⟨κ2, e2, p2, f2⟩ := ih (a + 1) n' κ1 mk1 (by omega) (by omega)
        refine ⟨κ2, ?_, p2, (f'.mono (fun q k z => by unfold aPt at z; exact ⟨by omega, by omega⟩)).tr f2⟩
        rw [lp_M_rest_36, inb_nI hs (by omega), ckE, tn_nI (by omega), mk.1, e'', bnd_some, if_pos rfl, ltE, nI_1]
        exact e2
    obtain ⟨ν2, g2, p2, h2⟩ := key (fun v14 μ15 => lt' (sI μ15 44 1 0) fun μ16 => lp_M_rest_67 N v14 (fun μ22 => some (v14, μ22)) N 0 μ16) M 0 N ν1 m1 (by omega) (by omega)
    obtain ⟨r3, h3⟩ := sM_told0 ν2
    obtain ⟨ν4, ⟨r4, h4'⟩, g4⟩ := for_up (fun n' i κ => lp_M_rest_67 N (nI M) (fun μ22 => some (nI M, μ22)) n' i κ) (fun μ22 => some (nI M, μ22)) M (fun i κ => RM κ (rwl (fun k => t.getD k 0) i) ∧ Fr mR (sI ν2 44 1 0) κ)
      (by
        intro n' i κ hi ⟨i1, i2⟩
        obtain ⟨κ', e', r', f'⟩ := sM_enters N (nI (t.getD i 0)).toInt64 i1 (by rw [rwl_len]; omega)
        refine ⟨κ', ⟨by rw [rwl_succ]; exact r', i2.tr f'⟩, ?_⟩
        have pv := p2 i hi
        rw [Nat.zero_add] at pv
        rw [lp_M_rest_67, if_pos (nI_lt hi (by omega)), inb_nI (by omega) (by omega), ckE, tn_nI (by omega), i2.I (fun z => by unfold mR at z; omega), h3.I (fun z => by unfold mR at z; omega), pv, e', bnd_some, ltE, nI_1])
      (by
        intro n' κ _
        rw [lp_M_rest_67, if_neg (nI_nlt (Nat.le_refl _) (by omega))])
      M 0 N (sI ν2 44 1 0) (by omega) (by omega) ⟨r3, Fr.rf _⟩
    refine ⟨ν4, ?_, r4, (((mS_mQ (mB_mS h1)).tr (h2.mono (fun q k z => by unfold rg at z; unfold mQ; omega))).tr (mR_mQ h3)).tr (mR_mQ h4')⟩
    unfold f_M_rest
    rw [ltE, ← hν, mNet_in N hs, bnd_some, if_neg (by decide), inb_nI hs (by omega), ckE, tn_nI (by omega), m.1, if_neg (fun q => z (c4.mp q)), g1, bnd_some]
    refine Eq.trans g2 ?_
    rw [ltE]
    exact g4

/-! least and shallow: the model's whole -/
def NZ (l : List Nat) : Prop := ∀ s ∈ l, s ≠ 0
theorem cmpN_nz {n S i j : Nat} (h6 : n ≤ 6) (hS : S < 2 ^ 2 ^ n) (hz : S ≠ 0) (hi : i < j) (hj : j < n) : cmpN S i j ≠ 0 := by
  obtain ⟨p, hp⟩ := Nat.exists_testBit_of_ne_zero hz
  have p1 := set_t hS hp
  have p2 : 2 ^ n ≤ 2 ^ 6 := Nat.pow_le_pow_right (by decide) h6
  have q1 : cmp p i j < 2 ^ 6 := cmp_lt (by omega) (by omega) (by omega)
  have t := (cmpN_t (s := S) hi (show j < 6 by omega) (show cmp p i j < 64 by omega)).mpr ⟨p, (by omega), hp, rfl⟩
  intro e
  rw [e, Nat.zero_testBit] at t
  cases t
theorem stS_nz {n : Nat} (h6 : n ≤ 6) : ∀ (l : List (Nat × Nat)) (S : Nat), (∀ c ∈ l, c.1 < c.2 ∧ c.2 < n) → S < 2 ^ 2 ^ n → S ≠ 0 → stS l S ≠ 0
  | [], S, _, _, h => h
  | c :: l, S, hc, hS, h => by
    obtain ⟨c1', c2'⟩ := hc c List.mem_cons_self
    rw [stS]
    exact stS_nz h6 l _ (fun x hx => hc x (List.mem_cons_of_mem _ hx)) (cmpN_lt h6 hS c1' c2') (cmpN_nz h6 hS h c1' c2')
theorem nz_cns {n : Nat} {W : Nat → Nat → Bool} {fr : List Nat} {S : Nat} (hf : NZ fr) (hS : S ≠ 0) : NZ (cns n W fr S) := by
  unfold cns
  split
  · exact hf
  · intro s hs
    rcases List.mem_append.mp hs with h | h
    · exact hf s (List.mem_filter.mp h).1
    · rw [List.mem_singleton] at h
      subst h; exact hS
theorem nz_fC {n : Nat} {W : Nat → Nat → Bool} : ∀ {cd fr : List Nat}, NZ cd → NZ fr → NZ (fCd n W cd fr)
  | [], fr, _, hf => hf
  | S :: l, fr, hc, hf => by
    rw [fCd]
    exact nz_fC (fun x hx => hc x (List.mem_cons_of_mem _ hx)) (nz_cns hf (hc S List.mem_cons_self))
theorem nz_cnd {n : Nat} (h6 : n ≤ 6) {ms : List (List (Nat × Nat))} (hm : MSok n ms) {S : Nat} (hS : S < 2 ^ 2 ^ n) (hz : S ≠ 0) : NZ (cnd1 ms S) := by
  intro s hs
  unfold cnd1 at hs
  obtain ⟨l, hl, rfl⟩ := List.mem_map.mp hs
  exact stS_nz h6 l S (hm l hl) hS hz
theorem nz_fK {n : Nat} {W : Nat → Nat → Bool} (h6 : n ≤ 6) {ms : List (List (Nat × Nat))} (hm : MSok n ms) : ∀ {ke fr : List Nat}, BS n ke → NZ ke → NZ fr → NZ (fK n W ms ke fr)
  | [], fr, _, _, hf => hf
  | S :: l, fr, hb, hz, hf => by
    rw [fK]
    exact nz_fK h6 hm (fun x hx => hb x (List.mem_cons_of_mem _ hx)) (fun x hx => hz x (List.mem_cons_of_mem _ hx)) (nz_fC (nz_cnd h6 hm (hb S List.mem_cons_self) (hz S List.mem_cons_self)) hf)
theorem mvs_ok {n : Nat} (h : n ≤ 5) (lay : Bool) : MSok n (mvs n lay) := by rw [← mkl_eq h lay]; exact ms_ok h lay
theorem lN_nz {x : Nat} (h : x < 2 ^ 64) (hz : x ≠ 0) : lN x ≠ 0 := by
  obtain ⟨p, hp⟩ := Nat.exists_testBit_of_ne_zero hz
  have p1 : p < 64 := by
    rcases Nat.lt_or_ge p 64 with q | q
    · exact q
    · rw [Nat.testBit_lt_two_pow (Nat.lt_of_lt_of_le h (Nat.pow_le_pow_right (by decide) q))] at hp; cases hp
  intro e
  have t := lb_lN x p p1
  have t0 := lb_lN 0 p p1
  rw [e] at t
  rw [show lN 0 = 0 from rfl] at t0
  rw [hp, t0, Nat.zero_testBit] at t
  cases t
theorem sM_offersEach (N : Nat) (hN : 10000 ≤ N) {n S a b : Nat} {fr : List Nat} {κ : Mem} (h1 : 1 ≤ n) (h5 : n ≤ 5) (hS : S < 2 ^ 2 ^ n) (hf : BS n fr) (hl : fr.length ≤ 60) (hc : capC n (Wi n) (cnd1 (mvs n false) S) fr) (hk : RK κ a b) (h : LSt κ b 44 30 fr) : ∃ κ', f_M_offersEach N (nI n) (lN S) κ = some ((), κ') ∧ LSt κ' b 44 30 (fCd n (Wi n) (cnd1 (mvs n false) S) fr) ∧ Fr (mF2 b) κ κ' := by
  rw [cnd_f, ← prr_prs n (by omega)] at hc ⊢
  unfold f_M_offersEach
  exact l_oe3 N hN h1 (show n ≤ 6 by omega) hS n 0 N fr κ (by omega) (by omega) hf hl hc hk h
def lyl (n : Nat) : Nat → Nat → List (List (Nat × Nat))
  | _, 0 => []
  | m, r + 1 => if dis (tk (prs n) m) 0 then tk (prs n) m :: lyl n (m + 1) r else lyl n (m + 1) r
theorem lyl_eq : ∀ n, n < 6 → lyl n 1 (2 ^ (prs n).length - 1) = mvs n true := by decide +kernel
theorem sh_n : ∀ n, n < 6 → shlI 1 ((nI n * (nI n - 1)) / 2) = nI (2 ^ (prs n).length) := by decide +kernel
theorem l_ol (N : Nat) (hN : 10000 ≤ N) {n S a b : Nat} (h1 : 1 ≤ n) (h5 : n ≤ 5) (hS : S < 2 ^ 2 ^ n) (hz : S ≠ 0) (K : Mem → Option (Unit × Mem)) : ∀ (r m n' : Nat) (fr : List Nat) (κ : Mem), m + r = 2 ^ (prs n).length → r < n' → BS n fr → fr.length ≤ 60 → capC n (Wi n) (cnd1 (lyl n m r) S) fr → RK κ a b → LSt κ b 44 30 fr → ∃ κ', lp_M_offersLayers_3 N (nI n) (lN S) K n' (nI m) κ = K κ' ∧ LSt κ' b 44 30 (fCd n (Wi n) (cnd1 (lyl n m r) S) fr) ∧ Fr (mF2 b) κ κ'
  | 0, m, n' + 1, fr, κ, hm, hn, hb, hl, hc, hk, h => by
    have p10 : 2 ^ (prs n).length ≤ 2 ^ 10 := Nat.pow_le_pow_right (by decide) (prs_ok n (by omega)).1
    exact ⟨κ, by rw [lp_M_offersLayers_3, sh_n n (by omega), if_neg (nI_nlt (by omega) (by omega))], h, Fr.rf κ⟩
  | r + 1, m, n' + 1, fr, κ, hm, hn, hb, hl, hc, hk, h => by
    have p10 : 2 ^ (prs n).length ≤ 2 ^ 10 := Nat.pow_le_pow_right (by decide) (prs_ok n (by omega)).1
    have kk := hk.k
    have tko := tk_ok (prs n) m (prs_ok n (by omega)).2
    have st := stS_lt (show n ≤ 6 by omega) (tk (prs n) m) S tko hS
    have sz := stS_nz (show n ≤ 6 by omega) (tk (prs n) m) S tko hS hz
    have la := sM_layered N hN h5 hS (show m < 2 ^ 20 by omega) κ
    rw [lyl] at hc ⊢
    by_cases z : dis (tk (prs n) m) 0 = true
    · rw [if_pos z] at hc la ⊢
      have hc' : capC n (Wi n) (stS (tk (prs n) m) S :: cnd1 (lyl n (m + 1) r) S) fr := hc
      rw [capC] at hc'
      obtain ⟨κ1, e1, l1, f1⟩ := sM_offers N hN h1 (show n ≤ 6 by omega) st hb hl hk h
      obtain ⟨κ2, e2, l2, f2⟩ := l_ol N hN (a := a) (b := b) h1 h5 hS hz K r (m + 1) n' _ κ1 (by omega) (by omega) (bs_cns hb st) hc'.1 hc'.2 (hk.fr f1 (fun z => by unfold mF2 at z; omega) (fun z => by unfold mF2 at z; omega)) l1
      refine ⟨κ2, ?_, l2, f1.tr f2⟩
      have ne : ¬ lg_cmp (lN (stS (tk (prs n) m) S)) 0 = 0 := fun q => lN_nz (set64 (show n ≤ 6 by omega) st) sz (lg_eq.mp q)
      rw [lp_M_offersLayers_3, sh_n n (by omega), if_pos (nI_lt (by omega) (by omega)), la, bnd_some, ltE, if_neg ne, e1, bnd_some]
      dsimp only
      rw [ltE, nI_1]
      exact e2
    · rw [if_neg z] at hc la ⊢
      obtain ⟨κ2, e2, l2, f2⟩ := l_ol N hN (a := a) (b := b) h1 h5 hS hz K r (m + 1) n' fr κ (by omega) (by omega) hb hl hc hk h
      refine ⟨κ2, ?_, l2, f2⟩
      rw [lp_M_offersLayers_3, sh_n n (by omega), if_pos (nI_lt (by omega) (by omega)), la, bnd_some, ltE, if_pos (lg_eq.mpr rfl)]
      dsimp only
      rw [ltE, nI_1]
      exact e2
theorem sM_offersLayers (N : Nat) (hN : 10000 ≤ N) {n S a b : Nat} {fr : List Nat} {κ : Mem} (h1 : 1 ≤ n) (h5 : n ≤ 5) (hS : S < 2 ^ 2 ^ n) (hz : S ≠ 0) (hf : BS n fr) (hl : fr.length ≤ 60) (hc : capC n (Wi n) (cnd1 (mvs n true) S) fr) (hk : RK κ a b) (h : LSt κ b 44 30 fr) : ∃ κ', f_M_offersLayers N (nI n) (lN S) κ = some ((), κ') ∧ LSt κ' b 44 30 (fCd n (Wi n) (cnd1 (mvs n true) S) fr) ∧ Fr (mF2 b) κ κ' := by
  have p10 : 2 ^ (prs n).length ≤ 2 ^ 10 := Nat.pow_le_pow_right (by decide) (prs_ok n (by omega)).1
  have pp := Nat.two_pow_pos (prs n).length
  rw [← lyl_eq n (by omega)] at hc ⊢
  unfold f_M_offersLayers
  exact l_ol N hN h1 h5 hS hz (fun μ10 => some ((), μ10)) (2 ^ (prs n).length - 1) 1 N fr κ (by omega) (by omega) hf hl hc hk h
theorem l_f38 (N : Nat) (hN : 10000 ≤ N) {n a b : Nat} (lay : Bool) {kept : List Nat} (h1 : 1 ≤ n) (h5 : n ≤ 5) (hkb : BS n kept) (hkz : NZ kept) (hkl : kept.length ≤ 60) (K : Mem → Option (Int32 × Mem)) : ∀ (rest : List Nat) (k n' : Nat) (fr : List Nat) (κ : Mem), kept.drop k = rest → k ≤ 60 → rest.length < n' → BS n fr → fr.length ≤ 60 → capK n (Wi n) (mvs n lay) rest fr → RK κ a b → LSt κ b 44 30 fr → LSt κ a 44 29 kept → ∃ κ', lp_M_fewest_38 N (nI n) (gI' lay) K n' (nI k) κ = K κ' ∧ LSt κ' b 44 30 (fK n (Wi n) (mvs n lay) rest fr) ∧ (fK n (Wi n) (mvs n lay) rest fr).length ≤ 60 ∧ Fr (mF2 b) κ κ'
  | [], k, n' + 1, fr, κ, hd, hk6, hn, hb, hl, hc, hk, h, hg => by
    have := drop_n hd
    exact ⟨κ, by rw [lp_M_fewest_38, hg.1, if_neg (nI_nlt this (by omega))], h, hl, Fr.rf κ⟩
  | S :: rest, k, n' + 1, fr, κ, hd, hk6, hn, hb, hl, hc, hk, h, hg => by
    obtain ⟨ka, kb, b1, b2, a1, a2, ab⟩ := hk.k
    obtain ⟨d1, d2, d3⟩ := drop_c kept k rest hd
    have mS' : S ∈ kept := by rw [← d2]; exact getD_mem d1
    have hS := hkb S mS'
    rw [capK] at hc
    have gv : gL κ a k = lN S := by rw [hg.2 k d1, d2]
    have go : ∃ κ1, (if gI' lay = 0 then f_M_offersEach N (nI n) (lN S) κ else f_M_offersLayers N (nI n) (lN S) κ) = some ((), κ1) ∧ LSt κ1 b 44 30 (fCd n (Wi n) (cnd1 (mvs n lay) S) fr) ∧ Fr (mF2 b) κ κ1 := by
      cases lay with
      | false => rw [if_pos (by decide)]; exact sM_offersEach N hN h1 h5 hS hb hl hc.1 hk h
      | true => rw [if_neg (by decide)]; exact sM_offersLayers N hN h1 h5 hS (hkz S mS') hb hl hc.1 hk h
    obtain ⟨κ1, e1, l1, f1⟩ := go
    obtain ⟨κ2, e2, l2, ln2, f2⟩ := l_f38 N hN (a := a) (b := b) lay h1 h5 hkb hkz hkl K rest (k + 1) n' _ κ1 d3 (by omega) (by rw [List.length_cons] at hn; omega) (bs_fC (bs_cnd (show n ≤ 6 by omega) (mvs_ok h5 lay) hS) hb) (fCd_len hc.1 hl) hc.2 (hk.fr f1 (fun z => by unfold mF2 at z; omega) (fun z => by unfold mF2 at z; omega)) l1 (hg.fr f1 (fun z => by unfold mF2 at z; omega) (fun k z => by unfold mF2 at z; omega))
    refine ⟨κ2, ?_, l2, ln2, f1.tr f2⟩
    rw [lp_M_fewest_38, hg.1, if_pos (nI_lt d1 (by omega)), ltE, hk.1, ka, ckE, ckE, inb_nI (show k < 2000 by omega) (by omega), ckE, ckE, tn_nI (by omega), gv]
    by_cases z : gI' lay = 0
    · rw [if_pos z] at e1 ⊢
      rw [e1, bnd_some]
      dsimp only
      rw [ltE, nI_1]
      exact e2
    · rw [if_neg z] at e1 ⊢
      rw [e1, bnd_some]
      dsimp only
      rw [ltE, nI_1]
      exact e2
theorem sM_isDone (N : Nat) (hN : 10000 ≤ N) {n a b : Nat} {kept : List Nat} {κ : Mem} (h5 : n ≤ 5) (hkl : kept.length ≤ 60) (hk : RK κ a b) (hg : LSt κ a 44 29 kept) : f_M_isDone N (nI n) κ = some (if ovr n kept then 1 else 0, κ) := by
  obtain ⟨ka, kb, b1, b2, a1, a2, ab⟩ := hk.k
  unfold f_M_isDone
  obtain ⟨⟨v, κ1⟩, ⟨k1, k2⟩, e⟩ := for_up (fun n' i (z : Int32 × Mem) => lp_M_isDone_4 N (nI n) (fun v14 μ15 => ck (isb v14) (some (v14, μ15))) n' z.1 i z.2) (fun z => ck (isb z.1) (some (z.1, z.2))) kept.length (fun i z => z.1 = gI' (ovr n (kept.take i)) ∧ z.2 = κ)
    (by
      intro n' i ⟨v, ν⟩ hi ⟨i1, i2⟩
      dsimp only at i1 i2
      subst i1; subst i2
      have p := pcn_le (kept.getD i 0)
      have ce : (nI (pcn (kept.getD i 0)) = nI (n + 1)) ↔ pcn (kept.getD i 0) = n + 1 := nI_eq (by omega) (by omega)
      have ts : ovr n (kept.take (i + 1)) = (ovr n (kept.take i) || decide (pcn (kept.getD i 0) = n + 1)) := by
        unfold ovr
        rw [take_sn kept hi, List.any_append, List.any_cons, List.any_nil, Bool.or_false]
      refine ⟨(gI' (ovr n (kept.take (i + 1))), ν), ⟨rfl, rfl⟩, ?_⟩
      dsimp only
      rw [lp_M_isDone_4, hg.1, if_pos (nI_lt hi (by omega)), ltE, ltE, hk.1, ka, ckE, inb_nI (show i < 2000 by omega) (by omega), ckE, tn_nI (by omega), hg.2 i hi, sM_pop, bnd_some, nI_1, ts]
      dsimp only
      cases q : ovr n (kept.take i) with
      | true =>
        rw [if_neg (show ¬ gI' true = 0 by decide), Bool.true_or, ltE, nI_1]
        rfl
      | false =>
        rw [if_pos (show gI' false = 0 by decide), Bool.false_or]
        by_cases z : pcn (kept.getD i 0) = n + 1
        · rw [if_pos (ce.mpr z), decide_eq_true z, ltE, nI_1]; rfl
        · rw [if_neg (fun q => z (ce.mp q)), decide_eq_false z, ltE, nI_1]; rfl)
    (by
      intro n' ⟨v, ν⟩ ⟨i1, i2⟩
      dsimp only at i1 i2 ⊢
      subst i2
      rw [lp_M_isDone_4, hg.1, if_neg (nI_nlt (Nat.le_refl _) (by omega))])
    kept.length 0 N (0, κ) (by omega) (by omega) ⟨rfl, rfl⟩
  dsimp only at k1 k2 e
  subst k1; subst k2
  rw [List.take_length] at e
  refine Eq.trans e ?_
  cases ovr n kept <;> rfl
/-- what the search of the model writes -/
def mF3 : Nat → Nat → Prop := fun q k => q = 61 ∨ q = 62 ∨ q = 59 ∨ q = 45 ∨ (q = 44 ∧ (k = 1 ∨ k = 27 ∨ k = 28 ∨ k = 29 ∨ k = 30))
theorem l_f23 (N : Nat) (hN : 10000 ≤ N) {n : Nat} (lay : Bool) (h1 : 1 ≤ n) (h5 : n ≤ 5) (K : Mem → Option (Int32 × Mem)) : ∀ (f n' a b : Nat) (kept : List Nat) (rw : List Int64) (κ : Mem), chk n (mvs n lay) f kept = true → f < n' → BS n kept → NZ kept → kept.length ≤ 60 → RK κ a b → LSt κ a 44 29 kept → RM κ rw → rw.length + f ≤ 20 → ∃ κ' a' b', lp_M_fewest_23 N (nI n) (gI' lay) K n' κ = K κ' ∧ RM κ' (rw ++ rmp (rws n (mvs n lay) f kept)) ∧ RK κ' a' b' ∧ Fr mF3 κ κ'
  | 0, n' + 1, a, b, kept, rw, κ, hc, hn, hb, hz, hl, hk, hg, hr, hrl => by rw [chk] at hc; cases hc
  | f + 1, n' + 1, a, b, kept, rw, κ, hc, hn, hb, hz, hl, hk, hg, hr, hrl => by
    obtain ⟨ka, kb, b1, b2, a1, a2, ab⟩ := hk.k
    have io := sM_isDone N hN h5 hl hk hg
    have mo := mvs_ok h5 lay
    rw [lp_M_fewest_23, io, bnd_some, rws]
    rcases chk_t h1 (show n ≤ 6 by omega) mo hb hc with z | ⟨z, c1, c2, c3⟩
    · rw [z, if_pos rfl, if_pos rfl, if_neg (by decide)]
      exact ⟨κ, a, b, rfl, by rw [show rmp [] = [] from rfl, List.append_nil]; exact hr, hk, Fr.rf κ⟩
    · have f0 : Fr (fun q k => q = 44 ∧ k = 30) κ (sI κ 44 30 0) := (Fr.rf κ).sI ⟨rfl, rfl⟩
      have l0 : LSt (sI κ 44 30 0) b 44 30 [] := ⟨by simp [gI_sI, gL_sL, gR_sR, gI_sL, gI_sR, gL_sI, gL_sR, gR_sI, gR_sL]; rfl, fun k hk => by simp at hk⟩
      have z3 := nz_fK (W := Wi n) (show n ≤ 6 by omega) mo hb hz (fr := []) (fun s hs => by simp at hs)
      generalize hKK : (fun μ23 => ck (isK (gR μ23 44 27)) (ck (isK (gR μ23 44 28)) (lt' (sR μ23 44 27 (gR μ23 44 28)) fun μ26 => lt' (sR μ26 44 28 (gR μ23 44 27)) fun μ27 => lt' (sI μ27 44 29 (gI μ27 44 30)) fun μ28 => bnd (f_M_enters N (Int32.toInt64 (gI μ28 44 29)) μ28) fun _ μ30 => lp_M_fewest_23 N (nI n) (gI' lay) K n' μ30))) = KK
      obtain ⟨κ1, e1, l1, ln1, f1⟩ := l_f38 N hN (a := a) (b := b) lay h1 h5 hb hz hl KK kept 0 N [] (sI κ 44 30 0) List.drop_zero (by omega) (by omega) (fun s hs => by simp at hs) (by simp) c1 (hk.fr f0 (fun z => by omega) (fun z => by omega)) l0 (hg.fr f0 (fun z => by omega) (fun k z => by omega))
      generalize hF : fK n (Wi n) (mvs n lay) kept [] = F at *
      have hk1 : RK κ1 a b := (hk.fr f0 (fun z => by omega) (fun z => by omega)).fr f1 (fun z => by unfold mF2 at z; omega) (fun z => by unfold mF2 at z; omega)
      have hr1 : RM κ1 rw := (hr.fr f0 (fun z => by omega) (fun k z => by omega)).fr f1 (fun z => by unfold mF2 at z; omega) (fun k z => by unfold mF2 at z; omega)
      generalize hκ2 : sI (sR (sR κ1 44 27 b) 44 28 a) 44 29 (nI F.length) = κ2
      have f2 : Fr (fun q k => q = 44 ∧ (k = 27 ∨ k = 28 ∨ k = 29)) κ1 κ2 := by rw [← hκ2]; exact (((Fr.rf κ1).sR (by omega)).sR (by omega)).sI (by omega)
      have hk2 : RK κ2 b a := by
        rw [← hκ2]
        refine ⟨?_, ?_, ?_⟩
        · rw [gR_sI, gR_sR, if_neg (by omega), gR_sR, if_pos ⟨rfl, rfl⟩]
        · rw [gR_sI, gR_sR, if_pos ⟨rfl, rfl⟩]
        · rcases hk.2.2 with ⟨e, e'⟩ | ⟨e, e'⟩
          · exact Or.inr ⟨e', e⟩
          · exact Or.inl ⟨e', e⟩
      have l2 : LSt κ2 b 44 29 F := by
        refine ⟨by rw [← hκ2, gI_sI, if_pos ⟨rfl, rfl⟩], fun k hk => ?_⟩
        rw [f2.L (fun z => by omega)]
        exact l1.2 k hk
      have hr2 : RM κ2 rw := hr1.fr f2 (fun z => by omega) (fun k z => by omega)
      obtain ⟨κ3, e3, r3, f3⟩ := sM_enters N (nI F.length).toInt64 hr2 (by omega)
      obtain ⟨κ4, a', b', e4, r4, k4, f4⟩ := l_f23 N hN lay h1 h5 K f n' b a F _ κ3 c2 (by omega) c3 z3 ln1 (hk2.fr f3 (fun z => by unfold mR at z; omega) (fun z => by unfold mR at z; omega)) (l2.fr f3 (fun z => by unfold mR at z; omega) (fun k z => by unfold mR at z; omega)) r3 (by rw [List.length_append, List.length_singleton]; omega)
      have g30 : gI (sR (sR κ1 44 27 b) 44 28 a) 44 30 = nI F.length := by rw [gI_sR, gI_sR]; exact l1.1
      have g29 : gI κ2 44 29 = nI F.length := l2.1
      refine ⟨κ4, a', b', ?_, ?_, k4, ((((f0.mono (fun q k z => by unfold mF3; omega)).tr (f1.mono (fun q k z => by unfold mF2 at z; unfold mF3; omega))).tr (f2.mono (fun q k z => by unfold mF3; omega))).tr (f3.mono (fun q k z => by unfold mR at z; unfold mF3; omega))).tr f4⟩
      · rw [z, if_pos (show (if false = true then (1 : Int32) else 0) = 0 by decide), ltE]
        refine Eq.trans e1 ?_
        rw [← hKK]
        dsimp only
        rw [hk1.1, hk1.2.1, ka, kb, ckE, ckE, ltE, ltE, g30, ltE, hκ2, g29, e3, bnd_some]
        exact e4
      · rw [z, if_neg (show ¬ (false = true) by decide)]
        rw [List.append_assoc] at r4
        exact r4
theorem rws_len (n : Nat) (ms : List (List (Nat × Nat))) : ∀ f kept, (rws n ms f kept).length ≤ f
  | 0, _ => Nat.le_refl _
  | f + 1, kept => by
    rw [rws]
    split
    · exact Nat.zero_le _
    · rw [List.length_cons]; have := rws_len n ms f (fK n (Wi n) ms kept []); omega
theorem sM_fewest (N : Nat) (hN : 10000 ≤ N) {n a b : Nat} {κ : Mem} (lay : Bool) (h1 : 1 ≤ n) (h5 : n ≤ 5) (hk : RK κ a b) : ∃ κ' a' b', f_M_fewest N (nI n) (gI' lay) κ = some (nI (rws n (mvs n lay) 15 [2 ^ 2 ^ n - 1]).length, κ') ∧ RM κ' (rmp (rws n (mvs n lay) 15 [2 ^ 2 ^ n - 1])) ∧ RK κ' a' b' ∧ Fr mF3 κ κ' := by
  obtain ⟨ka, kb, b1, b2, a1, a2, ab⟩ := hk.k
  have hc := chk_n h1 h5 lay
  have pw := Nat.two_pow_pos (2 ^ n)
  have pw1 : 2 ^ 1 ≤ 2 ^ 2 ^ n := Nat.pow_le_pow_right (by decide) (Nat.two_pow_pos n)
  generalize hκ1 : sI (sI (sL κ a 0 (lN (2 ^ 2 ^ n - 1))) 44 29 1) 44 1 0 = κ1
  have f1 : Fr mF3 κ κ1 := by rw [← hκ1]; exact (((Fr.rf κ).sL (by unfold mF3; omega)).sI (by unfold mF3; omega)).sI (by unfold mF3; omega)
  have f1' : Fr (fun q k => q = a ∨ (q = 44 ∧ (k = 29 ∨ k = 1))) κ κ1 := by rw [← hκ1]; exact (((Fr.rf κ).sL (by omega)).sI (by omega)).sI (by omega)
  have r1 : RM κ1 [] := by rw [← hκ1]; exact (sM_told0 _).1
  have l1 : LSt κ1 a 44 29 [2 ^ 2 ^ n - 1] := by
    rw [← hκ1]
    refine ⟨by rw [gI_sI, if_neg (by omega), gI_sI, if_pos ⟨rfl, rfl⟩]; rfl, fun k hk => ?_⟩
    have : k = 0 := by simp at hk; omega
    subst this
    rw [gL_sI, gL_sI, gL_sL, if_pos ⟨rfl, rfl⟩]; rfl
  obtain ⟨κ2, a', b', e2, r2, k2, f2⟩ := l_f23 N hN lay h1 h5 (fun μ31 => some (gI μ31 44 1, μ31)) 15 N a b [2 ^ 2 ^ n - 1] [] κ1 hc (by omega) (fun s hs => by rw [List.mem_singleton] at hs; subst hs; omega) (fun s hs => by rw [List.mem_singleton] at hs; subst hs; omega) (by simp) (hk.fr f1' (fun z => by omega) (fun z => by omega)) l1 r1 (by simp)
  rw [List.nil_append] at r2
  refine ⟨κ2, a', b', ?_, r2, k2, f1.tr f2⟩
  unfold f_M_fewest
  rw [hk.1, ka, ckE, show inb 0 2000 = true from inb_nI (k := 0) (by decide) (by decide), ckE, show tn 0 = 0 from tn_nI (k := 0) (by decide), all_n n (by omega), ltE, ltE, ltE, hκ1]
  refine Eq.trans e2 ?_
  have := r2.1
  unfold rmp at this
  rw [List.length_map] at this
  rw [this]
theorem op_few (N : Nat) (hN : 10000 ≤ N) (lay : Bool) (fX fM : Int32 → Mem → Option (Int32 × Mem)) (hX : ∀ x μ, fX x μ = if x < 1 then (some ((-1), μ)) else (if 5 < x then (some ((-1), μ)) else (bnd (f_Search_tellSteps N x (gI' lay) μ) fun r3 μ4 => some (r3, μ4)))) (hM : ∀ x μ, fM x μ = bnd (f_M_in N (Int32.toInt64 x) 1 5 (sI μ 44 0 0)) fun r2 μ3 => if r2 = 0 then (some ((-1), μ3)) else (bnd (f_M_fewest N x (gI' lay) μ3) fun r5 μ6 => some (r5, μ6))) (x : Int32) : OpEq (fX x) (fM x) := by
  refine op_mk (fun μ σ hw hx => ?_)
  have c1 : (x < 1) ↔ x.toInt < 1 := lt_iff5 (b := 1) (by decide)
  have c5 : ((5 : Int32) < x) ↔ 5 < x.toInt := by rw [Int32.lt_iff_toInt_lt]; rfl
  have si : ∀ ν, f_M_in N (Int32.toInt64 x) 1 5 ν = some (if 1 ≤ x.toInt ∧ x.toInt ≤ 5 then 1 else 0, ν) := fun ν => sM_in N x 1 5 ν
  by_cases z : 1 ≤ x.toInt ∧ x.toInt ≤ 5
  · obtain ⟨n, h1, h5, rfl⟩ := nat_of (a := 1) (b := 5) z
    obtain ⟨μ1, e1, r1, f1⟩ := sX_tellSteps N hN lay h1 h5 μ
    have rl := rws_len n (mvs n lay) 15 [2 ^ 2 ^ n - 1]
    have rl' : (rmp (rws n (mvs n lay) 15 [2 ^ 2 ^ n - 1])).length ≤ 64 := by unfold rmp; rw [List.length_map]; omega
    refine ⟨nI (rws n (mvs n lay) 15 [2 ^ 2 ^ n - 1]).length, (σ.1, σ.2.1, rmp (rws n (mvs n lay) 15 [2 ^ 2 ^ n - 1])), μ1, ?_, hx.row f1 r1, f1.wide (by omega) (by omega), ⟨hw.1, hw.2.1, hw.2.2.1, rl'⟩, fun ν hm => ?_⟩
    · rw [hX, if_neg (fun q => by have := c1.mp q; omega), if_neg (fun q => by have := c5.mp q; omega), e1, bnd_some]
    · have hm0 : SM (sI ν 44 0 0) σ := hm.thr
      have k0 : ∃ a b, RK (sI ν 44 0 0) a b := by
        rcases hm0.2.2.2 with q | q
        · exact ⟨61, 62, q.1, q.2, Or.inl ⟨rfl, rfl⟩⟩
        · exact ⟨62, 61, q.1, q.2, Or.inr ⟨rfl, rfl⟩⟩
      obtain ⟨a, b, k0⟩ := k0
      obtain ⟨ν2, a', b', e2, r2, k2, f2⟩ := sM_fewest N hN lay h1 h5 k0
      refine ⟨ν2, ?_, ⟨hm0.1.fr f2 (fun q k h1 h2 z => by unfold mF3 at z; omega), hm0.2.1.fr f2 (fun z => by unfold mF3 at z; omega) (fun k z => by unfold mF3 at z; omega), r2, ?_⟩, ?_⟩
      · rw [hM, si, if_pos z, bnd_some, if_neg (by decide), e2, bnd_some]
      · rcases k2.2.2 with ⟨e, e'⟩ | ⟨e, e'⟩
        · exact Or.inl ⟨k2.1.trans e, k2.2.1.trans e'⟩
        · exact Or.inr ⟨k2.1.trans e, k2.2.1.trans e'⟩
      · exact ((Fr.rf ν).sI (rgi (by omega) (by omega))).tr (f2.mono (fun q k z => by unfold mF3 at z; exact ⟨by omega, by omega⟩))
  · refine ⟨-1, σ, μ, ?_, hx, Fr.rf μ, hw, op_no (fun ν _ => ?_)⟩
    · rw [hX]
      by_cases y : x.toInt < 1
      · rw [if_pos (c1.mpr y)]
      · rw [if_neg (fun q => y (c1.mp q)), if_pos (c5.mpr (by omega))]
    · rw [hM, si, if_neg z, bnd_some, if_pos rfl]
theorem op_least (N : Nat) (hN : 10000 ≤ N) (x : Int32) : OpEq (f_X_least N x) (f_M_least N x) := op_few N hN false (f_X_least N) (f_M_least N) (fun x μ => by unfold f_X_least; rfl) (fun x μ => by unfold f_M_least; rw [ltE]; rfl) x
theorem op_shallow (N : Nat) (hN : 10000 ≤ N) (x : Int32) : OpEq (f_X_shallow N x) (f_M_shallow N x) := op_few N hN true (f_X_shallow N) (f_M_shallow N) (fun x μ => by unfold f_X_shallow; rfl) (fun x μ => by unfold f_M_shallow; rw [ltE]; rfl) x

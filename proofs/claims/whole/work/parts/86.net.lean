/-! nets that are told -/
def tdg (tx : List Nat) (lo hi p : Nat) : Option Nat := match dgt tx p with
  | some d => if lo ≤ d ∧ d ≤ hi then some d else none
  | none => none
theorem tdg_t {tx : List Nat} {lo hi p d : Nat} (h : tdg tx lo hi p = some d) : p < tx.length ∧ lo ≤ d ∧ d ≤ hi ∧ tx.getD p 0 = d + 48 ∧ d < 10 := by
  unfold tdg at h
  cases e : dgt tx p with
  | none => rw [e] at h; cases h
  | some k =>
    rw [e] at h
    dsimp only at h
    have q := dgt_lt e
    have ek : tx.getD p 0 = k + 48 := by
      unfold dgt at e
      split at e
      · rename_i z
        cases e; omega
      · cases e
    split at h
    · rename_i z
      cases h
      exact ⟨q.1, z.1, z.2, ek, q.2⟩
    · cases h
theorem tdg_i {tx : List Nat} {lo hi p d : Nat} (h1 : p < tx.length) (h2 : lo ≤ d) (h3 : d ≤ hi) (h4 : tx.getD p 0 = d + 48) (h5 : d < 10) : tdg tx lo hi p = some d := by
  have e : dgt tx p = some d := by
    unfold dgt
    rw [if_pos ⟨h1, by omega, by omega⟩, h4, Nat.add_sub_cancel]
  unfold tdg
  rw [e]
  dsimp only
  rw [if_pos ⟨h2, h3⟩]
def pr (tx : List Nat) (n p : Nat) : Nat ⊕ (Nat × Nat) := match tdg tx 0 (n - 1) p with
  | none => .inl p
  | some a => match tdg tx 0 (n - 1) (p + 1) with
    | none => .inl (p + 1)
    | some b => if a = b then .inl (p + 1) else .inr (a, b)
def rp (tx : List Nat) (n : Nat) : Nat → Nat → List (Nat × Nat) → Nat ⊕ List (Nat × Nat)
  | 0, p, _ => .inl p
  | m + 1, p, ps => match pr tx n p with
    | .inl q => .inl q
    | .inr c => if p + 2 = tx.length then .inr (ps ++ [c]) else if cma tx 44 (p + 2) = false ∨ m = 0 then .inl (p + 2) else rp tx n m (p + 3) (ps ++ [c])
def hdr (tx : List Nat) : Nat ⊕ (Nat × List (Nat × Nat)) := match tdg tx 2 8 0 with
  | none => .inl 0
  | some n => if cma tx 58 1 = false then .inl 1 else if tx.length = 2 then .inr (n, []) else match rp tx n 60 2 [] with
    | .inl q => .inl q
    | .inr ps => .inr (n, ps)
theorem pr_ok {tx : List Nat} {n p : Nat} (hn : 1 ≤ n) (hp : p ≤ tx.length) : (match pr tx n p with
    | .inl q => q ≤ tx.length
    | .inr (a, b) => a < n ∧ b < n ∧ a ≠ b ∧ p + 2 ≤ tx.length) := by
  unfold pr
  cases e : tdg tx 0 (n - 1) p with
  | none => exact hp
  | some a =>
    have q := tdg_t e
    dsimp only
    cases e2 : tdg tx 0 (n - 1) (p + 1) with
    | none => exact q.1
    | some b =>
      have q2 := tdg_t e2
      dsimp only
      by_cases z : a = b
      · rw [if_pos z]; exact q.1
      · rw [if_neg z]
        exact ⟨by omega, by omega, z, q2.1⟩
theorem rp_ok {tx : List Nat} {n : Nat} (hn : 1 ≤ n) : ∀ m p ps, p ≤ tx.length → PO n ps → ps.length + m ≤ 60 → (match rp tx n m p ps with
    | .inl q => q ≤ tx.length
    | .inr qs => PO n qs ∧ qs.length ≤ 60)
  | 0, p, ps, hp, _, _ => hp
  | m + 1, p, ps, hp, ho, hl => by
    have k := pr_ok (tx := tx) hn hp
    rw [rp]
    cases e : pr tx n p with
    | inl q => rw [e] at k; exact k
    | inr c =>
      obtain ⟨a, b⟩ := c
      rw [e] at k
      obtain ⟨k1, k2, k3, k4⟩ := k
      dsimp only
      have ho' := ho.sn k1 k2 k3
      have hl' : (ps ++ [(a, b)]).length + m ≤ 60 := by rw [List.length_append, List.length_singleton]; omega
      by_cases z : p + 2 = tx.length
      · rw [if_pos z]
        exact ⟨ho', by omega⟩
      · rw [if_neg z]
        by_cases y : cma tx 44 (p + 2) = false ∨ m = 0
        · rw [if_pos y]; exact k4
        · rw [if_neg y]
          exact rp_ok hn m (p + 3) _ (by omega) ho' hl'
theorem hdr_ok (tx : List Nat) : (match hdr tx with
    | .inl q => q ≤ tx.length + 1
    | .inr (n, ps) => 2 ≤ n ∧ n ≤ 8 ∧ PO n ps ∧ ps.length ≤ 60) := by
  unfold hdr
  cases e : tdg tx 2 8 0 with
  | none => exact Nat.zero_le _
  | some n =>
    have q := tdg_t e
    dsimp only
    by_cases c : cma tx 58 1 = false
    · rw [if_pos c]; exact (by omega)
    · rw [if_neg c]
      have c' : cma tx 58 1 = true := by simpa using c
      have c1 := (cma_t c').1
      by_cases l : tx.length = 2
      · rw [if_pos l]
        exact ⟨q.2.1, q.2.2.1, fun k hk => by simp at hk, by simp⟩
      · rw [if_neg l]
        have r := rp_ok (tx := tx) (n := n) (by omega) 60 2 [] c1 (fun k hk => by simp at hk) (by simp)
        cases er : rp tx n 60 2 [] with
        | inl q => rw [er] at r; show q ≤ tx.length + 1; have : q ≤ tx.length := r; omega
        | inr ps => rw [er] at r; exact ⟨q.2.1, q.2.2.1, r.1, r.2⟩
-- the class
theorem x_wire (N : Nat) {κ : Mem} {n p : Nat} {tx : List Nat} {cs : List (Nat × Nat)} (nx : NX κ 18 n cs) (h1 : 1 ≤ n) (h8 : n ≤ 8) : f_Net_isWire N 18 (oI (dgt tx p)) κ = some (if (tdg tx 0 (n - 1) p).isSome then 1 else 0, κ) := by
  cases e : dgt tx p with
  | none =>
    have q : tdg tx 0 (n - 1) p = none := by unfold tdg; rw [e]
    rw [q]
    exact sNet_isWireNo N nx (Or.inl (by decide))
  | some d =>
    have qd := dgt_lt e
    by_cases z : d < n
    · have q : tdg tx 0 (n - 1) p = some d := by unfold tdg; rw [e]; exact if_pos ⟨by omega, by omega⟩
      rw [q]
      exact sNet_isWire N nx z (by omega)
    · have q : tdg tx 0 (n - 1) p = none := by unfold tdg; rw [e]; exact if_neg (by omega)
      rw [q]
      exact sNet_isWireNo N nx (Or.inr (nI_le (by omega) (by omega)))
theorem tdg_dgt {tx : List Nat} {lo hi p d : Nat} (h : tdg tx lo hi p = some d) : dgt tx p = some d := by
  unfold tdg at h
  cases e : dgt tx p with
  | none => rw [e] at h; cases h
  | some k =>
    rw [e] at h
    dsimp only at h
    split at h
    · exact h
    · cases h
theorem l_rn66 (N : Nat) (hN : 10000 ≤ N) {tx : List Nat} {n : Nat} (h2 : 2 ≤ n) (h8 : n ≤ 8) (hl : tx.length ≤ 200) (hb : ∀ k, tx.getD k 0 < 256) : ∀ (m p n' : Nat) (ps : List (Nat × Nat)) (κ : Mem), TX κ tx → ps.length + m = 60 → p ≤ tx.length → m < n' → PO n ps → NX κ 18 n (us ps ps.length) → VF κ 22 n (ua ps ps.length) → ∃ κ', Fr (rg 18 22) κ κ' ∧ (match rp tx n m p ps with
      | .inl q => lp_X_readNet_66 N (fun v36 μ37 => some (v36, μ37)) n' (nI p) (nI (ps.length + 1)) κ = some (nI q, κ')
      | .inr qs => lp_X_readNet_66 N (fun v36 μ37 => some (v36, μ37)) n' (nI p) (nI (ps.length + 1)) κ = some (-1, κ') ∧ NX κ' 18 n (us qs qs.length) ∧ VF κ' 22 n (ua qs qs.length))
  | 0, p, n' + 1, ps, κ, h, hm, hp, hn, ho, nx, vf => ⟨κ, Fr.rf κ, by
      rw [rp]
      show lp_X_readNet_66 N (fun v36 μ37 => some (v36, μ37)) (n' + 1) (nI p) (nI (ps.length + 1)) κ = some (nI p, κ)
      rw [lp_X_readNet_66, if_pos (show (60 : Int32) < nI (ps.length + 1) from nI_lt (a := 60) (by omega) (by omega))]⟩
  | m + 1, p, n' + 1, ps, κ, h, hm, hp, hn, ho, nx, vf => by
    have d1 := sX_digit N h hl hb (p := p) (by omega)
    have d2 := sX_digit N h hl hb (p := p + 1) (by omega)
    have w1 := x_wire N (p := p) (tx := tx) nx (by omega) h8
    have w2 := x_wire N (p := p + 1) (tx := tx) nx (by omega) h8
    have g0 : ¬ (60 : Int32) < nI (ps.length + 1) := nI_nlt (a := 60) (by omega) (by omega)
    rw [rp]
    unfold pr
    cases e : tdg tx 0 (n - 1) p with
    | none =>
      refine ⟨κ, Fr.rf κ, ?_⟩
      show lp_X_readNet_66 N (fun v36 μ37 => some (v36, μ37)) (n' + 1) (nI p) (nI (ps.length + 1)) κ = some (nI p, κ)
      rw [e] at w1
      rw [lp_X_readNet_66, if_neg g0, d1, bnd_some, w1, bnd_some, if_neg (show ¬ (none : Option Nat).isSome = true by decide), if_pos rfl]
    | some a =>
      have qa := tdg_t e
      have da := tdg_dgt e
      rw [e] at w1
      dsimp only
      cases e2 : tdg tx 0 (n - 1) (p + 1) with
      | none =>
        refine ⟨κ, Fr.rf κ, ?_⟩
        show lp_X_readNet_66 N (fun v36 μ37 => some (v36, μ37)) (n' + 1) (nI p) (nI (ps.length + 1)) κ = some (nI (p + 1), κ)
        rw [e2] at w2
        rw [lp_X_readNet_66, if_neg g0, d1, bnd_some, w1, bnd_some, if_pos (show (some a : Option Nat).isSome = true from rfl), if_neg (by decide), nI_1 p, d2, bnd_some, w2, bnd_some, if_neg (show ¬ (none : Option Nat).isSome = true by decide), if_pos rfl]
      | some b =>
        have qb := tdg_t e2
        have db := tdg_dgt e2
        rw [e2] at w2
        dsimp only
        have ab : (oI (dgt tx p) = oI (dgt tx (p + 1))) ↔ a = b := by
          rw [da, db]; exact nI_eq (by omega) (by omega)
        by_cases z : a = b
        · rw [if_pos z]
          refine ⟨κ, Fr.rf κ, ?_⟩
          show lp_X_readNet_66 N (fun v36 μ37 => some (v36, μ37)) (n' + 1) (nI p) (nI (ps.length + 1)) κ = some (nI (p + 1), κ)
          rw [lp_X_readNet_66, if_neg g0, d1, bnd_some, w1, bnd_some, if_pos (show (some a : Option Nat).isSome = true from rfl), if_neg (by decide), nI_1 p, d2, bnd_some, w2, bnd_some, if_pos (show (some b : Option Nat).isSome = true from rfl), if_neg (by decide), if_pos (ab.mpr z)]
        · rw [if_neg z]
          dsimp only
          have I := ua_inj ho ps.length (Nat.le_refl _)
          obtain ⟨κ1, u1, u2, u3, u4⟩ := sT_un N (a := a) (b := b) vf nx h8 (by omega) (by omega) z (by rw [us_len]; omega) I.1
          rw [← us_sn] at u3
          rw [← ua_sn] at u2
          have len1 : (ps ++ [(a, b)]).length = ps.length + 1 := by rw [List.length_append, List.length_singleton]
          rw [← len1] at u2 u3
          have t1 : TX κ1 tx := h.fr u4 (rgo (by omega)) (fun _ => rgo (by omega))
          have u1' : f_Tangle_untangle N (oI (dgt tx p)) (oI (dgt tx (p + 1))) 18 κ = some ((), κ1) := by rw [da, db]; exact u1
          have c : (nI (p + 2) = nI tx.length) ↔ p + 2 = tx.length := nI_eq (by omega) (by omega)
          have sg := sX_sign N t1 hl (p := p + 2) (by omega)
          have pre : lp_X_readNet_66 N (fun v36 μ37 => some (v36, μ37)) (n' + 1) (nI p) (nI (ps.length + 1)) κ = if nI (p + 2) = nI tx.length then (some ((-1), κ1)) else (bnd (f_Text_signAt N (nI (p + 2)) κ1) fun r30 μ31 => if r30 = 44 then (if nI (ps.length + 1) = 60 then (some (nI (p + 2), μ31)) else (lt' (nI (p + 2) + 1) fun v34 => lt' (nI (ps.length + 1) + 1) fun v35 => lp_X_readNet_66 N (fun v36 μ37 => some (v36, μ37)) n' v34 v35 μ31)) else (some (nI (p + 2), μ31))) := by
            rw [lp_X_readNet_66, if_neg g0, d1, bnd_some, w1, bnd_some, if_pos (show (some a : Option Nat).isSome = true from rfl), if_neg (by decide), nI_1 p, d2, bnd_some, w2, bnd_some, if_pos (show (some b : Option Nat).isSome = true from rfl), if_neg (by decide), if_neg (fun y => z (ab.mp y)), u1', bnd_some, show (2 : Int32) = nI 2 from rfl, nI_add, ltE, t1.1]
          by_cases y : p + 2 = tx.length
          · rw [if_pos y]
            refine ⟨κ1, u4, ?_⟩
            exact ⟨by rw [pre, if_pos (c.mpr y)], u3, u2⟩
          · rw [if_neg y]
            have hbp := hb (p + 2)
            by_cases x : cma tx 44 (p + 2) = true
            · obtain ⟨x1, x2⟩ := cma_t x
              by_cases m0 : m = 0
              · rw [if_pos (Or.inr m0)]
                refine ⟨κ1, u4, ?_⟩
                show lp_X_readNet_66 N (fun v36 μ37 => some (v36, μ37)) (n' + 1) (nI p) (nI (ps.length + 1)) κ = some (nI (p + 2), κ1)
                rw [pre, if_neg (fun q => y (c.mp q)), sg, bnd_some, if_pos x1, x2, if_pos (by decide), if_pos (show nI (ps.length + 1) = 60 by rw [show ps.length + 1 = 60 by omega]; rfl)]
              · rw [if_neg (fun q => by rcases q with q | q; · rw [x] at q; cases q
                                        · exact m0 q)]
                obtain ⟨κ2, f2, r2⟩ := l_rn66 N hN h2 h8 hl hb m (p + 3) n' (ps ++ [(a, b)]) κ1 t1 (by rw [len1]; omega) (by omega) (by omega) (ho.sn (by omega) (by omega) z) u3 u2
                refine ⟨κ2, u4.tr f2, ?_⟩
                have ne : ¬ nI (ps.length + 1) = 60 := fun q => by have := (nI_eq (b := 60) (by omega) (by omega)).mp q; omega
                rw [pre, if_neg (fun q => y (c.mp q)), sg, bnd_some, if_pos x1, x2, if_pos (by decide), if_neg ne, ltE, ltE, nI_1, nI_1]
                rw [len1] at r2
                exact r2
            · have x' : cma tx 44 (p + 2) = false := by simpa using x
              rw [if_pos (Or.inl x')]
              refine ⟨κ1, u4, ?_⟩
              show lp_X_readNet_66 N (fun v36 μ37 => some (v36, μ37)) (n' + 1) (nI p) (nI (ps.length + 1)) κ = some (nI (p + 2), κ1)
              rw [pre, if_neg (fun q => y (c.mp q)), sg, bnd_some, if_neg]
              intro q
              by_cases v : p + 2 < tx.length
              · rw [if_pos v] at q
                exact x (decide_eq_true ⟨v, (nI_eq (b := 44) (by omega) (by omega)).mp q⟩)
              · rw [if_neg v] at q
                exact absurd q (by decide)
theorem sX_readNet (N : Nat) (hN : 10000 ≤ N) {tx : List Nat} {μ : Mem} (h : TX μ tx) (hl : tx.length ≤ 200) (hb : ∀ k, tx.getD k 0 < 256) : ∃ μ', Fr (rg 18 22) μ μ' ∧ (match hdr tx with
      | .inl q => f_X_readNet N μ = some (nI q, μ')
      | .inr (n, ps) => f_X_readNet N μ = some (-1, μ') ∧ NX μ' 18 n (us ps ps.length) ∧ VF μ' 22 n (ua ps ps.length)) := by
  have d0 := sX_digit N h hl hb (p := 0) (by omega)
  have s1 := sX_sign N h hl (p := 1) (by omega)
  have d0' : f_Text_digitAt N 0 μ = some (oI (dgt tx 0), μ) := d0
  have s1' : f_Text_signAt N 1 μ = _ := s1
  have b1 := hb 1
  unfold hdr
  cases e : tdg tx 2 8 0 with
  | none =>
    refine ⟨μ, Fr.rf μ, ?_⟩
    show f_X_readNet N μ = some (nI 0, μ)
    unfold f_X_readNet
    rw [d0', bnd_some, sX_isWires, if_neg, bnd_some, if_pos rfl]
    · rfl
    · intro z
      unfold tdg at e
      cases e0 : dgt tx 0 with
      | none => rw [e0] at z; revert z; decide
      | some d =>
        have q := dgt_lt e0
        rw [e0] at e z
        dsimp only at e
        have : (oI (some d)).toInt = (d : Int) := nI_toInt (by omega)
        rw [this] at z
        rw [if_pos (by omega)] at e
        cases e
  | some n =>
    have qn := tdg_t e
    have dn := tdg_dgt e
    rw [dn] at d0'
    have wi : f_X_isWires N (oI (some n)) μ = some (1, μ) := by
      rw [sX_isWires, if_pos]
      show (2 : Int) ≤ (nI n).toInt ∧ (nI n).toInt ≤ 8
      rw [nI_toInt (by omega)]; omega
    dsimp only
    by_cases c : cma tx 58 1 = true
    · obtain ⟨c1, c2⟩ := cma_t c
      rw [if_neg (show ¬ cma tx 58 1 = false by rw [c]; decide)]
      rw [if_pos c1, c2] at s1'
      obtain ⟨μ1, e1, n1, f1⟩ := sNet_clear N (μ := μ) (p := 18) (n := n)
      obtain ⟨μ2, e2, v2, f2⟩ := sT_start N hN (n := n) (by omega) μ1
      have n2 := n1.frg f2 (by omega)
      have fa : Fr (rg 18 22) μ μ2 := (f1.wide (by omega) (by omega)).tr (f2.wide (by omega) (by omega))
      have t2 : TX μ2 tx := h.fr fa (rgo (by omega)) (fun _ => rgo (by omega))
      have ce : (nI tx.length = 2) ↔ tx.length = 2 := nI_eq (b := 2) (by omega) (by omega)
      have pre : f_X_readNet N μ = if nI tx.length = 2 then (some ((-1), μ2)) else (lp_X_readNet_66 N (fun v36 μ37 => some (v36, μ37)) N 2 1 μ2) := by
        unfold f_X_readNet
        rw [d0', bnd_some, wi, bnd_some, if_neg (by decide), s1', bnd_some, if_pos (by decide), show oI (some n) = nI n from rfl, e1, bnd_some, e2, bnd_some, t2.1]
      by_cases l : tx.length = 2
      · rw [if_pos l]
        refine ⟨μ2, fa, ?_⟩
        exact ⟨by rw [pre, if_pos (ce.mpr l)], n2, v2⟩
      · rw [if_neg l]
        obtain ⟨μ3, f3, r3⟩ := l_rn66 N hN (n := n) (by omega) (by omega) hl hb 60 2 N [] μ2 t2 rfl c1 (by omega) (fun k hk => by simp at hk) n2 v2
        refine ⟨μ3, fa.tr f3, ?_⟩
        have pre' : f_X_readNet N μ = lp_X_readNet_66 N (fun v36 μ37 => some (v36, μ37)) N (nI 2) (nI (([] : List (Nat × Nat)).length + 1)) μ2 := by
          rw [pre, if_neg (fun q => l (ce.mp q))]; rfl
        cases er : rp tx n 60 2 [] with
        | inl q =>
          rw [er] at r3
          exact pre'.trans r3
        | inr qs =>
          rw [er] at r3
          exact ⟨pre'.trans r3.1, r3.2.1, r3.2.2⟩
    · have c' : cma tx 58 1 = false := by simpa using c
      rw [if_pos c']
      refine ⟨μ, Fr.rf μ, ?_⟩
      show f_X_readNet N μ = some (nI 1, μ)
      unfold f_X_readNet
      rw [d0', bnd_some, wi, bnd_some, if_neg (by decide), s1', bnd_some, if_neg]
      · rfl
      · intro q
        by_cases v : 1 < tx.length
        · rw [if_pos v] at q
          exact c (decide_eq_true ⟨v, (nI_eq (b := 58) (by omega) (by omega)).mp q⟩)
        · rw [if_neg v] at q
          exact absurd q (by decide)

/-! numbers out of the text -/
def mX : Nat → Nat → Prop := fun q k => (q = 44 ∧ k ≠ 27 ∧ k ≠ 28) ∨ q = 45 ∨ (50 ≤ q ∧ q ≤ 63)
theorem mX_mU {s : Nat} {μ μ' : Mem} (f : Fr mX μ μ') : Fr (mU s) μ μ' := f.mono (fun q k z => by unfold mX at z; unfold mU; omega)
theorem g_t {ρ : Type} {fX fM : Mem → Option (ρ × Mem)} {μ : Mem} {σ : Ab} (hw : Wf σ) (hx : SX μ σ) (r : ρ) (rw : List Int64) (hl : rw.length ≤ 64) (h1 : ∃ μ', fX μ = some (r, μ') ∧ TX μ' [] ∧ RX μ' rw ∧ Fr (rg 14 43) μ μ') (h2 : ∀ μ ν, ν = sI μ 44 0 0 → SM ν σ → ∃ μ2, fM μ = some (r, μ2) ∧ TM μ2 [] ∧ RM μ2 rw ∧ Fr mX ν μ2) : OpG fX fM μ σ := by
  obtain ⟨μ', e, t, r1, f⟩ := h1
  refine g_u hw hx (s := 0) (by decide) r rw hl (tx := []) ⟨by simp, fun k => by simp⟩ (hw.1 0 (by decide)) ⟨μ', e, (hx.1 0 (by decide)).frg f (by omega), t, r1, rg_xU f (Or.inr ⟨by decide, by decide⟩)⟩ (fun μ ν hν hm => ?_)
  obtain ⟨μ2, e2, t2, r2, f2⟩ := h2 μ ν hν hm
  exact ⟨μ2, e2, (hm.1 0 (by decide)).fr f2 (fun q k _ _ z => by unfold mX at z; omega), t2, r2, mX_mU f2⟩
def dgt (tx : List Nat) (p : Nat) : Option Nat := if p < tx.length ∧ 48 ≤ tx.getD p 0 ∧ tx.getD p 0 ≤ 57 then some (tx.getD p 0 - 48) else none
def oI : Option Nat → Int32
  | none => -1
  | some k => nI k
theorem sX_sign (N : Nat) {μ : Mem} {tx : List Nat} (h : TX μ tx) (hl : tx.length ≤ 200) {p : Nat} (hp : p ≤ 300) : f_Text_signAt N (nI p) μ = some (if p < tx.length then nI (tx.getD p 0) else -1, μ) := by
  unfold f_Text_signAt
  rw [if_neg (nI_pos (by omega)), h.1]
  by_cases z : p < tx.length
  · rw [if_pos (nI_lt z (by omega)), if_pos z, inb_nI (by omega) (by omega), ck_tt, tn_nI (by omega), h.2 p z]
  · rw [if_neg (nI_nlt (by omega) (by omega)), if_neg z]
theorem sX_digit (N : Nat) {μ : Mem} {tx : List Nat} (h : TX μ tx) (hl : tx.length ≤ 200) (hb : ∀ k, tx.getD k 0 < 256) {p : Nat} (hp : p ≤ 300) : f_Text_digitAt N (nI p) μ = some (oI (dgt tx p), μ) := by
  have b := hb p
  unfold f_Text_digitAt dgt
  rw [sX_sign N h hl hp, bnd_some]
  by_cases z : p < tx.length
  · rw [if_pos z]
    by_cases y : tx.getD p 0 < 48
    · rw [if_pos (show nI (tx.getD p 0) < 48 from nI_lt (b := 48) y (by omega)), if_neg (by omega)]; rfl
    · rw [if_neg (show ¬ nI (tx.getD p 0) < 48 from nI_nlt (b := 48) (by omega) (by omega))]
      by_cases x : 57 < tx.getD p 0
      · rw [if_pos (show (57 : Int32) < nI (tx.getD p 0) from nI_lt (a := 57) x (by omega)), if_neg (by omega)]; rfl
      · rw [if_neg (show ¬ (57 : Int32) < nI (tx.getD p 0) from nI_nlt (a := 57) (by omega) (by omega)), if_pos (by omega), show nI (tx.getD p 0) - 48 = nI (tx.getD p 0 - 48) from pk_sub (b := 48) (by omega)]; rfl
  · rw [if_neg z, if_pos (by decide), if_neg (by omega)]; rfl
theorem dgt_lt {tx : List Nat} {p k : Nat} (h : dgt tx p = some k) : p < tx.length ∧ k < 10 := by
  unfold dgt at h
  split at h
  · rename_i q
    cases h
    omega
  · cases h
/-- the model's place in the text -/
def MT (κ : Mem) (tx : List Nat) (p : Nat) : Prop := gI κ 44 9 = nI p ∧ gI κ 44 10 = nI tx.length ∧ ∀ k, k < tx.length → gI κ 50 k = nI (tx.getD k 0)
theorem MT.fr {A : Nat → Nat → Prop} {μ μ' : Mem} {tx : List Nat} {p : Nat} (h : MT μ tx p) (f : Fr A μ μ') (h0 : ¬ A 44 9) (h1 : ¬ A 44 10) (h2 : ∀ k, ¬ A 50 k) : MT μ' tx p := ⟨by rw [f.I h0]; exact h.1, by rw [f.I h1]; exact h.2.1, fun k hk => by rw [f.I (h2 k)]; exact h.2.2 k hk⟩
theorem MT.to {κ : Mem} {tx : List Nat} {p : Nat} (h : MT κ tx p) (q : Nat) : MT (sI κ 44 9 (nI q)) tx q := ⟨by simp [gI_sI, gL_sL, gR_sR, gI_sL, gI_sR, gL_sI, gL_sR, gR_sI, gR_sL], by simp [gI_sI, gL_sL, gR_sR, gI_sL, gI_sR, gL_sI, gL_sR, gR_sI, gR_sL, h.2.1], fun k hk => by simp [gI_sI, gL_sL, gR_sR, gI_sL, gI_sR, gL_sI, gL_sR, gR_sI, gR_sL, h.2.2 k hk]⟩
theorem sM_isDigit (N : Nat) {μ : Mem} {tx : List Nat} {p : Nat} (h : MT μ tx p) (hl : tx.length ≤ 200) (hb : ∀ k, tx.getD k 0 < 256) (hp : p ≤ 300) : f_M_isDigit N μ = some (if (dgt tx p).isSome then 1 else 0, μ) := by
  have b := hb p
  unfold f_M_isDigit dgt
  rw [h.1, h.2.1]
  by_cases z : p < tx.length
  · have e48 : (48 : Int64).toInt = 48 := rfl
    have e57 : (57 : Int64).toInt = 57 := rfl
    rw [if_pos (nI_lt z (by omega)), inb_nI (by omega) (by omega), ck_tt, tn_nI (by omega), h.2.2 p z, sM_in, bnd_some, nI_toInt (by omega), e48, e57]
    by_cases y : 48 ≤ tx.getD p 0 ∧ tx.getD p 0 ≤ 57
    · rw [if_pos (show (48 : Int) ≤ (tx.getD p 0 : Int) ∧ (tx.getD p 0 : Int) ≤ 57 by omega), if_neg (by decide), if_pos (show p < tx.length ∧ 48 ≤ tx.getD p 0 ∧ tx.getD p 0 ≤ 57 from ⟨z, y⟩)]; rfl
    · rw [if_neg (show ¬ ((48 : Int) ≤ (tx.getD p 0 : Int) ∧ (tx.getD p 0 : Int) ≤ 57) by omega), if_pos rfl, if_neg (show ¬ (p < tx.length ∧ 48 ≤ tx.getD p 0 ∧ tx.getD p 0 ≤ 57) from fun q => y q.2)]; rfl
  · rw [if_neg (nI_nlt (by omega) (by omega)), if_neg (show ¬ (p < tx.length ∧ 48 ≤ tx.getD p 0 ∧ tx.getD p 0 ≤ 57) from fun q => z q.1)]; rfl
def cma (tx : List Nat) (c p : Nat) : Bool := decide (p < tx.length ∧ tx.getD p 0 = c)
theorem sM_takes (N : Nat) {μ : Mem} {tx : List Nat} {p c : Nat} (h : MT μ tx p) (hl : tx.length ≤ 200) (hb : ∀ k, tx.getD k 0 < 256) (hp : p ≤ 300) (hc : c < 256) : f_M_takes N (nI c) μ = some (if cma tx c p then (1, sI μ 44 9 (nI (p + 1))) else (0, μ)) := by
  have b := hb p
  unfold f_M_takes cma
  rw [h.1, h.2.1]
  by_cases z : p < tx.length
  · have e : (nI (tx.getD p 0) = nI c) ↔ tx.getD p 0 = c := nI_eq (by omega) (by omega)
    rw [if_pos (nI_lt z (by omega)), inb_nI (by omega) (by omega), ck_tt, tn_nI (by omega), h.2.2 p z]
    by_cases y : tx.getD p 0 = c
    · rw [if_pos (e.mpr y), ltE, nI_1, if_pos (decide_eq_true ⟨z, y⟩)]
    · rw [if_neg (fun q => y (e.mp q)), if_neg (fun q => y (of_decide_eq_true q).2)]
  · rw [if_neg (nI_nlt (by omega) (by omega)), if_neg (fun q => z (of_decide_eq_true q).1)]
def rdn (tx : List Nat) : Nat → Nat → Nat → Nat × Nat
  | 0, p, v => (p, v)
  | d + 1, p, v => match dgt tx p with
    | none => (p, v)
    | some k => rdn tx d (p + 1) (10 * v + k)
theorem rdn_le (tx : List Nat) : ∀ d p v, p ≤ tx.length → (rdn tx d p v).1 ≤ tx.length
  | 0, p, v, h => h
  | d + 1, p, v, h => by
    rw [rdn]
    cases e : dgt tx p with
    | none => exact h
    | some k => exact rdn_le tx d _ _ (dgt_lt e).1
theorem rdn_b (tx : List Nat) : ∀ d p v j, v < 10 ^ j → (rdn tx d p v).2 < 10 ^ (j + d)
  | 0, p, v, j, h => h
  | d + 1, p, v, j, h => by
    rw [rdn]
    cases e : dgt tx p with
    | none => exact Nat.lt_of_lt_of_le h (Nat.pow_le_pow_right (by decide) (by omega))
    | some k =>
      have := (dgt_lt e).2
      have := rdn_b tx d (p + 1) (10 * v + k) (j + 1) (by rw [Nat.pow_succ]; omega)
      rw [show j + (d + 1) = j + 1 + d by omega]
      exact this
theorem l_rv50 (N : Nat) {κ : Mem} {tx : List Nat} (h : TX κ tx) (hl : tx.length ≤ 200) (hb : ∀ k, tx.getD k 0 < 256) (x1 x3 : Int32) (K : Int32 → Int32 → Mem → Option (Int32 × Mem)) : ∀ (d p v n' : Nat), d ≤ 4 → p ≤ tx.length → d < n' → lp_X_readValues_50 N x1 x3 K n' (nI p) (nI v) (nI (4 - d)) κ = K (nI (rdn tx d p v).1) (nI (rdn tx d p v).2) κ
  | 0, p, v, n' + 1, _, _, _ => by rw [lp_X_readValues_50, if_neg (show ¬ nI (4 - 0) < 4 from nI_nlt (b := 4) (Nat.le_refl _) (by omega)), rdn]
  | d + 1, p, v, n' + 1, hd, hp, hn => by
    rw [lp_X_readValues_50, if_pos (show nI (4 - (d + 1)) < 4 from nI_lt (b := 4) (by omega) (by omega)), sX_digit N h hl hb (by omega), bnd_some, rdn]
    cases e : dgt tx p with
    | none => rw [if_pos (show oI none < 0 by decide)]
    | some k =>
      have q := dgt_lt e
      rw [if_neg (show ¬ oI (some k) < 0 from nI_pos (by omega)), sX_digit N h hl hb (by omega), bnd_some, e, ltE, ltE, ltE, show oI (some k) = nI k from rfl, show (10 : Int32) = nI 10 from rfl, pk_mul, nI_add, nI_1, nI_1, show 4 - (d + 1) + 1 = 4 - d by omega]
      exact l_rv50 N h hl hb x1 x3 K d (p + 1) _ n' (by omega) q.1 (by omega)
theorem l_tn36 (N : Nat) {tx : List Nat} (hl : tx.length ≤ 200) (hb : ∀ k, tx.getD k 0 < 256) (x1 x2 : Int32) (K : Int32 → Mem → Option (Int32 × Mem)) : ∀ (d p v n' : Nat) (κ : Mem), MT κ tx p → d ≤ 4 → p ≤ tx.length → d < n' → ∃ κ', lp_M_takesNumbers_36 N x1 x2 K n' (nI v) (nI (4 - d)) κ = K (nI (rdn tx d p v).2) κ' ∧ MT κ' tx (rdn tx d p v).1 ∧ Fr (fun q k => q = 44 ∧ k = 9) κ κ'
  | 0, p, v, n' + 1, κ, h, _, _, _ => ⟨κ, by rw [lp_M_takesNumbers_36, if_neg (show ¬ nI (4 - 0) < 4 from nI_nlt (b := 4) (Nat.le_refl _) (by omega)), rdn], h, Fr.rf κ⟩
  | d + 1, p, v, n' + 1, κ, h, hd, hp, hn => by
    rw [lp_M_takesNumbers_36, if_pos (show nI (4 - (d + 1)) < 4 from nI_lt (b := 4) (by omega) (by omega)), sM_isDigit N h hl hb (by omega), bnd_some, rdn]
    cases e : dgt tx p with
    | none => exact ⟨κ, by rw [if_neg (show ¬ (none : Option Nat).isSome = true by decide), if_pos rfl], h, Fr.rf κ⟩
    | some k =>
      have q := dgt_lt e
      have ek : tx.getD p 0 = k + 48 := by
        unfold dgt at e
        split at e
        · rename_i z
          cases e; omega
        · cases e
      obtain ⟨κ', e1, h1, f1⟩ := l_tn36 N hl hb x1 x2 K d (p + 1) (10 * v + k) n' (sI κ 44 9 (nI (p + 1))) (h.to (p + 1)) (by omega) q.1 (by omega)
      refine ⟨κ', ?_, h1, ((Fr.rf κ).sI ⟨rfl, rfl⟩).tr f1⟩
      rw [if_pos (show (some k : Option Nat).isSome = true from rfl), if_neg (by decide), h.1, inb_nI (by omega) (by omega), ck_tt, tn_nI (by omega), h.2.2 p q.1, ek, show (10 : Int32) = nI 10 from rfl, pk_mul, nI_add, show nI (10 * v + (k + 48)) - 48 = nI (10 * v + (k + 48) - 48) from pk_sub (b := 48) (by omega), ltE, ltE, ltE, nI_1, nI_1, show 4 - (d + 1) + 1 = 4 - d by omega, show 10 * v + (k + 48) - 48 = 10 * v + k by omega]
      exact e1
def rv (tx : List Nat) : Nat → Nat → Nat → List Nat → Nat ⊕ (Nat × List Nat)
  | 0, _, p, a => .inr (p, a)
  | m + 1, w, p, a =>
    if w ≠ 0 ∧ cma tx 44 p = false then .inl p
    else match dgt tx (if w = 0 then p else p + 1) with
      | none => .inl (if w = 0 then p else p + 1)
      | some _ => rv tx m (w + 1) (rdn tx 4 (if w = 0 then p else p + 1) 0).1 (a ++ [(rdn tx 4 (if w = 0 then p else p + 1) 0).2])
def VV (μ : Mem) (q : Nat) (a : List Nat) : Prop := ∀ k, k < a.length → gI μ q k = nI (a.getD k 0)
theorem getD_sn (a : List Nat) (v k : Nat) : (a ++ [v]).getD k 0 = if k < a.length then a.getD k 0 else if k = a.length then v else 0 := by
  rw [List.getD_eq_getElem?_getD, List.getD_eq_getElem?_getD]
  by_cases h : k < a.length
  · rw [if_pos h, List.getElem?_append_left h]
  · rw [if_neg h, List.getElem?_append_right (by omega)]
    by_cases h2 : k = a.length
    · subst h2; simp
    · rw [if_neg h2, List.getElem?_eq_none (by simp; omega)]; rfl
theorem VV.sn {μ : Mem} {q : Nat} {a : List Nat} (h : VV μ q a) (v : Nat) : VV (sI μ q a.length (nI v)) q (a ++ [v]) := by
  intro k hk
  rw [List.length_append, List.length_singleton] at hk
  rw [getD_sn, gI_sI]
  by_cases e : k = a.length
  · rw [if_pos ⟨rfl, e⟩, if_neg (by omega), if_pos e]
  · rw [if_neg (fun z => e z.2), if_pos (by omega)]; exact h k (by omega)
theorem VV.fr {A : Nat → Nat → Prop} {μ μ' : Mem} {q : Nat} {a : List Nat} (h : VV μ q a) (f : Fr A μ μ') (h0 : ∀ k, ¬ A q k) : VV μ' q a := fun k hk => by rw [f.I (h0 k)]; exact h k hk
theorem cma_t {tx : List Nat} {c p : Nat} (h : cma tx c p = true) : p < tx.length ∧ tx.getD p 0 = c := of_decide_eq_true h
theorem l_rv4 (N : Nat) (hN : 10000 ≤ N) {tx : List Nat} {n : Nat} (h8 : n ≤ 8) (hl : tx.length ≤ 200) (hb : ∀ k, tx.getD k 0 < 256) (K : Int32 → Mem → Option (Int32 × Mem)) : ∀ (m w p n' : Nat) (a : List Nat) (κ : Mem), TX κ tx → w + m = n → a.length = w → p ≤ tx.length → m < n' → VV κ 35 a → ∃ κ', Fr (rg 35 35) κ κ' ∧ (match rv tx m w p a with
      | .inl q => lp_X_readValues_4 N (nI n) K n' (nI p) (nI w) κ = some (nI q, κ')
      | .inr (q, b) => lp_X_readValues_4 N (nI n) K n' (nI p) (nI w) κ = K (nI q) κ' ∧ VV κ' 35 b)
  | 0, w, p, n' + 1, a, κ, h, hw, ha, hp, hn, hv => ⟨κ, Fr.rf κ, by
      rw [rv]
      exact ⟨by rw [lp_X_readValues_4, if_neg (nI_nlt (by omega) (by omega))], hv⟩⟩
  | m + 1, w, p, n' + 1, a, κ, h, hw, ha, hp, hn, hv => by
    have kk : ∀ (p1 : Nat), p1 ≤ tx.length → ∃ κ', Fr (rg 35 35) κ κ' ∧ (match (match dgt tx p1 with
          | none => (Sum.inl p1 : Nat ⊕ (Nat × List Nat))
          | some _ => rv tx m (w + 1) (rdn tx 4 p1 0).1 (a ++ [(rdn tx 4 p1 0).2])) with
        | .inl q => (bnd (f_Text_digitAt N (nI p1) κ) fun r5 μ6 => if r5 < 0 then (some (nI p1, μ6)) else (lp_X_readValues_50 N (nI n) (nI w) (fun v17 v18 μ19 => ck (inb (nI w) 8) (lt' (sI μ19 35 (tn (nI w)) v18) fun μ21 => lt' (nI w + 1) fun v22 => lp_X_readValues_4 N (nI n) K n' v17 v22 μ21)) N (nI p1) 0 0 μ6)) = some (nI q, κ')
        | .inr (q, b) => (bnd (f_Text_digitAt N (nI p1) κ) fun r5 μ6 => if r5 < 0 then (some (nI p1, μ6)) else (lp_X_readValues_50 N (nI n) (nI w) (fun v17 v18 μ19 => ck (inb (nI w) 8) (lt' (sI μ19 35 (tn (nI w)) v18) fun μ21 => lt' (nI w + 1) fun v22 => lp_X_readValues_4 N (nI n) K n' v17 v22 μ21)) N (nI p1) 0 0 μ6)) = K (nI q) κ' ∧ VV κ' 35 b) := by
      intro p1 hp1
      rw [sX_digit N h hl hb (by omega), bnd_some]
      cases e : dgt tx p1 with
      | none => exact ⟨κ, Fr.rf κ, by rw [if_pos (show oI none < 0 by decide)]⟩
      | some k =>
        have q := dgt_lt e
        have r1 := rdn_le tx 4 p1 0 hp1
        have h' : TX (sI κ 35 w (nI (rdn tx 4 p1 0).2)) tx := h.fr (A := rg 35 35) ((Fr.rf κ).sI (rgi (by omega) (by omega))) (rgo (by omega)) (fun _ => rgo (by omega))
        obtain ⟨κ', f', e'⟩ := l_rv4 N hN h8 hl hb K m (w + 1) (rdn tx 4 p1 0).1 n' (a ++ [(rdn tx 4 p1 0).2]) (sI κ 35 w (nI (rdn tx 4 p1 0).2)) h' (by omega) (by rw [List.length_append, List.length_singleton, ha]) r1 (by omega) (by rw [← ha]; exact hv.sn _)
        have eq : (if oI (some k) < 0 then (some (nI p1, κ)) else (lp_X_readValues_50 N (nI n) (nI w) (fun v17 v18 μ19 => ck (inb (nI w) 8) (lt' (sI μ19 35 (tn (nI w)) v18) fun μ21 => lt' (nI w + 1) fun v22 => lp_X_readValues_4 N (nI n) K n' v17 v22 μ21)) N (nI p1) 0 0 κ)) = lp_X_readValues_4 N (nI n) K n' (nI (rdn tx 4 p1 0).1) (nI (w + 1)) (sI κ 35 w (nI (rdn tx 4 p1 0).2)) := by
          rw [if_neg (show ¬ oI (some k) < 0 from nI_pos (by omega))]
          refine Eq.trans (l_rv50 N h hl hb (nI n) (nI w) _ 4 p1 0 N (Nat.le_refl _) hp1 (by omega)) ?_
          rw [inb_nI (by omega) (by omega), ck_tt, tn_nI (by omega), ltE, ltE, nI_1]
        refine ⟨κ', ((Fr.rf κ).sI (rgi (by omega) (by omega))).tr f', ?_⟩
        rw [eq]
        exact e'
    have wl : w < n := (by omega)
    rw [rv]
    by_cases hw0 : w = 0
    · subst hw0
      obtain ⟨κ', f', e'⟩ := kk p hp
      refine ⟨κ', f', ?_⟩
      rw [if_neg (fun z => z.1 rfl), if_pos rfl]
      have st : lp_X_readValues_4 N (nI n) K (n' + 1) (nI p) (nI 0) κ = (bnd (f_Text_digitAt N (nI p) κ) fun r5 μ6 => if r5 < 0 then (some (nI p, μ6)) else (lp_X_readValues_50 N (nI n) (nI 0) (fun v17 v18 μ19 => ck (inb (nI 0) 8) (lt' (sI μ19 35 (tn (nI 0)) v18) fun μ21 => lt' (nI 0 + 1) fun v22 => lp_X_readValues_4 N (nI n) K n' v17 v22 μ21)) N (nI p) 0 0 μ6)) := by
        rw [lp_X_readValues_4, if_pos (nI_lt wl (by omega)), ltE, if_neg (by decide)]
      rw [st]
      exact e'
    · have pos : (0 : Int32) < nI w := nI_lt (a := 0) (by omega) (by omega)
      by_cases c : cma tx 44 p = true
      · obtain ⟨c1, c2⟩ := cma_t c
        obtain ⟨κ', f', e'⟩ := kk (p + 1) c1
        refine ⟨κ', f', ?_⟩
        rw [if_neg (fun z => by rw [c] at z; exact absurd z.2 (by decide)), if_neg hw0]
        have st : lp_X_readValues_4 N (nI n) K (n' + 1) (nI p) (nI w) κ = (bnd (f_Text_digitAt N (nI (p + 1)) κ) fun r5 μ6 => if r5 < 0 then (some (nI (p + 1), μ6)) else (lp_X_readValues_50 N (nI n) (nI w) (fun v17 v18 μ19 => ck (inb (nI w) 8) (lt' (sI μ19 35 (tn (nI w)) v18) fun μ21 => lt' (nI w + 1) fun v22 => lp_X_readValues_4 N (nI n) K n' v17 v22 μ21)) N (nI (p + 1)) 0 0 μ6)) := by
          rw [lp_X_readValues_4, if_pos (nI_lt wl (by omega)), ltE, if_pos pos, sX_sign N h hl (by omega), bnd_some, if_pos c1, if_pos (by rw [c2]; rfl), ltE, nI_1 p]
        rw [st]
        exact e'
      · have c' : cma tx 44 p = false := by simpa using c
        refine ⟨κ, Fr.rf κ, ?_⟩
        rw [if_pos ⟨hw0, c'⟩]
        show lp_X_readValues_4 N (nI n) K (n' + 1) (nI p) (nI w) κ = some (nI p, κ)
        have b := hb p
        rw [lp_X_readValues_4, if_pos (nI_lt wl (by omega)), ltE, if_pos pos, sX_sign N h hl (by omega), bnd_some, if_neg]
        intro z
        by_cases y : p < tx.length
        · rw [if_pos y] at z
          exact c (decide_eq_true ⟨y, (nI_eq (b := 44) (by omega) (by omega)).mp z⟩)
        · rw [if_neg y] at z
          exact absurd z (by decide)

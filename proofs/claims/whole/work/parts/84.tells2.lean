/-! tells -/
abbrev mV : Nat → Nat → Prop := fun q k => (q = 44 ∧ k = 9) ∨ q = 57
theorem l_tn2 (N : Nat) (hN : 10000 ≤ N) {tx : List Nat} {n : Nat} (h8 : n ≤ 8) (hl : tx.length ≤ 200) (hb : ∀ k, tx.getD k 0 < 256) (K : Mem → Option (Int32 × Mem)) : ∀ (m w p n' : Nat) (a : List Nat) (κ : Mem), MT κ tx p → w + m = n → a.length = w → p ≤ tx.length → m < n' → VV κ 57 a → ∃ κ', Fr mV κ κ' ∧ (match rv tx m w p a with
      | .inl q => lp_M_takesNumbers_2 N (nI n) K n' (nI w) κ = some (0, κ') ∧ MT κ' tx q
      | .inr (q, b) => lp_M_takesNumbers_2 N (nI n) K n' (nI w) κ = K κ' ∧ MT κ' tx q ∧ VV κ' 57 b)
  | 0, w, p, n' + 1, a, κ, h, hw, ha, hp, hn, hv => ⟨κ, Fr.rf κ, by
      rw [rv]
      exact ⟨by rw [lp_M_takesNumbers_2, if_neg (nI_nlt (by omega) (by omega))], h, hv⟩⟩
  | m + 1, w, p, n' + 1, a, κ0, h, hw, ha, hp, hn, hv => by
    have kk : ∀ (p1 : Nat) (κ : Mem), p1 ≤ tx.length → MT κ tx p1 → VV κ 57 a → ∃ κ', Fr mV κ κ' ∧ (match (match dgt tx p1 with
          | none => (Sum.inl p1 : Nat ⊕ (Nat × List Nat))
          | some _ => rv tx m (w + 1) (rdn tx 4 p1 0).1 (a ++ [(rdn tx 4 p1 0).2])) with
        | .inl q => (bnd (f_M_isDigit N κ) fun r4 μ5 => if r4 = 0 then (some (0, μ5)) else (lp_M_takesNumbers_36 N (nI n) (nI w) (fun v15 μ16 => ck (inb (nI w) 8) (lt' (sI μ16 57 (tn (nI w)) v15) fun μ18 => lt' (nI w + 1) fun v19 => lp_M_takesNumbers_2 N (nI n) K n' v19 μ18)) N 0 0 μ5)) = some (0, κ') ∧ MT κ' tx q
        | .inr (q, b) => (bnd (f_M_isDigit N κ) fun r4 μ5 => if r4 = 0 then (some (0, μ5)) else (lp_M_takesNumbers_36 N (nI n) (nI w) (fun v15 μ16 => ck (inb (nI w) 8) (lt' (sI μ16 57 (tn (nI w)) v15) fun μ18 => lt' (nI w + 1) fun v19 => lp_M_takesNumbers_2 N (nI n) K n' v19 μ18)) N 0 0 μ5)) = K κ' ∧ MT κ' tx q ∧ VV κ' 57 b) := by
      intro p1 κ hp1 h hv
      rw [sM_isDigit N h hl hb (by omega), bnd_some]
      cases e : dgt tx p1 with
      | none => exact ⟨κ, Fr.rf κ, by rw [if_neg (show ¬ (none : Option Nat).isSome = true by decide), if_pos rfl], h⟩
      | some k =>
        have q := dgt_lt e
        have r1 := rdn_le tx 4 p1 0 hp1
        obtain ⟨κ1, e1, h1, f1⟩ := l_tn36 N hl hb (nI n) (nI w) (fun v15 μ16 => ck (inb (nI w) 8) (lt' (sI μ16 57 (tn (nI w)) v15) fun μ18 => lt' (nI w + 1) fun v19 => lp_M_takesNumbers_2 N (nI n) K n' v19 μ18)) 4 p1 0 N κ h (Nat.le_refl _) hp1 (by omega)
        have f1' : Fr mV κ κ1 := f1.mono (fun q k z => Or.inl z)
        have h' : MT (sI κ1 57 w (nI (rdn tx 4 p1 0).2)) tx (rdn tx 4 p1 0).1 := h1.fr (A := rg 57 57) ((Fr.rf κ1).sI (rgi (by omega) (by omega))) (rgo (by omega)) (rgo (by omega)) (fun _ => rgo (by omega))
        have hv1 : VV κ1 57 a := hv.fr f1 (fun k z => by omega)
        obtain ⟨κ', f', e'⟩ := l_tn2 N hN h8 hl hb K m (w + 1) (rdn tx 4 p1 0).1 n' (a ++ [(rdn tx 4 p1 0).2]) (sI κ1 57 w (nI (rdn tx 4 p1 0).2)) h' (by omega) (by rw [List.length_append, List.length_singleton, ha]) r1 (by omega) (by rw [← ha]; exact hv1.sn _)
        have eq : (if (if (some k : Option Nat).isSome then (1 : Int32) else 0) = 0 then (some (0, κ)) else (lp_M_takesNumbers_36 N (nI n) (nI w) (fun v15 μ16 => ck (inb (nI w) 8) (lt' (sI μ16 57 (tn (nI w)) v15) fun μ18 => lt' (nI w + 1) fun v19 => lp_M_takesNumbers_2 N (nI n) K n' v19 μ18)) N 0 0 κ)) = lp_M_takesNumbers_2 N (nI n) K n' (nI (w + 1)) (sI κ1 57 w (nI (rdn tx 4 p1 0).2)) := by
          rw [if_pos (show (some k : Option Nat).isSome = true from rfl), if_neg (by decide)]
          refine Eq.trans e1 ?_
          rw [inb_nI (by omega) (by omega), ck_tt, tn_nI (by omega), ltE, ltE, nI_1]
        refine ⟨κ', (f1'.sI (Or.inr rfl)).tr f', ?_⟩
        rw [eq]
        exact e'
    have wl : w < n := (by omega)
    rw [rv]
    by_cases hw0 : w = 0
    · subst hw0
      obtain ⟨κ', f', e'⟩ := kk p κ0 hp h hv
      refine ⟨κ', f', ?_⟩
      rw [if_neg (fun z => z.1 rfl), if_pos rfl]
      have st : lp_M_takesNumbers_2 N (nI n) K (n' + 1) (nI 0) κ0 = (bnd (f_M_isDigit N κ0) fun r4 μ5 => if r4 = 0 then (some (0, μ5)) else (lp_M_takesNumbers_36 N (nI n) (nI 0) (fun v15 μ16 => ck (inb (nI 0) 8) (lt' (sI μ16 57 (tn (nI 0)) v15) fun μ18 => lt' (nI 0 + 1) fun v19 => lp_M_takesNumbers_2 N (nI n) K n' v19 μ18)) N 0 0 μ5)) := by
        rw [lp_M_takesNumbers_2, if_pos (nI_lt wl (by omega)), ltE, if_neg (by decide)]
      rw [st]
      exact e'
    · have pos : (0 : Int32) < nI w := nI_lt (a := 0) (by omega) (by omega)
      have tk := sM_takes N h hl hb (c := 44) (by omega) (by decide)
      by_cases c : cma tx 44 p = true
      · obtain ⟨c1, c2⟩ := cma_t c
        rw [if_pos c] at tk
        obtain ⟨κ', f', e'⟩ := kk (p + 1) (sI κ0 44 9 (nI (p + 1))) c1 (h.to _) (hv.fr (A := rg 44 44) ((Fr.rf κ0).sI (rgi (by omega) (by omega))) (fun _ => rgo (by omega)))
        refine ⟨κ', ((Fr.rf κ0).sI (Or.inl ⟨rfl, rfl⟩)).tr f', ?_⟩
        rw [if_neg (fun z => by rw [c] at z; exact absurd z.2 (by decide)), if_neg hw0]
        have st : lp_M_takesNumbers_2 N (nI n) K (n' + 1) (nI w) κ0 = (bnd (f_M_isDigit N (sI κ0 44 9 (nI (p + 1)))) fun r4 μ5 => if r4 = 0 then (some (0, μ5)) else (lp_M_takesNumbers_36 N (nI n) (nI w) (fun v15 μ16 => ck (inb (nI w) 8) (lt' (sI μ16 57 (tn (nI w)) v15) fun μ18 => lt' (nI w + 1) fun v19 => lp_M_takesNumbers_2 N (nI n) K n' v19 μ18)) N 0 0 μ5)) := by
          rw [lp_M_takesNumbers_2, if_pos (nI_lt wl (by omega)), ltE, if_pos pos, show f_M_takes N 44 κ0 = _ from tk, bnd_some, if_neg (by decide)]
        rw [st]
        exact e'
      · have c' : cma tx 44 p = false := by simpa using c
        rw [if_neg c] at tk
        refine ⟨κ0, Fr.rf κ0, ?_⟩
        rw [if_pos ⟨hw0, c'⟩]
        show lp_M_takesNumbers_2 N (nI n) K (n' + 1) (nI w) κ0 = some (0, κ0) ∧ MT κ0 tx p
        exact ⟨by rw [lp_M_takesNumbers_2, if_pos (nI_lt wl (by omega)), ltE, if_pos pos, show f_M_takes N 44 κ0 = _ from tk, bnd_some, if_pos rfl], h⟩
theorem rv_ok (tx : List Nat) : ∀ m w p a, p ≤ tx.length → (∀ k, a.getD k 0 < 10000) → (match rv tx m w p a with
      | .inl q => q ≤ tx.length
      | .inr (q, b) => q ≤ tx.length ∧ b.length = a.length + m ∧ ∀ k, b.getD k 0 < 10000)
  | 0, w, p, a, hp, ha => by
    rw [rv]; exact ⟨hp, rfl, ha⟩
  | m + 1, w, p, a, hp, ha => by
    have kk : ∀ p1, p1 ≤ tx.length → (match (match dgt tx p1 with
          | none => (Sum.inl p1 : Nat ⊕ (Nat × List Nat))
          | some _ => rv tx m (w + 1) (rdn tx 4 p1 0).1 (a ++ [(rdn tx 4 p1 0).2])) with
        | .inl q => q ≤ tx.length
        | .inr (q, b) => q ≤ tx.length ∧ b.length = a.length + (m + 1) ∧ ∀ k, b.getD k 0 < 10000) := by
      intro p1 hp1
      cases e : dgt tx p1 with
      | none => exact hp1
      | some k =>
        have r1 := rdn_le tx 4 p1 0 hp1
        have r2 := rdn_b tx 4 p1 0 0 (by decide)
        have := rv_ok tx m (w + 1) (rdn tx 4 p1 0).1 (a ++ [(rdn tx 4 p1 0).2]) r1 (fun k => by
          rw [getD_sn]
          split
          · exact ha k
          · split
            · exact r2
            · decide)
        rw [List.length_append, List.length_singleton, Nat.add_assoc, Nat.add_comm 1 m] at this
        exact this
    rw [rv]
    by_cases z : w ≠ 0 ∧ cma tx 44 p = false
    · rw [if_pos z]; exact hp
    · rw [if_neg z]
      by_cases w0 : w = 0
      · rw [if_pos w0]; exact kk p hp
      · rw [if_neg w0]
        have c : cma tx 44 p = true := by
          cases y : cma tx 44 p with
          | true => rfl
          | false => exact absurd ⟨w0, y⟩ z
        exact kk (p + 1) (cma_t c).1
def VF (μ : Mem) (q n : Nat) (V : Nat → Nat) : Prop := ∀ k, k < n → gI μ q k = nI (V k)
theorem VF.fr {A : Nat → Nat → Prop} {μ μ' : Mem} {q n : Nat} {V : Nat → Nat} (h : VF μ q n V) (f : Fr A μ μ') (h0 : ∀ k, ¬ A q k) : VF μ' q n V := fun k hk => by rw [f.I (h0 k)]; exact h k hk
def ov (V : Nat → Nat) (i j : Nat) : Nat → Nat := fun w => if w = i then min (V i) (V j) else if w = j then max (V i) (V j) else V w
def ovs (cs : List (Nat × Nat)) (V : Nat → Nat) : Nat → (Nat → Nat)
  | 0 => V
  | k + 1 => ov (ovs cs V k) (cl cs k) (ch cs k)
def obz (cs : List (Nat × Nat)) (V : Nat → Nat) : Nat → Nat
  | 0 => 0
  | k + 1 => obz cs V k + if ovs cs V k (ch cs k) < ovs cs V k (cl cs k) then 1 else 0
theorem ov_b {V : Nat → Nat} {B : Nat} (h : ∀ w, V w < B) (i j w : Nat) : ov V i j w < B := by
  have := h i
  have := h j
  have := h w
  unfold ov
  split
  · omega
  · split <;> omega
theorem ovs_b {V : Nat → Nat} {B : Nat} (cs : List (Nat × Nat)) (h : ∀ w, V w < B) : ∀ k w, ovs cs V k w < B
  | 0, w => h w
  | k + 1, w => ov_b (ovs_b cs h k) _ _ w
theorem sX_orderValues (N : Nat) {μ : Mem} {n i j : Nat} {V : Nat → Nat} (h : VF μ 35 n V) (h8 : n ≤ 8) (hi : i < n) (hj : j < n) (hij : i ≠ j) (hb : ∀ w, V w < 10000) : ∃ μ', f_X_orderValues N (nI i) (nI j) μ = some (nI (if V j < V i then 1 else 0), μ') ∧ VF μ' 35 n (ov V i j) ∧ Fr (rg 35 35) μ μ' := by
  have b1 := hb i
  have b2 := hb j
  have l : (nI (V j) < nI (V i)) ↔ V j < V i := nI_ltI (by omega) (by omega)
  unfold f_X_orderValues
  rw [inb_nI (show i < 8 by omega) (by omega), inb_nI (show j < 8 by omega) (by omega), tn_nI (show i < 2 ^ 31 by omega), tn_nI (show j < 2 ^ 31 by omega), h i hi, h j hj]
  simp only [ck_tt]
  by_cases z : V j < V i
  · refine ⟨sI (sI μ 35 i (nI (V j))) 35 j (nI (V i)), ?_, fun k hk => ?_, ((Fr.rf μ).sI (rgi (by omega) (by omega))).sI (rgi (by omega) (by omega))⟩
    · rw [if_pos (l.mpr z), ltE, ltE, ltE, if_pos z]; rfl
    · rw [gI_sI, gI_sI]
      unfold ov
      by_cases e1 : k = j
      · rw [if_pos ⟨rfl, e1⟩, if_neg (by omega), if_pos e1, Nat.max_eq_left (by omega)]
      · rw [if_neg (fun y => e1 y.2)]
        by_cases e2 : k = i
        · rw [if_pos ⟨rfl, e2⟩, if_pos e2, Nat.min_eq_right (by omega)]
        · rw [if_neg (fun y => e2 y.2), if_neg e2, if_neg e1, h k hk]
  · refine ⟨μ, by rw [if_neg (fun y => z (l.mp y)), if_neg z]; rfl, fun k hk => ?_, Fr.rf μ⟩
    rw [h k hk]
    unfold ov
    by_cases e2 : k = i
    · rw [if_pos e2, e2, Nat.min_eq_left (by omega)]
    · rw [if_neg e2]
      by_cases e1 : k = j
      · rw [if_pos e1, e1, Nat.max_eq_right (by omega)]
      · rw [if_neg e1]
theorem obz_le (cs : List (Nat × Nat)) (V : Nat → Nat) : ∀ k, obz cs V k ≤ k
  | 0 => Nat.le_refl _
  | k + 1 => by
    have := obz_le cs V k
    rw [obz]; split <;> omega
theorem l_xt56 (N : Nat) (hN : 10000 ≤ N) {q n : Nat} {cs : List (Nat × Nat)} {V : Nat → Nat} {μ : Mem} (nx : NX μ q n cs) (w : WN n cs) (hq : q + 2 < 35) (h : VF μ 35 n V) (hb : ∀ w, V w < 10000) (K : Int32 → Mem → Option (Int32 × Mem)) : ∃ μ', lp_X_tells_56 N q K N 0 0 μ = K (nI (obz cs V cs.length)) μ' ∧ VF μ' 35 n (ovs cs V cs.length) ∧ Fr (rg 35 35) μ μ' := by
  have hl := w.2.2.1
  obtain ⟨⟨v, μ'⟩, ⟨k1, k2, k3⟩, e⟩ := for_up (fun n' i (z : Int32 × Mem) => lp_X_tells_56 N q K n' z.1 i z.2) (fun z => K z.1 z.2) cs.length (fun i z => z.1 = nI (obz cs V i) ∧ VF z.2 35 n (ovs cs V i) ∧ Fr (rg 35 35) μ z.2)
    (by
      intro n' i ⟨v, κ⟩ hi ⟨i1, i2, i3⟩
      dsimp only at i1 i2 i3
      subst i1
      have nk := nx.frg i3 (by omega)
      have c := w.2.2.2 i hi
      obtain ⟨κ', e', v', f'⟩ := sX_orderValues N i2 w.2.1 (i := cl cs i) (j := ch cs i) (by omega) (by omega) (by omega) (ovs_b cs hb i)
      refine ⟨(nI (obz cs V (i + 1)), κ'), ⟨rfl, v', i3.tr f'⟩, ?_⟩
      dsimp only
      rw [lp_X_tells_56, nk.2.1, if_pos (nI_lt hi (by omega)), inb_nI (by omega) (by omega), ck_tt, ck_tt, tn_nI (by omega), (nk.2.2 i hi).1, (nk.2.2 i hi).2, e', bnd_some, ltE, ltE, nI_1, nI_add, obz])
    (by
      intro n' ⟨v, κ⟩ ⟨i1, i2, i3⟩
      dsimp only at i1 i2 i3 ⊢
      have nk := nx.frg i3 (by omega)
      rw [lp_X_tells_56, nk.2.1, if_neg (nI_nlt (Nat.le_refl _) (by omega))])
    cs.length 0 N (0, μ) (by omega) (by omega) ⟨rfl, h, Fr.rf μ⟩
  dsimp only at k1 k2 k3 e
  subst k1
  exact ⟨μ', e, k2, k3⟩
def rwl (V : Nat → Nat) (n : Nat) : List Int64 := (List.range n).map fun k => (nI (V k)).toInt64
theorem rwl_succ (V : Nat → Nat) (n : Nat) : rwl V (n + 1) = rwl V n ++ [(nI (V n)).toInt64] := by
  unfold rwl
  rw [List.range_succ, List.map_append]; rfl
theorem rwl_len (V : Nat → Nat) (n : Nat) : (rwl V n).length = n := by unfold rwl; simp
theorem sX_tellFirst (N : Nat) (hN : 10000 ≤ N) {q m n : Nat} {V : Nat → Nat} {μ : Mem} (h : VF μ q n V) (hq : 17 < q) (hnm : n ≤ m) (hm : m ≤ 60) : ∃ μ', f_X_tellFirst N q m (nI n) μ = some ((), μ') ∧ RX μ' (rwl V n) ∧ Fr (rg 16 17) μ μ' := by
  obtain ⟨μ1, e1, r1, f1⟩ := sNum_clear N μ
  obtain ⟨μ', ⟨k1, k2⟩, e⟩ := for_up (fun n' i ν => lp_X_tellFirst_9 N q m (nI n) (fun μ9 => some ((), μ9)) n' i ν) (fun ν => some ((), ν)) n (fun i κ => RX κ (rwl V i) ∧ Fr (rg 16 17) μ κ)
    (by
      intro n' i κ hi ⟨i1, i2⟩
      obtain ⟨κ', e', r', f'⟩ := sNum_append N (nI (V i)).toInt64 i1 (by rw [rwl_len]; omega)
      refine ⟨κ', ⟨by rw [rwl_succ]; exact r', i2.tr f'⟩, ?_⟩
      rw [lp_X_tellFirst_9, if_pos (nI_lt hi (by omega)), if_pos (show nI i < Int32.ofNat m from nI_lt (by omega) (by omega)), inb_nI (by omega) (by omega), ck_tt, tn_nI (by omega), i2.I (rgo (by omega)), h i hi, e', bnd_some, ltE, nI_1])
    (by
      intro n' κ _
      rw [lp_X_tellFirst_9, if_neg (nI_nlt (Nat.le_refl _) (by omega))])
    n 0 N μ1 (by omega) (by omega) ⟨r1, f1⟩
  refine ⟨μ', ?_, k1, k2⟩
  unfold f_X_tellFirst
  rw [e1, bnd_some]
  exact e
abbrev m57 : Nat → Nat → Prop := rg 57 57
theorem NM.m7 {s n : Nat} {cs : List (Nat × Nat)} {μ μ' : Mem} (h : NM μ s n cs) (f : Fr m57 μ μ') : NM μ' s n cs := h.fr f (fun q k _ _ z => by unfold m57 rg at z; omega)
/-- the model puts the lesser and the greater one on their wires -/
theorem ov_m {κ : Mem} {n i j : Nat} {V : Nat → Nat} (h : VF κ 57 n V) (hij : i ≠ j) : VF (sI (sI κ 57 i (nI (min (V i) (V j)))) 57 j (nI (max (V i) (V j)))) 57 n (ov V i j) := by
  intro k hk
  rw [gI_sI, gI_sI]
  unfold ov
  by_cases e1 : k = j
  · rw [if_pos ⟨rfl, e1⟩, if_neg (by omega), if_pos e1]
  · rw [if_neg (fun y => e1 y.2)]
    by_cases e2 : k = i
    · rw [if_pos ⟨rfl, e2⟩, if_pos e2]
    · rw [if_neg (fun y => e2 y.2), if_neg e2, if_neg e1, h k hk]
theorem l_mt43 (N : Nat) (hN : 10000 ≤ N) {s n : Nat} {cs : List (Nat × Nat)} {V : Nat → Nat} {μ : Mem} (m : NM μ s n cs) (w : WN n cs) (hs : s < 4) (h : VF μ 57 n V) (hb : ∀ w, V w < 10000) (K : Int32 → Mem → Option (Int32 × Mem)) : ∃ μ', lp_M_tells_43 N (nI s) K N 0 0 μ = K (nI (obz cs V cs.length)) μ' ∧ VF μ' 57 n (ovs cs V cs.length) ∧ Fr m57 μ μ' := by
  have hl := w.2.2.1
  have h8 := w.2.1
  obtain ⟨⟨v, μ'⟩, ⟨k1, k2, k3⟩, e⟩ := for_up (fun n' i (z : Int32 × Mem) => lp_M_tells_43 N (nI s) K n' z.1 i z.2) (fun z => K z.1 z.2) cs.length (fun i z => z.1 = nI (obz cs V i) ∧ VF z.2 57 n (ovs cs V i) ∧ Fr m57 μ z.2)
    (by
      intro n' i ⟨v, κ⟩ hi ⟨i1, i2, i3⟩
      dsimp only at i1 i2 i3
      subst i1
      have mk := m.m7 i3
      have c := w.2.2.2 i hi
      have b1 := ovs_b cs hb i (cl cs i)
      have b2 := ovs_b cs hb i (ch cs i)
      have l : (nI (ovs cs V i (ch cs i)) < nI (ovs cs V i (cl cs i))) ↔ ovs cs V i (ch cs i) < ovs cs V i (cl cs i) := nI_ltI (by omega) (by omega)
      have mk2 : NM (sI κ 57 (cl cs i) (nI (min (ovs cs V i (cl cs i)) (ovs cs V i (ch cs i))))) s n cs := mk.m7 ((Fr.rf κ).sI (rgi (by omega) (by omega)))
      refine ⟨(nI (obz cs V (i + 1)), sI (sI κ 57 (cl cs i) (nI (min (ovs cs V i (cl cs i)) (ovs cs V i (ch cs i))))) 57 (ch cs i) (nI (max (ovs cs V i (cl cs i)) (ovs cs V i (ch cs i))))), ⟨rfl, ov_m i2 (by omega), (i3.sI (rgi (by omega) (by omega))).sI (rgi (by omega) (by omega))⟩, ?_⟩
      dsimp only
      rw [lp_M_tells_43, inb_nI hs (by omega), ck_tt, tn_nI (show s < 2 ^ 31 by omega), mk.2.1, if_pos (nI_lt hi (by omega)), sM_lowOf N mk hs hi hl, bnd_some, inb_nI (show cl cs i < 8 by omega) (by omega), ck_tt, tn_nI (show cl cs i < 2 ^ 31 by omega), i2 _ (show cl cs i < n by omega), ltE, sM_highOf N mk hs hi hl, bnd_some, inb_nI (show ch cs i < 8 by omega) (by omega), ck_tt, tn_nI (show ch cs i < 2 ^ 31 by omega), i2 _ c.2, ltE, ltE, sM_flag, bnd_some, ltE, sM_lowOf N mk hs hi hl, bnd_some, inb_nI (show cl cs i < 8 by omega) (by omega), ck_tt, tn_nI (show cl cs i < 2 ^ 31 by omega), mnI_nI (by omega) (by omega), ltE, sM_highOf N mk2 hs hi hl, bnd_some, inb_nI (show ch cs i < 8 by omega) (by omega), ck_tt, tn_nI (show ch cs i < 2 ^ 31 by omega), mxI_nI (by omega) (by omega), ltE, ltE, nI_1, obz]
      by_cases z : ovs cs V i (ch cs i) < ovs cs V i (cl cs i)
      · rw [if_pos (l.mpr z), if_pos z, nI_1]
      · rw [if_neg (fun y => z (l.mp y)), if_neg z, show (0 : Int32) = nI 0 from rfl, nI_add])
    (by
      intro n' ⟨v, κ⟩ ⟨i1, i2, i3⟩
      dsimp only at i1 i2 i3 ⊢
      have mk := m.m7 i3
      rw [lp_M_tells_43, inb_nI hs (by omega), ck_tt, tn_nI (show s < 2 ^ 31 by omega), mk.2.1, if_neg (nI_nlt (Nat.le_refl _) (by omega))])
    cs.length 0 N (0, μ) (by omega) (by omega) ⟨rfl, h, Fr.rf μ⟩
  dsimp only at k1 k2 k3 e
  subst k1
  exact ⟨μ', e, k2, k3⟩
theorem l_mt146 (N : Nat) (hN : 10000 ≤ N) {s n : Nat} {cs : List (Nat × Nat)} {V : Nat → Nat} {μ : Mem} (x2 : Int32) (m : NM μ s n cs) (h8 : n ≤ 8) (hs : s < 4) (h : VF μ 57 n V) (hr : RM μ []) (K : Mem → Option (Int32 × Mem)) : ∃ μ', lp_M_tells_146 N (nI s) x2 K N 0 μ = K μ' ∧ RM μ' (rwl V n) ∧ Fr mR μ μ' := by
  obtain ⟨μ', ⟨k1, k2⟩, e⟩ := for_up (fun n' i ν => lp_M_tells_146 N (nI s) x2 K n' i ν) K n (fun i κ => RM κ (rwl V i) ∧ Fr mR μ κ)
    (by
      intro n' i κ hi ⟨i1, i2⟩
      have mk := m.fr i2 (fun q k _ _ z => by unfold mR at z; omega)
      obtain ⟨κ', e', r', f'⟩ := sM_enters N (nI (V i)).toInt64 i1 (by rw [rwl_len]; omega)
      refine ⟨κ', ⟨by rw [rwl_succ]; exact r', i2.tr f'⟩, ?_⟩
      rw [lp_M_tells_146, inb_nI hs (by omega), ck_tt, tn_nI (show s < 2 ^ 31 by omega), mk.1, if_pos (nI_lt hi (by omega)), inb_nI (by omega) (by omega), ck_tt, tn_nI (by omega), i2.I (fun z => by unfold mR at z; omega), h i hi, e', bnd_some, ltE, nI_1])
    (by
      intro n' κ ⟨i1, i2⟩
      have mk := m.fr i2 (fun q k _ _ z => by unfold mR at z; omega)
      rw [lp_M_tells_146, inb_nI hs (by omega), ck_tt, tn_nI (show s < 2 ^ 31 by omega), mk.1, if_neg (nI_nlt (Nat.le_refl _) (by omega))])
    n 0 N μ (by omega) (by omega) ⟨hr, Fr.rf μ⟩
  exact ⟨μ', e, k1, k2⟩
theorem TX0 {μ : Mem} : TX (sI μ 14 1 0) [] := ⟨by simp [gI_sI, gL_sL, gR_sR, gI_sL, gI_sR, gL_sI, gL_sR, gR_sI, gR_sL]; rfl, fun k hk => by simp at hk⟩
abbrev mRd : Nat → Nat → Prop := fun q k => q = 44 ∧ (k = 8 ∨ k = 9 ∨ k = 10)
theorem sM_reads (N : Nat) {μ : Mem} {tx : List Nat} (h : TM μ tx) : ∃ μ', f_M_reads N μ = some ((), μ') ∧ MT μ' tx 0 ∧ TM μ' [] ∧ Fr mRd μ μ' := by
  refine ⟨_, rfl, ⟨?_, ?_, fun k hk => ?_⟩, ⟨?_, fun k hk => by simp at hk⟩, (((Fr.rf μ).sI (by unfold mRd; omega)).sI (by unfold mRd; omega)).sI (by unfold mRd; omega)⟩
  · simp [gI_sI, gL_sL, gR_sR, gI_sL, gI_sR, gL_sI, gL_sR, gR_sI, gR_sL]; rfl
  · simp [gI_sI, gL_sL, gR_sR, gI_sL, gI_sR, gL_sI, gL_sR, gR_sI, gR_sL, h.1]
  · simp [gI_sI, gL_sL, gR_sR, gI_sL, gI_sR, gL_sI, gL_sR, gR_sI, gR_sL, h.2 k hk]
  · simp [gI_sI, gL_sL, gR_sR, gI_sL, gI_sR, gL_sI, gL_sR, gR_sI, gR_sL]; rfl
theorem mRd_mX {μ μ' : Mem} (f : Fr mRd μ μ') : Fr mX μ μ' := f.mono (fun q k z => by unfold mRd at z; unfold mX; omega)
theorem mV_mX {μ μ' : Mem} (f : Fr mV μ μ') : Fr mX μ μ' := f.mono (fun q k z => by unfold mV at z; unfold mX; omega)
theorem m57_mX {μ μ' : Mem} (f : Fr m57 μ μ') : Fr mX μ μ' := f.mono (fun q k z => by unfold m57 rg at z; unfold mX; omega)
theorem mR_mX {μ μ' : Mem} (f : Fr mR μ μ') : Fr mX μ μ' := f.mono (fun q k z => by unfold mR at z; unfold mX; omega)
theorem op_tells (N : Nat) (hN : 10000 ≤ N) (x : Int32) : OpEq (f_X_tells N x) (f_M_tells N x) := by
  refine op_mk (fun μ σ hw hx => ?_)
  show OpG (f_X_tells N x) (f_M_tells N x) μ σ
  have hl200 := hw.2.1
  have hb := hw.2.2.1
  have tx := hx.2.1
  generalize hT : σ.2.1 = T at *
  rcases ix4 x 4 (by omega) with hs | ⟨s, hs, rfl⟩
  · refine g_t hw hx (-1) σ.2.2 hw.2.2.2 ⟨sI μ 14 1 0, ?_, TX0, hx.2.2.fr (A := rg 14 14) ((Fr.rf μ).sI (rgi (by omega) (by omega))) (rgo (by omega)) (fun _ => rgo (by omega)), (Fr.rf μ).sI (rgi (by omega) (by omega))⟩ (fun μ ν hν hm => ?_)
    · unfold f_X_tells
      rw [isNet_out N hs, bnd_some, if_pos rfl, ltE]
    · obtain ⟨ν1, e1, -, t1, f1⟩ := sM_reads N hm.2.1
      refine ⟨ν1, ?_, t1, hm.2.2.1.fr f1 (fun z => by unfold mRd at z; omega) (fun k z => by unfold mRd at z; omega), mRd_mX f1⟩
      unfold f_M_tells
      rw [ltE, ← hν, e1, bnd_some, mNet_out N hs, bnd_some, if_pos rfl]
  have w := hw.1 s hs
  have nx := hx.1 s hs
  generalize hcs : (σ.1 s).2 = cs at *
  generalize hnn : (σ.1 s).1 = n at *
  have h8 := w.2.1
  have hl := w.2.2.1
  have ok := rv_ok T n 0 0 [] (Nat.zero_le _) (fun k => by simp)
  obtain ⟨μ1, f1, r1⟩ := l_rv4 N hN h8 hl200 hb (fun v28 μ29 => if v28 = (gI μ29 14 1) then (some ((-1), μ29)) else (some (v28, μ29))) n 0 0 N [] μ tx (by omega) rfl (Nat.zero_le _) (by omega) (fun k hk => by simp at hk)
  have fx : Fr (rg 14 43) μ (sI μ1 14 1 0) := (f1.wide (by omega) (by omega)).sI (rgi (by omega) (by omega))
  have rx : RX (sI μ1 14 1 0) σ.2.2 := (hx.2.2.fr f1 (rgo (by omega)) (fun _ => rgo (by omega))).fr (A := rg 14 14) ((Fr.rf μ1).sI (rgi (by omega) (by omega))) (rgo (by omega)) (fun _ => rgo (by omega))
  have t1 : TX μ1 T := tx.fr f1 (rgo (by omega)) (fun _ => rgo (by omega))
  have model : ∀ μ ν, ν = sI μ 44 0 0 → SM ν σ → ∃ ν2, NM ν2 s n cs ∧ TM ν2 [] ∧ RM ν2 σ.2.2 ∧ Fr mX ν ν2 ∧ (match rv T n 0 0 [] with
      | .inl q => f_M_tells N (nI s) μ = some ((-21) - nI q, ν2)
      | .inr (q, b) => (q ≠ T.length → f_M_tells N (nI s) μ = some ((-21) - nI q, ν2)) ∧ (q = T.length → VV ν2 57 b ∧ f_M_tells N (nI s) μ = lp_M_tells_43 N (nI s) (fun v36 μ37 => lt' (sI μ37 44 1 0) fun μ38 => lp_M_tells_146 N (nI s) v36 (fun μ45 => some (v36, μ45)) N 0 μ38) N 0 0 ν2)) := by
    intro μ ν hν hm
    have tm := hm.2.1
    rw [hT] at tm
    have m := hm.1 s hs
    rw [hcs, hnn] at m
    obtain ⟨ν1, e1, mt, t1, g1⟩ := sM_reads N tm
    have m1 := m.fr g1 (fun q k _ _ z => by unfold mRd at z; omega)
    obtain ⟨ν2, g2, r2⟩ := l_tn2 N hN h8 hl200 hb (fun μ24 => if (gI μ24 44 9) = (gI μ24 44 10) then (some (1, μ24)) else (some (0, μ24))) n 0 0 N [] ν1 mt (by omega) rfl (Nat.zero_le _) (by omega) (fun k hk => by simp at hk)
    have m2 := m1.fr g2 (fun q k _ _ z => by unfold mV at z; omega)
    refine ⟨ν2, m2, t1.fr g2 (fun z => by unfold mV at z; omega) (fun k z => by unfold mV at z; omega), (hm.2.2.1.fr g1 (fun z => by unfold mRd at z; omega) (fun k z => by unfold mRd at z; omega)).fr g2 (fun z => by unfold mV at z; omega) (fun k z => by unfold mV at z; omega), (mRd_mX g1).tr (mV_mX g2), ?_⟩
    have pre : ∀ o, f_M_takesNumbers N (nI n) ν1 = o → f_M_tells N (nI s) μ = bnd o fun r8 μ9 => if r8 = 0 then (some ((-21) - (gI μ9 44 9), μ9)) else (lp_M_tells_43 N (nI s) (fun v36 μ37 => lt' (sI μ37 44 1 0) fun μ38 => lp_M_tells_146 N (nI s) v36 (fun μ45 => some (v36, μ45)) N 0 μ38) N 0 0 μ9) := by
      intro o ho
      unfold f_M_tells
      rw [ltE, ← hν, e1, bnd_some, mNet_in N hs, bnd_some, if_neg (by decide), inb_nI hs (by omega), ck_tt, tn_nI (by omega), m1.1, ho]
    cases hr : rv T n 0 0 [] with
    | inl q =>
      rw [hr] at r2
      obtain ⟨e2, mt2⟩ := r2
      show f_M_tells N (nI s) μ = some ((-21) - nI q, ν2)
      rw [pre _ e2, bnd_some, if_pos rfl, mt2.1]
    | inr c =>
      obtain ⟨q, b⟩ := c
      rw [hr] at r2 ok
      obtain ⟨e2, mt2, v2⟩ := r2
      have e2' : f_M_takesNumbers N (nI n) ν1 = (if (gI ν2 44 9) = (gI ν2 44 10) then (some (1, ν2)) else (some (0, ν2))) := e2
      rw [mt2.1, mt2.2.1] at e2'
      have c : (nI q = nI T.length) ↔ q = T.length := nI_eq (by have := ok.1; omega) (by omega)
      refine ⟨fun z => ?_, fun z => ⟨v2, ?_⟩⟩
      · rw [pre _ e2', if_neg (fun y => z (c.mp y)), bnd_some, if_pos rfl, mt2.1]
      · rw [pre _ e2', if_pos (c.mpr z), bnd_some, if_neg (by decide)]
  have preX : ∀ o, f_X_readValues N (nI n) μ = o → f_X_tells N (nI s) μ = bnd o fun r5 μ6 => lt' (sI μ6 14 1 0) fun μ7 => if r5 < 0 then (lp_X_tells_56 N (2 + 3 * s) (fun v16 μ17 => bnd (f_X_tellFirst N 35 8 (gI μ17 (2 + 3 * s) 0) μ17) fun _ μ19 => some (v16, μ19)) N 0 0 μ7) else (some ((-21) - r5, μ7)) := by
    intro o ho
    unfold f_X_tells
    rw [isNet_in N hs, bnd_some, if_neg (by decide), inb_nI hs (by omega), ck_tt, tn_nI (by omega), nx.1, ho]
  cases hr : rv T n 0 0 [] with
  | inl q =>
    rw [hr] at r1 ok
    refine g_t hw hx ((-21) - nI q) σ.2.2 hw.2.2.2 ⟨sI μ1 14 1 0, ?_, TX0, rx, fx⟩ (fun μ ν hν hm => ?_)
    · have e : f_X_readValues N (nI n) μ = some (nI q, μ1) := r1
      rw [preX _ e, bnd_some, ltE, if_neg (nI_pos (by have : q ≤ T.length := ok; omega))]
    · obtain ⟨ν2, -, a2, a3, a4, a5⟩ := model μ ν hν hm
      rw [hr] at a5
      exact ⟨ν2, a5, a2, a3, a4⟩
  | inr c =>
    obtain ⟨q, b⟩ := c
    rw [hr] at r1 ok
    obtain ⟨o1, o2, o3⟩ := ok
    obtain ⟨e, v1⟩ := r1
    have e' : f_X_readValues N (nI n) μ = (if nI q = (gI μ1 14 1) then (some ((-1), μ1)) else (some (nI q, μ1))) := e
    rw [t1.1] at e'
    have c : (nI q = nI T.length) ↔ q = T.length := nI_eq (by omega) (by omega)
    by_cases z : q = T.length
    · rw [if_pos (c.mpr z)] at e'
      have bl : b.length = n := by simpa using o2
      have vf : VF (sI μ1 14 1 0) 35 n (fun k => b.getD k 0) := fun k hk => by
        have := v1 k (by rw [bl]; exact hk)
        simp [gI_sI, gL_sL, gR_sR, gI_sL, gI_sR, gL_sI, gL_sR, gR_sI, gR_sL]; rw [this]; simp
      have nx1 : NX (sI μ1 14 1 0) (2 + 3 * s) n cs := (nx.frg f1 (by omega)).frg (a := 14) (b := 14) ((Fr.rf μ1).sI (rgi (by omega) (by omega))) (by omega)
      obtain ⟨μ2, e2, v2, f2⟩ := l_xt56 N hN nx1 w (by omega) vf o3 (fun v16 μ17 => bnd (f_X_tellFirst N 35 8 (gI μ17 (2 + 3 * s) 0) μ17) fun _ μ19 => some (v16, μ19))
      have nx2 := nx1.frg f2 (by omega)
      obtain ⟨μ3, e3, r3, f3⟩ := sX_tellFirst N hN (m := 8) v2 (by omega) h8 (by omega)
      refine g_t hw hx (nI (obz cs (fun k => b.getD k 0) cs.length)) (rwl (ovs cs (fun k => b.getD k 0) cs.length) n) (by rw [rwl_len]; omega) ⟨μ3, ?_, (TX0.fr f2 (rgo (by omega)) (fun _ => rgo (by omega))).fr f3 (rgo (by omega)) (fun _ => rgo (by omega)), r3, (fx.tr (f2.wide (by omega) (by omega))).tr (f3.wide (by omega) (by omega))⟩ (fun μ ν hν hm => ?_)
      · rw [preX _ e', bnd_some, ltE, if_pos (by decide)]
        refine Eq.trans e2 ?_
        rw [nx2.1, e3, bnd_some]
      · obtain ⟨ν2, m2, a2, a3, a4, a5⟩ := model μ ν hν hm
        rw [hr] at a5
        obtain ⟨v57, e57⟩ := a5.2 z
        have vf : VF ν2 57 n (fun k => b.getD k 0) := fun k hk => v57 k (by rw [bl]; exact hk)
        obtain ⟨ν3, g3, w3, h3⟩ := l_mt43 N hN m2 w hs vf o3 (fun v36 μ37 => lt' (sI μ37 44 1 0) fun μ38 => lp_M_tells_146 N (nI s) v36 (fun μ45 => some (v36, μ45)) N 0 μ38)
        obtain ⟨r4, h4⟩ := sM_told0 ν3
        have m4 := (m2.m7 h3).fr h4 (fun q k _ _ z => by unfold mR at z; omega)
        obtain ⟨ν5, g5, r5, h5⟩ := l_mt146 N hN (nI (obz cs (fun k => b.getD k 0) cs.length)) m4 h8 hs (w3.fr h4 (fun k z => by unfold mR at z; omega)) r4 (fun μ45 => some (nI (obz cs (fun k => b.getD k 0) cs.length), μ45))
        refine ⟨ν5, ?_, ((a2.fr h3 (rgo (by omega)) (fun _ => rgo (by omega))).fr h4 (fun z => by unfold mR at z; omega) (fun k z => by unfold mR at z; omega)).fr h5 (fun z => by unfold mR at z; omega) (fun k z => by unfold mR at z; omega), r5, ((a4.tr (m57_mX h3)).tr (mR_mX h4)).tr (mR_mX h5)⟩
        rw [e57]
        refine Eq.trans g3 ?_
        rw [ltE]
        exact g5
    · rw [if_neg (fun y => z (c.mp y))] at e'
      refine g_t hw hx ((-21) - nI q) σ.2.2 hw.2.2.2 ⟨sI μ1 14 1 0, ?_, TX0, rx, fx⟩ (fun μ ν hν hm => ?_)
      · rw [preX _ e', bnd_some, ltE, if_neg (nI_pos (by omega))]
      · obtain ⟨ν2, -, a2, a3, a4, a5⟩ := model μ ν hν hm
        rw [hr] at a5
        exact ⟨ν2, a5.1 z, a2, a3, a4⟩

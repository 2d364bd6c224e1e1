/-! orders, one behind the other -/
def lsw (l : List Nat) (a b : Nat) : List Nat := (l.set a (l.getD b 0)).set b (l.getD a 0)
theorem getD_set (l : List Nat) (a v k : Nat) : (l.set a v).getD k 0 = if k = a ∧ a < l.length then v else l.getD k 0 := by
  rw [List.getD_eq_getElem?_getD, List.getD_eq_getElem?_getD, List.getElem?_set]
  by_cases e : a = k
  · subst e
    rw [if_pos rfl]
    by_cases h : a < l.length
    · rw [if_pos h, if_pos ⟨rfl, h⟩]; rfl
    · rw [if_neg h, if_neg (fun z => h z.2), List.getElem?_eq_none (by omega)]
  · rw [if_neg e, if_neg (fun z => e z.1.symm)]
theorem lsw_len (l : List Nat) (a b : Nat) : (lsw l a b).length = l.length := by unfold lsw; rw [List.length_set, List.length_set]
theorem lsw_get {l : List Nat} {a b : Nat} (ha : a < l.length) (hb : b < l.length) (k : Nat) : (lsw l a b).getD k 0 = if k = b then l.getD a 0 else if k = a then l.getD b 0 else l.getD k 0 := by
  unfold lsw
  rw [getD_set, List.length_set, getD_set]
  by_cases e1 : k = b
  · rw [if_pos ⟨e1, hb⟩, if_pos e1]
  · rw [if_neg (fun z => e1 z.1), if_neg e1]
    by_cases e2 : k = a
    · rw [if_pos ⟨e2, ha⟩, if_pos e2]
    · rw [if_neg (fun z => e2 z.1), if_neg e2]
def fa (l : List Nat) : Nat → Nat
  | 0 => 0
  | k + 1 => if l.getD (k + 1) 0 < l.getD k 0 then fa l k else k + 1
def fc (l : List Nat) (k : Nat) : Nat → Nat
  | 0 => 0
  | c + 1 => if l.getD (c + 1) 0 < l.getD k 0 then fc l k c else c + 1
def rvl : Nat → List Nat → Nat → Nat → List Nat
  | 0, l, _, _ => l
  | f + 1, l, a, b => if a < b then rvl f (lsw l a b) (a + 1) (b - 1) else l
def nx (n : Nat) (l : List Nat) : Option (List Nat) := match fa l (n - 1) with
  | 0 => none
  | k + 1 => some (rvl 4 (lsw l k (fc l k (n - 1))) (k + 1) (n - 1))
theorem fa_le (l : List Nat) : ∀ i, fa l i ≤ i
  | 0 => Nat.le_refl _
  | k + 1 => by
    have := fa_le l k
    rw [fa]; split <;> omega
theorem fa_up {l : List Nat} : ∀ {i k}, fa l i = k + 1 → ¬ l.getD (k + 1) 0 < l.getD k 0
  | 0, k, h => by rw [fa] at h; omega
  | i + 1, k, h => by
    rw [fa] at h
    split at h
    · exact fa_up h
    · rename_i z
      have : i = k := (by omega)
      subst this
      exact z
theorem fc_b {l : List Nat} {k : Nat} (hz : ¬ l.getD (k + 1) 0 < l.getD k 0) : ∀ c, k + 1 ≤ c → k + 1 ≤ fc l k c ∧ fc l k c ≤ c
  | 0, h => by omega
  | c + 1, h => by
    rw [fc]
    by_cases e : c = k
    · subst e; rw [if_neg hz]; exact ⟨Nat.le_refl _, Nat.le_refl _⟩
    · have := fc_b hz c (by omega)
      split <;> omega
theorem rvl_len : ∀ f l a b, (rvl f l a b).length = l.length
  | 0, _, _, _ => rfl
  | f + 1, l, a, b => by
    rw [rvl]
    split
    · rw [rvl_len f, lsw_len]
    · rfl
theorem nx_len {n : Nat} {l l' : List Nat} (h : nx n l = some l') : l'.length = l.length := by
  unfold nx at h
  split at h
  · cases h
  · cases h
    rw [rvl_len, lsw_len]
/-- a permutation of the numbers below n -/
def Pmt (n : Nat) (t : Nat → Nat) : Prop := Inj n t ∧ ∀ r, r < n → ∃ w, w < n ∧ t w = r
theorem Pmt.sw {n a b : Nat} {t u : Nat → Nat} (h : Pmt n t) (ha : a < n) (hb : b < n) (hu : ∀ k, u k = if k = b then t a else if k = a then t b else t k) : Pmt n u := by
  obtain ⟨⟨h1, h2⟩, h3⟩ := h
  refine ⟨⟨fun w hw => ?_, fun v w hv hw q => ?_⟩, fun r hr => ?_⟩
  · rw [hu]
    split
    · exact h1 a ha
    · split
      · exact h1 b hb
      · exact h1 w hw
  · rw [hu, hu] at q
    by_cases v1 : v = b
    · rw [if_pos v1] at q
      by_cases w1 : w = b
      · omega
      · rw [if_neg w1] at q
        by_cases w2 : w = a
        · rw [if_pos w2] at q; have := h2 a b ha hb q; omega
        · rw [if_neg w2] at q; have := h2 a w ha hw q; omega
    · rw [if_neg v1] at q
      by_cases v2 : v = a
      · rw [if_pos v2] at q
        by_cases w1 : w = b
        · rw [if_pos w1] at q; have := h2 b a hb ha q; omega
        · rw [if_neg w1] at q
          by_cases w2 : w = a
          · omega
          · rw [if_neg w2] at q; have := h2 b w hb hw q; omega
      · rw [if_neg v2] at q
        by_cases w1 : w = b
        · rw [if_pos w1] at q; have := h2 v a hv ha q; omega
        · rw [if_neg w1] at q
          by_cases w2 : w = a
          · rw [if_pos w2] at q; have := h2 v b hv hb q; omega
          · rw [if_neg w2] at q; exact h2 v w hv hw q
  · obtain ⟨w, hw, e⟩ := h3 r hr
    by_cases e1 : w = a
    · exact ⟨b, hb, by rw [hu, if_pos rfl, ← e, e1]⟩
    · by_cases e2 : w = b
      · refine ⟨a, ha, ?_⟩
        rw [hu]
        by_cases e3 : a = b
        · omega
        · rw [if_neg e3, if_pos rfl, ← e, e2]
      · exact ⟨w, hw, by rw [hu, if_neg e2, if_neg e1, e]⟩
def OL (n : Nat) (l : List Nat) : Prop := l.length = n ∧ Pmt n (fun k => l.getD k 0)
theorem OL.sw {n a b : Nat} {l : List Nat} (h : OL n l) (ha : a < n) (hb : b < n) : OL n (lsw l a b) := by
  have hl := h.1
  exact ⟨by rw [lsw_len]; exact hl, h.2.sw ha hb (fun k => lsw_get (by omega) (by omega) k)⟩
theorem OL.rv {n : Nat} : ∀ {f l a b}, OL n l → b < n → OL n (rvl f l a b)
  | 0, l, a, b, h, _ => h
  | f + 1, l, a, b, h, hb => by
    rw [rvl]
    split
    · exact OL.rv (h.sw (by omega) hb) (by omega)
    · exact h
theorem OL.nxt {n : Nat} {l l' : List Nat} (h : OL n l) (h1 : 1 ≤ n) (e : nx n l = some l') : OL n l' := by
  unfold nx at e
  cases q : fa l (n - 1) with
  | zero => rw [q] at e; cases e
  | succ k =>
    rw [q] at e
    cases e
    have b1 := fa_le l (n - 1)
    have b2 := fc_b (fa_up q) (n - 1) (by omega)
    exact (h.sw (by omega) (by omega)).rv (by omega)
theorem OL.id {n : Nat} : OL n (List.range n) := by
  have e : ∀ k, k < n → (List.range n).getD k 0 = k := fun k hk => by simp [List.getD_eq_getElem?_getD, hk]
  refine ⟨by simp, ⟨fun w hw => ?_, fun v w hv hw q => ?_⟩, fun r hr => ⟨r, hr, e r hr⟩⟩
  · dsimp only; rw [e w hw]; exact hw
  · dsimp only at q; rw [e v hv, e w hw] at q; exact q
theorem OL.b {n : Nat} {l : List Nat} (h : OL n l) (h1 : 1 ≤ n) (k : Nat) : l.getD k 0 < n := by
  by_cases hk : k < n
  · exact h.2.1.1 k hk
  · rw [List.getD_eq_getElem?_getD, List.getElem?_eq_none (by rw [h.1]; omega)]; exact h1
theorem pm_2 {n : Nat} (h : 1 ≤ n) : nI n - 2 = pm (n - 1) := by
  obtain ⟨k, rfl⟩ : ∃ k, n = k + 1 := ⟨n - 1, (by omega)⟩
  show nI (k + 1) - 2 = nI k - 1
  rw [← nI_1, Int32.sub_eq_add_neg, Int32.sub_eq_add_neg, Int32.add_assoc]
  rfl
-- the class
theorem x_exV (N : Nat) {l : List Nat} {n a b : Nat} {κ : Mem} (h : VV κ 35 l) (hl : l.length = n) (h8 : n ≤ 8) (ha : a < n) (hb : b < n) : ∃ κ', f_X_exchangeValues N (nI a) (nI b) κ = some ((), κ') ∧ VV κ' 35 (lsw l a b) ∧ Fr (rg 35 35) κ κ' := by
  refine ⟨sI (sI κ 35 a (nI (l.getD b 0))) 35 b (nI (l.getD a 0)), ?_, fun k hk => ?_, ((Fr.rf κ).sI (rgi (by omega) (by omega))).sI (rgi (by omega) (by omega))⟩
  · unfold f_X_exchangeValues
    rw [inb_nI (show a < 8 by omega) (by omega), inb_nI (show b < 8 by omega) (by omega), tn_nI (show a < 2 ^ 31 by omega), tn_nI (show b < 2 ^ 31 by omega), h a (by omega), h b (by omega), ckE, ltE, ckE, ckE, ltE, ckE, ltE]
  · rw [lsw_len] at hk
    rw [lsw_get (by omega) (by omega), gI_sI, gI_sI]
    by_cases e1 : k = b
    · rw [if_pos ⟨rfl, e1⟩, if_pos e1]
    · rw [if_neg (fun z => e1 z.2), if_neg e1]
      by_cases e2 : k = a
      · rw [if_pos ⟨rfl, e2⟩, if_pos e2]
      · rw [if_neg (fun z => e2 z.2), if_neg e2]; exact h k hk
theorem x_no4 (N : Nat) {l : List Nat} {n : Nat} {κ : Mem} (x1 : Int32) (h : VV κ 35 l) (hl : l.length = n) (h8 : n ≤ 8) (hb : ∀ k, l.getD k 0 < 8) (K : Int32 → Mem → Option (Int32 × Mem)) : ∀ i n', i < n → i < n' → lp_X_nextOrder_4 N x1 K n' (pm i) κ = K (pm (fa l i)) κ
  | 0, n' + 1, _, _ => by rw [lp_X_nextOrder_4, if_pos (by decide), fa]
  | i + 1, n' + 1, hi, hn => by
    have b1 := hb i
    have b2 := hb (i + 1)
    have c : (nI (l.getD (i + 1) 0) < nI (l.getD i 0)) ↔ l.getD (i + 1) 0 < l.getD i 0 := nI_ltI (by omega) (by omega)
    rw [pm_succ, lp_X_nextOrder_4, if_neg (nI_pos (by omega)), inb_nI (show i < 8 by omega) (by omega), nI_1, inb_nI (show i + 1 < 8 by omega) (by omega), ckE, ckE, tn_nI (by omega), tn_nI (by omega), h i (by omega), h (i + 1) (by omega), fa]
    by_cases z : l.getD (i + 1) 0 < l.getD i 0
    · rw [if_pos (c.mpr z), if_pos z, ltE, dn_pm]
      exact x_no4 N x1 h hl h8 hb K i n' (by omega) (by omega)
    · rw [if_neg (fun q => z (c.mp q)), if_neg z, pm_succ]
theorem x_no41 (N : Nat) {l : List Nat} {n k : Nat} {κ : Mem} (x1 : Int32) (h : VV κ 35 l) (hl : l.length = n) (h8 : n ≤ 8) (hb : ∀ k, l.getD k 0 < 8) (hz : ¬ l.getD (k + 1) 0 < l.getD k 0) (K : Int32 → Mem → Option (Int32 × Mem)) : ∀ c n', k + 1 ≤ c → c < n → c < n' → lp_X_nextOrder_41 N x1 (nI k) K n' (nI c) κ = K (nI (fc l k c)) κ
  | c + 1, n' + 1, hk, hc, hn => by
    have b1 := hb k
    have b2 := hb (c + 1)
    have e : (nI (l.getD (c + 1) 0) < nI (l.getD k 0)) ↔ l.getD (c + 1) 0 < l.getD k 0 := nI_ltI (by omega) (by omega)
    rw [lp_X_nextOrder_41, nI_1, fc]
    by_cases y : c = k
    · subst y
      rw [if_neg (nI_nlt (Nat.le_refl _) (by omega)), if_neg hz]
    · rw [if_pos (nI_lt (by omega) (by omega)), inb_nI (show c + 1 < 8 by omega) (by omega), inb_nI (show k < 8 by omega) (by omega), ckE, ckE, tn_nI (by omega), tn_nI (by omega), h (c + 1) (by omega), h k (by omega)]
      by_cases z : l.getD (c + 1) 0 < l.getD k 0
      · rw [if_pos (e.mpr z), if_pos z, ltE, pk_m1]
        exact x_no41 N x1 h hl h8 hb hz K c n' (by omega) (by omega) (by omega)
      · rw [if_neg (fun q => z (e.mp q)), if_neg z]
theorem x_no85 (N : Nat) {n : Nat} (h8 : n ≤ 8) (K : Mem → Option (Int32 × Mem)) : ∀ f (l : List Nat) a b n' (κ : Mem), VV κ 35 l → l.length = n → b < n → b ≤ a + 2 * f → f < n' → a ≤ 20 → ∃ κ', lp_X_nextOrder_85 N K n' (nI a) (nI b) κ = K κ' ∧ VV κ' 35 (rvl f l a b) ∧ Fr (rg 35 35) κ κ'
  | 0, l, a, b, n' + 1, κ, h, hl, hb, hf, hn, ha => ⟨κ, by rw [lp_X_nextOrder_85, if_neg (nI_nlt (by omega) (by omega))], h, Fr.rf κ⟩
  | f + 1, l, a, b, n' + 1, κ, h, hl, hb, hf, hn, ha => by
    rw [lp_X_nextOrder_85, rvl]
    by_cases z : a < b
    · obtain ⟨κ1, e1, v1, f1⟩ := x_exV N h hl h8 (show a < n by omega) hb
      obtain ⟨κ2, e2, v2, f2⟩ := x_no85 N h8 K f (lsw l a b) (a + 1) (b - 1) n' κ1 v1 (by rw [lsw_len]; exact hl) (by omega) (by omega) (by omega) (by omega)
      refine ⟨κ2, ?_, by rw [if_pos z]; exact v2, f1.tr f2⟩
      obtain ⟨b, rfl⟩ : ∃ k, b = k + 1 := ⟨b - 1, (by omega)⟩
      rw [if_pos (nI_lt z (by omega)), e1, bnd_some, ltE, ltE, nI_1, pk_m1]
      exact e2
    · exact ⟨κ, by rw [if_neg (nI_nlt (by omega) (by omega))], by rw [if_neg z]; exact h, Fr.rf κ⟩
theorem sX_next (N : Nat) (hN : 10000 ≤ N) {l : List Nat} {n : Nat} {κ : Mem} (h : VV κ 35 l) (hl : l.length = n) (h1 : 1 ≤ n) (h8 : n ≤ 8) (hb : ∀ k, l.getD k 0 < 8) : ∃ κ', f_X_nextOrder N (nI n) κ = some (if (nx n l).isSome then 1 else 0, κ') ∧ (∀ l', nx n l = some l' → VV κ' 35 l') ∧ Fr (rg 35 35) κ κ' := by
  have sb : nI n - 1 = nI (n - 1) := pk_sub (b := 1) h1
  have pre : f_X_nextOrder N (nI n) κ = (fun v7 μ8 => if v7 < 0 then (some (0, μ8)) else (lt' (nI n - 1) fun v10 => lp_X_nextOrder_41 N (nI n) v7 (fun v16 μ17 => bnd (f_X_exchangeValues N v7 v16 μ17) fun _ μ19 => lt' (v7 + 1) fun v20 => lt' (nI n - 1) fun v21 => lp_X_nextOrder_85 N (fun μ27 => some (1, μ27)) N v20 v21 μ19) N v10 μ8)) (pm (fa l (n - 1))) κ := by
    unfold f_X_nextOrder
    rw [pm_2 h1, ltE]
    exact x_no4 N (nI n) h hl h8 hb (fun v7 μ8 => if v7 < 0 then (some (0, μ8)) else (lt' (nI n - 1) fun v10 => lp_X_nextOrder_41 N (nI n) v7 (fun v16 μ17 => bnd (f_X_exchangeValues N v7 v16 μ17) fun _ μ19 => lt' (v7 + 1) fun v20 => lt' (nI n - 1) fun v21 => lp_X_nextOrder_85 N (fun μ27 => some (1, μ27)) N v20 v21 μ19) N v10 μ8)) (n - 1) N (by omega) (by omega)
  dsimp only at pre
  unfold nx
  cases q : fa l (n - 1) with
  | zero =>
    refine ⟨κ, ?_, fun l' e => (by cases e), Fr.rf κ⟩
    rw [pre, q, if_pos (by decide)]; rfl
  | succ k =>
    have b1 := fa_le l (n - 1)
    have hz := fa_up q
    have b2 := fc_b hz (n - 1) (by omega)
    obtain ⟨κ1, e1, v1, f1⟩ := x_exV N h hl h8 (show k < n by omega) (show fc l k (n - 1) < n by omega)
    obtain ⟨κ2, e2, v2, f2⟩ := x_no85 N h8 (fun μ27 => some (1, μ27)) 4 (lsw l k (fc l k (n - 1))) (k + 1) (n - 1) N κ1 v1 (by rw [lsw_len]; exact hl) (by omega) (by omega) (by omega) (by omega)
    refine ⟨κ2, ?_, fun l' e => by cases e; exact v2, f1.tr f2⟩
    rw [pre, q, pm_succ, if_neg (nI_pos (by omega)), sb, ltE]
    refine Eq.trans (x_no41 N (nI n) h hl h8 hb hz _ (n - 1) N (by omega) (by omega) (by omega)) ?_
    rw [e1, bnd_some, nI_1, ltE, ltE]
    exact e2
-- the model
theorem m_exV (N : Nat) {l : List Nat} {n a b : Nat} {κ : Mem} (h : VV κ 59 l) (hl : l.length = n) (h8 : n ≤ 8) (ha : a < n) (hb : b < n) : ∃ κ', f_M_exchanges2 N (nI a) (nI b) κ = some ((), κ') ∧ VV κ' 59 (lsw l a b) ∧ Fr (rg 59 59) κ κ' := by
  refine ⟨sI (sI κ 59 a (nI (l.getD b 0))) 59 b (nI (l.getD a 0)), ?_, fun k hk => ?_, ((Fr.rf κ).sI (rgi (by omega) (by omega))).sI (rgi (by omega) (by omega))⟩
  · unfold f_M_exchanges2
    rw [inb_nI (show a < 8 by omega) (by omega), inb_nI (show b < 8 by omega) (by omega), tn_nI (show a < 2 ^ 31 by omega), tn_nI (show b < 2 ^ 31 by omega), h a (by omega), h b (by omega), ckE, ltE, ckE, ckE, ltE, ckE, ltE]
  · rw [lsw_len] at hk
    rw [lsw_get (by omega) (by omega), gI_sI, gI_sI]
    by_cases e1 : k = b
    · rw [if_pos ⟨rfl, e1⟩, if_pos e1]
    · rw [if_neg (fun z => e1 z.2), if_neg e1]
      by_cases e2 : k = a
      · rw [if_pos ⟨rfl, e2⟩, if_pos e2]
      · rw [if_neg (fun z => e2 z.2), if_neg e2]; exact h k hk
theorem m_no4 (N : Nat) {l : List Nat} {n : Nat} {κ : Mem} (x1 : Int32) (h : VV κ 59 l) (hl : l.length = n) (h8 : n ≤ 8) (hb : ∀ k, l.getD k 0 < 8) (K : Int32 → Mem → Option (Int32 × Mem)) : ∀ i n', i < n → i < n' → lp_M_nextOrder_4 N x1 K n' (pm i) κ = K (pm (fa l i)) κ
  | 0, n' + 1, _, _ => by rw [lp_M_nextOrder_4, if_pos (by decide), fa]
  | i + 1, n' + 1, hi, hn => by
    have b1 := hb i
    have b2 := hb (i + 1)
    have c : (nI (l.getD (i + 1) 0) < nI (l.getD i 0)) ↔ l.getD (i + 1) 0 < l.getD i 0 := nI_ltI (by omega) (by omega)
    rw [pm_succ, lp_M_nextOrder_4, if_neg (nI_pos (by omega)), inb_nI (show i < 8 by omega) (by omega), nI_1, inb_nI (show i + 1 < 8 by omega) (by omega), ckE, ckE, tn_nI (by omega), tn_nI (by omega), h i (by omega), h (i + 1) (by omega), fa]
    by_cases z : l.getD (i + 1) 0 < l.getD i 0
    · rw [if_pos (c.mpr z), if_pos z, ltE, dn_pm]
      exact m_no4 N x1 h hl h8 hb K i n' (by omega) (by omega)
    · rw [if_neg (fun q => z (c.mp q)), if_neg z, pm_succ]
theorem m_no41 (N : Nat) {l : List Nat} {n k : Nat} {κ : Mem} (x1 : Int32) (h : VV κ 59 l) (hl : l.length = n) (h8 : n ≤ 8) (hb : ∀ k, l.getD k 0 < 8) (hz : ¬ l.getD (k + 1) 0 < l.getD k 0) (K : Int32 → Mem → Option (Int32 × Mem)) : ∀ c n', k + 1 ≤ c → c < n → c < n' → lp_M_nextOrder_41 N x1 (nI k) K n' (nI c) κ = K (nI (fc l k c)) κ
  | c + 1, n' + 1, hk, hc, hn => by
    have b1 := hb k
    have b2 := hb (c + 1)
    have e : (nI (l.getD (c + 1) 0) < nI (l.getD k 0)) ↔ l.getD (c + 1) 0 < l.getD k 0 := nI_ltI (by omega) (by omega)
    rw [lp_M_nextOrder_41, fc, inb_nI (show c + 1 < 8 by omega) (by omega), inb_nI (show k < 8 by omega) (by omega), ckE, ckE, tn_nI (by omega), tn_nI (by omega), h (c + 1) (by omega), h k (by omega)]
    by_cases z : l.getD (c + 1) 0 < l.getD k 0
    · have y : c ≠ k := fun y => by subst y; exact hz z
      rw [if_pos (e.mpr z), if_pos z, ltE, pk_m1]
      exact m_no41 N x1 h hl h8 hb hz K c n' (by omega) (by omega) (by omega)
    · rw [if_neg (fun q => z (e.mp q)), if_neg z]
theorem m_no78 (N : Nat) {n : Nat} (h8 : n ≤ 8) (K : Mem → Option (Int32 × Mem)) : ∀ f (l : List Nat) a b n' (κ : Mem), VV κ 59 l → l.length = n → b < n → b ≤ a + 2 * f → f < n' → a ≤ 20 → ∃ κ', lp_M_nextOrder_78 N K n' (nI a) (nI b) κ = K κ' ∧ VV κ' 59 (rvl f l a b) ∧ Fr (rg 59 59) κ κ'
  | 0, l, a, b, n' + 1, κ, h, hl, hb, hf, hn, ha => ⟨κ, by rw [lp_M_nextOrder_78, if_neg (nI_nlt (by omega) (by omega))], h, Fr.rf κ⟩
  | f + 1, l, a, b, n' + 1, κ, h, hl, hb, hf, hn, ha => by
    rw [lp_M_nextOrder_78, rvl]
    by_cases z : a < b
    · obtain ⟨κ1, e1, v1, f1⟩ := m_exV N h hl h8 (show a < n by omega) hb
      obtain ⟨κ2, e2, v2, f2⟩ := m_no78 N h8 K f (lsw l a b) (a + 1) (b - 1) n' κ1 v1 (by rw [lsw_len]; exact hl) (by omega) (by omega) (by omega) (by omega)
      refine ⟨κ2, ?_, by rw [if_pos z]; exact v2, f1.tr f2⟩
      obtain ⟨b, rfl⟩ : ∃ k, b = k + 1 := ⟨b - 1, (by omega)⟩
      rw [if_pos (nI_lt z (by omega)), e1, bnd_some, ltE, ltE, nI_1, pk_m1]
      exact e2
    · exact ⟨κ, by rw [if_neg (nI_nlt (by omega) (by omega))], by rw [if_neg z]; exact h, Fr.rf κ⟩
theorem sM_next (N : Nat) (hN : 10000 ≤ N) {l : List Nat} {n : Nat} {κ : Mem} (h : VV κ 59 l) (hl : l.length = n) (h1 : 1 ≤ n) (h8 : n ≤ 8) (hb : ∀ k, l.getD k 0 < 8) : ∃ κ', f_M_nextOrder N (nI n) κ = some (if (nx n l).isSome then 1 else 0, κ') ∧ (∀ l', nx n l = some l' → VV κ' 59 l') ∧ Fr (rg 59 59) κ κ' := by
  have sb : nI n - 1 = nI (n - 1) := pk_sub (b := 1) h1
  have pre : f_M_nextOrder N (nI n) κ = (fun v7 μ8 => if v7 < 0 then (some (0, μ8)) else (lt' (nI n - 1) fun v10 => lp_M_nextOrder_41 N (nI n) v7 (fun v16 μ17 => bnd (f_M_exchanges2 N v7 v16 μ17) fun _ μ19 => lt' (v7 + 1) fun v20 => lt' (nI n - 1) fun v21 => lp_M_nextOrder_78 N (fun μ27 => some (1, μ27)) N v20 v21 μ19) N v10 μ8)) (pm (fa l (n - 1))) κ := by
    unfold f_M_nextOrder
    rw [pm_2 h1, ltE]
    exact m_no4 N (nI n) h hl h8 hb (fun v7 μ8 => if v7 < 0 then (some (0, μ8)) else (lt' (nI n - 1) fun v10 => lp_M_nextOrder_41 N (nI n) v7 (fun v16 μ17 => bnd (f_M_exchanges2 N v7 v16 μ17) fun _ μ19 => lt' (v7 + 1) fun v20 => lt' (nI n - 1) fun v21 => lp_M_nextOrder_78 N (fun μ27 => some (1, μ27)) N v20 v21 μ19) N v10 μ8)) (n - 1) N (by omega) (by omega)
  dsimp only at pre
  unfold nx
  cases q : fa l (n - 1) with
  | zero =>
    refine ⟨κ, ?_, fun l' e => (by cases e), Fr.rf κ⟩
    rw [pre, q, if_pos (by decide)]; rfl
  | succ k =>
    have b1 := fa_le l (n - 1)
    have hz := fa_up q
    have b2 := fc_b hz (n - 1) (by omega)
    obtain ⟨κ1, e1, v1, f1⟩ := m_exV N h hl h8 (show k < n by omega) (show fc l k (n - 1) < n by omega)
    obtain ⟨κ2, e2, v2, f2⟩ := m_no78 N h8 (fun μ27 => some (1, μ27)) 4 (lsw l k (fc l k (n - 1))) (k + 1) (n - 1) N κ1 v1 (by rw [lsw_len]; exact hl) (by omega) (by omega) (by omega) (by omega)
    refine ⟨κ2, ?_, fun l' e => by cases e; exact v2, f1.tr f2⟩
    rw [pre, q, pm_succ, if_neg (nI_pos (by omega)), sb, ltE]
    refine Eq.trans (m_no41 N (nI n) h hl h8 hb hz _ (n - 1) N (by omega) (by omega) (by omega)) ?_
    rw [e1, bnd_some, nI_1, ltE, ltE]
    exact e2
theorem m_first (N : Nat) (hN : 10000 ≤ N) {n : Nat} (h8 : n ≤ 8) (μ : Mem) : ∃ μ', f_M_firstOrder N (nI n) μ = some ((), μ') ∧ VV μ' 59 (List.range n) ∧ Fr (rg 59 59) μ μ' := by
  obtain ⟨μ', ⟨k1, k2⟩, e⟩ := for_up (fun n' i ν => lp_M_firstOrder_2 N (nI n) (fun μ6 => some ((), μ6)) n' i ν) (fun ν => some ((), ν)) n (fun i κ => VF κ 59 i (fun w => w) ∧ Fr (rg 59 59) μ κ)
    (by
      intro n' i κ hi ⟨i1, i2⟩
      refine ⟨sI κ 59 i (nI i), ⟨fun k hk => ?_, i2.sI (rgi (by omega) (by omega))⟩, ?_⟩
      · rw [gI_sI]
        by_cases e : k = i
        · rw [if_pos ⟨rfl, e⟩, e]
        · rw [if_neg (fun z => e z.2)]; exact i1 k (by omega)
      · rw [lp_M_firstOrder_2, if_pos (nI_lt hi (by omega)), inb_nI (by omega) (by omega), ckE, tn_nI (by omega), ltE, ltE, nI_1])
    (by
      intro n' κ _
      rw [lp_M_firstOrder_2, if_neg (nI_nlt (Nat.le_refl _) (by omega))])
    n 0 N μ (by omega) (by omega) ⟨fun k hk => by omega, Fr.rf μ⟩
  refine ⟨μ', e, fun k hk => ?_, k2⟩
  rw [List.length_range] at hk
  rw [k1 k hk]
  simp [List.getD_eq_getElem?_getD, hk]

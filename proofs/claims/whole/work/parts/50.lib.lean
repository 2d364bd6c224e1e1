/-! Layer 3: plain facts. -/
theorem fa_lit (n : Nat) : (OfNat.ofNat n : Int32) = nI n := Int32.toBitVec_inj.1 rfl
theorem fa_litL (n : Nat) : (OfNat.ofNat n : Int64) = lN n := Int64.toBitVec_inj.1 rfl
theorem i10 : ((1 : Int32) = 0) = False := by decide
theorem i00 : ((0 : Int32) = 0) = True := by decide
theorem bnd_some {σ β : Type} (a : σ) (μ : Mem) (G : σ → Mem → Option β) : bnd (some (a, μ)) G = G a μ := rfl
theorem ck_tt {α : Type} (o : Option α) : ck true o = o := rfl
theorem tn_nI {k : Nat} (h : k < 2 ^ 31) : tn (nI k) = k := nI_clamp h
theorem inb_nI {k n : Nat} (h : k < n) (hn : n < 2 ^ 31) : inb (nI k) n = true := by
  unfold inb
  exact decide_eq_true (nI_in h hn)
theorem gI_sI (μ : Mem) (p k q j : Nat) (v : Int32) : gI (sI μ p k v) q j = if q = p ∧ j = k then v else gI μ q j := Eq.trans rfl rfl
theorem gL_sL (μ : Mem) (p k q j : Nat) (v : Int64) : gL (sL μ p k v) q j = if q = p ∧ j = k then v else gL μ q j := Eq.trans rfl rfl
theorem gR_sR (μ : Mem) (p k q j v : Nat) : gR (sR μ p k v) q j = if q = p ∧ j = k then v else gR μ q j := Eq.trans rfl rfl
theorem gI_sL (μ : Mem) (p k q j : Nat) (v : Int64) : gI (sL μ p k v) q j = gI μ q j := Eq.trans rfl rfl
theorem gI_sR (μ : Mem) (p k q j v : Nat) : gI (sR μ p k v) q j = gI μ q j := Eq.trans rfl rfl
theorem gL_sI (μ : Mem) (p k q j : Nat) (v : Int32) : gL (sI μ p k v) q j = gL μ q j := Eq.trans rfl rfl
theorem gL_sR (μ : Mem) (p k q j v : Nat) : gL (sR μ p k v) q j = gL μ q j := Eq.trans rfl rfl
theorem gR_sI (μ : Mem) (p k q j : Nat) (v : Int32) : gR (sI μ p k v) q j = gR μ q j := Eq.trans rfl rfl
theorem gR_sL (μ : Mem) (p k q j : Nat) (v : Int64) : gR (sL μ p k v) q j = gR μ q j := Eq.trans rfl rfl
/-- only what A names (cell, index) differs -/
def Fr (A : Nat → Nat → Prop) (μ μ' : Mem) : Prop := ∀ q k, ¬ A q k → gI μ' q k = gI μ q k ∧ gL μ' q k = gL μ q k ∧ gR μ' q k = gR μ q k
theorem Fr.rf {A : Nat → Nat → Prop} (μ : Mem) : Fr A μ μ := fun _ _ _ => ⟨rfl, rfl, rfl⟩
theorem Fr.tr {A : Nat → Nat → Prop} {a b c : Mem} (h : Fr A a b) (h2 : Fr A b c) : Fr A a c := fun q k hq => ⟨((h2 q k hq).1).trans (h q k hq).1, ((h2 q k hq).2.1).trans (h q k hq).2.1, ((h2 q k hq).2.2).trans (h q k hq).2.2⟩
theorem Fr.mono {A B : Nat → Nat → Prop} {a b : Mem} (h : Fr A a b) (hAB : ∀ q k, A q k → B q k) : Fr B a b := fun q k hq => h q k (fun z => hq (hAB q k z))
theorem Fr.I {A : Nat → Nat → Prop} {a b : Mem} (h : Fr A a b) {q k : Nat} (hq : ¬ A q k) : gI b q k = gI a q k := (h q k hq).1
theorem Fr.L {A : Nat → Nat → Prop} {a b : Mem} (h : Fr A a b) {q k : Nat} (hq : ¬ A q k) : gL b q k = gL a q k := (h q k hq).2.1
theorem Fr.R {A : Nat → Nat → Prop} {a b : Mem} (h : Fr A a b) {q k : Nat} (hq : ¬ A q k) : gR b q k = gR a q k := (h q k hq).2.2
theorem Fr.sI {A : Nat → Nat → Prop} {a b : Mem} (h : Fr A a b) {p k : Nat} {v : Int32} (hp : A p k) : Fr A a (sI b p k v) := fun q j hq => ⟨by rw [gI_sI, if_neg (fun z : q = p ∧ j = k => hq (by rw [z.1, z.2]; exact hp))]; exact (h q j hq).1, (h q j hq).2.1, (h q j hq).2.2⟩
theorem Fr.sL {A : Nat → Nat → Prop} {a b : Mem} (h : Fr A a b) {p k : Nat} {v : Int64} (hp : A p k) : Fr A a (sL b p k v) := fun q j hq => ⟨(h q j hq).1, by rw [gL_sL, if_neg (fun z : q = p ∧ j = k => hq (by rw [z.1, z.2]; exact hp))]; exact (h q j hq).2.1, (h q j hq).2.2⟩
theorem Fr.sR {A : Nat → Nat → Prop} {a b : Mem} (h : Fr A a b) {p k : Nat} {v : Nat} (hp : A p k) : Fr A a (sR b p k v) := fun q j hq => ⟨(h q j hq).1, (h q j hq).2.1, by rw [gR_sR, if_neg (fun z : q = p ∧ j = k => hq (by rw [z.1, z.2]; exact hp))]; exact (h q j hq).2.2⟩
/-- cells a .. b -/
def rg (a b : Nat) : Nat → Nat → Prop := fun q _ => a ≤ q ∧ q ≤ b
theorem rgi {a b q k : Nat} (h1 : a ≤ q) (h2 : q ≤ b) : rg a b q k := ⟨h1, h2⟩
theorem rgo {a b q k : Nat} (h : q < a ∨ b < q) : ¬ rg a b q k := fun z => by unfold rg at z; omega
theorem Fr.wide {a b c d : Nat} {μ ν : Mem} (h : Fr (rg a b) μ ν) (h1 : c ≤ a) (h2 : b ≤ d) : Fr (rg c d) μ ν := h.mono (fun q k z => ⟨by unfold rg at z; omega, by unfold rg at z; omega⟩)
/-- a loop that counts up, to e -/
theorem for_up {σ β : Type} (lp : Nat → Int32 → σ → β) (K : σ → β) (e : Nat) (I : Nat → σ → Prop) (hs : ∀ n i s, i < e → I i s → ∃ s', I (i + 1) s' ∧ lp (n + 1) (nI i) s = lp n (nI (i + 1)) s') (he : ∀ n s, I e s → lp (n + 1) (nI e) s = K s) : ∀ (m i n : Nat) (s : σ), i + m = e → m < n → I i s → ∃ s', I e s' ∧ lp n (nI i) s = K s' := by
  intro m
  induction m with
  | zero =>
    intro i n s hi hn hI
    obtain ⟨n, rfl⟩ : ∃ k, n = k + 1 := ⟨n - 1, by omega⟩
    have : i = e := by omega
    subst this
    exact ⟨s, hI, he n s hI⟩
  | succ m ih =>
    intro i n s hi hn hI
    obtain ⟨n, rfl⟩ : ∃ k, n = k + 1 := ⟨n - 1, by omega⟩
    obtain ⟨s1, h1, h2⟩ := hs n i s (by omega) hI
    obtain ⟨s', h3, h4⟩ := ih (i + 1) n s1 (by omega) (by omega) h1
    exact ⟨s', h3, h2.trans h4⟩
/-- a loop that may end early: its outcome -/
theorem for_post {σ β : Type} (lp : Nat → Int32 → σ → β) (P : β → Prop) (e : Nat) (I : Nat → σ → Prop) (hs : ∀ n i s, i < e → I i s → (∃ s', I (i + 1) s' ∧ lp (n + 1) (nI i) s = lp n (nI (i + 1)) s') ∨ P (lp (n + 1) (nI i) s)) (he : ∀ n s, I e s → P (lp (n + 1) (nI e) s)) : ∀ (m i n : Nat) (s : σ), i + m = e → m < n → I i s → P (lp n (nI i) s) := by
  intro m
  induction m with
  | zero =>
    intro i n s hi hn hI
    obtain ⟨n, rfl⟩ : ∃ k, n = k + 1 := ⟨n - 1, by omega⟩
    have : i = e := by omega
    subst this
    exact he n s hI
  | succ m ih =>
    intro i n s hi hn hI
    obtain ⟨n, rfl⟩ : ∃ k, n = k + 1 := ⟨n - 1, by omega⟩
    rcases hs n i s (by omega) hI with ⟨s1, h1, h2⟩ | h
    · rw [h2]
      exact ih (i + 1) n s1 (by omega) (by omega) h1
    · exact h
/-- a counter that goes down: index i + 1 stands for i, 0 for -1 -/
def pm (i : Nat) : Int32 := nI i - 1
theorem pm_succ (i : Nat) : pm (i + 1) = nI i := nI_pred i
theorem for_dn {σ β : Type} (lp : Nat → Int32 → σ → β) (K : σ → β) (I : Nat → σ → Prop) (hs : ∀ n i s, I (i + 1) s → ∃ s', I i s' ∧ lp (n + 1) (nI i) s = lp n (pm i) s') (he : ∀ n s, I 0 s → lp (n + 1) (pm 0) s = K s) : ∀ (i n : Nat) (s : σ), i < n → I i s → ∃ s', I 0 s' ∧ lp n (pm i) s = K s' := by
  intro i
  induction i with
  | zero =>
    intro n s hn hI
    obtain ⟨n, rfl⟩ : ∃ k, n = k + 1 := ⟨n - 1, by omega⟩
    exact ⟨s, hI, he n s hI⟩
  | succ m ih =>
    intro n s hn hI
    obtain ⟨n, rfl⟩ : ∃ k, n = k + 1 := ⟨n - 1, by omega⟩
    obtain ⟨s1, h1, h2⟩ := hs n m s hI
    obtain ⟨s', h3, h4⟩ := ih n s1 (by omega) h1
    exact ⟨s', h3, by rw [pm_succ, h2, h4]⟩
-- nets
abbrev Net : Type := Nat × List (Nat × Nat)
def cl (cs : List (Nat × Nat)) (k : Nat) : Nat := (cs.getD k (0, 0)).1
def ch (cs : List (Nat × Nat)) (k : Nat) : Nat := (cs.getD k (0, 0)).2
def WN (n : Nat) (cs : List (Nat × Nat)) : Prop := 2 ≤ n ∧ n ≤ 8 ∧ cs.length ≤ 60 ∧ ∀ k, k < cs.length → cl cs k < ch cs k ∧ ch cs k < n
/-- net p of the class -/
def NX (μ : Mem) (p n : Nat) (cs : List (Nat × Nat)) : Prop := gI μ p 0 = nI n ∧ gI μ p 1 = nI cs.length ∧ ∀ k, k < cs.length → gI μ (p + 1) k = nI (cl cs k) ∧ gI μ (p + 2) k = nI (ch cs k)
/-- net s of the model -/
def NM (μ : Mem) (s n : Nat) (cs : List (Nat × Nat)) : Prop := gI μ 46 s = nI n ∧ gI μ 47 s = nI cs.length ∧ ∀ k, k < cs.length → gI μ 48 (60 * s + k) = nI (cl cs k) ∧ gI μ 49 (60 * s + k) = nI (ch cs k)
theorem cl_def (cs : List (Nat × Nat)) (k : Nat) : cl cs k = (cs[k]?.getD (0, 0)).1 := by unfold cl; rw [List.getD_eq_getElem?_getD]
theorem ch_def (cs : List (Nat × Nat)) (k : Nat) : ch cs k = (cs[k]?.getD (0, 0)).2 := by unfold ch; rw [List.getD_eq_getElem?_getD]
theorem cl_app (cs : List (Nat × Nat)) (c : Nat × Nat) (k : Nat) : cl (cs ++ [c]) k = if k < cs.length then cl cs k else if k = cs.length then c.1 else 0 := by
  unfold cl
  rw [List.getD_eq_getElem?_getD, List.getD_eq_getElem?_getD]
  by_cases h : k < cs.length
  · rw [if_pos h, List.getElem?_append_left h]
  · rw [if_neg h, List.getElem?_append_right (by omega)]
    by_cases h2 : k = cs.length
    · subst h2; simp
    · rw [if_neg h2, List.getElem?_eq_none (by simp; omega)]; rfl
theorem ch_app (cs : List (Nat × Nat)) (c : Nat × Nat) (k : Nat) : ch (cs ++ [c]) k = if k < cs.length then ch cs k else if k = cs.length then c.2 else 0 := by
  unfold ch
  rw [List.getD_eq_getElem?_getD, List.getD_eq_getElem?_getD]
  by_cases h : k < cs.length
  · rw [if_pos h, List.getElem?_append_left h]
  · rw [if_neg h, List.getElem?_append_right (by omega)]
    by_cases h2 : k = cs.length
    · subst h2; simp
    · rw [if_neg h2, List.getElem?_eq_none (by simp; omega)]; rfl
theorem NX.fr {A : Nat → Nat → Prop} {μ μ' : Mem} {p n : Nat} {cs : List (Nat × Nat)} (h : NX μ p n cs) (f : Fr A μ μ') (h0 : ∀ q k, p ≤ q → q ≤ p + 2 → ¬ A q k) : NX μ' p n cs := ⟨by rw [f.I (h0 p _ (by omega) (by omega))]; exact h.1, by rw [f.I (h0 p _ (by omega) (by omega))]; exact h.2.1, fun k hk => ⟨by rw [f.I (h0 (p + 1) _ (by omega) (by omega))]; exact (h.2.2 k hk).1, by rw [f.I (h0 (p + 2) _ (by omega) (by omega))]; exact (h.2.2 k hk).2⟩⟩
theorem NX.frg {a b : Nat} {μ μ' : Mem} {p n : Nat} {cs : List (Nat × Nat)} (h : NX μ p n cs) (f : Fr (rg a b) μ μ') (h0 : p + 2 < a ∨ b < p) : NX μ' p n cs := h.fr f (fun q k h1 h2 => rgo (by omega))
theorem NM.fr {A : Nat → Nat → Prop} {μ μ' : Mem} {s n : Nat} {cs : List (Nat × Nat)} (h : NM μ s n cs) (f : Fr A μ μ') (h0 : ∀ q k, 46 ≤ q → q ≤ 49 → ¬ A q k) : NM μ' s n cs := ⟨by rw [f.I (h0 46 _ (by omega) (by omega))]; exact h.1, by rw [f.I (h0 47 _ (by omega) (by omega))]; exact h.2.1, fun k hk => ⟨by rw [f.I (h0 48 _ (by omega) (by omega))]; exact (h.2.2 k hk).1, by rw [f.I (h0 49 _ (by omega) (by omega))]; exact (h.2.2 k hk).2⟩⟩
theorem cl_erase (cs : List (Nat × Nat)) (k j : Nat) : cl (cs.eraseIdx k) j = if j < k then cl cs j else cl cs (j + 1) := by
  rw [cl_def, cl_def, cl_def, List.getElem?_eraseIdx]
  split <;> rfl
theorem ch_erase (cs : List (Nat × Nat)) (k j : Nat) : ch (cs.eraseIdx k) j = if j < k then ch cs j else ch cs (j + 1) := by
  rw [ch_def, ch_def, ch_def, List.getElem?_eraseIdx]
  split <;> rfl
theorem cl_rev (cs : List (Nat × Nat)) {j : Nat} (h : j < cs.length) : cl cs.reverse j = cl cs (cs.length - 1 - j) := by
  rw [cl_def, cl_def, List.getElem?_reverse h]
theorem ch_rev (cs : List (Nat × Nat)) {j : Nat} (h : j < cs.length) : ch cs.reverse j = ch cs (cs.length - 1 - j) := by
  rw [ch_def, ch_def, List.getElem?_reverse h]
theorem ix4 (x : Int32) (n : Nat) (hn : n < 2 ^ 31) : (x < 0 ∨ nI n ≤ x) ∨ ∃ j : Nat, j < n ∧ x = nI j := by
  rcases pk_ix x hn with h | h | h
  · exact Or.inl (Or.inl h)
  · exact Or.inl (Or.inr h)
  · exact Or.inr h
theorem nle_lt {n : Nat} {x : Int32} (h : nI n ≤ x) : ¬ x < nI n := Int32.not_lt.mpr h
theorem fb_rng (x : Int32) : -2147483648 ≤ x.toInt ∧ x.toInt < 2147483648 := by
  have h1 := Int32.le_toInt x
  have h2 := Int32.toInt_lt x
  omega
theorem fb_bmod {z : Int} (h1 : -2147483648 ≤ z) (h2 : z < 2147483648) : z.bmod (2 ^ 32) = z := by
  rw [Int.bmod_eq_of_le (by omega) (by omega)]
theorem fb_addI {x y : Int32} (h1 : -2147483648 ≤ x.toInt + y.toInt) (h2 : x.toInt + y.toInt < 2147483648) : (x + y).toInt = x.toInt + y.toInt := by
  rw [Int32.toInt_add, fb_bmod h1 h2]
theorem fb_subI {x y : Int32} (h1 : -2147483648 ≤ x.toInt - y.toInt) (h2 : x.toInt - y.toInt < 2147483648) : (x - y).toInt = x.toInt - y.toInt := by
  rw [Int32.toInt_sub, fb_bmod h1 h2]
theorem fb_mulI {x y : Int32} (h1 : -2147483648 ≤ x.toInt * y.toInt) (h2 : x.toInt * y.toInt < 2147483648) : (x * y).toInt = x.toInt * y.toInt := by
  rw [Int32.toInt_mul, fb_bmod h1 h2]
theorem fb_negI {x : Int32} (h : x.toInt ≠ -2147483648) : (-x).toInt = -x.toInt := by
  have := fb_rng x
  rw [Int32.toInt_neg, fb_bmod (by omega) (by omega)]
theorem fb_ofI {z : Int} (h1 : -2147483648 ≤ z) (h2 : z < 2147483648) : (Int32.ofInt z).toInt = z := by
  rw [Int32.toInt_ofInt, fb_bmod h1 h2]
theorem fb_asI (x : Int32) : Int32.ofInt x.toInt = x := Int32.ofInt_toInt x
theorem asN {x : Int32} {n : Nat} (h : x.toInt = (n : Int)) (hn : n < 2 ^ 31) : x = nI n := Int32.toInt_inj.mp (h.trans (nI_toInt hn).symm)
theorem dec1 {x : Int32} {z : Int} (h : x.toInt = z) (h1 : -1000000 ≤ z) (h2 : z < 1000000) : (x + (-1)).toInt = z - 1 := by
  have e : (-1 : Int32).toInt = -1 := rfl
  rw [fb_addI (by rw [h, e]; omega) (by rw [h, e]; omega), h, e]
  rfl
theorem ltN {x : Int32} {z : Int} {i : Nat} (h : x.toInt = z) (hi : i < 2 ^ 31) : (nI i < x) ↔ (i : Int) < z := by rw [Int32.lt_iff_toInt_lt, nI_toInt hi, h]

/-! the set 'found' -/
theorem low_bit {x : Int64} {k : Nat} (hk : k < 64) (h1 : lb x k = true) (h2 : ∀ t, t < k → lb x t = false) : x &&& -x = shlL 1 (nI k) := by
  apply lb_ext
  intro t ht
  rw [lb_and, lb_bit hk ht]
  have e : lb (-x) t = (lb x t ^^ (decide (∃ j < t, lb x j = true))) := by
    unfold lb
    rw [Int64.toBitVec_neg, BitVec.getLsbD_neg]
    simp [ht]
  rw [e]
  rcases Nat.lt_trichotomy t k with z | z | z
  · rw [h2 t z]; simp; omega
  · subst z
    have : ¬ ∃ j < t, lb x j = true := fun ⟨j, hj, e⟩ => by rw [h2 j hj] at e; cases e
    simp [h1, this]
  · have : ∃ j < t, lb x j = true := ⟨k, z, h1⟩
    simp [this]; omega
theorem low_cn : ∀ k, k < 64 → cn (lb (shlL 1 (nI k) - 1)) 64 = k := by decide +kernel
theorem low_ex {x : Int64} (h : x ≠ 0) : ∃ k, k < 64 ∧ lb x k = true ∧ ∀ t, t < k → lb x t = false := by
  have : ∀ m, (∀ t, t < m → lb x t = false) ∨ ∃ k, k < m ∧ lb x k = true ∧ ∀ t, t < k → lb x t = false := by
    intro m
    induction m with
    | zero => exact Or.inl (fun t ht => by omega)
    | succ m ih =>
      rcases ih with ih | ⟨k, h1, h2, h3⟩
      · by_cases z : lb x m = true
        · exact Or.inr ⟨m, (by omega), z, ih⟩
        · refine Or.inl (fun t ht => ?_)
          by_cases e : t = m
          · subst e; simpa using z
          · exact ih t (by omega)
      · exact Or.inr ⟨k, (by omega), h2, h3⟩
  rcases this 64 with q | q
  · exact absurd (lb_ext (x := x) (y := 0) (fun t ht => by rw [q t ht, lb_zero])) h
  · exact q
theorem sPS_first (N : Nat) (hN : 10000 ≤ N) {μ : Mem} {S : Nat → Bool} (h : PS μ S) : ∃ v, f_PatternSet_first N μ = some (v, μ) ∧ IsF S 0 256 v := by
  unfold f_PatternSet_first
  refine for_post (fun n' i (q : Mem) => lp_PatternSet_first_2 N (fun v5 μ6 => ck (inb v5 4) (ck (inb v5 4) (bnd (f_JLong_bitCount N (((gL μ6 32 (tn v5)) &&& (-(gL μ6 32 (tn v5)))) - 1) μ6) fun r9 μ10 => some ((64 * v5) + r9, μ10)))) (fun μ11 => some ((-1), μ11)) n' i q) (fun o => ∃ v, o = some (v, μ) ∧ IsF S 0 256 v) 4 (fun i q => q = μ ∧ ∀ x, x < 64 * i → S x = false)
    (by
      intro n' i κ hi ⟨i1, i2⟩
      subst i1
      rw [lp_PatternSet_first_2, if_pos (show nI i < 4 from nI_lt (b := 4) hi (by omega)), inb_nI hi (by omega), ck_tt, tn_nI (by omega)]
      by_cases z : gL κ 32 i = 0
      · rw [if_pos (lg_eq.mpr z)]
        refine Or.inl ⟨κ, ⟨rfl, fun x hx => ?_⟩, by rw [nI_1]; rfl⟩
        by_cases y : x < 64 * i
        · exact i2 x y
        · have := h i hi (x - 64 * i) (by omega)
          rw [z, lb_zero, show 64 * i + (x - 64 * i) = x by omega] at this
          exact this.symm
      · rw [if_neg (fun e => z (lg_eq.mp e))]
        refine Or.inr ?_
        obtain ⟨k, hk, a1, a2⟩ := low_ex z
        refine ⟨nI (64 * i + k), ?_, Or.inr ⟨64 * i + k, (by omega), (by omega), rfl, ?_, fun q _ hq => ?_⟩⟩
        · rw [low_bit hk a1 a2, sPop, bnd_some, low_cn k hk]
          simp only [ck_tt]
          rw [show (64 : Int32) = nI 64 from rfl, pk_mul, nI_add]
        · rw [← h i hi k hk]; exact a1
        · by_cases y : q < 64 * i
          · exact i2 q y
          · have := h i hi (q - 64 * i) (by omega)
            rw [a2 (q - 64 * i) (by omega), show 64 * i + (q - 64 * i) = q by omega] at this
            exact this.symm)
    (by
      intro n' κ ⟨i1, i2⟩
      subst i1
      rw [lp_PatternSet_first_2, if_neg (show ¬ nI 4 < 4 from nI_nlt (b := 4) (Nat.le_refl _) (by omega))]
      exact ⟨-1, rfl, Or.inl ⟨rfl, fun p _ hp => i2 p hp⟩⟩)
    4 0 N μ (by omega) (by omega) ⟨rfl, fun x hx => by omega⟩
theorem nI_ne_m1 {k : Nat} (h : k < 2 ^ 31) : ¬ nI k = -1 := fun e => by
  have := congrArg Int32.toInt e
  rw [nI_toInt h] at this
  have e2 : (-1 : Int32).toInt = -1 := rfl
  omega
theorem cn_z0 {P : Nat → Bool} {m : Nat} : cn P m = 0 ↔ ∀ t, t < m → P t = false := by
  induction m with
  | zero => exact ⟨fun _ t ht => by omega, fun _ => rfl⟩
  | succ m ih =>
    rw [cn]
    constructor
    · intro h t ht
      by_cases e : t = m
      · subst e
        by_cases z : P t = true
        · rw [if_pos z] at h; omega
        · simpa using z
      · exact ih.mp (by omega) t (by omega)
    · intro h
      rw [ih.mpr (fun t ht => h t (by omega)), h m (by omega)]; rfl
theorem IsF.emp {P : Nat → Bool} {m : Nat} {v : Int32} (h : IsF P 0 m v) (hm : m < 2 ^ 31) : v = -1 ↔ cn P m = 0 := by
  rw [cn_z0]
  rcases h with ⟨h1, h2⟩ | ⟨p, h1, h2, h3, h4, h5⟩
  · exact ⟨fun _ t ht => h2 t (by omega) ht, fun _ => h1⟩
  · subst h3
    constructor
    · intro e; exact absurd e (nI_ne_m1 (by omega))
    · intro e; rw [e p h2] at h4; cases h4
theorem sPS_isEmpty (N : Nat) (hN : 10000 ≤ N) {μ : Mem} {S : Nat → Bool} (h : PS μ S) : f_PatternSet_isEmpty N μ = some (if cn S 256 = 0 then 1 else 0, μ) := by
  obtain ⟨v, e, f⟩ := sPS_first N hN h
  unfold f_PatternSet_isEmpty
  rw [e, bnd_some]
  have := f.emp (by decide)
  by_cases z : cn S 256 = 0
  · rw [if_pos z, if_pos (this.mpr z)]
  · rw [if_neg z, if_neg (fun q => z (this.mp q))]
theorem ps_ix {p : Nat} (hp : p < 256) : shrI (nI p) 6 &&& 3 = nI (p / 64) ∧ nI p &&& 63 = nI (p % 64) := by
  have : ∀ p, p < 256 → shrI (nI p) 6 &&& 3 = nI (p / 64) ∧ nI p &&& 63 = nI (p % 64) := by decide +kernel
  exact this p hp
theorem sPS_holds (N : Nat) {μ : Mem} {S : Nat → Bool} (h : PS μ S) {p : Nat} (hp : p < 256) : f_PatternSet_holds N (nI p) μ = some (if S p then 1 else 0, μ) := by
  unfold f_PatternSet_holds
  have e := h (p / 64) (by omega) (p % 64) (by omega)
  rw [show 64 * (p / 64) + p % 64 = p by omega] at e
  rw [(ps_ix hp).1, (ps_ix hp).2, inb_nI (show p / 64 < 4 by omega) (by omega), ck_tt, tn_nI (by omega)]
  simp only [lg_eq]
  rw [and1L, lb_ush _ (show p % 64 < 64 by omega), Nat.add_zero, e]
  cases S p <;> rfl
theorem sPS_put (N : Nat) {μ : Mem} {S : Nat → Bool} (h : PS μ S) {p : Nat} (hp : p < 256) : ∃ μ', f_PatternSet_put N (nI p) μ = some ((), μ') ∧ PS μ' (fun x => S x || decide (x = p)) ∧ Fr (rg 32 32) μ μ' := by
  unfold f_PatternSet_put
  rw [(ps_ix hp).1, (ps_ix hp).2, inb_nI (show p / 64 < 4 by omega) (by omega), ck_tt, ck_tt, tn_nI (by omega)]
  refine ⟨_, rfl, fun b hb t ht => ?_, (Fr.rf μ).sL (rgi (by omega) (by omega))⟩
  by_cases z : b = p / 64
  · subst z
    rw [gL_sL, if_pos ⟨rfl, rfl⟩, lb_or, h _ hb t ht, lb_bit (by omega) ht]
    congr 1
    apply decide_eq_decide.mpr; omega
  · rw [gL_sL, if_neg (fun e => z e.2), h _ hb t ht]
    have : ¬ 64 * b + t = p := (by omega)
    simp [this]
theorem PS.size {n : Nat} (h8 : n ≤ 8) {P : Nat → Bool} : cn (fun x => decide (x < 2 ^ n) && P x) 256 = cn P (2 ^ n) := by
  have p8 := pow8 h8
  have := cn_split (fun x => decide (x < 2 ^ n) && P x) (2 ^ n) (256 - 2 ^ n)
  rw [show 2 ^ n + (256 - 2 ^ n) = 256 by omega] at this
  rw [this]
  have e1 : cn (fun t => decide (2 ^ n + t < 2 ^ n) && P (2 ^ n + t)) (256 - 2 ^ n) = 0 := cn_z0.mpr (fun t ht => by
    have : ¬ 2 ^ n + t < 2 ^ n := (by omega)
    simp [this])
  rw [e1, Nat.add_zero]
  exact cn_congr _ (fun t ht => by simp [ht])
theorem PS.frst {n : Nat} (h8 : n ≤ 8) {P : Nat → Bool} {v : Int32} (h : IsF (fun x => decide (x < 2 ^ n) && P x) 0 256 v) : IsF P 0 (2 ^ n) v := by
  have p8 := pow8 h8
  rcases h with ⟨h1, h2⟩ | ⟨p, h1, h2, h3, h4, h5⟩
  · refine Or.inl ⟨h1, fun p a b => ?_⟩
    have := h2 p a (by omega)
    simpa [b] using this
  · have hp : p < 2 ^ n ∧ P p = true := by simpa using h4
    refine Or.inr ⟨p, h1, hp.1, h3, hp.2, fun q a b => ?_⟩
    have := h5 q a b
    have z : q < 2 ^ n := (by omega)
    simpa [z] using this
def b0 : Nat → Bool := fun _ => false
theorem Bits.st {n : Nat} (cs : List (Nat × Nat)) (b : Nat → Bool) (how : Nat) (h2 : 2 ≤ n) (h8 : n ≤ 8) : Bits n (fun w b => col w b &&& msk n) (fun x => rs cs b how x 0) := Bits.start h2 h8
/-- comparer k of the net left out -/
def bo (k : Nat) : Nat → Bool := fun c => decide (c = k)
theorem rs_out {cs : List (Nat × Nat)} {k p : Nat} : rs cs (bo k) 0 p (k + 1) = rs cs (bo k) 0 p k := by
  rw [rs]
  have : swp (bo k) 0 (rs cs (bo k) 0 p k) (cl cs k) (ch cs k) k = false := by unfold swp bo; simp
  rw [this]; rfl
def PW (n : Nat) (P : Nat → Bool) : Nat → Bool := fun x => decide (x < 2 ^ n) && P x
theorem sX_judge0 (N : Nat) (hN : 10000 ≤ N) {q n : Nat} {cs : List (Nat × Nat)} {μ : Mem} (hq : NX μ q n cs) (w : WN n cs) (hpq : q + 2 < 27) : ∃ μ', f_X_judge N q (-1) μ = some ((), μ') ∧ PS μ' (PW n (wr n cs b0 0)) ∧ Fr (rg 27 32) μ μ' := by
  have hl := w.2.2.1
  obtain ⟨μ1, e1, t1, f1⟩ := sTr_start N hN (p := 27) w.1 w.2.1 μ
  have hq1 : NX μ1 q n cs := hq.frg f1 (by omega)
  obtain ⟨μ2, e2, t2, f2⟩ := sTr_runPart N hN t1 hq1 w (by omega) (Nat.zero_le _) (Nat.le_refl cs.length)
  have bt := Bits.rp (b := b0) (how := 0) (a := 0) w (Bits.st cs _ 0 w.1 w.2.1) cs.length (by omega) (fun _ _ _ => rfl)
  rw [Nat.sub_zero] at t2
  obtain ⟨μ3, e3, g3, f3⟩ := sTr_unsorted N hN t2 w.1 w.2.1 (by omega)
  have ps := PS.un bt w.1 w.2.1 g3
  refine ⟨μ3, ?_, ?_, ((f1.wide (by omega) (by omega)).tr (f2.wide (by omega) (by omega))).tr (f3.wide (by omega) (by omega))⟩
  · unfold f_X_judge
    rw [hq.1, e1, bnd_some]
    simp only [lt']
    rw [if_pos (by decide), hq1.2.1, show (0 : Int32) = nI 0 from rfl, e2, bnd_some, e3, bnd_some]
  · rw [Nat.zero_add] at ps
    exact ps
theorem sX_judge1 (N : Nat) (hN : 10000 ≤ N) {q n k : Nat} {cs : List (Nat × Nat)} {μ : Mem} (hq : NX μ q n cs) (w : WN n cs) (hpq : q + 2 < 27) (hk : k < cs.length) : ∃ μ', f_X_judge N q (nI k) μ = some ((), μ') ∧ PS μ' (PW n (wr n cs (bo k) 0)) ∧ Fr (rg 27 32) μ μ' := by
  have hl := w.2.2.1
  obtain ⟨μ1, e1, t1, f1⟩ := sTr_start N hN (p := 27) w.1 w.2.1 μ
  have hq1 : NX μ1 q n cs := hq.frg f1 (by omega)
  obtain ⟨μ2, e2, t2, f2⟩ := sTr_runPart N hN t1 hq1 w (by omega) (Nat.zero_le k) (Nat.le_of_lt hk)
  have hq2 : NX μ2 q n cs := hq1.frg f2 (by omega)
  have bt := Bits.rp (b := bo k) (how := 0) (a := 0) w (Bits.st cs _ 0 w.1 w.2.1) k (by omega) (fun c _ h => by unfold bo; simp; omega)
  rw [Nat.sub_zero] at t2
  rw [Nat.zero_add] at bt
  obtain ⟨μ3, e3, t3, f3⟩ := sTr_runPart N hN t2 hq2 w (by omega) (show k + 1 ≤ cs.length from hk) (Nat.le_refl cs.length)
  have eo : (fun x => rs cs (bo k) 0 x k) = fun x => rs cs (bo k) 0 x (k + 1) := funext fun x => rs_out.symm
  rw [eo] at bt
  have bt2 := Bits.rp (a := k + 1) w bt (cs.length - (k + 1)) (by omega) (fun c h1 h => by unfold bo; simp; omega)
  rw [show k + 1 + (cs.length - (k + 1)) = cs.length by omega] at bt2
  obtain ⟨μ4, e4, g4, f4⟩ := sTr_unsorted N hN t3 w.1 w.2.1 (by omega)
  have ps := PS.un bt2 w.1 w.2.1 g4
  refine ⟨μ4, ?_, ps, (((f1.wide (by omega) (by omega)).tr (f2.wide (by omega) (by omega))).tr (f3.wide (by omega) (by omega))).tr (f4.wide (by omega) (by omega))⟩
  unfold f_X_judge
  rw [hq.1, e1, bnd_some]
  simp only [lt']
  rw [if_neg (nI_pos (by omega)), show (0 : Int32) = nI 0 from rfl, e2, bnd_some, hq2.2.1, nI_1, e3, bnd_some, e4, bnd_some]
theorem sX_isSorting0 (N : Nat) (hN : 10000 ≤ N) {q n : Nat} {cs : List (Nat × Nat)} {μ : Mem} (hq : NX μ q n cs) (w : WN n cs) (hpq : q + 2 < 27) : ∃ μ', f_X_isSorting N q (-1) μ = some (if cn (wr n cs b0 0) (2 ^ n) = 0 then 1 else 0, μ') ∧ Fr (rg 27 32) μ μ' := by
  obtain ⟨μ1, e1, p1, f1⟩ := sX_judge0 N hN hq w hpq
  have e2 := sPS_isEmpty N hN p1
  unfold PW at e2
  rw [PS.size w.2.1] at e2
  refine ⟨μ1, ?_, f1⟩
  unfold f_X_isSorting
  rw [e1, bnd_some, e2, bnd_some]
  split <;> rfl
theorem sX_isSorting1 (N : Nat) (hN : 10000 ≤ N) {q n k : Nat} {cs : List (Nat × Nat)} {μ : Mem} (hq : NX μ q n cs) (w : WN n cs) (hpq : q + 2 < 27) (hk : k < cs.length) : ∃ μ', f_X_isSorting N q (nI k) μ = some (if cn (wr n cs (bo k) 0) (2 ^ n) = 0 then 1 else 0, μ') ∧ Fr (rg 27 32) μ μ' := by
  obtain ⟨μ1, e1, p1, f1⟩ := sX_judge1 N hN hq w hpq hk
  have e2 := sPS_isEmpty N hN p1
  unfold PW at e2
  rw [PS.size w.2.1] at e2
  refine ⟨μ1, ?_, f1⟩
  unfold f_X_isSorting
  rw [e1, bnd_some, e2, bnd_some]
  split <;> rfl

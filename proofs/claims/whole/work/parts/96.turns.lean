/-! in how many ways a set is within another one: the model; within -/
theorem cn_pt (a : Nat) (b : Bool) : ∀ M, cn (fun c => decide (c = a) && b) M = if a < M ∧ b = true then 1 else 0
  | 0 => by rw [cn, if_neg (by omega)]
  | M + 1 => by
    rw [cn, cn_pt a b M]
    cases b with
    | false => simp
    | true =>
      by_cases e : M = a
      · subst e; simp
      · have : (decide (M = a) && true) = false := by simp [e]
        rw [this]
        by_cases z : a < M
        · rw [if_pos (show a < M ∧ true = true from ⟨z, rfl⟩), if_pos (show a < M + 1 ∧ true = true from ⟨by omega, rfl⟩)]; rfl
        · rw [if_neg (show ¬ (a < M ∧ true = true) from fun q => z q.1), if_neg (show ¬ (a < M + 1 ∧ true = true) from fun q => z (by have := q.1; omega))]; rfl
theorem bs_cn (P : Nat → Bool) (M : Nat) : ∀ (A : List Nat) (X Y : Nat), bs A X = some Y → (∀ a ∈ A, a < M) → cn (fun c => Y.testBit c && P c) M = cn (fun c => X.testBit c && P c) M + A.countP P
  | [], X, Y, h, _ => by
    rw [bs] at h
    cases h
    rfl
  | a :: A, X, Y, h, hM => by
    rw [bs] at h
    by_cases z : X.testBit a = true
    · rw [if_pos z] at h; cases h
    · rw [if_neg z] at h
      have ih := bs_cn P M A _ Y h (fun x hx => hM x (List.mem_cons_of_mem _ hx))
      have ha := hM a List.mem_cons_self
      have st : cn (fun c => (X ||| 2 ^ a).testBit c && P c) M = cn (fun c => X.testBit c && P c) M + cn (fun c => decide (c = a) && P a) M := by
        apply cn_add
        intro k hk
        rw [Nat.testBit_or, Nat.testBit_two_pow]
        by_cases e : k = a
        · subst e
          have z' : X.testBit k = false := by simpa using z
          rw [z']
          simp
        · have e' : ¬ a = k := fun q => e q.symm
          simp [e, e']
      rw [ih, st, cn_pt, List.countP_cons]
      by_cases y : P a = true
      · rw [if_pos ⟨ha, y⟩, if_pos y]; omega
      · rw [if_neg (fun q => y q.2), if_neg y]; omega
def mxl : List Nat → Nat
  | [] => 0
  | a :: l => max a (mxl l)
theorem le_mxl : ∀ {l : List Nat} {a : Nat}, a ∈ l → a ≤ mxl l
  | x :: l, a, h => by
    rw [mxl]
    rcases List.mem_cons.mp h with h | h
    · omega
    · have := le_mxl h; omega
theorem cP_same {A B : List Nat} {X : Nat} (hA : bs A 0 = some X) (hB : bs B 0 = some X) (P : Nat → Bool) : A.countP P = B.countP P := by
  have a := bs_cn P (mxl A + mxl B + 1) A 0 X hA (fun x hx => by have := le_mxl hx; omega)
  have b := bs_cn P (mxl A + mxl B + 1) B 0 X hB (fun x hx => by have := le_mxl hx; omega)
  omega
theorem cP_enc {n : Nat} {A : List (List Nat)} (h : A.all (gl n) = true) (Q : List Nat → Bool) : (A.map enc).countP (fun c => Q (dec n c)) = A.countP Q := by
  rw [List.countP_map]
  apply List.countP_congr
  intro l hl
  have g := (List.all_eq_true.mp h) l hl
  unfold gl at g
  rw [Bool.and_eq_true] at g
  have e1 : l.length = n := by simpa using g.1
  have e2 : ∀ x ∈ l, x < 8 := fun x hx => by
    have := (List.all_eq_true.mp g.2) x hx
    simpa using this
  have d := dec_enc l e2
  rw [e1] at d
  show Q (dec n (enc l)) = true ↔ Q l = true
  rw [d]
theorem itr_cw {n G S : Nat} (h1 : 1 ≤ n) (h6 : n ≤ 6) : (itr n 720 (List.range n)).countP (tin n S G) = cw n G (n - 1) S := by
  have e := bs_ok n (by omega) h1
  obtain ⟨X, hX⟩ := Option.isSome_iff_exists.mp (bs_some n (by omega) h1)
  rw [hX] at e
  unfold cw
  rw [← cP_enc (gl_1 n (by omega) h1), ← cP_enc (gl_2 n (by omega) h1)]
  exact cP_same e hX _
theorem tq_lt {n p : Nat} {o : Nat → Nat} : ∀ m, (∀ w, w < m → o w < n) → tq o p m < 2 ^ n
  | 0, _ => Nat.two_pow_pos n
  | m + 1, h => by
    have ih := tq_lt (p := p) m (fun w hw => h w (by omega))
    have t := tb_lt p m
    rw [tq]
    refine Nat.or_lt_two_pow ih ?_
    have : 2 ^ o m < 2 ^ n := Nat.pow_lt_pow_right (by decide) (h m (by omega))
    have : tb p m * 2 ^ o m ≤ 1 * 2 ^ o m := Nat.mul_le_mul_right _ (by omega)
    omega
theorem l_ti31 (N : Nat) (hN : 10000 ≤ N) {n p : Nat} {l : List Nat} {κ : Mem} (x2 x4 : Int64) (h6 : n ≤ 6) (h1 : 1 ≤ n) (ho : OL n l) (hv : VV κ 59 l) (hp : p < 64) (K : Int32 → Mem → Option (Int32 × Mem)) : lp_M_isTurnedIn_31 N (nI n) x2 x4 (nI p) K N 0 0 κ = K (nI (tq (lf l) p n)) κ := by
  have hb := ho.b h1
  have hl := ho.1
  obtain ⟨⟨r, κ'⟩, ⟨k1, k2⟩, e⟩ := for_up (fun n' i (q : Int32 × Mem) => lp_M_isTurnedIn_31 N (nI n) x2 x4 (nI p) K n' q.1 i q.2) (fun q => K q.1 q.2) n (fun i q => q.1 = nI (tq (lf l) p i) ∧ q.2 = κ)
    (by
      intro n' i ⟨r, κ2⟩ hi ⟨i1, i2⟩
      dsimp only at i1 i2
      subst i1; subst i2
      refine ⟨(nI (tq (lf l) p (i + 1)), κ2), ⟨rfl, rfl⟩, ?_⟩
      dsimp only
      have b := hb i
      rw [lp_M_isTurnedIn_31, if_pos (nI_lt hi (by omega)), inb_nI (by omega) (by omega), ckE, tn_nI (by omega), hv i (by omega), bitI (by omega) (by omega), shlI_nI (by omega) (tb_sh' (by omega)), orI, ltE, ltE, nI_1, tq]
      rfl)
    (by
      intro n' ⟨r, κ2⟩ ⟨i1, i2⟩
      dsimp only at i1 i2 ⊢
      rw [lp_M_isTurnedIn_31, if_neg (nI_nlt (Nat.le_refl _) (by omega))])
    n 0 N (0, κ) (by omega) (by omega) ⟨rfl, rfl⟩
  dsimp only at k1 k2 e
  subst k1; subst k2
  exact e
theorem bitL (S : Nat) {p : Nat} (hp : p < 64) : (lg_cmp (shrL (lN S) (nI p) &&& 1) 0 = 0) ↔ S.testBit p = false := by
  rw [lg_eq, and1L, lb_shr0 _ hp, lb_lN _ _ hp]
  cases S.testBit p with
  | false => simp
  | true => simp
theorem sM_isTurnedIn (N : Nat) (hN : 10000 ≤ N) {n S G : Nat} {l : List Nat} {κ : Mem} (h6 : n ≤ 6) (h1 : 1 ≤ n) (ho : OL n l) (hv : VV κ 59 l) : f_M_isTurnedIn N (nI n) (lN S) (lN G) κ = some (if tin n S G l then 1 else 0, κ) := by
  have p6 := pp6 h6
  have hb := ho.b h1
  unfold f_M_isTurnedIn
  refine for_post (fun n' i (κ' : Mem) => lp_M_isTurnedIn_3 N (nI n) (lN S) (lN G) (fun μ13 => some (1, μ13)) n' i κ') (fun o => o = some (if tin n S G l then 1 else 0, κ)) (2 ^ n) (fun i κ' => κ' = κ ∧ ∀ p, p < i → S.testBit p = true → G.testBit (tq (lf l) p n) = true)
    (by
      intro n' i κ' hi ⟨i1, i2⟩
      subst i1
      have tl := tq_lt (p := i) (o := lf l) (n := n) n (fun w hw => hb w)
      cases z : S.testBit i with
      | false =>
        refine Or.inl ⟨κ', ⟨rfl, fun p hp hs => ?_⟩, ?_⟩
        · by_cases e : p = i
          · subst e; rw [z] at hs; cases hs
          · exact i2 p (by omega) hs
        · rw [lp_M_isTurnedIn_3, one_shl (by omega), if_pos (nI_lt hi (by omega)), ltE, if_pos ((bitL S (by omega)).mpr z)]
          dsimp only
          rw [ltE, nI_1]
      | true =>
        have nz : ¬ lg_cmp (shrL (lN S) (nI i) &&& 1) 0 = 0 := fun q => by rw [(bitL S (by omega)).mp q] at z; cases z
        cases y : G.testBit (tq (lf l) i n) with
        | true =>
          have ny : ¬ lg_cmp (shrL (lN G) (nI (tq (lf l) i n)) &&& 1) 0 = 0 := fun q => by rw [(bitL G (by omega)).mp q] at y; cases y
          refine Or.inl ⟨κ', ⟨rfl, fun p hp hs => ?_⟩, ?_⟩
          · by_cases e : p = i
            · subst e; exact y
            · exact i2 p (by omega) hs
          · rw [lp_M_isTurnedIn_3, one_shl (by omega), if_pos (nI_lt hi (by omega)), ltE, if_neg nz, l_ti31 N hN _ _ h6 h1 ho hv (by omega), if_neg ny]
            dsimp only
            rw [ltE, nI_1]
        | false =>
          refine Or.inr ?_
          have nt : ¬ tin n S G l = true := fun q => by
            rw [tin_t.mp q i hi z] at y; cases y
          rw [lp_M_isTurnedIn_3, one_shl (by omega), if_pos (nI_lt hi (by omega)), ltE, if_neg nz, l_ti31 N hN _ _ h6 h1 ho hv (by omega), if_pos ((bitL G (by omega)).mpr y), if_neg nt])
    (by
      intro n' κ' ⟨i1, i2⟩
      subst i1
      rw [lp_M_isTurnedIn_3, one_shl (by omega), if_neg (nI_nlt (Nat.le_refl _) (by omega)), if_pos (tin_t.mpr i2)])
    (2 ^ n) 0 N κ (by omega) (by omega) ⟨rfl, fun p hp => by omega⟩
theorem itr_succ (n f : Nat) (l : List Nat) : itr n (f + 1) l = l :: (match nx n l with
    | none => []
    | some l' => itr n f l') := by
  rw [itr]
  cases nx n l with
  | none => rfl
  | some l' => dsimp only; rw [nrm_eq]
theorem fin_succ (n f : Nat) (l : List Nat) : fin n (f + 1) l = (match nx n l with
    | none => true
    | some l' => fin n f l') := by
  rw [fin]
  cases nx n l with
  | none => rfl
  | some l' => dsimp only; rw [nrm_eq]
/-- both forms of the model's search: 'a' tells whether all are counted -/
def tcn (a : Bool) (c : Nat) : Nat := if a then c else if c = 0 then 0 else 1
theorem l_tu27 (N : Nat) (hN : 10000 ≤ N) {n S G : Nat} (a : Bool) (h6 : n ≤ 6) (h1 : 1 ≤ n) (K : Int32 → Mem → Option (Int32 × Mem)) : ∀ (f n' c : Nat) (l : List Nat) (κ : Mem), fin n f l = true → f + 1 < n' → c + f ≤ 2000 → (a = false → c = 0) → OL n l → VV κ 59 l → ∃ κ', lp_M_turns_27 N (nI n) (lN S) (lN G) (gI' a) K n' (nI c) 1 κ = K (nI (c + tcn a ((itr n f l).countP (tin n S G)))) κ' ∧ Fr (rg 59 59) κ κ'
  | 0, n' + 1, c, l, κ, hf, hn, hc, ha, ho, hv => by rw [fin] at hf; cases hf
  | f + 1, n' + 2, c, l, κ, hf, hn, hc, ha, ho, hv => by
    have hb := ho.b h1
    have ti := sM_isTurnedIn N hN (S := S) (G := G) h6 h1 ho hv
    obtain ⟨κ1, e1, v1, f1⟩ := sM_next N hN hv ho.1 h1 (by omega) (fun k => by have := hb k; omega)
    rw [itr_succ, List.countP_cons]
    rw [fin_succ] at hf
    generalize ht : (if tin n S G l = true then 1 else 0) = t
    have tb' : t ≤ 1 := by rw [← ht]; split <;> omega
    have pre : lp_M_turns_27 N (nI n) (lN S) (lN G) (gI' a) K (n' + 2) (nI c) 1 κ = if gI' a = 0 then (if nI (c + t) = 0 then (if (if (nx n l).isSome then (1 : Int32) else 0) = 0 then (lp_M_turns_27 N (nI n) (lN S) (lN G) (gI' a) K (n' + 1) (nI (c + t)) 0 κ1) else (lp_M_turns_27 N (nI n) (lN S) (lN G) (gI' a) K (n' + 1) (nI (c + t)) 1 κ1)) else (lp_M_turns_27 N (nI n) (lN S) (lN G) (gI' a) K (n' + 1) (nI (c + t)) 0 κ)) else (if (if (nx n l).isSome then (1 : Int32) else 0) = 0 then (lp_M_turns_27 N (nI n) (lN S) (lN G) (gI' a) K (n' + 1) (nI (c + t)) 0 κ1) else (lp_M_turns_27 N (nI n) (lN S) (lN G) (gI' a) K (n' + 1) (nI (c + t)) 1 κ1)) := by
      have et : nI c + (if tin n S G l = true then (1 : Int32) else 0) = nI (c + t) := by
        rw [← ht]
        split
        · rw [nI_1]
        · rw [show (0 : Int32) = nI 0 from rfl, nI_add]
      rw [lp_M_turns_27, if_neg (by decide), ti, bnd_some, sM_flag, bnd_some, et, ltE, ltE, ltE, e1, bnd_some]
    have stop : ∀ κ', lp_M_turns_27 N (nI n) (lN S) (lN G) (gI' a) K (n' + 1) (nI (c + t)) 0 κ' = K (nI (c + t)) κ' := fun κ' => by rw [lp_M_turns_27, if_pos rfl]
    -- behind this order
    have go : (a = false → c + t = 0) → ∃ κ', (if (if (nx n l).isSome then (1 : Int32) else 0) = 0 then (lp_M_turns_27 N (nI n) (lN S) (lN G) (gI' a) K (n' + 1) (nI (c + t)) 0 κ1) else (lp_M_turns_27 N (nI n) (lN S) (lN G) (gI' a) K (n' + 1) (nI (c + t)) 1 κ1)) = K (nI (c + t + tcn a ((match nx n l with
        | none => []
        | some l' => itr n f l').countP (tin n S G)))) κ' ∧ Fr (rg 59 59) κ κ' := by
      intro hat
      cases q : nx n l with
      | none =>
        refine ⟨κ1, ?_, f1⟩
        rw [if_neg (show ¬ (none : Option (List Nat)).isSome = true by decide), if_pos rfl, stop]
        cases a <;> rfl
      | some l' =>
        rw [q] at hf
        obtain ⟨κ2, e2, f2⟩ := l_tu27 N hN (S := S) (G := G) a h6 h1 K f (n' + 1) (c + t) l' κ1 hf (by omega) (by omega) hat (ho.nxt h1 q) (v1 l' q)
        refine ⟨κ2, ?_, f1.tr f2⟩
        rw [if_pos (show (some l' : Option (List Nat)).isSome = true from rfl), if_neg (by decide), e2]
    rw [pre]
    cases a with
    | true =>
      obtain ⟨κ', e', f'⟩ := go (fun e => by cases e)
      refine ⟨κ', ?_, f'⟩
      rw [if_neg (by decide), e']
      congr 2
      unfold tcn
      simp only [if_true]
      omega
    | false =>
      have c0 := ha rfl
      have ce : (nI (c + t) = 0) ↔ c + t = 0 := nI_eq (b := 0) (by omega) (by omega)
      rw [if_pos (by decide)]
      by_cases z : c + t = 0
      · obtain ⟨κ', e', f'⟩ := go (fun _ => z)
        refine ⟨κ', ?_, f'⟩
        rw [if_pos (ce.mpr z), e']
        congr 2
        have t0 : t = 0 := (by omega)
        rw [t0, Nat.add_zero, Nat.add_zero]
      · refine ⟨κ, ?_, Fr.rf κ⟩
        rw [if_neg (fun q => z (ce.mp q)), stop]
        congr 2
        have t1 : t = 1 := (by omega)
        rw [t1, c0]
        unfold tcn
        rw [if_neg (by decide), if_neg (by omega)]
theorem sM_turns (N : Nat) (hN : 10000 ≤ N) {n S G : Nat} (a : Bool) (h6 : n ≤ 6) (h1 : 1 ≤ n) (hS : S < 2 ^ 2 ^ n) (μ : Mem) : ∃ μ', f_M_turns N (nI n) (lN S) (lN G) (gI' a) μ = some (nI (tcn a (cw n G (n - 1) S)), μ') ∧ Fr (rg 59 59) μ μ' := by
  obtain ⟨μ1, e1, v1, f1⟩ := m_first N hN (n := n) (by omega) μ
  have pS := pcn_le S
  have pG := pcn_le G
  have l : (nI (pcn G) < nI (pcn S)) ↔ pcn G < pcn S := nI_ltI (by omega) (by omega)
  unfold f_M_turns
  rw [e1, bnd_some, sM_pop, bnd_some, sM_pop, bnd_some]
  by_cases z : pcn G < pcn S
  · have c0 : cw n G (n - 1) S = 0 := by
      apply Classical.byContradiction
      intro q
      have := cw_le h6 (show n - 1 < n by omega) hS q
      omega
    obtain ⟨N', rfl⟩ : ∃ k, N = k + 1 := ⟨N - 1, (by omega)⟩
    refine ⟨μ1, ?_, f1⟩
    rw [if_pos (l.mpr z), ltE, lp_M_turns_27, if_pos rfl, c0]
    cases a <;> rfl
  · obtain ⟨μ2, e2, f2⟩ := l_tu27 N hN (S := S) (G := G) a h6 h1 (fun v24 μ25 => some (v24, μ25)) 720 N 0 (List.range n) μ1 (fin_s720 n (by omega) h1) (by omega) (by omega) (fun _ => rfl) OL.id v1
    refine ⟨μ2, ?_, f1.tr f2⟩
    rw [if_neg (fun q => z (l.mp q)), ltE]
    rw [itr_cw h1 h6, Nat.zero_add] at e2
    exact e2
-- images
def ims (R : Nat → Nat) : Nat → Int64
  | 0 => 0
  | p + 1 => ims R p ||| shlL 1 (nI (R p))
theorem lb_ims {R : Nat → Nat} {t : Nat} (ht : t < 64) : ∀ m, (∀ p, p < m → R p < 64) → lb (ims R m) t = imR R m t
  | 0, _ => by rw [ims, lb_zero, imR]
  | m + 1, h => by
    rw [ims, lb_or, lb_ims ht m (fun p hp => h p (by omega)), lb_bit (h m (by omega)) ht, imR]
theorem lN_of (x : Int64) : lN x.toBitVec.toNat = x := lb_ext (fun t ht => by rw [lb_lN _ _ ht]; rfl)
/-- the image of a net, as a number -/
def imN (n : Nat) (cs : List (Nat × Nat)) : Nat := (ims (rt cs) (2 ^ n)).toBitVec.toNat
theorem imN_l (n : Nat) (cs : List (Nat × Nat)) : lN (imN n cs) = ims (rt cs) (2 ^ n) := lN_of _
theorem imN_t {n : Nat} {cs : List (Nat × Nat)} (w : WN n cs) (h6 : n ≤ 6) {t : Nat} (ht : t < 64) : (imN n cs).testBit t = imR (rt cs) (2 ^ n) t := by
  have p6 := pp6 h6
  rw [← lb_lN _ _ ht, imN_l, lb_ims ht _ (fun p hp => by have := rt_lt w hp; omega)]
theorem imN_lt {n : Nat} {cs : List (Nat × Nat)} (w : WN n cs) (h6 : n ≤ 6) : imN n cs < 2 ^ 2 ^ n := by
  apply set_lt
  intro p hp
  have p64 : p < 64 := by
    apply Classical.byContradiction
    intro z
    have : imN n cs < 2 ^ 64 := (ims (rt cs) (2 ^ n)).toBitVec.isLt
    rw [tb_big this (by omega)] at hp
    cases hp
  rw [imN_t w h6 p64] at hp
  exact imR_lt w hp
theorem sX_smallImage (N : Nat) (hN : 10000 ≤ N) {q n : Nat} {cs : List (Nat × Nat)} {μ : Mem} (hq : NX μ q n cs) (w : WN n cs) (h6 : n ≤ 6) (hpq : q + 2 < 27) : ∃ μ', f_X_smallImage N q μ = some (lN (imN n cs), μ') ∧ Fr (rg 27 33) μ μ' := by
  have p6 := pp6 h6
  obtain ⟨μ1, e1, p1, f1⟩ := sX_takeImage N hN hq w hpq
  refine ⟨μ1, ?_, f1⟩
  have e : gL μ1 32 0 = lN (imN n cs) := by
    apply lb_ext
    intro t ht
    have := p1 0 (by decide) t ht
    rw [Nat.mul_zero, Nat.zero_add] at this
    rw [this, lb_lN _ _ ht, imN_t w h6 ht]
  unfold f_X_smallImage
  rw [e1, bnd_some, show inb 0 4 = true from inb_nI (k := 0) (by decide) (by decide), ckE, show tn 0 = 0 from tn_nI (k := 0) (by decide), e]
theorem sM_imageOf (N : Nat) (hN : 10000 ≤ N) {s n : Nat} {cs : List (Nat × Nat)} {μ : Mem} (m : NM μ s n cs) (w : WN n cs) (hs : s < 4) (h6 : n ≤ 6) : ∃ μ', f_M_imageOf N (nI s) μ = some (lN (imN n cs), μ') ∧ Fr mB μ μ' := by
  have h8 := w.2.1
  have p6 := pp6 h6
  obtain ⟨⟨v, μ'⟩, ⟨k1, k2⟩, e⟩ := for_up (fun n' i (z : Int64 × Mem) => lp_M_imageOf_5 N (nI s) (fun v8 μ9 => some (v8, μ9)) n' z.1 i z.2) (fun z => some (z.1, z.2)) (2 ^ n) (fun i z => z.1 = ims (rt cs) i ∧ Fr mB μ z.2)
    (by
      intro n' i ⟨v, κ⟩ hi ⟨i1, i2⟩
      dsimp only at i1 i2
      subst i1
      have mk := m.fr i2 (fun q k _ _ z => by unfold mB at z; omega)
      obtain ⟨κ', e', b', f'⟩ := sM_result N hN mk w hs hi (-1) b0 hb0 0 (by decide)
      have e'' : f_M_result N (nI s) (nI i) (-1) 0 κ = some (nI (rt cs i), κ') := e'
      refine ⟨(ims (rt cs) (i + 1), κ'), ⟨rfl, i2.tr f'⟩, ?_⟩
      dsimp only
      rw [lp_M_imageOf_5, sM_all N mk hs h8, bnd_some, if_pos (nI_lt hi (by omega)), e'', bnd_some, ltE, ltE, nI_1, ims])
    (by
      intro n' ⟨v, κ⟩ ⟨i1, i2⟩
      dsimp only at i1 i2 ⊢
      have mk := m.fr i2 (fun q k _ _ z => by unfold mB at z; omega)
      rw [lp_M_imageOf_5, sM_all N mk hs h8, bnd_some, if_neg (nI_nlt (Nat.le_refl _) (by omega))])
    (2 ^ n) 0 N (0, μ) (by omega) (by omega) ⟨rfl, Fr.rf μ⟩
  dsimp only at k1 k2 e
  subst k1
  rw [← imN_l] at e
  exact ⟨μ', e, k2⟩
theorem cw_720 : ∀ n, n < 7 → 1 ≤ n → (pl n (n - 1)).length ≤ 720 := by decide +kernel
theorem op_within (N : Nat) (hN : 10000 ≤ N) (x y : Int32) : OpEq (f_X_within N x y) (f_M_within N x y) := by
  refine op_of (fX := fun x => f_X_within N x y) (fM := fun x => f_M_within N x y) (-1) (fun x h μ => by simp [f_X_within, isNet_out N h, bnd_some]) (fun x h μ => by simp [f_M_within, mNet_out N h, bnd_some, lt']) (fun s hs μ σ hw hx => ?_) x
  rcases ix4 y 4 (by omega) with ht | ⟨t, ht, rfl⟩
  · refine g_no hw hx (-1) (by simp [f_X_within, isNet_in N hs, isNet_out N ht, bnd_some]) (fun μ ν hν hm => ?_)
    unfold f_M_within
    rw [ltE, ← hν, mNet_in N hs, bnd_some, if_neg (by decide), mNet_out N ht, bnd_some, if_pos rfl]
  have w := hw.1 s hs
  have nx' := hx.1 s hs
  have wt := hw.1 t ht
  have nt := hx.1 t ht
  generalize hcs : (σ.1 s).2 = cs at *
  generalize hnn : (σ.1 s).1 = n at *
  generalize hds : (σ.1 t).2 = ds at *
  generalize hkk : (σ.1 t).1 = k at *
  have h8 := w.2.1
  have k8 := wt.2.1
  have n2 := w.1
  have zz : (nI n = nI k) ↔ n = k := nI_eq (by omega) (by omega)
  have c6 : ((6 : Int32) < nI n) ↔ 6 < n := nI_ltI (a := 6) (by omega) (by omega)
  by_cases hnk : n = k
  · subst hnk
    by_cases h6 : 6 < n
    · refine g_no hw hx (-3) ?_ (fun μ ν hν hm => ?_)
      · unfold f_X_within
        rw [isNet_in N hs, bnd_some, if_neg (by decide), isNet_in N ht, bnd_some, if_neg (by decide), inb_nI hs (by omega), inb_nI ht (by omega), ckE, tn_nI (show s < 2 ^ 31 by omega), tn_nI (show t < 2 ^ 31 by omega), nx'.1, ltE, ckE, nt.1, if_pos rfl, if_pos (c6.mpr h6)]
      · have m := hm.1 s hs
        have mt := hm.1 t ht
        rw [hcs, hnn] at m
        rw [hds, hkk] at mt
        unfold f_M_within
        rw [ltE, ← hν, mNet_in N hs, bnd_some, if_neg (by decide), mNet_in N ht, bnd_some, if_neg (by decide), inb_nI hs (by omega), inb_nI ht (by omega), ckE, ckE, tn_nI (show s < 2 ^ 31 by omega), tn_nI (show t < 2 ^ 31 by omega), m.1, mt.1, if_pos rfl, ckE, if_pos (c6.mpr h6)]
    · have h6' : n ≤ 6 := (by omega)
      have iS := imN_lt w h6'
      generalize hC : cw n (imN n ds) (n - 1) (imN n cs) = C
      have C720 : C ≤ 720 := by
        rw [← hC]
        exact Nat.le_trans (List.countP_le_length) (cw_720 n (by omega) (by omega))
      have cp : ((0 : Int32) < nI C) ↔ 0 < C := nI_ltI (a := 0) (by omega) (by omega)
      refine g_q hw hx (if 0 < C then 1 else 0) [(nI C).toInt64] (by simp) ?_ (fun μ ν hν hm => ?_)
      · obtain ⟨μ1, e1, f1⟩ := sX_smallImage N hN nx' w h6' (by omega)
        have nt1 := nt.frg f1 (by omega)
        obtain ⟨μ2, e2, f2⟩ := sX_smallImage N hN nt1 wt h6' (by omega)
        have e3 := sX_ways N hN (n := n) (G := imN n ds) (by omega) h6' (n - 1) 12 (imN n cs) 720 (by omega) (by omega) iS (by decide) (by decide) μ2
        rw [hC, Nat.min_eq_left C720, show n - 1 - (n - 1) = 0 by omega] at e3
        have e3' : f_Sets_waysWithin N 12 (lN (imN n cs)) (lN (imN n ds)) (nI n) 0 720 μ2 = some (nI C, μ2) := e3
        obtain ⟨μ4, e4, r4, f4⟩ := sNum_clear N μ2
        obtain ⟨μ5, e5, r5, f5⟩ := sNum_append N (nI C).toInt64 r4 (by decide)
        refine ⟨μ5, ?_, r5, (((f1.wide (by omega) (by omega)).tr (f2.wide (by omega) (by omega))).tr (f4.wide (by omega) (by omega))).tr (f5.wide (by omega) (by omega))⟩
        unfold f_X_within
        rw [isNet_in N hs, bnd_some, if_neg (by decide), isNet_in N ht, bnd_some, if_neg (by decide), inb_nI hs (by omega), inb_nI ht (by omega), ckE, tn_nI (show s < 2 ^ 31 by omega), tn_nI (show t < 2 ^ 31 by omega), nx'.1, ltE, ckE, nt.1, if_pos rfl, if_neg (fun q => h6 (c6.mp q)), ckE, e1, bnd_some, ckE, e2, bnd_some, e3', bnd_some, e4, bnd_some, e5, bnd_some]
        by_cases z : 0 < C
        · rw [if_pos (cp.mpr z), if_pos z]
        · rw [if_neg (fun q => z (cp.mp q)), if_neg z]
      · have m := hm.1 s hs
        have mt := hm.1 t ht
        rw [hcs, hnn] at m
        rw [hds, hkk] at mt
        obtain ⟨ν1, g1, h1⟩ := sM_imageOf N hN m w hs h6'
        have mt1 := mt.fr h1 (fun q k _ _ z => by unfold mB at z; omega)
        obtain ⟨ν2, g2, h2⟩ := sM_imageOf N hN mt1 wt ht h6'
        obtain ⟨ν3, g3, h3⟩ := sM_turns N hN (n := n) (S := imN n cs) (G := imN n ds) true h6' (by omega) iS ν2
        rw [hC] at g3
        have g3' : f_M_turns N (nI n) (lN (imN n cs)) (lN (imN n ds)) 1 ν2 = some (nI C, ν3) := g3
        obtain ⟨ν4, g4, q4, h4⟩ := sM_tellsOne N ν3 (nI C).toInt64
        refine ⟨ν4, ?_, q4, (((mS_mQ (mB_mS h1)).tr (mS_mQ (mB_mS h2))).tr (h3.mono (fun q k z => by unfold rg at z; unfold mQ; omega))).tr (mR_mQ h4)⟩
        unfold f_M_within
        rw [ltE, ← hν, mNet_in N hs, bnd_some, if_neg (by decide), mNet_in N ht, bnd_some, if_neg (by decide), inb_nI hs (by omega), inb_nI ht (by omega), ckE, ckE, tn_nI (show s < 2 ^ 31 by omega), tn_nI (show t < 2 ^ 31 by omega), m.1, mt.1, if_pos rfl, ckE, if_neg (fun q => h6 (c6.mp q)), ckE, g1, bnd_some, g2, bnd_some, g3', bnd_some, g4, bnd_some, ltE, sM_flag, bnd_some]
        by_cases z : 0 < C
        · rw [if_pos (cp.mpr z), if_pos z]
        · rw [if_neg (fun q => z (cp.mp q)), if_neg z]
  · refine g_no hw hx (-2) ?_ (fun μ ν hν hm => ?_)
    · unfold f_X_within
      rw [isNet_in N hs, bnd_some, if_neg (by decide), isNet_in N ht, bnd_some, if_neg (by decide), inb_nI hs (by omega), inb_nI ht (by omega), ckE, tn_nI (show s < 2 ^ 31 by omega), tn_nI (show t < 2 ^ 31 by omega), nx'.1, ltE, ckE, nt.1, if_neg (fun q => hnk (zz.mp q))]
    · have m := hm.1 s hs
      have mt := hm.1 t ht
      rw [hcs, hnn] at m
      rw [hds, hkk] at mt
      unfold f_M_within
      rw [ltE, ← hν, mNet_in N hs, bnd_some, if_neg (by decide), mNet_in N ht, bnd_some, if_neg (by decide), inb_nI hs (by omega), inb_nI ht (by omega), ckE, ckE, tn_nI (show s < 2 ^ 31 by omega), tn_nI (show t < 2 ^ 31 by omega), m.1, mt.1, if_neg (fun q => hnk (zz.mp q))]

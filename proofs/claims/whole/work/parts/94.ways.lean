/-! in how many ways a set is within another one: the class -/
def tq (o : Nat → Nat) (p : Nat) : Nat → Nat
  | 0 => 0
  | w + 1 => tq o p w ||| tb p w * 2 ^ o w
theorem tb_mul (x o b : Nat) (h : x < 2) : tb (x * 2 ^ o) b = if x = 1 ∧ b = o then 1 else 0 := by
  have : x = 0 ∨ x = 1 := (by omega)
  rcases this with rfl | rfl
  · rw [Nat.zero_mul, tbz, if_neg (by omega)]
  · rw [Nat.one_mul, tb_2p]
    by_cases e : b = o
    · rw [if_pos e, if_pos ⟨rfl, e⟩]
    · rw [if_neg e, if_neg (fun z => e z.2)]
theorem tq_t (o : Nat → Nat) (p b : Nat) : ∀ m, tb (tq o p m) b = 1 ↔ ∃ w, w < m ∧ tb p w = 1 ∧ o w = b
  | 0 => by
    rw [tq, tbz]
    constructor
    · intro h; omega
    · rintro ⟨w, h, _⟩; omega
  | m + 1 => by
    have ih := tq_t o p b m
    have t1 := tb_lt (tq o p m) b
    have tp := tb_lt p m
    rw [tq, tb_or, tb_mul _ _ _ tp]
    constructor
    · intro h
      by_cases z : tb p m = 1 ∧ b = o m
      · exact ⟨m, (by omega), z.1, z.2.symm⟩
      · rw [if_neg z] at h
        obtain ⟨w, h1, h2⟩ := ih.mp (by omega)
        exact ⟨w, (by omega), h2⟩
    · rintro ⟨w, h1, h2, h3⟩
      by_cases e : w = m
      · subst e
        rw [if_pos ⟨h2, h3.symm⟩]; omega
      · have := ih.mpr ⟨w, (by omega), h2, h3⟩
        split <;> omega
theorem tb_01 {a b : Nat} (h : ∀ w, tb a w = 1 ↔ tb b w = 1) : a = b := by
  apply tb_ex2
  intro w
  have := h w
  have := tb_lt a w
  have := tb_lt b w
  by_cases x : tb a w = 1
  · have := (h w).mp x; omega
  · have : ¬ tb b w = 1 := fun y => x ((h w).mpr y)
    omega
theorem tq_id {n p : Nat} (hp : p < 2 ^ n) : tq (fun w => w) p n = p := by
  apply tb_01
  intro b
  rw [tq_t]
  constructor
  · rintro ⟨w, _, h2, h3⟩; subst h3; exact h2
  · intro h
    refine ⟨b, ?_, h, rfl⟩
    apply Classical.byContradiction
    intro z
    have : p / 2 ^ b = 0 := Nat.div_eq_of_lt (Nat.lt_of_lt_of_le hp (Nat.pow_le_pow_right (by decide) (by omega)))
    unfold tb at h
    rw [this] at h
    simp at h
theorem tq_cong {o u : Nat → Nat} {p : Nat} : ∀ m, (∀ w, w < m → o w = u w) → tq o p m = tq u p m
  | 0, _ => rfl
  | m + 1, h => by rw [tq, tq, tq_cong m (fun w hw => h w (by omega)), h m (by omega)]
theorem sg_b {n i j w : Nat} (hi : i < n) (hj : j < n) (hw : w < n) : sg i j w < n ∧ sg i j (sg i j w) = w := by
  unfold sg
  by_cases a : w = i
  · rw [if_pos a]
    by_cases b : j = i
    · rw [if_pos b]; omega
    · rw [if_neg b, if_pos rfl]; omega
  · rw [if_neg a]
    by_cases b : w = j
    · rw [if_pos b, if_pos rfl]; omega
    · rw [if_neg b, if_neg a, if_neg b]; omega
theorem exN_ii (s i : Nat) : exN s i i = s := by unfold exN; rw [if_pos rfl]
theorem tq_sp {n i j p : Nat} (o : Nat → Nat) (hn : n ≤ 6) (hi : i < j) (hj : j < n) (hp : p < 64) : tq (fun v => o (sg i j v)) p n = tq o (sp p i j) n := by
  apply tb_01
  intro b
  rw [tq_t, tq_t]
  constructor
  · rintro ⟨w, h1, h2, h3⟩
    have s := sg_b (n := n) (i := i) (j := j) (by omega) hj h1
    refine ⟨sg i j w, s.1, ?_, h3⟩
    rw [sp_tb i (by omega) j (by omega) hi p hp _ (by omega), s.2]; exact h2
  · rintro ⟨u, h1, h2, h3⟩
    have s := sg_b (n := n) (i := i) (j := j) (by omega) hj h1
    refine ⟨sg i j u, s.1, ?_, by rw [s.2]; exact h3⟩
    rw [sp_tb i (by omega) j (by omega) hi p hp _ (by omega)] at h2
    exact h2
def lf (l : List Nat) : Nat → Nat := fun k => l.getD k 0
def tin (n S G : Nat) (l : List Nat) : Bool := decide (cn (fun p => S.testBit p && !G.testBit (tq (lf l) p n)) (2 ^ n) = 0)
theorem tin_t {n S G : Nat} {l : List Nat} : tin n S G l = true ↔ ∀ p, p < 2 ^ n → S.testBit p = true → G.testBit (tq (lf l) p n) = true := by
  unfold tin
  rw [decide_eq_true_iff, cn_z0]
  constructor
  · intro h p hp hs
    have := h p hp
    rw [hs] at this
    simpa using this
  · intro h p hp
    cases e : S.testBit p with
    | false => rfl
    | true => rw [h p hp e]; rfl
def cms (n : Nat) (o : List Nat) (i w : Nat) : List Nat := (List.range n).map (fun v => o.getD (sg i w v) 0)
theorem cms_f {n i w v : Nat} (o : List Nat) (hv : v < n) : lf (cms n o i w) v = lf o (sg i w v) := by
  unfold lf cms
  rw [List.getD_eq_getElem?_getD, List.getElem?_map, List.getElem?_range hv]
  rfl
theorem sg_ii (i v : Nat) : sg i i v = v := by
  unfold sg
  by_cases a : v = i
  · simp [a]
  · simp [a]
theorem tin_ex {n S G i w : Nat} {o : List Nat} (h6 : n ≤ 6) (hi : i ≤ w) (hw : w < n) : tin n S G (cms n o i w) = tin n (exN S i w) G o := by
  have p6 := pp6 h6
  apply Bool.eq_iff_iff.mpr
  rw [tin_t, tin_t]
  by_cases e : i = w
  · subst e
    have q : ∀ p, tq (lf (cms n o i i)) p n = tq (lf o) p n := fun p => tq_cong n (fun v hv => by rw [cms_f o hv, sg_ii])
    unfold exN
    rw [if_pos rfl]
    constructor
    · intro h p hp hs; rw [← q]; exact h p hp hs
    · intro h p hp hs; rw [q]; exact h p hp hs
  · have lt : i < w := (by omega)
    have q : ∀ p, p < 64 → tq (lf (cms n o i w)) p n = tq (lf o) (sp p i w) n := fun p hp => by
      rw [← tq_sp (lf o) h6 lt hw hp]
      exact tq_cong n (fun v hv => cms_f o hv)
    constructor
    · intro h p hp hs
      obtain ⟨b1, b2, b3⟩ := sp_b h6 hw lt (show p < 64 by omega)
      rw [exN_t lt (by omega) (by omega)] at hs
      have := h (sp p i w) (b1.mp hp) hs
      rw [q _ b2, b3] at this
      exact this
    · intro h p hp hs
      obtain ⟨b1, b2, b3⟩ := sp_b h6 hw lt (show p < 64 by omega)
      rw [q _ (by omega)]
      refine h (sp p i w) (b1.mp hp) ?_
      rw [exN_t lt (by omega) b2, b3]; exact hs
def pl (n : Nat) : Nat → List (List Nat)
  | 0 => [List.range n]
  | d + 1 => (List.range (d + 2)).flatMap fun k => (pl n d).map fun o => cms n o (n - 1 - (d + 1)) (n - 1 - (d + 1) + k)
def cw (n G d S : Nat) : Nat := (pl n d).countP (tin n S G)
def cws (f : Nat → Nat) : Nat → Nat
  | 0 => 0
  | m + 1 => cws f m + f m
theorem cP_fm {α β : Type} (P : β → Bool) (g : Nat → α → β) (L : List α) : ∀ m, (((List.range m).flatMap fun k => L.map (g k)).countP P) = cws (fun k => L.countP (fun a => P (g k a))) m
  | 0 => rfl
  | m + 1 => by
    rw [List.range_succ, List.flatMap_append, List.countP_append, cP_fm P g L m, cws]
    congr 1
    simp only [List.flatMap_cons, List.flatMap_nil, List.append_nil]
    rw [List.countP_map]; rfl
theorem cws_cong {f g : Nat → Nat} : ∀ m, (∀ k, k < m → f k = g k) → cws f m = cws g m
  | 0, _ => rfl
  | m + 1, h => by rw [cws, cws, cws_cong m (fun k hk => h k (by omega)), h m (by omega)]
theorem cw_succ {n G d S : Nat} (h6 : n ≤ 6) (hd : d + 1 < n) : cw n G (d + 1) S = cws (fun k => cw n G d (exN S (n - 1 - (d + 1)) (n - 1 - (d + 1) + k))) (d + 2) := by
  unfold cw
  rw [pl, cP_fm]
  refine cws_cong _ (fun k hk => ?_)
  congr 1
  funext o
  exact tin_ex h6 (by omega) (by omega)
theorem cw_0 {n G S : Nat} : cw n G 0 S = if (∀ p, p < 2 ^ n → S.testBit p = true → G.testBit p = true) then 1 else 0 := by
  unfold cw
  rw [pl, List.countP_singleton]
  have e : tin n S G (List.range n) = true ↔ ∀ p, p < 2 ^ n → S.testBit p = true → G.testBit p = true := by
    rw [tin_t]
    have q : ∀ p, p < 2 ^ n → tq (lf (List.range n)) p n = p := fun p hp => by
      refine Eq.trans (tq_cong n (fun w hw => ?_)) (tq_id hp)
      unfold lf
      simp [List.getD_eq_getElem?_getD, hw]
    constructor
    · intro h p hp hs; have := h p hp hs; rw [q p hp] at this; exact this
    · intro h p hp hs; rw [q p hp]; exact h p hp hs
  by_cases z : ∀ p, p < 2 ^ n → S.testBit p = true → G.testBit p = true
  · rw [if_pos z, if_pos (e.mpr z)]
  · rw [if_neg z, if_neg (fun q => z (e.mp q))]
theorem cws_ne {f : Nat → Nat} : ∀ {m}, cws f m ≠ 0 → ∃ k, k < m ∧ f k ≠ 0
  | 0, h => absurd rfl h
  | m + 1, h => by
    rw [cws] at h
    by_cases z : f m = 0
    · obtain ⟨k, h1, h2⟩ := cws_ne (f := f) (m := m) (by omega)
      exact ⟨k, (by omega), h2⟩
    · exact ⟨m, (by omega), z⟩
/-- where there is a way, what does not depend on wires from the first free one on is no more than in the goal -/
theorem cw_fit {n G : Nat} (h6 : n ≤ 6) (A : Nat → Bool) : ∀ d S, d < n → S < 2 ^ 2 ^ n → (∀ i j q, n - 1 - d ≤ i → i < j → j < n → q < 64 → A (sp q i j) = A q) → cw n G d S ≠ 0 → cn (fun q => S.testBit q && A q) 64 ≤ cn (fun q => G.testBit q && A q) 64
  | 0, S, hd, hS, hA, h => by
    rw [cw_0] at h
    split at h
    · rename_i z
      refine cn_mono (fun k hk hq => ?_)
      rw [Bool.and_eq_true] at hq ⊢
      exact ⟨z k (set_t hS hq.1) hq.1, hq.2⟩
    · exact absurd rfl h
  | d + 1, S, hd, hS, hA, h => by
    rw [cw_succ h6 (by omega)] at h
    obtain ⟨k, hk, h2⟩ := cws_ne h
    have ih := cw_fit h6 A d _ (by omega) (exN_lt h6 hS (show n - 1 - (d + 1) ≤ n - 1 - (d + 1) + k by omega) (by omega)) (fun i j q h1 h2 h3 h4 => hA i j q (by omega) h2 h3 h4) h2
    refine Nat.le_trans (Nat.le_of_eq ?_) ih
    by_cases e : k = 0
    · subst e
      have q0 : exN S (n - 1 - (d + 1)) (n - 1 - (d + 1) + 0) = S := exN_ii S (n - 1 - (d + 1))
      rw [q0]
    · have lt : n - 1 - (d + 1) < n - 1 - (d + 1) + k := (by omega)
      rw [← cn_sp lt (show n - 1 - (d + 1) + k < 6 by omega) (fun q => S.testBit q && A q)]
      refine cn_congr 64 (fun q hq => ?_)
      rw [exN_t lt (by omega) hq, hA _ _ q (by omega) lt (by omega) hq]
theorem cw_le {n G d S : Nat} (h6 : n ≤ 6) (hd : d < n) (hS : S < 2 ^ 2 ^ n) (h : cw n G d S ≠ 0) : pcn S ≤ pcn G := by
  have := cw_fit h6 (fun _ => true) d S hd hS (fun _ _ _ _ _ _ _ => rfl) h
  simpa [pcn] using this
theorem sX_mayFit (N : Nat) {n d T G k : Nat} (h6 : n ≤ 6) (hd : d < n) (hk : k < n - 1 - d) (hT : T < 2 ^ 2 ^ n) (μ : Mem) : ∃ b : Bool, f_Sets_mayFit N (lN T) (lN G) (colf k) μ = some (if b then 1 else 0, μ) ∧ (b = false → cw n G d T = 0) := by
  have inv : ∀ i j q, n - 1 - d ≤ i → i < j → j < n → q < 64 → tb (sp q i j) k = tb q k := by
    intro i j q h1 h2 h3 h4
    rw [sp_tb i (by omega) j (by omega) h2 q h4 k (by omega)]
    unfold sg
    rw [if_neg (by omega), if_neg (by omega)]
  have pa : ∀ X, pcn (X &&& colN k) = cn (fun q => X.testBit q && decide (tb q k = 1)) 64 := fun X => cn_congr 64 (fun q hq => by rw [Nat.testBit_and, colN_t k (by omega) q hq])
  have pb : ∀ X, pcn (X &&& (colN k ^^^ M64)) = cn (fun q => X.testBit q && !decide (tb q k = 1)) 64 := fun X => cn_congr 64 (fun q hq => by
    rw [Nat.testBit_and, Nat.testBit_xor, colN_t k (by omega) q hq, M64_t]
    simp [hq])
  have l1 : ∀ a b, (nI (pcn a) < nI (pcn b)) ↔ pcn a < pcn b := fun a b => nI_ltI (by have := pcn_le a; omega) (by have := pcn_le b; omega)
  unfold f_Sets_mayFit
  rw [colf_N k (by omega), lN_not, lN_and, lN_and, lN_and, lN_and, sX_pop, bnd_some, sX_pop, bnd_some]
  by_cases z : pcn (G &&& colN k) < pcn (T &&& colN k)
  · refine ⟨false, by rw [if_pos ((l1 _ _).mpr z)]; rfl, fun _ => ?_⟩
    apply Classical.byContradiction
    intro h
    have := cw_fit h6 (fun q => decide (tb q k = 1)) d T hd hT (fun i j q h1 h2 h3 h4 => by rw [inv i j q h1 h2 h3 h4]) h
    rw [← pa, ← pa] at this
    omega
  · rw [if_neg (fun q => z ((l1 _ _).mp q)), sX_pop, bnd_some, sX_pop, bnd_some]
    by_cases y : pcn (G &&& (colN k ^^^ M64)) < pcn (T &&& (colN k ^^^ M64))
    · refine ⟨false, by rw [if_pos ((l1 _ _).mpr y)]; rfl, fun _ => ?_⟩
      apply Classical.byContradiction
      intro h
      have := cw_fit h6 (fun q => !decide (tb q k = 1)) d T hd hT (fun i j q h1 h2 h3 h4 => by rw [inv i j q h1 h2 h3 h4]) h
      rw [← pb, ← pb] at this
      omega
    · exact ⟨true, by rw [if_neg (fun q => y ((l1 _ _).mp q))]; rfl, fun e => by cases e⟩
theorem sX_ways (N : Nat) (hN : 10000 ≤ N) {n G : Nat} (h1 : 1 ≤ n) (h6 : n ≤ 6) : ∀ (d D S e : Nat), d < n → d < D → S < 2 ^ 2 ^ n → 1 ≤ e → e ≤ 1000 → ∀ μ, f_Sets_waysWithin N D (lN S) (lN G) (nI n) (nI (n - 1 - d)) (nI e) μ = some (nI (min (cw n G d S) e), μ)
  | 0, D + 1, S, e, hd, hD, hS, he, he2, μ => by
    have sb : nI n - 1 = nI (n - 1) := pk_sub (b := 1) h1
    have p6 := pp6 h6
    rw [f_Sets_waysWithin, ltE, sb, Nat.sub_zero, if_neg (nI_nlt (Nat.le_refl _) (by omega)), lN_not, lN_and, cw_0]
    have key : (lg_cmp (lN (S &&& (G ^^^ M64))) 0 = 0) ↔ ∀ p, p < 2 ^ n → S.testBit p = true → G.testBit p = true := by
      rw [lg_eq]
      constructor
      · intro q p hp hs
        have : lb (lN (S &&& (G ^^^ M64))) p = false := by rw [q, lb_zero]
        rw [lb_lN _ _ (by omega), Nat.testBit_and, Nat.testBit_xor, hs, M64_t] at this
        simpa [show p < 64 by omega] using this
      · intro q
        apply lb_ext
        intro t ht
        rw [lb_zero, lb_lN _ _ ht, Nat.testBit_and, Nat.testBit_xor, M64_t]
        cases z : S.testBit t with
        | false => rfl
        | true =>
          have := q t (set_t hS z) z
          simp [this, ht]
    by_cases z : ∀ p, p < 2 ^ n → S.testBit p = true → G.testBit p = true
    · rw [if_pos (key.mpr z), if_pos z, Nat.min_eq_left he]; rfl
    · rw [if_neg (fun q => z (key.mp q)), if_neg z, Nat.min_eq_left (Nat.zero_le _)]; rfl
  | d + 1, D + 1, S, e, hd, hD, hS, he, he2, μ => by
    have sb : nI n - 1 = nI (n - 1) := pk_sub (b := 1) h1
    have ih := sX_ways N hN (n := n) (G := G) h1 h6 d D
    generalize hf : n - 1 - (d + 1) = f
    have ef : n - 1 - d = f + 1 := (by omega)
    rw [ef] at ih
    rw [cw_succ h6 (by omega), hf, f_Sets_waysWithin, ltE, sb, if_pos (nI_lt (by omega) (by omega)), if_pos (show nI f < 5 from nI_lt (b := 5) (by omega) (by omega))]
    generalize hF : (fun k => cw n G d (exN S f (f + k))) = F
    have Fk : ∀ k, F k = cw n G d (exN S f (f + k)) := fun k => by rw [← hF]
    have mono : ∀ b a, a ≤ b → cws F a ≤ cws F b := by
      intro b
      induction b with
      | zero =>
        intro a hab
        have : a = 0 := (by omega)
        subst this; exact Nat.le_refl _
      | succ b ihb =>
        intro a hab
        by_cases q : a = b + 1
        · subst q; exact Nat.le_refl _
        · have := ihb a (by omega)
          rw [cws]; omega
    have key : ∀ (m k n' : Nat), k + m = d + 2 → m < n' → lp_Sets_waysWithin_40 N (lN S) (lN G) (nI n) (nI f) (nI e) (f_Sets_waysWithin N D) (fun v20 μ21 => some (v20, μ21)) n' (nI (min (cws F k) e)) (nI (f + k)) μ = some (nI (min (cws F (d + 2)) e), μ) := by
      intro m
      induction m with
      | zero =>
        intro k n' hk hn
        obtain ⟨n', rfl⟩ : ∃ k, n' = k + 1 := ⟨n' - 1, (by omega)⟩
        have : k = d + 2 := (by omega)
        subst this
        rw [lp_Sets_waysWithin_40, if_neg (nI_nlt (by omega) (by omega))]
      | succ m ihm =>
        intro k n' hk hn
        obtain ⟨n', rfl⟩ : ∃ k, n' = k + 1 := ⟨n' - 1, (by omega)⟩
        have mo := mono (d + 2) k (by omega)
        have st : cws F (k + 1) = cws F k + F k := rfl
        have e3 := ihm (k + 1) n' (by omega) (by omega)
        rw [← Nat.add_assoc] at e3
        by_cases full : cws F k < e
        · have mk : min (cws F k) e = cws F k := Nat.min_eq_left (by omega)
          have exl := exN_lt h6 hS (show f ≤ f + k by omega) (show f + k < n by omega)
          obtain ⟨b, m1, m2⟩ := sX_mayFit N (G := G) h6 (show d < n by omega) (show f < n - 1 - d by omega) exl μ
          rw [mk, lp_Sets_waysWithin_40, if_pos (nI_lt (by omega) (by omega)), if_pos (nI_lt full (by omega)), sX_exchanged N (by omega) (by omega), bnd_some, inb_nI (show f < 6 by omega) (by omega), ckE, tn_nI (by omega), m1, bnd_some, ltE]
          cases b with
          | false =>
            have z := m2 rfl
            rw [← Fk] at z
            rw [st, z, Nat.add_zero, mk] at e3
            rw [if_pos (by decide)]
            dsimp only
            rw [ltE, nI_1]
            exact e3
          | true =>
            have r := ih (exN S f (f + k)) (e - cws F k) (by omega) (by omega) exl (by omega) (by omega) μ
            rw [← Fk] at r
            have mm : cws F k + min (F k) (e - cws F k) = min (cws F (k + 1)) e := by rw [st]; omega
            rw [if_neg (by decide), nI_1 f, pk_sub (by omega), r, bnd_some, nI_add, mm, ltE]
            dsimp only
            rw [ltE, nI_1]
            exact e3
        · have mk : min (cws F k) e = e := Nat.min_eq_right (by omega)
          have mk2 : min (cws F (d + 2)) e = e := Nat.min_eq_right (by omega)
          rw [mk, mk2, lp_Sets_waysWithin_40, if_pos (nI_lt (by omega) (by omega)), if_neg (nI_nlt (Nat.le_refl _) (by omega))]
    have := key (d + 2) 0 N (by omega) (by omega)
    rw [show min (cws F 0) e = 0 by rw [cws]; omega, Nat.add_zero] at this
    exact this

/-! pairs that are untangled -/
theorem ckE {α : Type} (o : Option α) : ck true o = o := Eq.trans rfl rfl
def unA (t : Nat → Nat) (a b : Nat) : Nat → Nat := fun w => if t b < t a then (if w = a then t b else if w = b then t a else t w) else t w
def unC (t : Nat → Nat) (a b : Nat) : Nat × Nat := (min (t a) (t b), max (t a) (t b))
def ua (ps : List (Nat × Nat)) : Nat → (Nat → Nat)
  | 0 => fun w => w
  | k + 1 => unA (ua ps k) (cl ps k) (ch ps k)
def us (ps : List (Nat × Nat)) : Nat → List (Nat × Nat)
  | 0 => []
  | k + 1 => us ps k ++ [unC (ua ps k) (cl ps k) (ch ps k)]
theorem us_len (ps : List (Nat × Nat)) : ∀ k, (us ps k).length = k
  | 0 => rfl
  | k + 1 => by rw [us, List.length_append, List.length_singleton, us_len ps k]
theorem ua_app (ps : List (Nat × Nat)) (c : Nat × Nat) : ∀ k, k ≤ ps.length → ua (ps ++ [c]) k = ua ps k
  | 0, _ => rfl
  | k + 1, hk => by rw [ua, ua, ua_app ps c k (by omega), cl_app, ch_app, if_pos (show k < ps.length from hk), if_pos (show k < ps.length from hk)]
theorem us_app (ps : List (Nat × Nat)) (c : Nat × Nat) : ∀ k, k ≤ ps.length → us (ps ++ [c]) k = us ps k
  | 0, _ => rfl
  | k + 1, hk => by rw [us, us, us_app ps c k (by omega), ua_app ps c k (by omega), cl_app, ch_app, if_pos (show k < ps.length from hk), if_pos (show k < ps.length from hk)]
theorem ua_sn (ps : List (Nat × Nat)) (a b : Nat) : ua (ps ++ [(a, b)]) (ps.length + 1) = unA (ua ps ps.length) a b := by
  rw [ua, ua_app ps _ _ (Nat.le_refl _), cl_app, ch_app, if_neg (Nat.lt_irrefl _), if_neg (Nat.lt_irrefl _), if_pos rfl, if_pos rfl]
theorem us_sn (ps : List (Nat × Nat)) (a b : Nat) : us (ps ++ [(a, b)]) (ps.length + 1) = us ps ps.length ++ [unC (ua ps ps.length) a b] := by
  rw [us, us_app ps _ _ (Nat.le_refl _), ua_app ps _ _ (Nat.le_refl _), cl_app, ch_app, if_neg (Nat.lt_irrefl _), if_neg (Nat.lt_irrefl _), if_pos rfl, if_pos rfl]
def Inj (n : Nat) (t : Nat → Nat) : Prop := (∀ w, w < n → t w < n) ∧ ∀ v w, v < n → w < n → t v = t w → v = w
theorem Inj.un {n a b : Nat} {t : Nat → Nat} (h : Inj n t) (ha : a < n) (hb : b < n) : Inj n (unA t a b) := by
  unfold unA
  by_cases z : t b < t a
  · have e : (fun w => if t b < t a then (if w = a then t b else if w = b then t a else t w) else t w) = fun w => if w = a then t b else if w = b then t a else t w := funext fun w => if_pos z
    rw [e]
    have h1 := h.1
    refine ⟨fun w hw => ?_, fun v w hv hw q => ?_⟩
    · dsimp only
      split
      · exact h1 b hb
      · split
        · exact h1 a ha
        · exact h1 w hw
    · dsimp only at q
      by_cases v1 : v = a
      · rw [if_pos v1] at q
        by_cases w1 : w = a
        · omega
        · rw [if_neg w1] at q
          by_cases w2 : w = b
          · rw [if_pos w2] at q; omega
          · rw [if_neg w2] at q
            have := h.2 b w hb hw q
            omega
      · rw [if_neg v1] at q
        by_cases v2 : v = b
        · rw [if_pos v2] at q
          by_cases w1 : w = a
          · rw [if_pos w1] at q; omega
          · rw [if_neg w1] at q
            by_cases w2 : w = b
            · omega
            · rw [if_neg w2] at q
              have := h.2 a w ha hw q
              omega
        · rw [if_neg v2] at q
          by_cases w1 : w = a
          · rw [if_pos w1] at q
            have := h.2 v b hv hb q
            omega
          · rw [if_neg w1] at q
            by_cases w2 : w = b
            · rw [if_pos w2] at q
              have := h.2 v a hv ha q
              omega
            · rw [if_neg w2] at q
              exact h.2 v w hv hw q
  · have e : (fun w => if t b < t a then (if w = a then t b else if w = b then t a else t w) else t w) = t := funext fun w => if_neg z
    rw [e]; exact h
/-- pairs of two unlike wires of n -/
def PO (n : Nat) (ps : List (Nat × Nat)) : Prop := ∀ k, k < ps.length → cl ps k < n ∧ ch ps k < n ∧ cl ps k ≠ ch ps k
theorem PO.sn {n a b : Nat} {ps : List (Nat × Nat)} (h : PO n ps) (ha : a < n) (hb : b < n) (hab : a ≠ b) : PO n (ps ++ [(a, b)]) := by
  intro k hk
  rw [List.length_append, List.length_singleton] at hk
  rw [cl_app, ch_app]
  by_cases z : k < ps.length
  · rw [if_pos z, if_pos z]; exact h k z
  · rw [if_neg z, if_neg z, if_pos (by omega), if_pos (by omega)]; exact ⟨ha, hb, hab⟩
theorem ua_inj {n : Nat} {ps : List (Nat × Nat)} (h : PO n ps) : ∀ k, k ≤ ps.length → Inj n (ua ps k)
  | 0, _ => ⟨fun w hw => hw, fun v w _ _ q => q⟩
  | k + 1, hk => by
    have c := h k hk
    rw [ua]
    exact (ua_inj h k (by omega)).un c.1 c.2.1
theorem us_ok {n : Nat} {ps : List (Nat × Nat)} (h : PO n ps) : ∀ k, k ≤ ps.length → ∀ x ∈ us ps k, x.1 < x.2 ∧ x.2 < n
  | 0, _, x, hx => by simp [us] at hx
  | k + 1, hk, x, hx => by
    rw [us] at hx
    rcases List.mem_append.mp hx with q | q
    · exact us_ok h k (by omega) x q
    · have c := h k hk
      have I := ua_inj h k (by omega)
      have := I.1 _ c.1
      have := I.1 _ c.2.1
      have ne : ua ps k (cl ps k) ≠ ua ps k (ch ps k) := fun e => c.2.2 (I.2 _ _ c.1 c.2.1 e)
      rw [List.mem_singleton] at q
      subst q
      unfold unC
      dsimp only
      omega
theorem us_WN {n : Nat} {ps : List (Nat × Nat)} (h : PO n ps) (h2 : 2 ≤ n) (h8 : n ≤ 8) (hl : ps.length ≤ 60) : WN n (us ps ps.length) := WN.of h2 h8 (by rw [us_len]; exact hl) (us_ok h _ (Nat.le_refl _))
-- the class
theorem sT_start (N : Nat) (hN : 10000 ≤ N) {n : Nat} (h8 : n ≤ 8) (μ : Mem) : ∃ μ', f_Tangle_start N (nI n) μ = some ((), μ') ∧ VF μ' 22 n (fun w => w) ∧ Fr (rg 22 22) μ μ' := by
  obtain ⟨μ', ⟨k1, k2⟩, e⟩ := for_up (fun n' i ν => lp_Tangle_start_2 N (nI n) (fun μ6 => some ((), μ6)) n' i ν) (fun ν => some ((), ν)) n (fun i κ => VF κ 22 i (fun w => w) ∧ Fr (rg 22 22) μ κ)
    (by
      intro n' i κ hi ⟨i1, i2⟩
      refine ⟨sI κ 22 i (nI i), ⟨fun k hk => ?_, i2.sI (rgi (by omega) (by omega))⟩, ?_⟩
      · rw [gI_sI]
        by_cases e : k = i
        · rw [if_pos ⟨rfl, e⟩, e]
        · rw [if_neg (fun z => e z.2)]; exact i1 k (by omega)
      · rw [lp_Tangle_start_2, if_pos (nI_lt hi (by omega)), if_pos (show nI i < 8 from nI_lt (b := 8) (by omega) (by omega)), inb_nI (by omega) (by omega), ck_tt, tn_nI (by omega), ltE, ltE, nI_1])
    (by
      intro n' κ _
      rw [lp_Tangle_start_2, if_neg (nI_nlt (Nat.le_refl _) (by omega))])
    n 0 N μ (by omega) (by omega) ⟨fun k hk => by omega, Fr.rf μ⟩
  exact ⟨μ', e, k1, k2⟩
theorem sT_un (N : Nat) {n a b : Nat} {t : Nat → Nat} {cs : List (Nat × Nat)} {μ : Mem} (h : VF μ 22 n t) (nx : NX μ 18 n cs) (h8 : n ≤ 8) (ha : a < n) (hb : b < n) (hab : a ≠ b) (hl : cs.length < 60) (ht : ∀ w, w < n → t w < n) : ∃ μ', f_Tangle_untangle N (nI a) (nI b) 18 μ = some ((), μ') ∧ VF μ' 22 n (unA t a b) ∧ NX μ' 18 n (cs ++ [unC t a b]) ∧ Fr (rg 18 22) μ μ' := by
  have t1 := ht a ha
  have t2 := ht b hb
  have l : (nI (t a) < nI (t b)) ↔ t a < t b := nI_ltI (by omega) (by omega)
  unfold f_Tangle_untangle
  rw [inb_nI (show a < 8 by omega) (by omega), inb_nI (show b < 8 by omega) (by omega), tn_nI (show a < 2 ^ 31 by omega), tn_nI (show b < 2 ^ 31 by omega), h a ha, h b hb]
  simp only [ckE]
  rw [ltE, ltE]
  by_cases z : t a < t b
  · obtain ⟨μ', e, n', f⟩ := sNet_append N (i := t a) (j := t b) nx hl
    refine ⟨μ', by rw [if_pos (l.mpr z), e, bnd_some], fun k hk => ?_, ?_, f.wide (by omega) (by omega)⟩
    · rw [f.I (rgo (by omega)), h k hk]
      unfold unA
      rw [if_neg (by omega)]
    · have : unC t a b = (t a, t b) := by unfold unC; rw [Nat.min_eq_left (by omega), Nat.max_eq_right (by omega)]
      rw [this]; exact n'
  · obtain ⟨μ', e, n', f⟩ := sNet_append N (i := t b) (j := t a) nx hl
    refine ⟨sI (sI μ' 22 a (nI (t b))) 22 b (nI (t a)), ?_, fun k hk => ?_, ?_, ((f.wide (by omega) (by omega)).sI (rgi (by omega) (by omega))).sI (rgi (by omega) (by omega))⟩
    · rw [if_neg (fun y => z (l.mp y)), e, bnd_some, ltE, ltE]
    · rw [gI_sI, gI_sI]
      unfold unA
      have ek : gI μ' 22 k = nI (t k) := by rw [f.I (rgo (by omega))]; exact h k hk
      by_cases y : t b < t a
      · rw [if_pos y]
        by_cases e1 : k = b
        · rw [if_pos ⟨rfl, e1⟩, if_neg (by omega), if_pos e1]
        · rw [if_neg (fun q => e1 q.2)]
          by_cases e2 : k = a
          · rw [if_pos ⟨rfl, e2⟩, if_pos e2]
          · rw [if_neg (fun q => e2 q.2), if_neg e2, if_neg e1, ek]
      · rw [if_neg y]
        have eq : t a = t b := (by omega)
        by_cases e1 : k = b
        · rw [if_pos ⟨rfl, e1⟩, e1, eq]
        · rw [if_neg (fun q => e1 q.2)]
          by_cases e2 : k = a
          · rw [if_pos ⟨rfl, e2⟩, e2, eq]
          · rw [if_neg (fun q => e2 q.2), ek]
    · have : unC t a b = (t b, t a) := by unfold unC; rw [Nat.min_eq_right (by omega), Nat.max_eq_left (by omega)]
      rw [this]
      exact n'.frg (a := 22) (b := 22) (((Fr.rf μ').sI (rgi (by omega) (by omega))).sI (rgi (by omega) (by omega))) (by omega)
-- the model
def PMs (κ : Mem) (ps : List (Nat × Nat)) : Prop := gI κ 44 14 = nI ps.length ∧ ∀ k, k < ps.length → gI κ 51 k = nI (cl ps k) ∧ gI κ 52 k = nI (ch ps k)
theorem PMs.fr {A : Nat → Nat → Prop} {μ μ' : Mem} {ps : List (Nat × Nat)} (h : PMs μ ps) (f : Fr A μ μ') (h0 : ¬ A 44 14) (h1 : ∀ k, ¬ A 51 k) (h2 : ∀ k, ¬ A 52 k) : PMs μ' ps := ⟨by rw [f.I h0]; exact h.1, fun k hk => ⟨by rw [f.I (h1 k)]; exact (h.2 k hk).1, by rw [f.I (h2 k)]; exact (h.2 k hk).2⟩⟩
abbrev mUn (s : Nat) : Nat → Nat → Prop := fun q k => mN s q k ∨ q = 53
theorem sM_untangles (N : Nat) (hN : 10000 ≤ N) {s n : Nat} {ps : List (Nat × Nat)} {μ : Mem} (hs : s < 4) (h2 : 2 ≤ n) (h8 : n ≤ 8) (hp : PMs μ ps) (ho : PO n ps) (hl : ps.length ≤ 60) : ∃ μ', f_M_untangles N (nI s) (nI n) μ = some ((), μ') ∧ NM μ' s n (us ps ps.length) ∧ VF μ' 53 n (ua ps ps.length) ∧ Fr (mUn s) μ μ' := by
  obtain ⟨μ1, e1, m1, f1⟩ := sM_begins N (n := n) hs μ
  have f1' : Fr (mUn s) μ μ1 := f1.mono (fun q k z => Or.inl z)
  obtain ⟨μ2, ⟨j1, j2, j3⟩, e2⟩ := for_up (fun n' i ν => lp_M_untangles_8 N (nI s) (nI n) (fun μ7 => lp_M_untangles_28 N (nI s) (fun μ27 => some ((), μ27)) N 0 μ7) n' i ν) (fun μ7 => lp_M_untangles_28 N (nI s) (fun μ27 => some ((), μ27)) N 0 μ7) n (fun i κ => VF κ 53 i (fun w => w) ∧ NM κ s n [] ∧ Fr (mUn s) μ κ)
    (by
      intro n' i κ hi ⟨i1, i2, i3⟩
      refine ⟨sI κ 53 i (nI i), ⟨fun k hk => ?_, i2.fr (A := rg 53 53) ((Fr.rf κ).sI (rgi (by omega) (by omega))) (fun q k _ _ z => by unfold rg at z; omega), i3.sI (Or.inr rfl)⟩, ?_⟩
      · rw [gI_sI]
        by_cases e : k = i
        · rw [if_pos ⟨rfl, e⟩, e]
        · rw [if_neg (fun z => e z.2)]; exact i1 k (by omega)
      · rw [lp_M_untangles_8, if_pos (nI_lt hi (by omega)), inb_nI (by omega) (by omega), ck_tt, tn_nI (by omega), ltE, ltE, nI_1])
    (by
      intro n' κ _
      rw [lp_M_untangles_8, if_neg (nI_nlt (Nat.le_refl _) (by omega))])
    n 0 N μ1 (by omega) (by omega) ⟨fun k hk => by omega, m1, f1'⟩
  obtain ⟨μ3, ⟨k1, k2, k3⟩, e3⟩ := for_up (fun n' i ν => lp_M_untangles_28 N (nI s) (fun μ27 => some ((), μ27)) n' i ν) (fun μ27 => some ((), μ27)) ps.length (fun i κ => VF κ 53 n (ua ps i) ∧ NM κ s n (us ps i) ∧ Fr (mUn s) μ κ)
    (by
      intro n' i κ hi ⟨i1, i2, i3⟩
      have pk : PMs κ ps := hp.fr i3 (fun z => by unfold mUn mN at z; omega) (fun k z => by unfold mUn mN at z; omega) (fun k z => by unfold mUn mN at z; omega)
      have c := ho i hi
      have I := ua_inj ho i (by omega)
      have t1 := I.1 _ c.1
      have t2 := I.1 _ c.2.1
      obtain ⟨q1, q2⟩ := pk.2 i hi
      have v1 := i1 _ c.1
      have v2 := i1 _ c.2.1
      have l : (nI (ua ps i (ch ps i)) < nI (ua ps i (cl ps i))) ↔ ua ps i (ch ps i) < ua ps i (cl ps i) := nI_ltI (by omega) (by omega)
      obtain ⟨κ1, e', m', f'⟩ := sM_comes N (i := min (ua ps i (cl ps i)) (ua ps i (ch ps i))) (j := max (ua ps i (cl ps i)) (ua ps i (ch ps i))) i2 hs (by rw [us_len]; omega)
      have g1 : gI κ1 51 i = nI (cl ps i) := by rw [f'.I (fun z => by unfold mN at z; omega)]; exact q1
      have g2 : gI κ1 52 i = nI (ch ps i) := by rw [f'.I (fun z => by unfold mN at z; omega)]; exact q2
      have i3' : Fr (mUn s) μ κ1 := i3.tr (f'.mono (fun q k z => Or.inl z))
      have i1' : VF κ1 53 n (ua ps i) := i1.fr f' (fun k z => by unfold mN at z; omega)
      by_cases z : ua ps i (ch ps i) < ua ps i (cl ps i)
      · refine ⟨sI (sI κ1 53 (cl ps i) (nI (ua ps i (ch ps i)))) 53 (ch ps i) (nI (ua ps i (cl ps i))), ⟨fun k hk => ?_, ?_, (i3'.sI (Or.inr rfl)).sI (Or.inr rfl)⟩, ?_⟩
        · rw [gI_sI, gI_sI, ua]
          unfold unA
          rw [if_pos z]
          by_cases e1 : k = ch ps i
          · rw [if_pos ⟨rfl, e1⟩, if_neg (by omega), if_pos e1]
          · rw [if_neg (fun q => e1 q.2)]
            by_cases e2 : k = cl ps i
            · rw [if_pos ⟨rfl, e2⟩, if_pos e2]
            · rw [if_neg (fun q => e2 q.2), if_neg e2, if_neg e1, i1' k hk]
        · exact m'.fr (A := rg 53 53) (((Fr.rf κ1).sI (rgi (by omega) (by omega))).sI (rgi (by omega) (by omega))) (fun q k _ _ z => by unfold rg at z; omega)
        · have g3 : gI (sI κ1 53 (cl ps i) (nI (ua ps i (ch ps i)))) 52 i = nI (ch ps i) := by rw [gI_sI, if_neg (by omega)]; exact g2
          rw [lp_M_untangles_28, pk.1, if_pos (nI_lt hi (by omega)), inb_nI (show i < 60 by omega) (by omega), ck_tt, tn_nI (show i < 2 ^ 31 by omega), q1, inb_nI (show cl ps i < 8 by omega) (by omega), ck_tt, tn_nI (show cl ps i < 2 ^ 31 by omega), v1, ltE, ck_tt, q2, inb_nI (show ch ps i < 8 by omega) (by omega), ck_tt, tn_nI (show ch ps i < 2 ^ 31 by omega), v2, ltE, mnI_nI (by omega) (by omega), mxI_nI (by omega) (by omega), e', bnd_some, ltE, if_pos (l.mpr z), ck_tt, g1, inb_nI (show cl ps i < 8 by omega) (by omega), ck_tt, tn_nI (show cl ps i < 2 ^ 31 by omega), ltE, ck_tt, g3, inb_nI (show ch ps i < 8 by omega) (by omega), ck_tt, tn_nI (show ch ps i < 2 ^ 31 by omega), ltE]
          dsimp only
          rw [ltE, nI_1]
      · refine ⟨κ1, ⟨?_, m', i3'⟩, ?_⟩
        · have : ua ps (i + 1) = ua ps i := by
            rw [ua]; unfold unA; exact funext fun w => if_neg z
          rw [this]; exact i1'
        · rw [lp_M_untangles_28, pk.1, if_pos (nI_lt hi (by omega)), inb_nI (show i < 60 by omega) (by omega), ck_tt, tn_nI (show i < 2 ^ 31 by omega), q1, inb_nI (show cl ps i < 8 by omega) (by omega), ck_tt, tn_nI (show cl ps i < 2 ^ 31 by omega), v1, ltE, ck_tt, q2, inb_nI (show ch ps i < 8 by omega) (by omega), ck_tt, tn_nI (show ch ps i < 2 ^ 31 by omega), v2, ltE, mnI_nI (by omega) (by omega), mxI_nI (by omega) (by omega), e', bnd_some, ltE, if_neg (fun y => z (l.mp y))]
          dsimp only
          rw [ltE, nI_1])
    (by
      intro n' κ ⟨i1, i2, i3⟩
      have pk : PMs κ ps := hp.fr i3 (fun z => by unfold mUn mN at z; omega) (fun k z => by unfold mUn mN at z; omega) (fun k z => by unfold mUn mN at z; omega)
      rw [lp_M_untangles_28, pk.1, if_neg (nI_nlt (Nat.le_refl _) (by omega))])
    ps.length 0 N μ2 (by omega) (by omega) ⟨j1, j2, j3⟩
  refine ⟨μ3, ?_, k2, k1, k3⟩
  unfold f_M_untangles
  rw [e1, bnd_some]
  exact Eq.trans e2 e3

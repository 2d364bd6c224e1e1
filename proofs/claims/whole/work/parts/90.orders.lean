/-! orders that do not leave sorted -/
theorem tb_ex2 {a b : Nat} (h : ∀ w, tb a w = tb b w) : a = b := by
  apply Nat.eq_of_testBit_eq
  intro i
  rw [tb_bit, tb_bit, h i]
def thr (V : Nat → Nat) (r : Nat) : Nat → Nat
  | 0 => 0
  | w + 1 => thr V r w ||| (if r ≤ V w then 2 ^ w else 0)
theorem tb_or (a b w : Nat) : tb (a ||| b) w = max (tb a w) (tb b w) := by
  have h1 := tb_bit (a ||| b) w
  have h2 := tb_bit a w
  have h3 := tb_bit b w
  have t1 := tb_lt (a ||| b) w
  have t2 := tb_lt a w
  have t3 := tb_lt b w
  rw [Nat.testBit_or, h2, h3] at h1
  by_cases x : tb a w = 1 <;> by_cases y : tb b w = 1 <;> simp [x, y] at h1 <;> omega
theorem tb_2p (i w : Nat) : tb (2 ^ i) w = if w = i then 1 else 0 := by
  have h1 := tb_bit (2 ^ i) w
  have t1 := tb_lt (2 ^ i) w
  rw [Nat.testBit_two_pow] at h1
  by_cases e : i = w
  · rw [if_pos e.symm]
    simp [e] at h1 ⊢
    omega
  · rw [if_neg (fun z => e z.symm)]
    simp [e] at h1
    omega
theorem tbz (w : Nat) : tb 0 w = 0 := by unfold tb; simp
theorem tb_thr (V : Nat → Nat) (r w : Nat) : ∀ n, tb (thr V r n) w = if w < n ∧ r ≤ V w then 1 else 0
  | 0 => by rw [thr, tbz, if_neg (by omega)]
  | n + 1 => by
    rw [thr, tb_or, tb_thr V r w n]
    by_cases e : w = n
    · subst e
      rw [if_neg (by omega)]
      by_cases z : r ≤ V w
      · rw [if_pos z, tb_2p, if_pos rfl, if_pos ⟨by omega, z⟩]; rfl
      · rw [if_neg z, tbz, if_neg (fun q => z q.2)]; rfl
    · have e2 : tb (if r ≤ V n then 2 ^ n else 0) w = 0 := by
        split
        · rw [tb_2p, if_neg e]
        · rw [tbz]
      rw [e2]
      by_cases z : w < n ∧ r ≤ V w
      · rw [if_pos z, if_pos ⟨by omega, z.2⟩]; rfl
      · rw [if_neg z, if_neg (fun q => z ⟨by omega, q.2⟩)]; rfl
theorem thr_lt (V : Nat → Nat) (r : Nat) : ∀ n, thr V r n < 2 ^ n
  | 0 => by simp [thr]
  | n + 1 => by
    have ih := thr_lt V r n
    have e : 2 ^ n < 2 ^ (n + 1) := Nat.pow_lt_pow_right (by decide) (by omega)
    rw [thr]
    refine Nat.or_lt_two_pow (by omega) ?_
    split
    · exact e
    · exact Nat.two_pow_pos _
theorem thr_ov (V : Nat → Nat) (r n : Nat) {i j : Nat} (hi : i < n) (hj : j < n) (hij : i ≠ j) : thr (ov V i j) r n = cmp (thr V r n) i j := by
  apply tb_ex2
  intro w
  rw [tb_thr, tb_cmp hij, tb_thr, tb_thr, tb_thr]
  unfold ov
  by_cases e1 : w = i
  · subst e1
    rw [if_pos rfl, if_pos rfl]
    by_cases a : r ≤ V w <;> by_cases b : r ≤ V j
    · rw [if_pos ⟨hi, by omega⟩, if_pos ⟨hi, a⟩, if_pos ⟨hj, b⟩]; rfl
    · rw [if_neg (by omega), if_pos ⟨hi, a⟩, if_neg (by omega)]; rfl
    · rw [if_neg (by omega), if_neg (by omega), if_pos ⟨hj, b⟩]; rfl
    · rw [if_neg (by omega), if_neg (by omega), if_neg (by omega)]; rfl
  · rw [if_neg e1, if_neg e1]
    by_cases e2 : w = j
    · subst e2
      rw [if_pos rfl, if_pos rfl]
      by_cases a : r ≤ V i <;> by_cases b : r ≤ V w
      · rw [if_pos ⟨hj, by omega⟩, if_pos ⟨hi, a⟩, if_pos ⟨hj, b⟩]; rfl
      · rw [if_pos ⟨hj, by omega⟩, if_pos ⟨hi, a⟩, if_neg (by omega)]; rfl
      · rw [if_pos ⟨hj, by omega⟩, if_neg (by omega), if_pos ⟨hj, b⟩]; rfl
      · rw [if_neg (by omega), if_neg (by omega), if_neg (by omega)]; rfl
    · rw [if_neg e2, if_neg e2]
theorem thr_rt {n : Nat} {cs : List (Nat × Nat)} (w : WN n cs) (V : Nat → Nat) (r : Nat) : rt cs (thr V r n) = thr (ovs cs V cs.length) r n := by
  have : ∀ k, k ≤ cs.length → rs cs b0 0 (thr V r n) k = thr (ovs cs V k) r n := by
    intro k
    induction k with
    | zero => intro _; rfl
    | succ k ih =>
      intro hk
      have c := w.2.2.2 k hk
      rw [rs_succ0 rfl, ih (by omega), ovs, thr_ov _ _ _ (by omega) (by omega) (by omega)]
  exact this _ (Nat.le_refl _)
theorem soK_t (q : Nat) : ∀ m, soK q m = true ↔ ∀ k, k < m → tb q k ≤ tb q (k + 1)
  | 0 => by simp [soK]
  | m + 1 => by
    rw [soK, Bool.and_eq_true, soK_t q m, decide_eq_true_iff]
    constructor
    · intro h k hk
      by_cases e : k = m
      · subst e; exact h.2
      · exact h.1 k (by omega)
    · intro h
      exact ⟨fun k hk => h k (by omega), h m (by omega)⟩
theorem Inj.ovr {n i j : Nat} {V : Nat → Nat} (h : Inj n V) (hi : i < n) (hj : j < n) (hij : i ≠ j) : Inj n (ov V i j) := by
  have e : ov V i j = unA V i j := by
    funext w
    unfold ov unA
    by_cases z : V j < V i
    · rw [if_pos z]
      by_cases e1 : w = i
      · rw [if_pos e1, if_pos e1]; omega
      · rw [if_neg e1, if_neg e1]
        by_cases e2 : w = j
        · rw [if_pos e2, if_pos e2]; omega
        · rw [if_neg e2, if_neg e2]
    · rw [if_neg z]
      by_cases e1 : w = i
      · rw [if_pos e1, e1]; omega
      · rw [if_neg e1]
        by_cases e2 : w = j
        · rw [if_pos e2, e2]; omega
        · rw [if_neg e2]
  rw [e]
  exact h.un hi hj
theorem ovs_inj {n : Nat} {cs : List (Nat × Nat)} (w : WN n cs) {V : Nat → Nat} (h : Inj n V) : ∀ k, k ≤ cs.length → Inj n (ovs cs V k)
  | 0, _ => h
  | k + 1, hk => by
    have c := w.2.2.2 k hk
    rw [ovs]
    exact (ovs_inj w h k (by omega)).ovr (by omega) (by omega) (by omega)
theorem sorted_id {n : Nat} {V : Nat → Nat} (h : Inj n V) : (∀ w, w < n → V w = w) ↔ ∀ r, 1 ≤ r → r < n → so n (thr V r n) = true := by
  constructor
  · intro e r h1 hr
    unfold so
    rw [soK_t]
    intro k hk
    rw [tb_thr, tb_thr, e k (by omega), e (k + 1) (by omega)]
    by_cases z : r ≤ k
    · rw [if_pos ⟨by omega, z⟩, if_pos ⟨by omega, by omega⟩]; exact Nat.le_refl _
    · rw [if_neg (fun q => z q.2)]; exact Nat.zero_le _
  · intro e
    have st : ∀ u, u + 1 < n → V u < V (u + 1) := by
      intro u hu
      apply Classical.byContradiction
      intro q
      have ne : V u ≠ V (u + 1) := fun z => by have := h.2 u (u + 1) (by omega) hu z; omega
      have hu' := h.1 u (by omega)
      have s := e (V u) (by omega) hu'
      unfold so at s
      rw [soK_t] at s
      have := s u (by omega)
      rw [tb_thr, tb_thr, if_pos ⟨by omega, Nat.le_refl _⟩, if_neg (by omega)] at this
      omega
    have lo : ∀ w, w < n → w ≤ V w := by
      intro w
      induction w with
      | zero => intro _; exact Nat.zero_le _
      | succ w ih => intro hw; have := ih (by omega); have := st w hw; omega
    have hi : ∀ d w, w + d + 1 = n → V w ≤ w := by
      intro d
      induction d with
      | zero => intro w hw; have := h.1 w (by omega); omega
      | succ d ih => intro w hw; have := ih (w + 1) (by omega); have := st w (by omega); omega
    intro w hw
    have := lo w hw
    have := hi (n - 1 - w) w (by omega)
    omega
/-- the order l does not leave sorted: by a threshold from 1 on, up to r -/
def Uno (n : Nat) (cs : List (Nat × Nat)) (l : List Nat) : Nat → Bool
  | 0 => false
  | r + 1 => wr n cs b0 0 (thr (fun k => l.getD k 0) (r + 1) n) || Uno n cs l r
theorem Uno_t (n : Nat) (cs : List (Nat × Nat)) (l : List Nat) : ∀ m, Uno n cs l m = true ↔ ∃ r, 1 ≤ r ∧ r ≤ m ∧ wr n cs b0 0 (thr (fun k => l.getD k 0) r n) = true
  | 0 => by
    simp [Uno]
    intro x h1 h2; omega
  | m + 1 => by
    rw [Uno, Bool.or_eq_true, Uno_t n cs l m]
    constructor
    · rintro (h | ⟨r, h1, h2, h3⟩)
      · exact ⟨m + 1, (by omega), (by omega), h⟩
      · exact ⟨r, h1, (by omega), h3⟩
    · rintro ⟨r, h1, h2, h3⟩
      by_cases e : r = m + 1
      · subst e; exact Or.inl h3
      · exact Or.inr ⟨r, h1, (by omega), h3⟩
theorem Uno_id {n : Nat} {cs : List (Nat × Nat)} {l : List Nat} (w : WN n cs) (h : OL n l) : Uno n cs l (n - 1) = false ↔ ∀ k, k < n → ovs cs (fun k => l.getD k 0) cs.length k = k := by
  have n2 := w.1
  rw [sorted_id (ovs_inj w h.2.1 _ (Nat.le_refl _))]
  constructor
  · intro e r h1 hr
    cases q : so n (thr (ovs cs (fun k => l.getD k 0) cs.length) r n) with
    | true => rfl
    | false =>
      have : Uno n cs l (n - 1) = true := (Uno_t n cs l _).mpr ⟨r, h1, (by omega), by
        unfold wr
        show (!so n (rt cs _)) = true
        rw [thr_rt w, q]; rfl⟩
      rw [e] at this; cases this
  · intro e
    cases q : Uno n cs l (n - 1) with
    | false => rfl
    | true =>
      obtain ⟨r, h1, h2, h3⟩ := (Uno_t n cs l _).mp q
      unfold wr at h3
      have h3' : (!so n (rt cs (thr (fun k => l.getD k 0) r n))) = true := h3
      rw [thr_rt w, e r h1 (by omega)] at h3'
      cases h3'
theorem thr_st {n r w : Nat} {V : Nat → Nat} (h : Inj n V) (hw : w < n) (e : V w = r) : thr V r n = thr V (r + 1) n ||| 2 ^ w := by
  apply tb_ex2
  intro k
  rw [tb_or, tb_thr, tb_thr, tb_2p]
  by_cases ek : k = w
  · subst ek
    rw [if_pos ⟨hw, by omega⟩, if_neg (by omega), if_pos rfl]; rfl
  · rw [if_neg ek]
    by_cases z : k < n ∧ r ≤ V k
    · have : V k ≠ r := fun q => ek (h.2 k w z.1 hw (by omega))
      rw [if_pos z, if_pos ⟨z.1, by omega⟩]; rfl
    · rw [if_neg z, if_neg (by omega)]; rfl
theorem thr_top {n : Nat} {V : Nat → Nat} (h : ∀ w, w < n → V w < n) : thr V n n = 0 := by
  apply tb_ex2
  intro k
  rw [tb_thr, tbz, if_neg]
  intro q
  have := h k q.1
  omega
theorem sX_leavesUnsorted (N : Nat) (hN : 10000 ≤ N) {n : Nat} {cs : List (Nat × Nat)} {l : List Nat} {μ : Mem} (h : VV μ 35 l) (ho : OL n l) (h2 : 2 ≤ n) (h8 : n ≤ 8) (hp : PS μ (PW n (wr n cs b0 0))) : ∃ μ', f_X_leavesUnsorted N (nI n) μ = some (if Uno n cs l (n - 1) then 1 else 0, μ') ∧ Fr (rg 36 36) μ μ' := by
  have p8 := pow8 h8
  have sb : nI n - 1 = nI (n - 1) := pk_sub (b := 1) (by omega)
  have hl := ho.1
  have hb := ho.b (by omega)
  have I := ho.2.1
  obtain ⟨μ1, ⟨j1, j2⟩, e1⟩ := for_up (fun n' i ν => lp_X_leavesUnsorted_2 N (nI n) (fun μ6 => lt' (nI n - 1) fun v7 => lp_X_leavesUnsorted_31 N (fun μ15 => some (0, μ15)) N 0 v7 μ6) n' i ν) (fun μ6 => lt' (nI n - 1) fun v7 => lp_X_leavesUnsorted_31 N (fun μ15 => some (0, μ15)) N 0 v7 μ6) n (fun i κ => (∀ w, w < i → gI κ 36 (l.getD w 0) = nI w) ∧ Fr (rg 36 36) μ κ)
    (by
      intro n' i κ hi ⟨i1, i2⟩
      have a : gI κ 35 i = nI (l.getD i 0) := by rw [i2.I (rgo (by omega))]; exact h i (by omega)
      have b := hb i
      refine ⟨sI κ 36 (l.getD i 0) (nI i), ⟨fun w hw => ?_, i2.sI (rgi (by omega) (by omega))⟩, ?_⟩
      · rw [gI_sI]
        by_cases e : w = i
        · subst e; rw [if_pos ⟨rfl, rfl⟩]
        · rw [if_neg (fun z => e (I.2 w i (by omega) hi z.2))]; exact i1 w (by omega)
      · rw [lp_X_leavesUnsorted_2, if_pos (nI_lt hi (by omega)), inb_nI (show i < 8 by omega) (by omega), ckE, tn_nI (show i < 2 ^ 31 by omega), a, inb_nI (show l.getD i 0 < 8 by omega) (by omega), ckE, tn_nI (by omega), ltE, ltE, nI_1])
    (by
      intro n' κ _
      rw [lp_X_leavesUnsorted_2, if_neg (nI_nlt (Nat.le_refl _) (by omega))])
    n 0 N μ (by omega) (by omega) ⟨fun w hw => by omega, Fr.rf μ⟩
  have hp1 := hp.fr j2 (fun _ => rgo (by omega))
  have key : ∀ r n', r < n → r < n' → lp_X_leavesUnsorted_31 N (fun μ15 => some (0, μ15)) n' (nI (thr (fun k => l.getD k 0) (r + 1) n)) (nI r) μ1 = some (if Uno n cs l r then 1 else 0, μ1) := by
    intro r
    induction r with
    | zero =>
      intro n' hr hn
      obtain ⟨n', rfl⟩ : ∃ k, n' = k + 1 := ⟨n' - 1, (by omega)⟩
      rw [lp_X_leavesUnsorted_31, if_neg (by decide), Uno]; rfl
    | succ r ih =>
      intro n' hr hn
      obtain ⟨n', rfl⟩ : ∃ k, n' = k + 1 := ⟨n' - 1, (by omega)⟩
      obtain ⟨w, hw, ew⟩ := ho.2.2 (r + 1) hr
      dsimp only at ew
      have g : gI μ1 36 (r + 1) = nI w := by rw [← ew]; exact j1 w hw
      have t := thr_st (r := r + 1) I hw ew
      have tl := thr_lt (fun k => l.getD k 0) (r + 1) n
      have hh := sPS_holds N hp1 (p := thr (fun k => l.getD k 0) (r + 1) n) (by omega)
      have ew2 : PW n (wr n cs b0 0) (thr (fun k => l.getD k 0) (r + 1) n) = wr n cs b0 0 (thr (fun k => l.getD k 0) (r + 1) n) := by unfold PW; rw [decide_eq_true tl, Bool.true_and]
      rw [ew2] at hh
      rw [lp_X_leavesUnsorted_31, if_pos (show (0 : Int32) < nI (r + 1) from nI_lt (a := 0) (by omega) (by omega)), inb_nI (show r + 1 < 8 by omega) (by omega), ckE, tn_nI (by omega), g, one_shl (by omega), orI, ← t, ltE, hh, bnd_some, Uno]
      by_cases z : wr n cs b0 0 (thr (fun k => l.getD k 0) (r + 1) n) = true
      · rw [if_pos z, if_neg (by decide), z]; rfl
      · have z' : wr n cs b0 0 (thr (fun k => l.getD k 0) (r + 1) n) = false := by simpa using z
        rw [if_neg z, if_pos rfl, ltE, pk_m1, z', Bool.false_or]
        exact ih n' (by omega) (by omega)
  refine ⟨μ1, ?_, j2⟩
  unfold f_X_leavesUnsorted
  refine Eq.trans e1 ?_
  rw [sb, ltE]
  have := key (n - 1) N (by omega) (by omega)
  rw [show n - 1 + 1 = n by omega, thr_top I.1] at this
  exact this
theorem sM_leavesSorted (N : Nat) (hN : 10000 ≤ N) {s n : Nat} {cs : List (Nat × Nat)} {l : List Nat} {μ : Mem} (m : NM μ s n cs) (w : WN n cs) (hs : s < 4) (h : VV μ 59 l) (ho : OL n l) : ∃ μ', f_M_leavesSorted N (nI s) μ = some (if Uno n cs l (n - 1) then 0 else 1, μ') ∧ Fr m57 μ μ' := by
  have h8 := w.2.1
  have n2 := w.1
  have hcl := w.2.2.1
  have hl := ho.1
  have hb := ho.b (by omega)
  have hb' : ∀ k, (fun k => l.getD k 0) k < 10000 := fun k => by have := hb k; dsimp only; omega
  obtain ⟨μ1, ⟨j1, j2⟩, e1⟩ := for_up (fun n' i ν => lp_M_leavesSorted_2 N (nI s) (fun μ7 => lp_M_leavesSorted_32 N (nI s) (fun μ27 => lp_M_leavesSorted_111 N (nI s) (fun v37 μ38 => ck (isb v37) (some (v37, μ38))) N 1 0 μ27) N 0 μ7) n' i ν) (fun μ7 => lp_M_leavesSorted_32 N (nI s) (fun μ27 => lp_M_leavesSorted_111 N (nI s) (fun v37 μ38 => ck (isb v37) (some (v37, μ38))) N 1 0 μ27) N 0 μ7) n (fun i κ => VF κ 57 i (fun k => l.getD k 0) ∧ Fr m57 μ κ)
    (by
      intro n' i κ hi ⟨i1, i2⟩
      have mk := m.m7 i2
      have a : gI κ 59 i = nI (l.getD i 0) := by rw [i2.I (rgo (by omega))]; exact h i (by omega)
      refine ⟨sI κ 57 i (nI (l.getD i 0)), ⟨fun k hk => ?_, i2.sI (rgi (by omega) (by omega))⟩, ?_⟩
      · rw [gI_sI]
        by_cases e : k = i
        · subst e; rw [if_pos ⟨rfl, rfl⟩]
        · rw [if_neg (fun z => e z.2)]; exact i1 k (by omega)
      · rw [lp_M_leavesSorted_2, inb_nI hs (by omega), ckE, tn_nI (show s < 2 ^ 31 by omega), mk.1, if_pos (nI_lt hi (by omega)), inb_nI (show i < 8 by omega) (by omega), ckE, ckE, tn_nI (by omega), a, ltE, ltE, nI_1])
    (by
      intro n' κ ⟨i1, i2⟩
      have mk := m.m7 i2
      rw [lp_M_leavesSorted_2, inb_nI hs (by omega), ckE, tn_nI (show s < 2 ^ 31 by omega), mk.1, if_neg (nI_nlt (Nat.le_refl _) (by omega))])
    n 0 N μ (by omega) (by omega) ⟨fun k hk => by omega, Fr.rf μ⟩
  generalize hV : (fun k => l.getD k 0) = V at *
  obtain ⟨μ2, ⟨k1, k2⟩, e2⟩ := for_up (fun n' i ν => lp_M_leavesSorted_32 N (nI s) (fun μ27 => lp_M_leavesSorted_111 N (nI s) (fun v37 μ38 => ck (isb v37) (some (v37, μ38))) N 1 0 μ27) n' i ν) (fun μ27 => lp_M_leavesSorted_111 N (nI s) (fun v37 μ38 => ck (isb v37) (some (v37, μ38))) N 1 0 μ27) cs.length (fun i κ => VF κ 57 n (ovs cs V i) ∧ Fr m57 μ κ)
    (by
      intro n' i κ hi ⟨i2, i3⟩
      have mk := m.m7 i3
      have c := w.2.2.2 i hi
      have b1 := ovs_b cs hb' i (cl cs i)
      have b2 := ovs_b cs hb' i (ch cs i)
      have mk2 : NM (sI κ 57 (cl cs i) (nI (min (ovs cs V i (cl cs i)) (ovs cs V i (ch cs i))))) s n cs := mk.m7 ((Fr.rf κ).sI (rgi (by omega) (by omega)))
      refine ⟨sI (sI κ 57 (cl cs i) (nI (min (ovs cs V i (cl cs i)) (ovs cs V i (ch cs i))))) 57 (ch cs i) (nI (max (ovs cs V i (cl cs i)) (ovs cs V i (ch cs i)))), ⟨ov_m i2 (by omega), (i3.sI (rgi (by omega) (by omega))).sI (rgi (by omega) (by omega))⟩, ?_⟩
      rw [lp_M_leavesSorted_32, inb_nI hs (by omega), ckE, tn_nI (show s < 2 ^ 31 by omega), mk.2.1, if_pos (nI_lt hi (by omega)), sM_lowOf N mk hs hi hcl, bnd_some, inb_nI (show cl cs i < 8 by omega) (by omega), ckE, tn_nI (show cl cs i < 2 ^ 31 by omega), i2 _ (show cl cs i < n by omega), ltE, sM_highOf N mk hs hi hcl, bnd_some, inb_nI (show ch cs i < 8 by omega) (by omega), ckE, tn_nI (show ch cs i < 2 ^ 31 by omega), i2 _ c.2, ltE, sM_lowOf N mk hs hi hcl, bnd_some, inb_nI (show cl cs i < 8 by omega) (by omega), ckE, tn_nI (show cl cs i < 2 ^ 31 by omega), mnI_nI (by omega) (by omega), ltE, sM_highOf N mk2 hs hi hcl, bnd_some, inb_nI (show ch cs i < 8 by omega) (by omega), ckE, tn_nI (show ch cs i < 2 ^ 31 by omega), mxI_nI (by omega) (by omega), ltE, ltE, nI_1])
    (by
      intro n' κ ⟨i2, i3⟩
      have mk := m.m7 i3
      rw [lp_M_leavesSorted_32, inb_nI hs (by omega), ckE, tn_nI (show s < 2 ^ 31 by omega), mk.2.1, if_neg (nI_nlt (Nat.le_refl _) (by omega))])
    cs.length 0 N μ1 (by omega) (by omega) ⟨j1, j2⟩
  have m2 := m.m7 k2
  have bb := ovs_b cs hb' cs.length
  obtain ⟨⟨v, μ3⟩, ⟨q1, q2⟩, e3⟩ := for_up (fun n' i (z : Int32 × Mem) => lp_M_leavesSorted_111 N (nI s) (fun v37 μ38 => ck (isb v37) (some (v37, μ38))) n' z.1 i z.2) (fun z => ck (isb z.1) (some (z.1, z.2))) n (fun i z => z.1 = (if cn (fun k => decide (ovs cs V cs.length k ≠ k)) i = 0 then 1 else 0) ∧ z.2 = μ2)
    (by
      intro n' i ⟨v, κ⟩ hi ⟨i1, i2⟩
      dsimp only at i1 i2
      subst i1; subst i2
      refine ⟨(if cn (fun k => decide (ovs cs V cs.length k ≠ k)) (i + 1) = 0 then 1 else 0, κ), ⟨rfl, rfl⟩, ?_⟩
      dsimp only
      have b := bb i
      have ce : (nI (ovs cs V cs.length i) = nI i) ↔ ovs cs V cs.length i = i := nI_eq (by omega) (by omega)
      rw [lp_M_leavesSorted_111, inb_nI hs (by omega), ckE, tn_nI (show s < 2 ^ 31 by omega), m2.1, if_pos (nI_lt hi (by omega)), ltE, ltE, inb_nI (show i < 8 by omega) (by omega), ckE, tn_nI (show i < 2 ^ 31 by omega), k1 i hi, cn]
      by_cases z : cn (fun k => decide (ovs cs V cs.length k ≠ k)) i = 0
      · rw [if_pos z, if_neg (by decide), z]
        by_cases y : ovs cs V cs.length i = i
        · rw [if_pos (ce.mpr y), if_neg (show ¬ decide (ovs cs V cs.length i ≠ i) = true by simp [y]), if_pos rfl]
          dsimp only
          rw [ltE, nI_1]
        · rw [if_neg (fun q => y (ce.mp q)), if_pos (show decide (ovs cs V cs.length i ≠ i) = true by simp [y]), if_neg (by decide)]
          dsimp only
          rw [ltE, nI_1]
      · rw [if_neg z, if_pos rfl, if_neg (show ¬ cn (fun k => decide (ovs cs V cs.length k ≠ k)) i + (if decide (ovs cs V cs.length i ≠ i) = true then 1 else 0) = 0 by omega)]
        dsimp only
        rw [ltE, nI_1])
    (by
      intro n' ⟨v, κ⟩ ⟨i1, i2⟩
      dsimp only at i1 i2 ⊢
      subst i2
      rw [lp_M_leavesSorted_111, inb_nI hs (by omega), ckE, tn_nI (show s < 2 ^ 31 by omega), m2.1, if_neg (nI_nlt (Nat.le_refl _) (by omega))])
    n 0 N (1, μ2) (by omega) (by omega) ⟨by rw [cn, if_pos rfl], rfl⟩
  dsimp only at q1 q2 e3
  subst q1; subst q2
  refine ⟨μ3, ?_, k2⟩
  unfold f_M_leavesSorted
  refine Eq.trans e1 (Eq.trans e2 (Eq.trans e3 ?_))
  have key := Uno_id w ho
  rw [hV] at key
  have kz : cn (fun k => decide (ovs cs V cs.length k ≠ k)) n = 0 ↔ Uno n cs l (n - 1) = false := by
    rw [key, cn_z0]
    constructor
    · intro q k hk
      have := q k hk
      rw [decide_eq_false_iff_not] at this
      omega
    · intro q k hk
      rw [decide_eq_false_iff_not]
      have := q k hk
      omega
  by_cases z : Uno n cs l (n - 1) = true
  · rw [if_pos z, if_neg (fun q => by rw [kz.mp q] at z; cases z)]; rfl
  · rw [if_neg z, if_pos (kz.mpr (by simpa using z))]; rfl

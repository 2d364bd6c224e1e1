/-! nets that are made -/
def fl (B : Nat → List (Nat × Nat)) : Nat → Nat → List (Nat × Nat)
  | _, 0 => []
  | i, m + 1 => B i ++ fl B (i + 1) m
def fd (B : Nat → List (Nat × Nat)) : Nat → List (Nat × Nat)
  | 0 => []
  | i + 1 => B i ++ fd B i
theorem fl_up {β : Type} (lp : Nat → Int32 → Mem → β) (K : Mem → β) (H : Mem → List (Nat × Nat) → Prop) (B : Nat → List (Nat × Nat)) (e : Nat) (hs : ∀ n i κ cs, i < e → H κ cs → cs.length + (B i).length ≤ 60 → ∃ κ', H κ' (cs ++ B i) ∧ lp (n + 1) (nI i) κ = lp n (nI (i + 1)) κ') (he : ∀ n κ cs, H κ cs → lp (n + 1) (nI e) κ = K κ) : ∀ m i n κ cs, i + m = e → m < n → H κ cs → cs.length + (fl B i m).length ≤ 60 → ∃ κ', H κ' (cs ++ fl B i m) ∧ lp n (nI i) κ = K κ' := by
  intro m
  induction m with
  | zero =>
    intro i n κ cs h1 h2 h3 h4
    obtain ⟨n, rfl⟩ : ∃ k, n = k + 1 := ⟨n - 1, (by omega)⟩
    have : i = e := (by omega)
    subst this
    exact ⟨κ, by rw [fl, List.append_nil]; exact h3, he n κ cs h3⟩
  | succ m ih =>
    intro i n κ cs h1 h2 h3 h4
    obtain ⟨n, rfl⟩ : ∃ k, n = k + 1 := ⟨n - 1, (by omega)⟩
    rw [fl, List.length_append] at h4
    obtain ⟨κ1, g1, e1⟩ := hs n i κ cs (by omega) h3 (by omega)
    obtain ⟨κ2, g2, e2⟩ := ih (i + 1) n κ1 _ (by omega) (by omega) g1 (by rw [List.length_append]; omega)
    exact ⟨κ2, by rw [fl, ← List.append_assoc]; exact g2, e1.trans e2⟩
theorem fd_dn {β : Type} (lp : Nat → Int32 → Mem → β) (K : Mem → β) (H : Mem → List (Nat × Nat) → Prop) (B : Nat → List (Nat × Nat)) (E : Nat) (hs : ∀ n i κ cs, i < E → H κ cs → cs.length + (B i).length ≤ 60 → ∃ κ', H κ' (cs ++ B i) ∧ lp (n + 1) (nI i) κ = lp n (pm i) κ') (he : ∀ n κ cs, H κ cs → lp (n + 1) (pm 0) κ = K κ) : ∀ i n κ cs, i ≤ E → i < n → H κ cs → cs.length + (fd B i).length ≤ 60 → ∃ κ', H κ' (cs ++ fd B i) ∧ lp n (pm i) κ = K κ' := by
  intro i
  induction i with
  | zero =>
    intro n κ cs h1 h2 h3 h4
    obtain ⟨n, rfl⟩ : ∃ k, n = k + 1 := ⟨n - 1, (by omega)⟩
    exact ⟨κ, by rw [fd, List.append_nil]; exact h3, he n κ cs h3⟩
  | succ i ih =>
    intro n κ cs h1 h2 h3 h4
    obtain ⟨n, rfl⟩ : ∃ k, n = k + 1 := ⟨n - 1, (by omega)⟩
    rw [fd, List.length_append] at h4
    obtain ⟨κ1, g1, e1⟩ := hs n i κ cs (by omega) h3 (by omega)
    obtain ⟨κ2, g2, e2⟩ := ih n κ1 _ (by omega) (by omega) g1 (by rw [List.length_append]; omega)
    exact ⟨κ2, by rw [fd, ← List.append_assoc]; exact g2, by rw [pm_succ]; exact e1.trans e2⟩
def HX (μ : Mem) (p n : Nat) (κ : Mem) (cs : List (Nat × Nat)) : Prop := NX κ p n cs ∧ Fr (rg p (p + 2)) μ κ
def HM (μ : Mem) (s n : Nat) (κ : Mem) (cs : List (Nat × Nat)) : Prop := NM κ s n cs ∧ Fr (mN s) μ κ
theorem HX.ap (N : Nat) {μ κ : Mem} {p n i j : Nat} {cs : List (Nat × Nat)} (h : HX μ p n κ cs) (hl : cs.length < 60) : ∃ κ', HX μ p n κ' (cs ++ [(i, j)]) ∧ f_Net_append N p (nI i) (nI j) κ = some (1, κ') := by
  obtain ⟨κ', e, n1, f1⟩ := sNet_append N (i := i) (j := j) h.1 hl
  exact ⟨κ', ⟨n1, h.2.tr f1⟩, e⟩
theorem HM.ap (N : Nat) {μ κ : Mem} {s n i j : Nat} {cs : List (Nat × Nat)} (h : HM μ s n κ cs) (hs : s < 4) (hl : cs.length < 60) : ∃ κ', HM μ s n κ' (cs ++ [(i, j)]) ∧ f_M_comes3 N (nI s) (nI i) (nI j) κ = some ((), κ') := by
  obtain ⟨κ', e, n1, f1⟩ := sM_comes N (i := i) (j := j) h.1 hs hl
  exact ⟨κ', ⟨n1, h.2.tr f1⟩, e⟩
abbrev nb (w : Nat) : List (Nat × Nat) := [(w, w + 1)]
def mk1 (n : Nat) : List (Nat × Nat) := fl (fun r => fl nb 0 (n - 1 - r)) 0 (n - 1)
def mk2 (n : Nat) : List (Nat × Nat) := fl (fun r => fd nb r) 1 (n - 1)
def brk (n : Nat) : Nat → Nat → List (Nat × Nat)
  | 0, _ => []
  | f + 1, w => if w < n - 1 then (w, w + 1) :: brk n f (w + 2) else []
def mk3 (n : Nat) : List (Nat × Nat) := fl (fun r => brk n 4 (r % 2)) 0 n
def sB (n p r d : Nat) : List (Nat × Nat) := fl (fun w => if w &&& p = r then [(w, w + d)] else []) 0 (n - d)
def qK (n p : Nat) : Nat → List (Nat × Nat)
  | 0 => []
  | k + 1 => sB n p p (p * 2 ^ (k + 1) - p) ++ qK n p k
def pJ (n J : Nat) : Nat → List (Nat × Nat)
  | 0 => []
  | j + 1 => sB n (2 ^ j) 0 (2 ^ j) ++ (qK n (2 ^ j) (J - j) ++ pJ n J j)
def Jn (n : Nat) : Nat := if n ≤ 2 then 0 else if n ≤ 4 then 1 else 2
def mk4 (n : Nat) : List (Nat × Nat) := pJ n (Jn n) (Jn n + 1)
def mkL (n way : Nat) : List (Nat × Nat) := if way = 1 then mk1 n else if way = 2 then mk2 n else if way = 3 then mk3 n else if way = 4 then mk4 n else []
theorem mkL_ok : ∀ n, n < 9 → 2 ≤ n → ∀ way, way < 5 → (mkL n way).length ≤ 60 ∧ ∀ c ∈ mkL n way, c.1 < c.2 ∧ c.2 < n := by decide +kernel
theorem WN.of {n : Nat} {cs : List (Nat × Nat)} (h2 : 2 ≤ n) (h8 : n ≤ 8) (hl : cs.length ≤ 60) (h : ∀ c ∈ cs, c.1 < c.2 ∧ c.2 < n) : WN n cs := by
  refine ⟨h2, h8, hl, fun k hk => ?_⟩
  rw [cl_def, ch_def, List.getElem?_eq_getElem hk]
  exact h _ (List.getElem_mem hk)
theorem WN.mkL {n way : Nat} (h2 : 2 ≤ n) (h8 : n ≤ 8) (hw : way < 5) : WN n (mkL n way) := WN.of h2 h8 (mkL_ok n (by omega) h2 way hw).1 (mkL_ok n (by omega) h2 way hw).2
-- the class
theorem x_mk1 (N : Nat) (hN : 10000 ≤ N) {μ : Mem} {p n : Nat} (h2 : 2 ≤ n) (h8 : n ≤ 8) (h : NX μ p n []) : ∃ μ', f_X_makeBubbles N p μ = some ((), μ') ∧ NX μ' p n (mk1 n) ∧ Fr (rg p (p + 2)) μ μ' := by
  have sb : nI n - 2 = nI (n - 2) := pk_sub (b := 2) h2
  have inner : ∀ (r : Nat) (κ : Mem) (cs : List (Nat × Nat)) (K : Mem → Option (Unit × Mem)), r < n - 1 → HX μ p n κ cs → cs.length + (fl nb 0 (n - 1 - r)).length ≤ 60 → ∃ κ', HX μ p n κ' (cs ++ fl nb 0 (n - 1 - r)) ∧ lp_X_makeBubbles_16 N p (nI n) (nI r) K N (nI 0) κ = K κ' := by
    intro r κ cs K hr hc hl
    have sb2 : nI (n - 2) - nI r = nI (n - 2 - r) := pk_sub (by omega)
    exact fl_up (fun n' i κ => lp_X_makeBubbles_16 N p (nI n) (nI r) K n' i κ) K (HX μ p n) nb (n - 1 - r) (by
      intro n' i κ cs hi hc hl
      obtain ⟨κ', g, e⟩ := hc.ap N (i := i) (j := i + 1) (by simp at hl; omega)
      refine ⟨κ', g, ?_⟩
      rw [lp_X_makeBubbles_16, sb, sb2, if_neg (nI_nlt (by omega) (by omega)), nI_1, e, bnd_some, ltE]) (by
      intro n' κ cs hc
      rw [lp_X_makeBubbles_16, sb, sb2, if_pos (nI_lt (by omega) (by omega))]) (n - 1 - r) 0 N κ cs (by omega) (by omega) hc hl
  obtain ⟨μ', g, e⟩ := fl_up (fun n' i κ => lp_X_makeBubbles_7 N p (nI n) (fun μ9 => some ((), μ9)) n' i κ) (fun μ9 => some ((), μ9)) (HX μ p n) (fun r => fl nb 0 (n - 1 - r)) (n - 1) (by
      intro n' i κ cs hi hc hl
      obtain ⟨κ', g, e⟩ := inner i κ cs (fun μ7 => lt' (nI i + 1) fun v8 => lp_X_makeBubbles_7 N p (nI n) (fun μ9 => some ((), μ9)) n' v8 μ7) hi hc hl
      refine ⟨κ', g, ?_⟩
      rw [lp_X_makeBubbles_7, sb, if_neg (nI_nlt (by omega) (by omega))]
      refine Eq.trans e ?_
      rw [ltE, nI_1]) (by
      intro n' κ cs hc
      rw [lp_X_makeBubbles_7, sb, if_pos (nI_lt (by omega) (by omega))]) (n - 1) 0 N μ [] (by omega) (by omega) ⟨h, Fr.rf μ⟩ (by
      have := (mkL_ok n (by omega) h2 1 (by decide)).1
      rw [List.length_nil, Nat.zero_add]; exact this)
  refine ⟨μ', ?_, g.1, g.2⟩
  unfold f_X_makeBubbles
  rw [h.1, ltE]
  exact e
theorem m_mk1 (N : Nat) (hN : 10000 ≤ N) {μ : Mem} {s n : Nat} (hs : s < 4) (h2 : 2 ≤ n) (h8 : n ≤ 8) (h : NM μ s n []) : ∃ μ', f_M_sinks N (nI s) (nI n) μ = some ((), μ') ∧ NM μ' s n (mk1 n) ∧ Fr (mN s) μ μ' := by
  have sb : nI n - 1 = nI (n - 1) := pk_sub (b := 1) (by omega)
  have inner : ∀ (r : Nat) (κ : Mem) (cs : List (Nat × Nat)) (K : Mem → Option (Unit × Mem)), r < n - 1 → HM μ s n κ cs → cs.length + (fl nb 0 (n - 1 - r)).length ≤ 60 → ∃ κ', HM μ s n κ' (cs ++ fl nb 0 (n - 1 - r)) ∧ lp_M_sinks_12 N (nI s) (nI n) (nI r) K N (nI 0) κ = K κ' := by
    intro r κ cs K hr hc hl
    have sb2 : nI (n - 1) - nI r = nI (n - 1 - r) := pk_sub (by omega)
    exact fl_up (fun n' i κ => lp_M_sinks_12 N (nI s) (nI n) (nI r) K n' i κ) K (HM μ s n) nb (n - 1 - r) (by
      intro n' i κ cs hi hc hl
      obtain ⟨κ', g, e⟩ := hc.ap N (i := i) (j := i + 1) hs (by simp at hl; omega)
      refine ⟨κ', g, ?_⟩
      rw [lp_M_sinks_12, sb, sb2, if_pos (nI_lt hi (by omega)), nI_1, e, bnd_some, ltE]) (by
      intro n' κ cs hc
      rw [lp_M_sinks_12, sb, sb2, if_neg (nI_nlt (Nat.le_refl _) (by omega))]) (n - 1 - r) 0 N κ cs (by omega) (by omega) hc hl
  obtain ⟨μ', g, e⟩ := fl_up (fun n' i κ => lp_M_sinks_2 N (nI s) (nI n) (fun μ9 => some ((), μ9)) n' i κ) (fun μ9 => some ((), μ9)) (HM μ s n) (fun r => fl nb 0 (n - 1 - r)) (n - 1) (by
      intro n' i κ cs hi hc hl
      obtain ⟨κ', g, e⟩ := inner i κ cs (fun μ7 => lt' (nI i + 1) fun v8 => lp_M_sinks_2 N (nI s) (nI n) (fun μ9 => some ((), μ9)) n' v8 μ7) hi hc hl
      refine ⟨κ', g, ?_⟩
      rw [lp_M_sinks_2, sb, if_pos (nI_lt hi (by omega))]
      refine Eq.trans e ?_
      rw [ltE, nI_1]) (by
      intro n' κ cs hc
      rw [lp_M_sinks_2, sb, if_neg (nI_nlt (Nat.le_refl _) (by omega))]) (n - 1) 0 N μ [] (by omega) (by omega) ⟨h, Fr.rf μ⟩ (by
      have := (mkL_ok n (by omega) h2 1 (by decide)).1
      rw [List.length_nil, Nat.zero_add]; exact this)
  exact ⟨μ', e, g.1, g.2⟩
theorem x_mk2 (N : Nat) (hN : 10000 ≤ N) {μ : Mem} {p n : Nat} (h2 : 2 ≤ n) (h8 : n ≤ 8) (h : NX μ p n []) : ∃ μ', f_X_makeInsertions N p μ = some ((), μ') ∧ NX μ' p n (mk2 n) ∧ Fr (rg p (p + 2)) μ μ' := by
  have inner : ∀ (r : Nat) (κ : Mem) (cs : List (Nat × Nat)) (K : Mem → Option (Unit × Mem)), r < n → HX μ p n κ cs → cs.length + (fd nb r).length ≤ 60 → ∃ κ', HX μ p n κ' (cs ++ fd nb r) ∧ lp_X_makeInsertions_14 N p (nI r) K N (pm r) κ = K κ' := by
    intro r κ cs K hr hc hl
    exact fd_dn (fun n' i κ => lp_X_makeInsertions_14 N p (nI r) K n' i κ) K (HX μ p n) nb 8 (by
      intro n' i κ cs hi hc hl
      obtain ⟨κ', g, e⟩ := hc.ap N (i := i) (j := i + 1) (by simp at hl; omega)
      refine ⟨κ', g, ?_⟩
      rw [lp_X_makeInsertions_14, if_neg (nI_pos (by omega)), nI_1, e, bnd_some, ltE, dn_pm]) (by
      intro n' κ cs hc
      rw [lp_X_makeInsertions_14, if_pos (by decide)]) r N κ cs (by omega) (by omega) hc hl
  obtain ⟨μ', g, e⟩ := fl_up (fun n' i κ => lp_X_makeInsertions_2 N p (fun μ9 => some ((), μ9)) n' i κ) (fun μ9 => some ((), μ9)) (HX μ p n) (fun r => fd nb r) n (by
      intro n' i κ cs hi hc hl
      obtain ⟨κ', g, e⟩ := inner i κ cs (fun μ7 => lt' (nI i + 1) fun v8 => lp_X_makeInsertions_2 N p (fun μ9 => some ((), μ9)) n' v8 μ7) hi hc hl
      refine ⟨κ', g, ?_⟩
      rw [lp_X_makeInsertions_2, hc.1.1, if_pos (nI_lt hi (by omega)), ltE]
      refine Eq.trans e ?_
      rw [ltE, nI_1]) (by
      intro n' κ cs hc
      rw [lp_X_makeInsertions_2, hc.1.1, if_neg (nI_nlt (Nat.le_refl _) (by omega))]) (n - 1) 1 N μ [] (by omega) (by omega) ⟨h, Fr.rf μ⟩ (by
      have := (mkL_ok n (by omega) h2 2 (by decide)).1
      rw [List.length_nil, Nat.zero_add]; exact this)
  exact ⟨μ', e, g.1, g.2⟩
theorem m_mk2 (N : Nat) (hN : 10000 ≤ N) {μ : Mem} {s n : Nat} (hs : s < 4) (h2 : 2 ≤ n) (h8 : n ≤ 8) (h : NM μ s n []) : ∃ μ', f_M_inserts N (nI s) (nI n) μ = some ((), μ') ∧ NM μ' s n (mk2 n) ∧ Fr (mN s) μ μ' := by
  have inner : ∀ (r : Nat) (κ : Mem) (cs : List (Nat × Nat)) (K : Mem → Option (Unit × Mem)), r < n → HM μ s n κ cs → cs.length + (fd nb r).length ≤ 60 → ∃ κ', HM μ s n κ' (cs ++ fd nb r) ∧ lp_M_inserts_12 N (nI s) (nI n) (nI r) K N (pm r) κ = K κ' := by
    intro r κ cs K hr hc hl
    exact fd_dn (fun n' i κ => lp_M_inserts_12 N (nI s) (nI n) (nI r) K n' i κ) K (HM μ s n) nb 8 (by
      intro n' i κ cs hi hc hl
      obtain ⟨κ', g, e⟩ := hc.ap N (i := i) (j := i + 1) hs (by simp at hl; omega)
      refine ⟨κ', g, ?_⟩
      rw [lp_M_inserts_12, if_neg (nI_pos (by omega)), nI_1, e, bnd_some, ltE, dn_pm]) (by
      intro n' κ cs hc
      rw [lp_M_inserts_12, if_pos (by decide)]) r N κ cs (by omega) (by omega) hc hl
  obtain ⟨μ', g, e⟩ := fl_up (fun n' i κ => lp_M_inserts_2 N (nI s) (nI n) (fun μ9 => some ((), μ9)) n' i κ) (fun μ9 => some ((), μ9)) (HM μ s n) (fun r => fd nb r) n (by
      intro n' i κ cs hi hc hl
      obtain ⟨κ', g, e⟩ := inner i κ cs (fun μ7 => lt' (nI i + 1) fun v8 => lp_M_inserts_2 N (nI s) (nI n) (fun μ9 => some ((), μ9)) n' v8 μ7) hi hc hl
      refine ⟨κ', g, ?_⟩
      rw [lp_M_inserts_2, if_pos (nI_lt hi (by omega)), ltE]
      refine Eq.trans e ?_
      rw [ltE, nI_1]) (by
      intro n' κ cs hc
      rw [lp_M_inserts_2, if_neg (nI_nlt (Nat.le_refl _) (by omega))]) (n - 1) 1 N μ [] (by omega) (by omega) ⟨h, Fr.rf μ⟩ (by
      have := (mkL_ok n (by omega) h2 2 (by decide)).1
      rw [List.length_nil, Nat.zero_add]; exact this)
  exact ⟨μ', e, g.1, g.2⟩
theorem rem2 : ∀ r, r < 8 → remI (nI r) 2 = nI (r % 2) := by decide +kernel
theorem x_brk (N : Nat) {μ : Mem} {p n : Nat} (x1 : Int32) (h2 : 2 ≤ n) (h8 : n ≤ 8) (K : Mem → Option (Unit × Mem)) : ∀ (f w n' : Nat) (κ : Mem) (cs : List (Nat × Nat)), n ≤ w + 2 * f + 1 → w ≤ 10 → f < n' → HX μ p n κ cs → cs.length + (brk n f w).length ≤ 60 → ∃ κ', HX μ p n κ' (cs ++ brk n f w) ∧ lp_X_makeBricks_14 N p x1 K n' (nI w) κ = K κ' := by
  have sb : nI n - 1 = nI (n - 1) := pk_sub (b := 1) (by omega)
  intro f
  induction f with
  | zero =>
    intro w n' κ cs h1 hw hn hc hl
    obtain ⟨n', rfl⟩ : ∃ k, n' = k + 1 := ⟨n' - 1, (by omega)⟩
    exact ⟨κ, by rw [brk, List.append_nil]; exact hc, by rw [lp_X_makeBricks_14, hc.1.1, sb, if_neg (nI_nlt (by omega) (by omega))]⟩
  | succ f ih =>
    intro w n' κ cs h1 hw hn hc hl
    obtain ⟨n', rfl⟩ : ∃ k, n' = k + 1 := ⟨n' - 1, (by omega)⟩
    rw [brk] at hl ⊢
    by_cases z : w < n - 1
    · rw [if_pos z] at hl ⊢
      rw [List.length_cons] at hl
      obtain ⟨κ', g, e⟩ := hc.ap N (i := w) (j := w + 1) (by omega)
      obtain ⟨κ2, g2, e2⟩ := ih (w + 2) n' κ' _ (by omega) (by omega) (by omega) g (by rw [List.length_append, List.length_singleton]; omega)
      refine ⟨κ2, by rw [List.append_assoc] at g2; exact g2, ?_⟩
      rw [lp_X_makeBricks_14, hc.1.1, sb, if_pos (nI_lt z (by omega)), nI_1, e, bnd_some, ltE, show (2 : Int32) = nI 2 from rfl, nI_add]
      exact e2
    · rw [if_neg z] at hl ⊢
      exact ⟨κ, by rw [List.append_nil]; exact hc, by rw [lp_X_makeBricks_14, hc.1.1, sb, if_neg (nI_nlt (by omega) (by omega))]⟩
theorem m_brk (N : Nat) {μ : Mem} {s n : Nat} (hs : s < 4) (x1 : Int32) (h2 : 2 ≤ n) (h8 : n ≤ 8) (K : Mem → Option (Unit × Mem)) : ∀ (f w n' : Nat) (κ : Mem) (cs : List (Nat × Nat)), n ≤ w + 2 * f + 1 → w ≤ 10 → f < n' → HM μ s n κ cs → cs.length + (brk n f w).length ≤ 60 → ∃ κ', HM μ s n κ' (cs ++ brk n f w) ∧ lp_M_alternates_12 N (nI s) (nI n) x1 K n' (nI w) κ = K κ' := by
  have sb : nI n - 1 = nI (n - 1) := pk_sub (b := 1) (by omega)
  intro f
  induction f with
  | zero =>
    intro w n' κ cs h1 hw hn hc hl
    obtain ⟨n', rfl⟩ : ∃ k, n' = k + 1 := ⟨n' - 1, (by omega)⟩
    exact ⟨κ, by rw [brk, List.append_nil]; exact hc, by rw [lp_M_alternates_12, sb, if_neg (nI_nlt (by omega) (by omega))]⟩
  | succ f ih =>
    intro w n' κ cs h1 hw hn hc hl
    obtain ⟨n', rfl⟩ : ∃ k, n' = k + 1 := ⟨n' - 1, (by omega)⟩
    rw [brk] at hl ⊢
    by_cases z : w < n - 1
    · rw [if_pos z] at hl ⊢
      rw [List.length_cons] at hl
      obtain ⟨κ', g, e⟩ := hc.ap N (i := w) (j := w + 1) hs (by omega)
      obtain ⟨κ2, g2, e2⟩ := ih (w + 2) n' κ' _ (by omega) (by omega) (by omega) g (by rw [List.length_append, List.length_singleton]; omega)
      refine ⟨κ2, by rw [List.append_assoc] at g2; exact g2, ?_⟩
      rw [lp_M_alternates_12, sb, if_pos (nI_lt z (by omega)), nI_1, e, bnd_some, ltE, show (2 : Int32) = nI 2 from rfl, nI_add]
      exact e2
    · rw [if_neg z] at hl ⊢
      exact ⟨κ, by rw [List.append_nil]; exact hc, by rw [lp_M_alternates_12, sb, if_neg (nI_nlt (by omega) (by omega))]⟩
theorem x_mk3 (N : Nat) (hN : 10000 ≤ N) {μ : Mem} {p n : Nat} (h2 : 2 ≤ n) (h8 : n ≤ 8) (h : NX μ p n []) : ∃ μ', f_X_makeBricks N p μ = some ((), μ') ∧ NX μ' p n (mk3 n) ∧ Fr (rg p (p + 2)) μ μ' := by
  obtain ⟨μ', g, e⟩ := fl_up (fun n' i κ => lp_X_makeBricks_2 N p (fun μ9 => some ((), μ9)) n' i κ) (fun μ9 => some ((), μ9)) (HX μ p n) (fun r => brk n 4 (r % 2)) n (by
      intro n' i κ cs hi hc hl
      obtain ⟨κ', g, e⟩ := x_brk N (nI i) h2 h8 (fun μ7 => lt' (nI i + 1) fun v8 => lp_X_makeBricks_2 N p (fun μ9 => some ((), μ9)) n' v8 μ7) 4 (i % 2) N κ cs (by omega) (by omega) (by omega) hc hl
      refine ⟨κ', g, ?_⟩
      rw [lp_X_makeBricks_2, hc.1.1, if_pos (nI_lt hi (by omega)), rem2 i (by omega), ltE]
      refine Eq.trans e ?_
      rw [ltE, nI_1]) (by
      intro n' κ cs hc
      rw [lp_X_makeBricks_2, hc.1.1, if_neg (nI_nlt (Nat.le_refl _) (by omega))]) n 0 N μ [] (by omega) (by omega) ⟨h, Fr.rf μ⟩ (by
      have := (mkL_ok n (by omega) h2 3 (by decide)).1
      rw [List.length_nil, Nat.zero_add]; exact this)
  exact ⟨μ', e, g.1, g.2⟩
theorem m_mk3 (N : Nat) (hN : 10000 ≤ N) {μ : Mem} {s n : Nat} (hs : s < 4) (h2 : 2 ≤ n) (h8 : n ≤ 8) (h : NM μ s n []) : ∃ μ', f_M_alternates N (nI s) (nI n) μ = some ((), μ') ∧ NM μ' s n (mk3 n) ∧ Fr (mN s) μ μ' := by
  obtain ⟨μ', g, e⟩ := fl_up (fun n' i κ => lp_M_alternates_2 N (nI s) (nI n) (fun μ9 => some ((), μ9)) n' i κ) (fun μ9 => some ((), μ9)) (HM μ s n) (fun r => brk n 4 (r % 2)) n (by
      intro n' i κ cs hi hc hl
      obtain ⟨κ', g, e⟩ := m_brk N hs (nI i) h2 h8 (fun μ7 => lt' (nI i + 1) fun v8 => lp_M_alternates_2 N (nI s) (nI n) (fun μ9 => some ((), μ9)) n' v8 μ7) 4 (i % 2) N κ cs (by omega) (by omega) (by omega) hc hl
      refine ⟨κ', g, ?_⟩
      rw [lp_M_alternates_2, if_pos (nI_lt hi (by omega)), rem2 i (by omega), ltE]
      refine Eq.trans e ?_
      rw [ltE, nI_1]) (by
      intro n' κ cs hc
      rw [lp_M_alternates_2, if_neg (nI_nlt (Nat.le_refl _) (by omega))]) n 0 N μ [] (by omega) (by omega) ⟨h, Fr.rf μ⟩ (by
      have := (mkL_ok n (by omega) h2 3 (by decide)).1
      rw [List.length_nil, Nat.zero_add]; exact this)
  exact ⟨μ', e, g.1, g.2⟩

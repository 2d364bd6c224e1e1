/-! the law: row -/
theorem m1_int' {n : Nat} (hn : n < 2 ^ 31) : (nI n - 1).toInt64.toInt = (n : Int) - 1 := by
  have e1 : (1 : Int32).toInt = 1 := rfl
  rw [Int32.toInt_toInt64, fb_subI (by rw [nI_toInt hn, e1]; omega) (by rw [nI_toInt hn, e1]; omega), nI_toInt hn, e1]
theorem mrow_in (N : Nat) {k : Nat} {μ : Mem} {ro : List Int64} (h : RM μ ro) (hl : ro.length ≤ 64) (hk : k < ro.length) : f_M_row N (nI k) μ = some (ro.getD k 0, sI μ 44 0 0) := by
  have e : f_M_flag N 0 μ = some (0, μ) := by unfold f_M_flag; rw [if_pos rfl]
  have g : gI (sI μ 44 0 0) 44 0 = 0 := by rw [gI_sI, if_pos ⟨rfl, rfl⟩]
  unfold f_M_row
  rw [h.1, mIn_in N hk (by omega) μ (m1_int' (by omega)), bnd_some, if_neg (by decide : ¬ (1 : Int32) = 0), ltE, e, bnd_some, ltE, g, if_neg (by decide : ¬ (0 : Int32) = 1), inb_nI (by omega) (by omega), ckE, gL_sI, tn_nI (by omega), h.2 k hk]
theorem mrow_out (N : Nat) {x : Int32} {μ : Mem} {ro : List Int64} (h : RM μ ro) (hl : ro.length ≤ 64) (hx : x < 0 ∨ nI ro.length ≤ x) : f_M_row N x μ = some (0, sI μ 44 0 1) := by
  have e : f_M_flag N 1 μ = some (1, μ) := by unfold f_M_flag; rw [if_neg (by decide)]
  have g : gI (sI μ 44 0 1) 44 0 = 1 := by rw [gI_sI, if_pos ⟨rfl, rfl⟩]
  unfold f_M_row
  rw [h.1, mIn_out N (by omega) hx μ (m1_int' (by omega)), bnd_some, if_pos (rfl : (0 : Int32) = 0), ltE, e, bnd_some, ltE, g, if_pos (rfl : (1 : Int32) = 1)]
theorem RM.thr {μ : Mem} {v : Int32} {ro : List Int64} (h : RM μ ro) : RM (sI μ 44 0 v) ro := h.fr ((Fr.rf μ).sI (A := fun q k => q = 44 ∧ k = 0) ⟨rfl, rfl⟩) (fun z => by omega) (fun k z => by omega)
theorem Rel.thr {μ : Mem} {v : Int32} (h : Rel μ) : Rel (sI μ 44 0 v) := by
  obtain ⟨σ, hw, hx, hm⟩ := h
  exact ⟨σ, hw, hx.fr frT, hm.thr⟩
theorem Rel.out {μ : Mem} {v : Int64} (h : Rel μ) : Rel (sL μ 64 0 v) := by
  obtain ⟨σ, hw, hx, hm⟩ := h
  have f : Fr (rg 64 64) μ (sL μ 64 0 v) := (Fr.rf μ).sL (rgi (by omega) (by omega))
  exact ⟨σ, hw, ⟨hx.1.frg f (by omega), hx.2.1.fr f (rgo (by omega)) (fun _ => rgo (by omega)), hx.2.2.fr f (rgo (by omega)) (fun _ => rgo (by omega))⟩, ⟨hm.1.fr f (fun q k h1 h2 => rgo (by omega)), hm.2.1.fr f (rgo (by omega)) (fun _ => rgo (by omega)), hm.2.2.1.fr f (rgo (by omega)) (fun _ => rgo (by omega)), hm.2.2.2.fr f (rgo (by omega)) (rgo (by omega))⟩⟩
theorem row_fact (N : Nat) (x : Int32) (μ : Mem) (hr : Rel μ) : (inR μ x → inb x 64 = true) ∧ ∃ (r : Int32) (μ1 : Mem) (b : Int64) (μ2 : Mem), (inR μ x → r = 0 ∧ μ1 = sL μ 64 0 (gL μ 17 (tn x))) ∧ (¬ inR μ x → r = 1 ∧ μ1 = μ) ∧ f_M_row N x μ1 = some (b, μ2) ∧ gI μ2 44 0 = r ∧ (r = 0 → gL μ2 64 0 = b) ∧ Rel μ2 := by
  obtain ⟨σ, hw, hx, hm⟩ := id hr
  have hlen : σ.2.2.length ≤ 64 := hw.2.2.2
  rcases ix4 x σ.2.2.length (by omega) with hs | ⟨k, hk, rfl⟩
  · have hn : ¬ inR μ x := by
      rintro ⟨z1, z2⟩
      rw [hx.2.2.1] at z2
      rcases hs with hs | hs
      · exact z1 hs
      · exact nle_lt hs z2
    exact ⟨fun z => absurd z hn, 1, μ, 0, sI μ 44 0 1, fun z => absurd z hn, fun _ => ⟨rfl, rfl⟩, mrow_out N hm.2.2.1 hlen hs, by rw [gI_sI, if_pos ⟨rfl, rfl⟩], fun z => absurd z (by decide), hr.thr⟩
  · have hi : inR μ (nI k) := by
      refine ⟨?_, ?_⟩
      · rw [Int32.lt_iff_toInt_lt, nI_toInt (by omega)]
        have : (0 : Int32).toInt = 0 := rfl
        omega
      · rw [hx.2.2.1, Int32.lt_iff_toInt_lt, nI_toInt (by omega), nI_toInt (by omega)]
        omega
    have hro : Rel (sL μ 64 0 (gL μ 17 (tn (nI k)))) := hr.out
    have hm1 : RM (sL μ 64 0 (gL μ 17 (tn (nI k)))) σ.2.2 := hm.2.2.1.fr ((Fr.rf μ).sL (A := rg 64 64) (rgi (by omega) (by omega))) (rgo (by omega)) (fun _ => rgo (by omega))
    refine ⟨fun _ => inb_nI (by omega) (by omega), 0, _, _, _, fun _ => ⟨rfl, rfl⟩, fun z => absurd hi z, mrow_in N hm1 hlen hk, by rw [gI_sI, if_pos ⟨rfl, rfl⟩], fun _ => ?_, hro.thr⟩
    rw [gL_sI, gL_sL, if_pos ⟨rfl, rfl⟩, tn_nI (by omega), hx.2.2.2 k hk]
theorem st_L_row : Cond.static y_L_row ∈ TB := (tb_4 (List.mem_of_getElem? (i := 13) rfl) rfl)
theorem cw_L_row : Cond.codeWith y_L_row c_L_row 4 (some .int) hhL ∈ TB := (tb_4 (List.mem_of_getElem? (i := 14) rfl) rfl)
theorem in_L : Cond.initialized "SortingNetsLaw" ∈ TB := TB_of (by decide +kernel) rfl
theorem gd_L_row : GoodIn TB (va_wsS "SortingNetsLaw" 177 y_L_row (Cond.codeWith y_L_row c_L_row 4 (some .int) hhL :: TB)) := by
  intro w hw
  unfold va_wsS at hw
  rcases List.mem_append.mp hw with hw | hw
  · rcases List.mem_cons.mp hw with z | hw
    · subst z; exact TB_good _ ml_L_177
    · rcases List.mem_cons.mp hw with z | hw
      · subst z; exact TB_good _ st_L_row
      · rcases List.mem_cons.mp hw with z | hw
        · subst z; exact TB_good _ in_L
        · cases hw
  · exact TB_cons cw_L_row w hw
set_option maxRecDepth 100000 in
theorem lc_38 {K : LK} {ce sl i L : Nat} {sc : Nat → Int32} {μ : Mem} {o : Option (Unit × Mem)} (N : Nat) (hl : K.1.2.1.stackTraces = false) (h : LH (LG K ce sl) L sc) (h' : LH (LG K (ce + 1) (sl + 6)) L sc) (hTh : ThS (fun q => K.2.1.1.heap.size ≤ q) K.2.1.1) (hi : i + 5 ≤ L) (hL : L ≤ 2560) (hr : Rel μ) (hce : ce + 1 ≤ room_1.cells) (hsl : sl + 6 ≤ room_1.slots) (hend : ∀ μ2, Rel μ2 → Go (LG K (ce + 1) (sl + 6)) 8 1531 (lvL i) [] μ2 o) : Go (LG K ce sl) 8 1476 (lvL i) [] μ o := by
  obtain ⟨hz, r, μ1, b, μ2, h1, h2, e2, e3, e4, hr2⟩ := row_fact N (sc (i + 1)) μ hr
  have fin : Go (LG K (ce + 1) (sl + 6)) 8 1528 ((6, .long b) :: (5, .int r) :: lvL i) [] μ2 o := go_goto 1531 h'.1 d_law_1528 rfl (go_sub [2, 3, 4, 5, 6] rfl (hend μ2 hr2))
  have after : Go (LG K (ce + 1) (sl + 6)) 8 1487 (lvL i) [.int r] μ1 o := by
    refine go_istore h'.1 d_law_1487 (lv' := (5, .int r) :: lvL i) (by decide) rfl ?_
    refine go_aload_n h'.1 d_law_1489 rfl (q := 3) rfl ?_
    refine go_aload_n h'.1 d_law_1490 rfl (q := 1) rfl ?_
    refine go_iload h'.1 d_law_1491 (q := 5) rfl ?_
    refine go_iconst h'.1 d_law_1493 (v := nI 1) (by decide) ?_
    refine go_iadd h'.1 d_law_1494 ?_
    rw [nI_add]
    refine go_sce h' (i := i + 1) (by omega) hL d_law_1495 ?_
    refine go_runV emL h'.1 h'.2.1 (g_M_row N 38 (sc (i + 1))) mi_M_row ml_L_182 d_law_1496 rfl rfl rfl rfl rfl e2 ?_
    refine go_lstore h'.1 d_law_1499 (lv' := (6, .long b) :: (5, .int r) :: lvL i) (by decide) rfl ?_
    refine go_aload_n h'.1 d_law_1501 rfl (q := 4) rfl ?_
    refine go_runV emI h'.1 h'.2.1 (g_M_thrown N 39) mi_M_thrown ml_L_183 d_law_1502 rfl rfl rfl rfl rfl (x := r) (μ1 := μ2) (by unfold f_M_thrown; rw [e3]) ?_
    refine go_iload h'.1 d_law_1505 (q := 1) rfl ?_
    refine go_icmp_eq 1512 h'.1 d_law_1507 rfl (fun _ => ?_) (fun z => absurd rfl z)
    refine go_iload h'.1 d_law_1512 (q := 1) rfl ?_
    refine go_if_ne 1528 h'.1 d_law_1514 rfl (fun _ => fin) (fun z => ?_)
    refine go_aload_n h'.1 d_law_1517 rfl (q := 5) rfl ?_
    refine go_iconst h'.1 d_law_1518 (v := 0) rfl ?_
    refine go_lald h'.1 d_law_1519 (n := 1) rfl (by decide) ?_
    rw [t0_z]
    refine go_lload h'.1 d_law_1520 (q := 0) rfl ?_
    refine go_lcmp h'.1 d_law_1522 ?_
    exact go_if_eq 1528 h'.1 d_law_1523 rfl (fun _ => fin) (fun z' => absurd (lg_eq.mpr (e4 z)) z')
  refine go_aload_n h.1 d_law_1476 rfl (q := 1) rfl ?_
  refine go_arg h hi hL 1 (by decide) (by decide) d_law_1477 d_law_1478 d_law_1480 d_law_1481 d_law_1482 ?_
  refine go_aload_n h.1 d_law_1483 rfl (q := 3) rfl ?_
  intro H locs ls r0 μ0 ho hP hS hlv
  have hts := h.1.2.2.2.2.1
  have hSt := h.1.2.2.2.2.2.2
  have run := vx_runSW (p := K.1.1) (l := K.1.2.1) (e := K.1.2.2) (R := room_1) (s := K.2.1.1) (m := K.2.1.2.1) (args := #[Value.ref K.2.1.2.2.1]) (below := K.2.1.2.2.2) (meth := K.2.2.1.1) (c := K.2.2.1.2) (locs := locs) (cells := ce) (slots := sl) (g := F0 K.2.1.2.1 1484 ls [.ref (K.2.2.2.2.1 64), .int (sc (i + 1)), .ref (K.2.2.2.2.1 0)]) (rest := []) (As := [.ref (K.2.2.2.2.1 0), .int (sc (i + 1)), .ref (K.2.2.2.2.1 64)]) (H := H)
    ⟨h.1.1, h.1.2.1, h.1.2.2.1, h.1.2.2.2.1, hts⟩ (m_L_row K.1.2.1 hl K.2.2.2.1 K.2.2.2.2.1 K.2.2.2.2.2 μ (sc (i + 1)) hz r μ1 h1 h2)
    (vx_cwSW 3 hts gd_L_row rfl rfl rfl ⟨by decide, by decide, by decide +kernel⟩ ⟨Nat.le_of_ble_eq_true rfl, Nat.le_of_ble_eq_true rfl⟩)
    ⟨PrF_blind, pr_of hSt hTh hP hS [.ref 0, .int (sc (i + 1)), .ref 64]⟩ rfl rfl hlv.1 rfl (lv_room (Nat.le_of_ble_eq_true rfl)) d_law_1484 ⟨hce, hsl⟩
  intro T hT X
  obtain ⟨v, st₀, t, T', L', h0, X', hLL, e1, e5, ⟨⟨hv, hp⟩, hF⟩, st⟩ := run T hT X
  cases hv
  obtain ⟨k1, k2, k3⟩ := vx_keep h0 e1 hS (fun q _ z => hSt.2.2.2.2.2.2.2 q z) hSt.2.2.2.2.2.2.2 hLL hF
  obtain ⟨t2, a1, b1⟩ := after T'.heap (locs ++ L') ls r0 μ0 ho (by rw [e1]; exact hp) k3 hlv T' rfl X'
  exact ⟨t2, st t2 a1, b1⟩
/-- the law's loop, whole -/
theorem law_all {K : LK} {L : Nat} {sc : Nat → Int32} {o : Option (Unit × Mem)} (N : Nat) (hN : 10000 ≤ N) (hL : L ≤ 2560) (C S : Nat) (hC : C ≤ 1000) (hS : S ≤ 1000000) (hl : K.1.2.1.stackTraces = false) (hTh : ThS (fun q => K.2.1.1.heap.size ≤ q) K.2.1.1) (h : ∀ k, k ≤ 512 → LH (LG K (C + k * 1) (S + k * 6)) L sc) (hret : K.2.2.1.1.sig.returnType = ret) (μ : Mem) (hr : Rel μ) : Go (LG K C S) 8 23 (lvL 0) [] μ o := by
  have hc : ∀ k, k ≤ 512 → C + k * 1 ≤ 601024 := fun k hk => by omega
  have hs : ∀ k, k ≤ 512 → S + k * 6 ≤ 7293034 := fun k hk => by omega
  refine law_loop N hN hL C S 1 6 hc hs h hret ?_ 512 0 μ rfl hr
  intro k i μ hk hi hr hend
  have e1 : C + (k + 1) * 1 = C + k * 1 + 1 := (by omega)
  have e2 : S + (k + 1) * 6 = S + k * 6 + 6 := (by omega)
  have h1 := h (k + 1) (by omega)
  rw [e1, e2] at h1 hend
  have z1 := hc (k + 1) (by omega)
  have z2 := hs (k + 1) (by omega)
  rw [e1] at z1
  rw [e2] at z2
  exact lc_38 N hl (h k (by omega)) h1 hTh hi hL hr z1 z2 hend

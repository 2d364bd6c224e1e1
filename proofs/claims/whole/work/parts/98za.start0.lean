/-! the start: what is known there -/
theorem rel0 : Rel μ0 := by
  refine ⟨(fun _ => (4, []), [], []), ⟨fun s hs => (show WN 4 [] from ⟨by decide, by decide, by decide, fun k hk => absurd hk (Nat.not_lt_zero k)⟩), by decide, fun k => by simp, by decide⟩, ⟨fun s hs => ?_, ⟨by decide, fun k hk => absurd hk (Nat.not_lt_zero k)⟩, ⟨by decide, fun k hk => absurd hk (Nat.not_lt_zero k)⟩⟩, ⟨fun s hs => ?_, ⟨by decide, fun k hk => absurd hk (Nat.not_lt_zero k)⟩, ⟨by decide, fun k hk => absurd hk (Nat.not_lt_zero k)⟩, Or.inl ⟨rfl, rfl⟩⟩⟩
  · rcases (show s = 0 ∨ s = 1 ∨ s = 2 ∨ s = 3 by omega) with rfl | rfl | rfl | rfl <;> exact ⟨by decide, by decide, fun k hk => absurd hk (Nat.not_lt_zero k)⟩
  · rcases (show s = 0 ∨ s = 1 ∨ s = 2 ∨ s = 3 by omega) with rfl | rfl | rfl | rfl <;> exact ⟨by decide, by decide, fun k hk => absurd hk (Nat.not_lt_zero k)⟩
theorem ao_in : Cond.arrayOver (.object "SortingNets$Net") ∈ lw_tbl := by decide +kernel
theorem TB_sub {w : Cond} (h : w ∈ TB) : w ∈ lw_tbl := (List.mem_filter.mp h).1
theorem known {s : State} {args : Array Value} (hts : ∀ w ∈ lw_tbl, w.before args s = true) : ∃ (D : va_G) (kA : Nat → ClassId), va_K D classes (tyA kA) s := by
  have ht : ∀ w ∈ TB, w.before args s = true := fun w hw => hts w (TB_sub hw)
  obtain ⟨c0, j0, k0⟩ := u_known (C := R_X) (T := F_X) (N := 15) (n := 15) ht i_X (ht _ ib_X)
  obtain ⟨c1, j1, k1⟩ := u_known (C := R_Net) (T := F_Net) (N := 4) (n := 4) ht i_Net (ht _ ib_Net)
  obtain ⟨c2, j2, k2⟩ := u_known (C := R_Tangle) (T := F_Tangle) (N := 1) (n := 1) ht i_Tangle (ht _ ib_Tangle)
  obtain ⟨c3, j3, k3⟩ := u_known (C := R_Text) (T := F_Text) (N := 2) (n := 2) ht i_Text (ht _ ib_Text)
  obtain ⟨c4, j4, k4⟩ := u_known (C := R_Numbers) (T := F_Numbers) (N := 2) (n := 2) ht i_Numbers (ht _ ib_Numbers)
  obtain ⟨c5, j5, k5⟩ := u_known (C := R_Layers) (T := F_Layers) (N := 4) (n := 4) ht i_Layers (ht _ ib_Layers)
  obtain ⟨c6, j6, k6⟩ := u_known (C := R_Trial) (T := F_Trial) (N := 3) (n := 3) ht i_Trial (ht _ ib_Trial)
  obtain ⟨c7, j7, k7⟩ := u_known (C := R_PatternSet) (T := F_PatternSet) (N := 1) (n := 1) ht i_PatternSet (ht _ ib_PatternSet)
  obtain ⟨c8, j8, k8⟩ := u_known (C := R_Search) (T := F_Search) (N := 10) (n := 10) ht i_Search (ht _ ib_Search)
  obtain ⟨c9, j9, k9⟩ := u_known (C := R_M) (T := F_M) (N := 32) (n := 32) ht i_M (ht _ ib_M)
  obtain ⟨a0, y0, z0, f0, g0, h0⟩ := Cond.arrayClass_spec (ht _ ac_int)
  obtain ⟨a1, y1, z1, f1, g1, h1⟩ := Cond.arrayClass_spec (ht _ ac_long)
  obtain ⟨a2, y2, z2, f2, g2, h2⟩ := Cond.arrayClass_spec (ht _ ac_char)
  obtain ⟨a3, y3, z3, f3, g3, h3⟩ := Cond.arrayClass_spec (ht _ ac_boolean)
  obtain ⟨z4, a4, y4, p4, -, g4, h4, f4⟩ := Cond.arrayOver_spec (hts _ ao_in)
  refine ⟨(fun k => match k with | 0 => c0 | 1 => c1 | 2 => c2 | 3 => c3 | 4 => c4 | 5 => c5 | 6 => c6 | 7 => c7 | 8 => c8 | _ => c9, fun k => match k with | 0 => j0 | 1 => j1 | 2 => j2 | 3 => j3 | 4 => j4 | 5 => j5 | 6 => j6 | 7 => j7 | 8 => j8 | _ => j9), fun k => match k with | 0 => a0 | 1 => a1 | 2 => a2 | 3 => a3 | _ => a4, ?_, ?_⟩
  · intro k q hq
    match k, hq with
    | 0, hq => cases hq; exact k0
    | 1, hq => cases hq; exact k1
    | 2, hq => cases hq; exact k2
    | 3, hq => cases hq; exact k3
    | 4, hq => cases hq; exact k4
    | 5, hq => cases hq; exact k5
    | 6, hq => cases hq; exact k6
    | 7, hq => cases hq; exact k7
    | 8, hq => cases hq; exact k8
    | 9, hq => cases hq; exact k9
    | k + 10, hq => simp [classes] at hq
  · intro k q hq
    match k, hq with
    | 0, hq => cases hq; exact ⟨fun n z => ⟨fun k h => (by cases h), y0, g0, z0, h0⟩, f0⟩
    | 1, hq => cases hq; exact ⟨fun n z => ⟨fun k h => (by cases h), y1, g1, z1, h1⟩, f1⟩
    | 2, hq => cases hq; exact ⟨fun n z => ⟨fun k h => (by cases h), y2, g2, z2, h2⟩, f2⟩
    | 3, hq => cases hq; exact ⟨fun n z => ⟨fun k h => (by cases h), y3, g3, z3, h3⟩, f3⟩
    | 4, hq => cases hq; exact ⟨fun n z => ⟨fun k h => (by cases h), y4, g4, z4, h4⟩, y4, z4, g4, h4, p4, f4⟩
    | k + 5, hq => simp [tyA] at hq
theorem start_Z {s : State} {b : Nat} (hts : ∀ w ∈ lw_tbl, w.before #[Value.ref b] s = true) (hgv : (Jvm.Cond.and given_1 narrow_1).before #[Value.ref b] s = true) : ∃ t : Nat, va_Z "SortingNets" "COLUMNS" "[J" (.ref t) (fun q => s.heap.size ≤ q) s s.heap ∧ va_T .long t 6 (fun j => .long (colf j)) (fun q => s.heap.size ≤ q) s s.heap := by
  have hs := flat_of_before _ hgv
  have hA : ∀ a : Nat, a < s.heap.size → ¬ (fun q : Nat => s.heap.size ≤ q) a := fun a h => Nat.not_le.mpr h
  obtain ⟨t, ht, hT⟩ := va_Tof (tm := .static "SortingNets" "COLUMNS" "[J") (ty := .long) (N := 6) (f := fun j => .long (colf j)) (A := fun q => s.heap.size ≤ q) (by decide) (hs _ (by decide +kernel)) (va_eqt (z := Int32.ofNat 6) (hs _ (by decide +kernel))) (fun j hj => by
    rcases (show j = 0 ∨ j = 1 ∨ j = 2 ∨ j = 3 ∨ j = 4 ∨ j = 5 by omega) with rfl | rfl | rfl | rfl | rfl | rfl
    · exact va_eqtl (z := colf 0) (hs _ (by decide +kernel))
    · exact va_eqtl (z := colf 1) (hs _ (by decide +kernel))
    · exact va_eqtl (z := colf 2) (hs _ (by decide +kernel))
    · exact va_eqtl (z := colf 3) (hs _ (by decide +kernel))
    · exact va_eqtl (z := colf 4) (hs _ (by decide +kernel))
    · exact va_eqtl (z := colf 5) (hs _ (by decide +kernel))) hA
  exact ⟨t, va_Zof (hts _ (by decide +kernel)) (hts _ (by decide +kernel)) ht hA, hT⟩
theorem at0_Bin : ∀ w ∈ at0_B, w ∈ lw_tbl := by decide +kernel
theorem start_T {s : State} {b : Nat} (hts : ∀ w ∈ lw_tbl, w.before #[Value.ref b] s = true) (hgv : (Jvm.Cond.and given_1 narrow_1).before #[Value.ref b] s = true) : ThS (fun q => s.heap.size ≤ q) s := by
  have hs := flat_of_before _ hgv
  have hA : ∀ a : Nat, a < s.heap.size → ¬ (fun q : Nat => s.heap.size ≤ q) a := fun a h => Nat.not_le.mpr h
  exact ⟨fun w hw => va_Nw.of (at0_Bt w hw) (hts w (at0_Bin w hw)), vx_Zqof (hts _ (by decide +kernel)) (hts _ (by decide +kernel)) (hs _ (by decide +kernel)) hA, vx_Zqof (hts _ (by decide +kernel)) (hts _ (by decide +kernel)) (hs _ (by decide +kernel)) hA⟩
theorem nf1_in : nf1 ∈ lw_tbl := by decide +kernel
theorem nf2_in : nf2 ∈ lw_tbl := by decide +kernel
theorem nm1_in : nm1 ∈ lw_tbl := by decide +kernel
theorem nestsX_warm {s U : State} (hW : s.WarmedH U.vm) (h : ∀ w ∈ nestsX, va_Nw w s) : ∀ w ∈ nestsX, va_Nw w U := by
  intro w hw
  have hz := h w hw
  unfold nestsX at hw
  rcases List.mem_cons.mp hw with e | hw
  · subst e; exact va_Nw.warmM hW hz
  rcases List.mem_cons.mp hw with e | hw
  · subst e; exact va_Nw.warmM hW hz
  rcases List.mem_cons.mp hw with e | hw
  · subst e; exact va_Nw.warmM hW hz
  rcases List.mem_cons.mp hw with e | hw
  · subst e; exact va_Nw.warmM hW hz
  rcases List.mem_cons.mp hw with e | hw
  · subst e; exact va_Nw.warmM hW hz
  rcases List.mem_cons.mp hw with e | hw
  · subst e; exact va_Nw.warmM hW hz
  rcases List.mem_cons.mp hw with e | hw
  · subst e; exact va_Nw.warmM hW hz
  rcases List.mem_cons.mp hw with e | hw
  · subst e; exact va_Nw.warmM hW hz
  · cases hw
theorem cl_L_8 : Cond.classLink R_law 8 R_X ∈ TB := (tb_1 (List.mem_of_getElem? (i := 19) rfl) rfl)
theorem cl_L_16 : Cond.classLink R_law 16 R_M ∈ TB := (tb_4 (List.mem_of_getElem? (i := 81) rfl) rfl)
theorem ml_L_15 : Cond.methodLink R_law 15 y_X_init ∈ TB := (tb_1 (List.mem_of_getElem? (i := 21) rfl) rfl)
theorem ml_L_18 : Cond.methodLink R_law 18 y_M_init ∈ TB := (tb_4 (List.mem_of_getElem? (i := 83) rfl) rfl)

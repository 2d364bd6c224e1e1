def f_Sets_isWithin (N : Nat) (x0 : Int64) (x2 : Int64) (x4 : Int32) (μ0 : Mem) : Option (Int32 × Mem) :=
  bnd (f_JLong_bitCount N x0 μ0) fun r1 μ2 => bnd (f_JLong_bitCount N x2 μ2) fun r3 μ4 => if r3 < r1 then (some (0, μ4)) else (bnd (f_Sets_waysWithin N 12 x0 x2 x4 0 1 μ4) fun r6 μ7 => if 0 < r6 then (some (1, μ7)) else (some (0, μ7)))
set_option maxHeartbeats 4000000 in
set_option maxRecDepth 100000 in
theorem g_Sets_isWithin (N d : Nat) (x0 : Int64) (x2 : Int64) (x4 : Int32)  : CallF eI y_Sets_isWithin c_Sets_isWithin 5 (some .boolean) (d + 15 + 1) [.long x0, .long x2, .int x4] (f_Sets_isWithin N x0 x2 x4) := by
  refine call_of (d := d + 15) (n := 3) mi_Sets_isWithin.1 (fun _ => rfl) ?_
  intro Γ μ0 hΓ hT hR
  show Go Γ 5 0 [(0, .long x0), (2, .long x2), (4, .int x4)] [] μ0 (f_Sets_isWithin N x0 x2 x4 μ0)
  unfold f_Sets_isWithin
  refine go_lload_n (q := 0) (i := 0) (pc := 0) hΓ d_Sets_isWithin_0 rfl rfl ?_
  refine go_callS (index := 29) emI hΓ hR (g_JLong_bitCount N (d + 14) x0) mi_JLong_bitCount ml_Sets_29 d_Sets_isWithin_1 rfl rfl rfl (fun r1 μ2 => ?_)
  show Go Γ 5 4 [(0, .long x0), (2, .long x2), (4, .int x4)] [.int r1] μ2 _
  refine go_lload_n (q := 1) (i := 2) (pc := 4) hΓ d_Sets_isWithin_4 rfl rfl ?_
  refine go_callS (index := 29) emI hΓ hR (g_JLong_bitCount N (d + 14) x2) mi_JLong_bitCount ml_Sets_29 d_Sets_isWithin_5 rfl rfl rfl (fun r3 μ4 => ?_)
  show Go Γ 5 8 [(0, .long x0), (2, .long x2), (4, .int x4)] [.int r3, .int r1] μ4 _
  refine go_icmp_gt 27 (pc := 8) hΓ d_Sets_isWithin_8 (by decide) (fun h5 => go_eq (if_pos h5) ?_) (fun h5 => go_eq (if_neg h5) ?_)
  · refine go_iconst (v := 0) (pc := 27) hΓ d_Sets_isWithin_27 (by decide) ?_
    exact go_zret (pc := 28) hΓ hT d_Sets_isWithin_28 rfl
  · refine go_lload_n (q := 0) (i := 0) (pc := 11) hΓ d_Sets_isWithin_11 rfl rfl ?_
    refine go_lload_n (q := 1) (i := 2) (pc := 12) hΓ d_Sets_isWithin_12 rfl rfl ?_
    refine go_iload (q := 2) (pc := 13) hΓ d_Sets_isWithin_13 rfl ?_
    refine go_iconst (v := 0) (pc := 15) hΓ d_Sets_isWithin_15 (by decide) ?_
    refine go_iconst (v := 1) (pc := 16) hΓ d_Sets_isWithin_16 (by decide) ?_
    refine go_callS (index := 25) emI hΓ hR (g_Sets_waysWithin N 12 (d + 1) x0 x2 x4 0 1) mi_Sets_waysWithin ml_Sets_25 d_Sets_isWithin_17 rfl rfl rfl (fun r6 μ7 => ?_)
    show Go Γ 5 20 [(0, .long x0), (2, .long x2), (4, .int x4)] [.int r6] μ7 _
    refine go_if_le 27 (pc := 20) hΓ d_Sets_isWithin_20 (by decide) (fun h8 => go_eq (if_neg h8) ?_) (fun h8 => go_eq (if_pos h8) ?_)
    · refine go_iconst (v := 0) (pc := 27) hΓ d_Sets_isWithin_27 (by decide) ?_
      exact go_zret (pc := 28) hΓ hT d_Sets_isWithin_28 rfl
    · refine go_iconst (v := 1) (pc := 23) hΓ d_Sets_isWithin_23 (by decide) ?_
      refine go_goto 28 (pc := 24) hΓ d_Sets_isWithin_24 (by decide) ?_
      exact go_zret (pc := 28) hΓ hT d_Sets_isWithin_28 rfl
def lp_Search_consider_2 (N : Nat) (x1 : Int64)  (K : Mem → Option (Unit × Mem)) : Nat → Int32 → Mem → Option (Unit × Mem)
  | 0, _, _ => none
  | n + 1, a3, μ0 => if a3 < (gI μ0 38 9) then (ck (inb a3 64) (bnd (f_Sets_isWithin N (gL μ0 43 (tn a3)) x1 (gI μ0 38 5) μ0) fun r3 μ4 => if r3 = 0 then (lt' (a3 + 1) fun v6 => lp_Search_consider_2 N x1 K n v6 μ4) else (some ((), μ4)))) else (K  μ0)
def lp_Search_consider_39 (N : Nat) (x1 : Int64)  (K : Int32 → Mem → Option (Unit × Mem)) : Nat → Int32 → Int32 → Mem → Option (Unit × Mem)
  | 0, _, _, _ => none
  | n + 1, a3, a4, μ0 => if a4 < (gI μ0 38 9) then (ck (inb a4 64) (bnd (f_Sets_isWithin N x1 (gL μ0 43 (tn a4)) (gI μ0 38 5) μ0) fun r10 μ11 => lt' (fun (w13 : Int32) (μ14 : Mem) => lt' (a4 + 1) fun v15 => lp_Search_consider_39 N x1 K n w13 v15 μ14) fun (k12 : Int32 → Mem → Option (Unit × Mem)) => if r10 = 0 then (ck (inb a4 64) (ck (inb a3 64) (lt' (sL μ11 43 (tn a3) (gL μ11 43 (tn a4))) fun μ19 => lt' (a3 + 1) fun v20 => k12 v20 μ19))) else (k12 a3 μ11))) else (K a3 μ0)
def f_Search_consider (N : Nat) (x1 : Int64) (μ0 : Mem) : Option (Unit × Mem) :=
  lp_Search_consider_2 N x1 (fun μ7 => lp_Search_consider_39 N x1 (fun v21 μ22 => lt' (sI μ22 38 9 v21) fun μ23 => if (gI μ23 38 9) < 64 then (ck (inb (gI μ23 38 9) 64) (lt' (sL μ23 43 (tn (gI μ23 38 9)) x1) fun μ26 => lt' (sI μ26 38 9 ((gI μ26 38 9) + 1)) fun μ27 => some ((), μ27))) else (some ((), μ23))) N 0 0 μ7) N 0 μ0
set_option maxHeartbeats 4000000 in
set_option maxRecDepth 100000 in
theorem glp_Search_consider_2 (N d : Nat) {Γ : Cx Unit} (hΓ : Ok Γ "SortingNets$Search" c_Search_consider 5) (hT : Rt Γ eV none) (hR : Rm Γ (d + 16)) (x1 : Int64)    (K : Mem → Option (Unit × Mem)) (hK : ∀  (ν : Mem), Go Γ 5 34 [(0, .ref 38), (1, .long x1)] [] ν (K  ν)) : ∀ (n : Nat) (a3 : Int32) (μ0 : Mem), Go Γ 5 2 [(0, .ref 38), (1, .long x1), (3, .int a3)] [] μ0 (lp_Search_consider_2 N x1 K n a3 μ0) := by
  intro n
  induction n with
  | zero => intro a3 μ0; exact go_none
  | succ n ih =>
    intro a3 μ0
    rw [lp_Search_consider_2]
    refine go_iload_n (q := 2) (i := 3) (pc := 2) hΓ d_Search_consider_2 rfl rfl ?_
    refine go_aload_n (q := 0) (i := 0) (pc := 3) hΓ d_Search_consider_3 rfl rfl ?_
    refine go_getI (pc := 4) hΓ fl_Search_39 d_Search_consider_4 rfl rfl ?_
    refine go_icmp_ge 34 (pc := 7) hΓ d_Search_consider_7 (by decide) (fun h1 => go_eq (if_neg h1) ?_) (fun h1 => go_eq (if_pos h1) ?_)
    · refine go_sub' (lv' := [(0, .ref 38), (1, .long x1)]) rfl ?_
      exact hK  μ0
    · refine go_aload_n (q := 0) (i := 0) (pc := 10) hΓ d_Search_consider_10 rfl rfl ?_
      refine go_getR (q := 43) (pc := 11) hΓ fl_Search_23 d_Search_consider_11 rfl rfl ?_
      refine go_iload_n (q := 2) (i := 3) (pc := 14) hΓ d_Search_consider_14 rfl rfl ?_
      refine go_ck (fun h2 => ?_)
      refine go_lald (pc := 15) hΓ d_Search_consider_15 rfl h2 ?_
      refine go_lload_n (q := 1) (i := 1) (pc := 16) hΓ d_Search_consider_16 rfl rfl ?_
      refine go_aload_n (q := 0) (i := 0) (pc := 17) hΓ d_Search_consider_17 rfl rfl ?_
      refine go_getI (pc := 18) hΓ fl_Search_26 d_Search_consider_18 rfl rfl ?_
      refine go_callS (index := 97) emI hΓ hR (g_Sets_isWithin N (d + 0) (gL μ0 43 (tn a3)) x1 (gI μ0 38 5)) mi_Sets_isWithin ml_Search_97 d_Search_consider_21 rfl rfl rfl (fun r3 μ4 => ?_)
      show Go Γ 5 24 [(0, .ref 38), (1, .long x1), (3, .int a3)] [.int r3] μ4 _
      refine go_if_eq 28 (pc := 24) hΓ d_Search_consider_24 (by decide) (fun h5 => go_eq (if_pos h5) ?_) (fun h5 => go_eq (if_neg h5) ?_)
      · refine go_incI (q := 2) (i := 3) (n := 1) (c := 1) (pc := 28) hΓ d_Search_consider_28 rfl (by decide) (by decide) (fun v6 => ?_)
        refine go_sub' (lv' := [(3, .int v6), (0, .ref 38), (1, .long x1)]) rfl ?_
        refine go_goto 2 (pc := 31) hΓ d_Search_consider_31 (by decide) ?_
        refine go_sub' (lv' := [(0, .ref 38), (1, .long x1), (3, .int v6)]) rfl ?_
        exact ih v6 μ4
      · exact go_vret (pc := 27) hΓ hT d_Search_consider_27
set_option maxHeartbeats 4000000 in
set_option maxRecDepth 100000 in
theorem glp_Search_consider_39 (N d : Nat) {Γ : Cx Unit} (hΓ : Ok Γ "SortingNets$Search" c_Search_consider 5) (hT : Rt Γ eV none) (hR : Rm Γ (d + 16)) (x1 : Int64)    (K : Int32 → Mem → Option (Unit × Mem)) (hK : ∀ (b3 : Int32) (ν : Mem), Go Γ 5 88 [(0, .ref 38), (1, .long x1), (3, .int b3)] [] ν (K b3 ν)) : ∀ (n : Nat) (a3 : Int32) (a4 : Int32) (μ0 : Mem), Go Γ 5 39 [(0, .ref 38), (1, .long x1), (3, .int a3), (4, .int a4)] [] μ0 (lp_Search_consider_39 N x1 K n a3 a4 μ0) := by
  intro n
  induction n with
  | zero => intro a3 a4 μ0; exact go_none
  | succ n ih =>
    intro a3 a4 μ0
    rw [lp_Search_consider_39]
    refine go_iload (q := 3) (pc := 39) hΓ d_Search_consider_39 rfl ?_
    refine go_aload_n (q := 0) (i := 0) (pc := 41) hΓ d_Search_consider_41 rfl rfl ?_
    refine go_getI (pc := 42) hΓ fl_Search_39 d_Search_consider_42 rfl rfl ?_
    refine go_icmp_ge 88 (pc := 45) hΓ d_Search_consider_45 (by decide) (fun h8 => go_eq (if_neg h8) ?_) (fun h8 => go_eq (if_pos h8) ?_)
    · refine go_sub' (lv' := [(0, .ref 38), (1, .long x1), (3, .int a3)]) rfl ?_
      exact hK a3 μ0
    · refine go_lload_n (q := 1) (i := 1) (pc := 48) hΓ d_Search_consider_48 rfl rfl ?_
      refine go_aload_n (q := 0) (i := 0) (pc := 49) hΓ d_Search_consider_49 rfl rfl ?_
      refine go_getR (q := 43) (pc := 50) hΓ fl_Search_23 d_Search_consider_50 rfl rfl ?_
      refine go_iload (q := 3) (pc := 53) hΓ d_Search_consider_53 rfl ?_
      refine go_ck (fun h9 => ?_)
      refine go_lald (pc := 55) hΓ d_Search_consider_55 rfl h9 ?_
      refine go_aload_n (q := 0) (i := 0) (pc := 56) hΓ d_Search_consider_56 rfl rfl ?_
      refine go_getI (pc := 57) hΓ fl_Search_26 d_Search_consider_57 rfl rfl ?_
      refine go_callS (index := 97) emI hΓ hR (g_Sets_isWithin N (d + 0) x1 (gL μ0 43 (tn a4)) (gI μ0 38 5)) mi_Sets_isWithin ml_Search_97 d_Search_consider_60 rfl rfl rfl (fun r10 μ11 => ?_)
      show Go Γ 5 63 [(0, .ref 38), (1, .long x1), (3, .int a3), (4, .int a4)] [.int r10] μ11 _
      refine go_join (fun (k12 : Int32 → Mem → Option (Unit × Mem)) => ∀ (w13 : Int32) (μ14 : Mem), Go Γ 5 82 [(0, .ref 38), (1, .long x1), (3, .int w13), (4, .int a4)] [] μ14 (k12 w13 μ14)) ?_ (fun k12 k12h => ?_)
      · intro w13 μ14
        refine go_incI (q := 3) (i := 4) (n := 1) (c := 1) (pc := 82) hΓ d_Search_consider_82 rfl (by decide) (by decide) (fun v15 => ?_)
        refine go_sub' (lv' := [(4, .int v15), (0, .ref 38), (1, .long x1), (3, .int w13)]) rfl ?_
        refine go_goto 39 (pc := 85) hΓ d_Search_consider_85 (by decide) ?_
        refine go_sub' (lv' := [(0, .ref 38), (1, .long x1), (3, .int w13), (4, .int v15)]) rfl ?_
        exact ih w13 v15 μ14
      · refine go_if_ne 82 (pc := 63) hΓ d_Search_consider_63 (by decide) (fun h16 => go_eq (if_neg h16) ?_) (fun h16 => go_eq (if_pos h16) ?_)
        · refine go_sub' (lv' := [(0, .ref 38), (1, .long x1), (3, .int a3), (4, .int a4)]) rfl ?_
          exact k12h a3 μ11
        · refine go_aload_n (q := 0) (i := 0) (pc := 66) hΓ d_Search_consider_66 rfl rfl ?_
          refine go_getR (q := 43) (pc := 67) hΓ fl_Search_23 d_Search_consider_67 rfl rfl ?_
          refine go_iload_n (q := 2) (i := 3) (pc := 70) hΓ d_Search_consider_70 rfl rfl ?_
          refine go_aload_n (q := 0) (i := 0) (pc := 71) hΓ d_Search_consider_71 rfl rfl ?_
          refine go_getR (q := 43) (pc := 72) hΓ fl_Search_23 d_Search_consider_72 rfl rfl ?_
          refine go_iload (q := 3) (pc := 75) hΓ d_Search_consider_75 rfl ?_
          refine go_ck (fun h17 => ?_)
          refine go_lald (pc := 77) hΓ d_Search_consider_77 rfl h17 ?_
          refine go_ck (fun h18 => ?_)
          refine go_last (pc := 78) hΓ d_Search_consider_78 rfl h18 ?_
          refine go_letM (fun μ19 => ?_)
          refine go_incI (q := 2) (i := 3) (n := 1) (c := 1) (pc := 79) hΓ d_Search_consider_79 rfl (by decide) (by decide) (fun v20 => ?_)
          refine go_sub' (lv' := [(3, .int v20), (0, .ref 38), (1, .long x1), (4, .int a4)]) rfl ?_
          refine go_sub' (lv' := [(0, .ref 38), (1, .long x1), (3, .int v20), (4, .int a4)]) rfl ?_
          exact k12h v20 μ19
set_option maxHeartbeats 4000000 in
set_option maxRecDepth 100000 in
theorem g_Search_consider (N d : Nat) (x1 : Int64)  : CallF eV y_Search_consider c_Search_consider 5 none (d + 16 + 1) [.ref 38, .long x1] (f_Search_consider N x1) := by
  refine call_of (d := d + 16) (n := 1) mi_Search_consider.1 (fun _ => rfl) ?_
  intro Γ μ0 hΓ hT hR
  show Go Γ 5 0 [(0, .ref 38), (1, .long x1)] [] μ0 (f_Search_consider N x1 μ0)
  unfold f_Search_consider
  refine go_iconst (v := 0) (pc := 0) hΓ d_Search_consider_0 (by decide) ?_
  refine go_istore_n (i := 3) (lv' := [(3, .int 0), (0, .ref 38), (1, .long x1)]) (pc := 1) hΓ d_Search_consider_1 rfl (by decide) rfl ?_
  refine go_sub' (lv' := [(0, .ref 38), (1, .long x1), (3, .int 0)]) rfl ?_
  refine glp_Search_consider_2 N d hΓ hT hR x1 _ (fun μ7 => ?_) N 0 μ0
  refine go_iconst (v := 0) (pc := 34) hΓ d_Search_consider_34 (by decide) ?_
  refine go_istore_n (i := 3) (lv' := [(3, .int 0), (0, .ref 38), (1, .long x1)]) (pc := 35) hΓ d_Search_consider_35 rfl (by decide) rfl ?_
  refine go_iconst (v := 0) (pc := 36) hΓ d_Search_consider_36 (by decide) ?_
  refine go_istore (lv' := [(4, .int 0), (3, .int 0), (0, .ref 38), (1, .long x1)]) (pc := 37) hΓ d_Search_consider_37 (by decide) rfl ?_
  refine go_sub' (lv' := [(0, .ref 38), (1, .long x1), (3, .int 0), (4, .int 0)]) rfl ?_
  refine glp_Search_consider_39 N d hΓ hT hR x1 _ (fun v21 μ22 => ?_) N 0 0 μ7
  refine go_aload_n (q := 0) (i := 0) (pc := 88) hΓ d_Search_consider_88 rfl rfl ?_
  refine go_iload_n (q := 2) (i := 3) (pc := 89) hΓ d_Search_consider_89 rfl rfl ?_
  refine go_putI (pc := 90) hΓ fp_Search_39 d_Search_consider_90 rfl rfl ?_
  refine go_letM (fun μ23 => ?_)
  refine go_aload_n (q := 0) (i := 0) (pc := 93) hΓ d_Search_consider_93 rfl rfl ?_
  refine go_getI (pc := 94) hΓ fl_Search_39 d_Search_consider_94 rfl rfl ?_
  refine go_bipush (v := 64) (pc := 97) hΓ d_Search_consider_97 (by decide) ?_
  refine go_icmp_ge 122 (pc := 99) hΓ d_Search_consider_99 (by decide) (fun h24 => go_eq (if_neg h24) ?_) (fun h24 => go_eq (if_pos h24) ?_)
  · exact go_vret (pc := 122) hΓ hT d_Search_consider_122
  · refine go_aload_n (q := 0) (i := 0) (pc := 102) hΓ d_Search_consider_102 rfl rfl ?_
    refine go_getR (q := 43) (pc := 103) hΓ fl_Search_23 d_Search_consider_103 rfl rfl ?_
    refine go_aload_n (q := 0) (i := 0) (pc := 106) hΓ d_Search_consider_106 rfl rfl ?_
    refine go_getI (pc := 107) hΓ fl_Search_39 d_Search_consider_107 rfl rfl ?_
    refine go_lload_n (q := 1) (i := 1) (pc := 110) hΓ d_Search_consider_110 rfl rfl ?_
    refine go_ck (fun h25 => ?_)
    refine go_last (pc := 111) hΓ d_Search_consider_111 rfl h25 ?_
    refine go_letM (fun μ26 => ?_)
    refine go_aload_n (q := 0) (i := 0) (pc := 112) hΓ d_Search_consider_112 rfl rfl ?_
    refine go_dup (pc := 113) hΓ d_Search_consider_113 rfl ?_
    refine go_getI (pc := 114) hΓ fl_Search_39 d_Search_consider_114 rfl rfl ?_
    refine go_iconst (v := 1) (pc := 117) hΓ d_Search_consider_117 (by decide) ?_
    refine go_iadd (pc := 118) hΓ d_Search_consider_118 ?_
    refine go_putI (pc := 119) hΓ fp_Search_39 d_Search_consider_119 rfl rfl ?_
    refine go_letM (fun μ27 => ?_)
    exact go_vret (pc := 122) hΓ hT d_Search_consider_122
def lp_Search_makeStep_17 (N : Nat) (x1 : Int32)  (K : Mem → Option (Unit × Mem)) : Nat → Int32 → Mem → Option (Unit × Mem)
  | 0, _, _ => none
  | n + 1, a2, μ0 => if a2 < (gI μ0 38 7) then (ck (inb x1 64) (ck (inb a2 26) (bnd (f_Search_moved N (gL μ0 42 (tn x1)) (gI μ0 41 (tn a2)) μ0) fun r6 μ7 => bnd (f_Search_consider N r6 μ7) fun _ μ9 => lt' (a2 + 1) fun v10 => lp_Search_makeStep_17 N x1 K n v10 μ9))) else (K  μ0)
def lp_Search_makeStep_7 (N : Nat)   (K : Mem → Option (Unit × Mem)) : Nat → Int32 → Mem → Option (Unit × Mem)
  | 0, _, _ => none
  | n + 1, a1, μ0 => if a1 < (gI μ0 38 8) then (lp_Search_makeStep_17 N a1 (fun μ11 => lt' (a1 + 1) fun v12 => lp_Search_makeStep_7 N K n v12 μ11) N 0 μ0) else (K  μ0)
def lp_Search_makeStep_59 (N : Nat)   (K : Mem → Option (Unit × Mem)) : Nat → Int32 → Mem → Option (Unit × Mem)
  | 0, _, _ => none
  | n + 1, a1, μ0 => if a1 < (gI μ0 38 9) then (ck (inb a1 64) (ck (inb a1 64) (lt' (sL μ0 42 (tn a1) (gL μ0 43 (tn a1))) fun μ17 => lt' (a1 + 1) fun v18 => lp_Search_makeStep_59 N K n v18 μ17))) else (K  μ0)
def f_Search_makeStep (N : Nat)  (μ0 : Mem) : Option (Unit × Mem) :=
  lt' (sI μ0 38 9 0) fun μ1 => lp_Search_makeStep_7 N  (fun μ13 => lp_Search_makeStep_59 N  (fun μ19 => lt' (sI μ19 38 8 (gI μ19 38 9)) fun μ20 => some ((), μ20)) N 0 μ13) N 0 μ1
set_option maxHeartbeats 4000000 in
set_option maxRecDepth 100000 in
theorem glp_Search_makeStep_17 (N d : Nat) {Γ : Cx Unit} (hΓ : Ok Γ "SortingNets$Search" c_Search_makeStep 3) (hT : Rt Γ eV none) (hR : Rm Γ (d + 17)) (x1 : Int32)    (K : Mem → Option (Unit × Mem)) (hK : ∀  (ν : Mem), Go Γ 3 51 [(0, .ref 38), (1, .int x1)] [] ν (K  ν)) : ∀ (n : Nat) (a2 : Int32) (μ0 : Mem), Go Γ 3 17 [(0, .ref 38), (1, .int x1), (2, .int a2)] [] μ0 (lp_Search_makeStep_17 N x1 K n a2 μ0) := by
  intro n
  induction n with
  | zero => intro a2 μ0; exact go_none
  | succ n ih =>
    intro a2 μ0
    rw [lp_Search_makeStep_17]
    refine go_iload_n (q := 2) (i := 2) (pc := 17) hΓ d_Search_makeStep_17 rfl rfl ?_
    refine go_aload_n (q := 0) (i := 0) (pc := 18) hΓ d_Search_makeStep_18 rfl rfl ?_
    refine go_getI (pc := 19) hΓ fl_Search_33 d_Search_makeStep_19 rfl rfl ?_
    refine go_icmp_ge 51 (pc := 22) hΓ d_Search_makeStep_22 (by decide) (fun h3 => go_eq (if_neg h3) ?_) (fun h3 => go_eq (if_pos h3) ?_)
    · refine go_sub' (lv' := [(0, .ref 38), (1, .int x1)]) rfl ?_
      exact hK  μ0
    · refine go_aload_n (q := 0) (i := 0) (pc := 25) hΓ d_Search_makeStep_25 rfl rfl ?_
      refine go_aload_n (q := 0) (i := 0) (pc := 26) hΓ d_Search_makeStep_26 rfl rfl ?_
      refine go_aload_n (q := 0) (i := 0) (pc := 27) hΓ d_Search_makeStep_27 rfl rfl ?_
      refine go_getR (q := 42) (pc := 28) hΓ fl_Search_19 d_Search_makeStep_28 rfl rfl ?_
      refine go_iload_n (q := 1) (i := 1) (pc := 31) hΓ d_Search_makeStep_31 rfl rfl ?_
      refine go_ck (fun h4 => ?_)
      refine go_lald (pc := 32) hΓ d_Search_makeStep_32 rfl h4 ?_
      refine go_aload_n (q := 0) (i := 0) (pc := 33) hΓ d_Search_makeStep_33 rfl rfl ?_
      refine go_getR (q := 41) (pc := 34) hΓ fl_Search_16 d_Search_makeStep_34 rfl rfl ?_
      refine go_iload_n (q := 2) (i := 2) (pc := 37) hΓ d_Search_makeStep_37 rfl rfl ?_
      refine go_ck (fun h5 => ?_)
      refine go_iald (pc := 38) hΓ d_Search_makeStep_38 rfl h5 ?_
      refine go_callV (index := 86) emL hΓ hR (g_Search_moved N (d + 15) (gL μ0 42 (tn x1)) (gI μ0 41 (tn a2))) mi_Search_moved ml_Search_86 d_Search_makeStep_39 rfl rfl rfl rfl rfl (fun r6 μ7 => ?_)
      show Go Γ 3 42 [(0, .ref 38), (1, .int x1), (2, .int a2)] [.long r6, .ref 38] μ7 _
      refine go_callV (index := 90) emV hΓ hR (g_Search_consider N (d + 0) r6) mi_Search_consider ml_Search_90 d_Search_makeStep_42 rfl rfl rfl rfl rfl (fun _ μ9 => ?_)
      show Go Γ 3 45 [(0, .ref 38), (1, .int x1), (2, .int a2)] [] μ9 _
      refine go_incI (q := 2) (i := 2) (n := 1) (c := 1) (pc := 45) hΓ d_Search_makeStep_45 rfl (by decide) (by decide) (fun v10 => ?_)
      refine go_sub' (lv' := [(2, .int v10), (0, .ref 38), (1, .int x1)]) rfl ?_
      refine go_goto 17 (pc := 48) hΓ d_Search_makeStep_48 (by decide) ?_
      refine go_sub' (lv' := [(0, .ref 38), (1, .int x1), (2, .int v10)]) rfl ?_
      exact ih v10 μ9
set_option maxHeartbeats 4000000 in
set_option maxRecDepth 100000 in
theorem glp_Search_makeStep_7 (N d : Nat) {Γ : Cx Unit} (hΓ : Ok Γ "SortingNets$Search" c_Search_makeStep 3) (hT : Rt Γ eV none) (hR : Rm Γ (d + 17))     (K : Mem → Option (Unit × Mem)) (hK : ∀  (ν : Mem), Go Γ 3 57 [(0, .ref 38)] [] ν (K  ν)) : ∀ (n : Nat) (a1 : Int32) (μ0 : Mem), Go Γ 3 7 [(0, .ref 38), (1, .int a1)] [] μ0 (lp_Search_makeStep_7 N K n a1 μ0) := by
  intro n
  induction n with
  | zero => intro a1 μ0; exact go_none
  | succ n ih =>
    intro a1 μ0
    rw [lp_Search_makeStep_7]
    refine go_iload_n (q := 1) (i := 1) (pc := 7) hΓ d_Search_makeStep_7 rfl rfl ?_
    refine go_aload_n (q := 0) (i := 0) (pc := 8) hΓ d_Search_makeStep_8 rfl rfl ?_
    refine go_getI (pc := 9) hΓ fl_Search_36 d_Search_makeStep_9 rfl rfl ?_
    refine go_icmp_ge 57 (pc := 12) hΓ d_Search_makeStep_12 (by decide) (fun h2 => go_eq (if_neg h2) ?_) (fun h2 => go_eq (if_pos h2) ?_)
    · refine go_sub' (lv' := [(0, .ref 38)]) rfl ?_
      exact hK  μ0
    · refine go_iconst (v := 0) (pc := 15) hΓ d_Search_makeStep_15 (by decide) ?_
      refine go_istore_n (i := 2) (lv' := [(2, .int 0), (0, .ref 38), (1, .int a1)]) (pc := 16) hΓ d_Search_makeStep_16 rfl (by decide) rfl ?_
      refine go_sub' (lv' := [(0, .ref 38), (1, .int a1), (2, .int 0)]) rfl ?_
      refine glp_Search_makeStep_17 N d hΓ hT hR a1 _ (fun μ11 => ?_) N 0 μ0
      refine go_incI (q := 1) (i := 1) (n := 1) (c := 1) (pc := 51) hΓ d_Search_makeStep_51 rfl (by decide) (by decide) (fun v12 => ?_)
      refine go_sub' (lv' := [(1, .int v12), (0, .ref 38)]) rfl ?_
      refine go_goto 7 (pc := 54) hΓ d_Search_makeStep_54 (by decide) ?_
      refine go_sub' (lv' := [(0, .ref 38), (1, .int v12)]) rfl ?_
      exact ih v12 μ11
set_option maxHeartbeats 4000000 in
set_option maxRecDepth 100000 in
theorem glp_Search_makeStep_59 (N d : Nat) {Γ : Cx Unit} (hΓ : Ok Γ "SortingNets$Search" c_Search_makeStep 3) (hT : Rt Γ eV none) (hR : Rm Γ (d + 17))     (K : Mem → Option (Unit × Mem)) (hK : ∀  (ν : Mem), Go Γ 3 85 [(0, .ref 38)] [] ν (K  ν)) : ∀ (n : Nat) (a1 : Int32) (μ0 : Mem), Go Γ 3 59 [(0, .ref 38), (1, .int a1)] [] μ0 (lp_Search_makeStep_59 N K n a1 μ0) := by
  intro n
  induction n with
  | zero => intro a1 μ0; exact go_none
  | succ n ih =>
    intro a1 μ0
    rw [lp_Search_makeStep_59]
    refine go_iload_n (q := 1) (i := 1) (pc := 59) hΓ d_Search_makeStep_59 rfl rfl ?_
    refine go_aload_n (q := 0) (i := 0) (pc := 60) hΓ d_Search_makeStep_60 rfl rfl ?_
    refine go_getI (pc := 61) hΓ fl_Search_39 d_Search_makeStep_61 rfl rfl ?_
    refine go_icmp_ge 85 (pc := 64) hΓ d_Search_makeStep_64 (by decide) (fun h14 => go_eq (if_neg h14) ?_) (fun h14 => go_eq (if_pos h14) ?_)
    · refine go_sub' (lv' := [(0, .ref 38)]) rfl ?_
      exact hK  μ0
    · refine go_aload_n (q := 0) (i := 0) (pc := 67) hΓ d_Search_makeStep_67 rfl rfl ?_
      refine go_getR (q := 42) (pc := 68) hΓ fl_Search_19 d_Search_makeStep_68 rfl rfl ?_
      refine go_iload_n (q := 1) (i := 1) (pc := 71) hΓ d_Search_makeStep_71 rfl rfl ?_
      refine go_aload_n (q := 0) (i := 0) (pc := 72) hΓ d_Search_makeStep_72 rfl rfl ?_
      refine go_getR (q := 43) (pc := 73) hΓ fl_Search_23 d_Search_makeStep_73 rfl rfl ?_
      refine go_iload_n (q := 1) (i := 1) (pc := 76) hΓ d_Search_makeStep_76 rfl rfl ?_
      refine go_ck (fun h15 => ?_)
      refine go_lald (pc := 77) hΓ d_Search_makeStep_77 rfl h15 ?_
      refine go_ck (fun h16 => ?_)
      refine go_last (pc := 78) hΓ d_Search_makeStep_78 rfl h16 ?_
      refine go_letM (fun μ17 => ?_)
      refine go_incI (q := 1) (i := 1) (n := 1) (c := 1) (pc := 79) hΓ d_Search_makeStep_79 rfl (by decide) (by decide) (fun v18 => ?_)
      refine go_sub' (lv' := [(1, .int v18), (0, .ref 38)]) rfl ?_
      refine go_goto 59 (pc := 82) hΓ d_Search_makeStep_82 (by decide) ?_
      refine go_sub' (lv' := [(0, .ref 38), (1, .int v18)]) rfl ?_
      exact ih v18 μ17
set_option maxHeartbeats 4000000 in
set_option maxRecDepth 100000 in
theorem g_Search_makeStep (N d : Nat)   : CallF eV y_Search_makeStep c_Search_makeStep 3 none (d + 17 + 1) [.ref 38] (f_Search_makeStep N ) := by
  refine call_of (d := d + 17) (n := 0) mi_Search_makeStep.1 (fun _ => rfl) ?_
  intro Γ μ0 hΓ hT hR
  show Go Γ 3 0 [(0, .ref 38)] [] μ0 (f_Search_makeStep N  μ0)
  unfold f_Search_makeStep
  refine go_aload_n (q := 0) (i := 0) (pc := 0) hΓ d_Search_makeStep_0 rfl rfl ?_
  refine go_iconst (v := 0) (pc := 1) hΓ d_Search_makeStep_1 (by decide) ?_
  refine go_putI (pc := 2) hΓ fp_Search_39 d_Search_makeStep_2 rfl rfl ?_
  refine go_letM (fun μ1 => ?_)
  refine go_iconst (v := 0) (pc := 5) hΓ d_Search_makeStep_5 (by decide) ?_
  refine go_istore_n (i := 1) (lv' := [(1, .int 0), (0, .ref 38)]) (pc := 6) hΓ d_Search_makeStep_6 rfl (by decide) rfl ?_
  refine go_sub' (lv' := [(0, .ref 38), (1, .int 0)]) rfl ?_
  refine glp_Search_makeStep_7 N d hΓ hT hR  _ (fun μ13 => ?_) N 0 μ1
  refine go_iconst (v := 0) (pc := 57) hΓ d_Search_makeStep_57 (by decide) ?_
  refine go_istore_n (i := 1) (lv' := [(1, .int 0), (0, .ref 38)]) (pc := 58) hΓ d_Search_makeStep_58 rfl (by decide) rfl ?_
  refine go_sub' (lv' := [(0, .ref 38), (1, .int 0)]) rfl ?_
  refine glp_Search_makeStep_59 N d hΓ hT hR  _ (fun μ19 => ?_) N 0 μ13
  refine go_aload_n (q := 0) (i := 0) (pc := 85) hΓ d_Search_makeStep_85 rfl rfl ?_
  refine go_aload_n (q := 0) (i := 0) (pc := 86) hΓ d_Search_makeStep_86 rfl rfl ?_
  refine go_getI (pc := 87) hΓ fl_Search_39 d_Search_makeStep_87 rfl rfl ?_
  refine go_putI (pc := 90) hΓ fp_Search_36 d_Search_makeStep_90 rfl rfl ?_
  refine go_letM (fun μ20 => ?_)
  exact go_vret (pc := 93) hΓ hT d_Search_makeStep_93
def lp_Search_tellSteps_36 (N : Nat)   (K : Int32 → Mem → Option (Int32 × Mem)) : Nat → Int32 → Mem → Option (Int32 × Mem)
  | 0, _, _ => none
  | n + 1, a4, μ0 => bnd (f_Search_isOver N  μ0) fun r13 μ14 => if r13 = 0 then (if a4 < 16 then (bnd (f_Search_makeStep N  μ14) fun _ μ18 => bnd (f_Numbers_append N (Int32.toInt64 (gI μ18 38 8)) μ18) fun _ μ20 => lt' (a4 + 1) fun v21 => lp_Search_tellSteps_36 N K n v21 μ20) else (K a4 μ14)) else (K a4 μ14)
def f_Search_tellSteps (N : Nat) (x1 : Int32) (x2 : Int32) (μ0 : Mem) : Option (Int32 × Mem) :=
  lt' (sI μ0 38 5 x1) fun μ1 => bnd (f_Search_listPairs N  μ1) fun _ μ3 => bnd (f_Search_listMoves N x2 μ3) fun _ μ5 => bnd (f_Sets_all N x1 μ5) fun r6 μ7 => ck (inb 0 64) (lt' (sL μ7 42 (tn 0) r6) fun μ9 => lt' (sI μ9 38 8 1) fun μ10 => bnd (f_Numbers_clear N  μ10) fun _ μ12 => lp_Search_tellSteps_36 N  (fun v22 μ23 => some (v22, μ23)) N 0 μ12)
set_option maxHeartbeats 4000000 in
set_option maxRecDepth 100000 in
theorem glp_Search_tellSteps_36 (N d : Nat) {Γ : Cx Int32} (hΓ : Ok Γ "SortingNets$Search" c_Search_tellSteps 5) (hT : Rt Γ eI (some .int)) (hR : Rm Γ (d + 18))     (K : Int32 → Mem → Option (Int32 × Mem)) (hK : ∀ (b4 : Int32) (ν : Mem), Go Γ 5 69 [(4, .int b4)] [] ν (K b4 ν)) : ∀ (n : Nat) (a4 : Int32) (μ0 : Mem), Go Γ 5 36 [(0, .ref 38), (3, .ref 16), (4, .int a4)] [] μ0 (lp_Search_tellSteps_36 N K n a4 μ0) := by
  intro n
  induction n with
  | zero => intro a4 μ0; exact go_none
  | succ n ih =>
    intro a4 μ0
    rw [lp_Search_tellSteps_36]
    refine go_aload_n (q := 0) (i := 0) (pc := 36) hΓ d_Search_tellSteps_36 rfl rfl ?_
    refine go_callV (index := 60) emI hΓ hR (g_Search_isOver N (d + 16) ) mi_Search_isOver ml_Search_60 d_Search_tellSteps_37 rfl rfl rfl rfl rfl (fun r13 μ14 => ?_)
    show Go Γ 5 40 [(0, .ref 38), (3, .ref 16), (4, .int a4)] [.int r13] μ14 _
    refine go_if_ne 69 (pc := 40) hΓ d_Search_tellSteps_40 (by decide) (fun h15 => go_eq (if_neg h15) ?_) (fun h15 => go_eq (if_pos h15) ?_)
    · refine go_sub' (lv' := [(4, .int a4)]) rfl ?_
      exact hK a4 μ14
    · refine go_iload (q := 2) (pc := 43) hΓ d_Search_tellSteps_43 rfl ?_
      refine go_bipush (v := 16) (pc := 45) hΓ d_Search_tellSteps_45 (by decide) ?_
      refine go_icmp_ge 69 (pc := 47) hΓ d_Search_tellSteps_47 (by decide) (fun h16 => go_eq (if_neg h16) ?_) (fun h16 => go_eq (if_pos h16) ?_)
      · refine go_sub' (lv' := [(4, .int a4)]) rfl ?_
        exact hK a4 μ14
      · refine go_aload_n (q := 0) (i := 0) (pc := 50) hΓ d_Search_tellSteps_50 rfl rfl ?_
        refine go_callV (index := 64) emV hΓ hR (g_Search_makeStep N (d + 0) ) mi_Search_makeStep ml_Search_64 d_Search_tellSteps_51 rfl rfl rfl rfl rfl (fun _ μ18 => ?_)
        show Go Γ 5 54 [(0, .ref 38), (3, .ref 16), (4, .int a4)] [] μ18 _
        refine go_aload_n (q := 1) (i := 3) (pc := 54) hΓ d_Search_tellSteps_54 rfl rfl ?_
        refine go_aload_n (q := 0) (i := 0) (pc := 55) hΓ d_Search_tellSteps_55 rfl rfl ?_
        refine go_getI (pc := 56) hΓ fl_Search_36 d_Search_tellSteps_56 rfl rfl ?_
        refine go_i2l (pc := 59) hΓ d_Search_tellSteps_59 ?_
        refine go_callV (index := 67) emV hΓ hR (g_Numbers_append N (d + 17) (Int32.toInt64 (gI μ18 38 8))) mi_Numbers_append ml_Search_67 d_Search_tellSteps_60 rfl rfl rfl rfl rfl (fun _ μ20 => ?_)
        show Go Γ 5 63 [(0, .ref 38), (3, .ref 16), (4, .int a4)] [] μ20 _
        refine go_incI (q := 2) (i := 4) (n := 1) (c := 1) (pc := 63) hΓ d_Search_tellSteps_63 rfl (by decide) (by decide) (fun v21 => ?_)
        refine go_sub' (lv' := [(4, .int v21), (0, .ref 38), (3, .ref 16)]) rfl ?_
        refine go_goto 36 (pc := 66) hΓ d_Search_tellSteps_66 (by decide) ?_
        refine go_sub' (lv' := [(0, .ref 38), (3, .ref 16), (4, .int v21)]) rfl ?_
        exact ih v21 μ20
set_option maxHeartbeats 4000000 in
set_option maxRecDepth 100000 in
theorem g_Search_tellSteps (N d : Nat) (x1 : Int32) (x2 : Int32)  : CallF eI y_Search_tellSteps c_Search_tellSteps 5 (some .int) (d + 18 + 1) [.ref 38, .int x1, .int x2, .ref 16] (f_Search_tellSteps N x1 x2) := by
  refine call_of (d := d + 18) (n := 3) mi_Search_tellSteps.1 (fun _ => rfl) ?_
  intro Γ μ0 hΓ hT hR
  show Go Γ 5 0 [(0, .ref 38), (1, .int x1), (2, .int x2), (3, .ref 16)] [] μ0 (f_Search_tellSteps N x1 x2 μ0)
  unfold f_Search_tellSteps
  refine go_aload_n (q := 0) (i := 0) (pc := 0) hΓ d_Search_tellSteps_0 rfl rfl ?_
  refine go_iload_n (q := 1) (i := 1) (pc := 1) hΓ d_Search_tellSteps_1 rfl rfl ?_
  refine go_putI (pc := 2) hΓ fp_Search_26 d_Search_tellSteps_2 rfl rfl ?_
  refine go_letM (fun μ1 => ?_)
  refine go_aload_n (q := 0) (i := 0) (pc := 5) hΓ d_Search_tellSteps_5 rfl rfl ?_
  refine go_callV (index := 42) emV hΓ hR (g_Search_listPairs N (d + 17) ) mi_Search_listPairs ml_Search_42 d_Search_tellSteps_6 rfl rfl rfl rfl rfl (fun _ μ3 => ?_)
  show Go Γ 5 9 [(0, .ref 38), (1, .int x1), (2, .int x2), (3, .ref 16)] [] μ3 _
  refine go_aload_n (q := 0) (i := 0) (pc := 9) hΓ d_Search_tellSteps_9 rfl rfl ?_
  refine go_iload_n (q := 2) (i := 2) (pc := 10) hΓ d_Search_tellSteps_10 rfl rfl ?_
  refine go_callV (index := 45) emV hΓ hR (g_Search_listMoves N (d + 16) x2) mi_Search_listMoves ml_Search_45 d_Search_tellSteps_11 rfl rfl rfl rfl rfl (fun _ μ5 => ?_)
  show Go Γ 5 14 [(0, .ref 38), (1, .int x1), (2, .int x2), (3, .ref 16)] [] μ5 _
  refine go_aload_n (q := 0) (i := 0) (pc := 14) hΓ d_Search_tellSteps_14 rfl rfl ?_
  refine go_getR (q := 42) (pc := 15) hΓ fl_Search_19 d_Search_tellSteps_15 rfl rfl ?_
  refine go_iconst (v := 0) (pc := 18) hΓ d_Search_tellSteps_18 (by decide) ?_
  refine go_iload_n (q := 1) (i := 1) (pc := 19) hΓ d_Search_tellSteps_19 rfl rfl ?_
  refine go_callS (index := 49) emL hΓ hR (g_Sets_all N (d + 17) x1) mi_Sets_all ml_Search_49 d_Search_tellSteps_20 rfl rfl rfl (fun r6 μ7 => ?_)
  show Go Γ 5 23 [(0, .ref 38), (1, .int x1), (2, .int x2), (3, .ref 16)] [.long r6, .int 0, .ref 42] μ7 _
  refine go_ck (fun h8 => ?_)
  refine go_last (pc := 23) hΓ d_Search_tellSteps_23 rfl h8 ?_
  refine go_letM (fun μ9 => ?_)
  refine go_aload_n (q := 0) (i := 0) (pc := 24) hΓ d_Search_tellSteps_24 rfl rfl ?_
  refine go_iconst (v := 1) (pc := 25) hΓ d_Search_tellSteps_25 (by decide) ?_
  refine go_putI (pc := 26) hΓ fp_Search_36 d_Search_tellSteps_26 rfl rfl ?_
  refine go_letM (fun μ10 => ?_)
  refine go_aload_n (q := 3) (i := 3) (pc := 29) hΓ d_Search_tellSteps_29 rfl rfl ?_
  refine go_callV (index := 55) emV hΓ hR (g_Numbers_clear N (d + 17) ) mi_Numbers_clear ml_Search_55 d_Search_tellSteps_30 rfl rfl rfl rfl rfl (fun _ μ12 => ?_)
  show Go Γ 5 33 [(0, .ref 38), (1, .int x1), (2, .int x2), (3, .ref 16)] [] μ12 _
  refine go_iconst (v := 0) (pc := 33) hΓ d_Search_tellSteps_33 (by decide) ?_
  refine go_istore (lv' := [(4, .int 0), (0, .ref 38), (1, .int x1), (2, .int x2), (3, .ref 16)]) (pc := 34) hΓ d_Search_tellSteps_34 (by decide) rfl ?_
  refine go_sub' (lv' := [(0, .ref 38), (3, .ref 16), (4, .int 0)]) rfl ?_
  refine glp_Search_tellSteps_36 N d hΓ hT hR  _ (fun v22 μ23 => ?_) N 0 μ12
  refine go_iload (q := 0) (pc := 69) hΓ d_Search_tellSteps_69 rfl ?_
  exact go_iret (pc := 71) hΓ hT d_Search_tellSteps_71

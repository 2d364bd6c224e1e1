def f_M_tellsOne (N : Nat) (x1 : Int64) (μ0 : Mem) : Option (Unit × Mem) :=
  lt' (sI μ0 44 1 0) fun μ1 => bnd (f_M_enters N x1 μ1) fun _ μ3 => some ((), μ3)
set_option maxHeartbeats 4000000 in
set_option maxRecDepth 100000 in
theorem g_M_tellsOne (N d : Nat) (x1 : Int64)  : CallF eV y_M_tellsOne c_M_tellsOne 3 none (d + 1 + 1) [.ref 44, .long x1] (f_M_tellsOne N x1) := by
  refine call_of (d := d + 1) (n := 1) mi_M_tellsOne.1 (fun _ => rfl) ?_
  intro Γ μ0 hΓ hT hR
  show Go Γ 3 0 [(0, .ref 44), (1, .long x1)] [] μ0 (f_M_tellsOne N x1 μ0)
  unfold f_M_tellsOne
  refine go_aload_n (q := 0) (i := 0) (pc := 0) hΓ d_M_tellsOne_0 rfl rfl ?_
  refine go_iconst (v := 0) (pc := 1) hΓ d_M_tellsOne_1 (by decide) ?_
  refine go_putI (pc := 2) hΓ fp_M_73 d_M_tellsOne_2 rfl rfl ?_
  refine go_letM (fun μ1 => ?_)
  refine go_aload_n (q := 0) (i := 0) (pc := 5) hΓ d_M_tellsOne_5 rfl rfl ?_
  refine go_lload_n (q := 1) (i := 1) (pc := 6) hΓ d_M_tellsOne_6 rfl rfl ?_
  refine go_callV (index := 76) emV hΓ hR (g_M_enters N (d + 0) x1) mi_M_enters ml_M_76 d_M_tellsOne_7 rfl rfl rfl rfl rfl (fun _ μ3 => ?_)
  show Go Γ 3 10 [(0, .ref 44), (1, .long x1)] [] μ3 _
  exact go_vret (pc := 10) hΓ hT d_M_tellsOne_10
def f_M_comparer (N : Nat) (x1 : Int32) (x2 : Int32) (μ0 : Mem) : Option (Int32 × Mem) :=
  lt' (sI μ0 44 0 0) fun μ1 => bnd (f_M_isNet N x1 μ1) fun r2 μ3 => if r2 = 0 then (some ((-1), μ3)) else (bnd (f_M_isComparer N x1 x2 μ3) fun r5 μ6 => if r5 = 0 then (some ((-1), μ6)) else (bnd (f_M_laysLayers N x1 μ6) fun r8 μ9 => ck (inb x2 60) (bnd (f_M_tellsOne N (Int32.toInt64 (gI μ9 54 (tn x2))) μ9) fun _ μ12 => bnd (f_M_lowOf N x1 x2 μ12) fun r13 μ14 => bnd (f_M_highOf N x1 x2 μ14) fun r15 μ16 => some ((10 * r13) + r15, μ16))))
set_option maxHeartbeats 4000000 in
set_option maxRecDepth 100000 in
theorem g_M_comparer (N d : Nat) (x1 : Int32) (x2 : Int32)  : CallF eI y_M_comparer c_M_comparer 3 (some .int) (d + 2 + 1) [.ref 44, .int x1, .int x2] (f_M_comparer N x1 x2) := by
  refine call_of (d := d + 2) (n := 2) mi_M_comparer.1 (fun _ => rfl) ?_
  intro Γ μ0 hΓ hT hR
  show Go Γ 3 0 [(0, .ref 44), (1, .int x1), (2, .int x2)] [] μ0 (f_M_comparer N x1 x2 μ0)
  unfold f_M_comparer
  refine go_aload_n (q := 0) (i := 0) (pc := 0) hΓ d_M_comparer_0 rfl rfl ?_
  refine go_iconst (v := 0) (pc := 1) hΓ d_M_comparer_1 (by decide) ?_
  refine go_putI (pc := 2) hΓ fp_M_69 d_M_comparer_2 rfl rfl ?_
  refine go_letM (fun μ1 => ?_)
  refine go_iload_n (q := 1) (i := 1) (pc := 5) hΓ d_M_comparer_5 rfl rfl ?_
  refine go_callS (index := 151) emI hΓ hR (g_M_isNet N (d + 0) x1) mi_M_isNet ml_M_151 d_M_comparer_6 rfl rfl rfl (fun r2 μ3 => ?_)
  show Go Γ 3 9 [(0, .ref 44), (1, .int x1), (2, .int x2)] [.int r2] μ3 _
  refine go_if_eq 21 (pc := 9) hΓ d_M_comparer_9 (by decide) (fun h4 => go_eq (if_pos h4) ?_) (fun h4 => go_eq (if_neg h4) ?_)
  · refine go_iconst (v := -1) (pc := 21) hΓ d_M_comparer_21 (by decide) ?_
    exact go_iret (pc := 22) hΓ hT d_M_comparer_22
  · refine go_aload_n (q := 0) (i := 0) (pc := 12) hΓ d_M_comparer_12 rfl rfl ?_
    refine go_iload_n (q := 1) (i := 1) (pc := 13) hΓ d_M_comparer_13 rfl rfl ?_
    refine go_iload_n (q := 2) (i := 2) (pc := 14) hΓ d_M_comparer_14 rfl rfl ?_
    refine go_callV (index := 205) emI hΓ hR (g_M_isComparer N (d + 0) x1 x2) mi_M_isComparer ml_M_205 d_M_comparer_15 rfl rfl rfl rfl rfl (fun r5 μ6 => ?_)
    show Go Γ 3 18 [(0, .ref 44), (1, .int x1), (2, .int x2)] [.int r5] μ6 _
    refine go_if_ne 23 (pc := 18) hΓ d_M_comparer_18 (by decide) (fun h7 => go_eq (if_neg h7) ?_) (fun h7 => go_eq (if_pos h7) ?_)
    · refine go_aload_n (q := 0) (i := 0) (pc := 23) hΓ d_M_comparer_23 rfl rfl ?_
      refine go_iload_n (q := 1) (i := 1) (pc := 24) hΓ d_M_comparer_24 rfl rfl ?_
      refine go_callV (index := 218) emI hΓ hR (g_M_laysLayers N (d + 0) x1) mi_M_laysLayers ml_M_218 d_M_comparer_25 rfl rfl rfl rfl rfl (fun r8 μ9 => ?_)
      show Go Γ 3 28 [(0, .ref 44), (1, .int x1), (2, .int x2)] [.int r8] μ9 _
      refine go_pop (pc := 28) hΓ d_M_comparer_28 rfl ?_
      refine go_aload_n (q := 0) (i := 0) (pc := 29) hΓ d_M_comparer_29 rfl rfl ?_
      refine go_aload_n (q := 0) (i := 0) (pc := 30) hΓ d_M_comparer_30 rfl rfl ?_
      refine go_getR (q := 54) (pc := 31) hΓ fl_M_38 d_M_comparer_31 rfl rfl ?_
      refine go_iload_n (q := 2) (i := 2) (pc := 34) hΓ d_M_comparer_34 rfl rfl ?_
      refine go_ck (fun h10 => ?_)
      refine go_iald (pc := 35) hΓ d_M_comparer_35 rfl h10 ?_
      refine go_i2l (pc := 36) hΓ d_M_comparer_36 ?_
      refine go_callV (index := 221) emV hΓ hR (g_M_tellsOne N (d + 0) (Int32.toInt64 (gI μ9 54 (tn x2)))) mi_M_tellsOne ml_M_221 d_M_comparer_37 rfl rfl rfl rfl rfl (fun _ μ12 => ?_)
      show Go Γ 3 40 [(0, .ref 44), (1, .int x1), (2, .int x2)] [] μ12 _
      refine go_bipush (v := 10) (pc := 40) hΓ d_M_comparer_40 (by decide) ?_
      refine go_aload_n (q := 0) (i := 0) (pc := 42) hΓ d_M_comparer_42 rfl rfl ?_
      refine go_iload_n (q := 1) (i := 1) (pc := 43) hΓ d_M_comparer_43 rfl rfl ?_
      refine go_iload_n (q := 2) (i := 2) (pc := 44) hΓ d_M_comparer_44 rfl rfl ?_
      refine go_callV (index := 199) emI hΓ hR (g_M_lowOf N (d + 1) x1 x2) mi_M_lowOf ml_M_199 d_M_comparer_45 rfl rfl rfl rfl rfl (fun r13 μ14 => ?_)
      show Go Γ 3 48 [(0, .ref 44), (1, .int x1), (2, .int x2)] [.int r13, .int 10] μ14 _
      refine go_imul (pc := 48) hΓ d_M_comparer_48 ?_
      refine go_aload_n (q := 0) (i := 0) (pc := 49) hΓ d_M_comparer_49 rfl rfl ?_
      refine go_iload_n (q := 1) (i := 1) (pc := 50) hΓ d_M_comparer_50 rfl rfl ?_
      refine go_iload_n (q := 2) (i := 2) (pc := 51) hΓ d_M_comparer_51 rfl rfl ?_
      refine go_callV (index := 202) emI hΓ hR (g_M_highOf N (d + 1) x1 x2) mi_M_highOf ml_M_202 d_M_comparer_52 rfl rfl rfl rfl rfl (fun r15 μ16 => ?_)
      show Go Γ 3 55 [(0, .ref 44), (1, .int x1), (2, .int x2)] [.int r15, .int (10 * r13)] μ16 _
      refine go_iadd (pc := 55) hΓ d_M_comparer_55 ?_
      exact go_iret (pc := 56) hΓ hT d_M_comparer_56
    · refine go_iconst (v := -1) (pc := 21) hΓ d_M_comparer_21 (by decide) ?_
      exact go_iret (pc := 22) hΓ hT d_M_comparer_22
def lp_M_depth_38 (N : Nat) (x1 : Int32) (x2 : Int32) (x3 : Int32)  (K : Int32 → Mem → Option (Int32 × Mem)) : Nat → Int32 → Int32 → Mem → Option (Int32 × Mem)
  | 0, _, _, _ => none
  | n + 1, a4, a5, μ0 => ck (inb x1 4) (if a5 < (gI μ0 47 (tn x1)) then (ck (inb a5 60) (lt' (if (gI μ0 54 (tn a5)) = x3 then (1 : Int32) else (0 : Int32)) fun q13 => bnd (f_M_flag N q13 μ0) fun r14 μ15 => lt' (a4 + r14) fun v16 => lt' (a5 + 1) fun v17 => lp_M_depth_38 N x1 x2 x3 K n v16 v17 μ15)) else (K a4 μ0))
def lp_M_depth_27 (N : Nat) (x1 : Int32) (x2 : Int32)  (K : Mem → Option (Int32 × Mem)) : Nat → Int32 → Mem → Option (Int32 × Mem)
  | 0, _, _ => none
  | n + 1, a3, μ0 => if x2 < a3 then (K  μ0) else (lp_M_depth_38 N x1 x2 a3 (fun v19 μ20 => bnd (f_M_enters N (Int32.toInt64 v19) μ20) fun _ μ22 => lt' (a3 + 1) fun v23 => lp_M_depth_27 N x1 x2 K n v23 μ22) N 0 0 μ0)
def f_M_depth (N : Nat) (x1 : Int32) (μ0 : Mem) : Option (Int32 × Mem) :=
  lt' (sI μ0 44 0 0) fun μ1 => bnd (f_M_isNet N x1 μ1) fun r2 μ3 => if r2 = 0 then (some ((-1), μ3)) else (bnd (f_M_laysLayers N x1 μ3) fun r5 μ6 => lt' (sI μ6 44 1 0) fun μ7 => lp_M_depth_27 N x1 r5 (fun μ24 => some (r5, μ24)) N 1 μ7)
set_option maxHeartbeats 4000000 in
set_option maxRecDepth 100000 in
theorem glp_M_depth_38 (N d : Nat) {Γ : Cx Int32} (hΓ : Ok Γ "SortingNetsModel" c_M_depth 6) (hT : Rt Γ eI (some .int)) (hR : Rm Γ (d + 2)) (x1 : Int32) (x2 : Int32) (x3 : Int32)    (K : Int32 → Mem → Option (Int32 × Mem)) (hK : ∀ (b4 : Int32) (ν : Mem), Go Γ 6 79 [(0, .ref 44), (1, .int x1), (2, .int x2), (3, .int x3), (4, .int b4)] [] ν (K b4 ν)) : ∀ (n : Nat) (a4 : Int32) (a5 : Int32) (μ0 : Mem), Go Γ 6 38 [(0, .ref 44), (1, .int x1), (2, .int x2), (3, .int x3), (4, .int a4), (5, .int a5)] [] μ0 (lp_M_depth_38 N x1 x2 x3 K n a4 a5 μ0) := by
  intro n
  induction n with
  | zero => intro a4 a5 μ0; exact go_none
  | succ n ih =>
    intro a4 a5 μ0
    rw [lp_M_depth_38]
    refine go_iload (q := 5) (pc := 38) hΓ d_M_depth_38 rfl ?_
    refine go_aload_n (q := 0) (i := 0) (pc := 40) hΓ d_M_depth_40 rfl rfl ?_
    refine go_getR (q := 47) (pc := 41) hΓ fl_M_17 d_M_depth_41 rfl rfl ?_
    refine go_iload_n (q := 1) (i := 1) (pc := 44) hΓ d_M_depth_44 rfl rfl ?_
    refine go_ck (fun h9 => ?_)
    refine go_iald (pc := 45) hΓ d_M_depth_45 rfl h9 ?_
    refine go_icmp_ge 79 (pc := 46) hΓ d_M_depth_46 (by decide) (fun h10 => go_eq (if_neg h10) ?_) (fun h10 => go_eq (if_pos h10) ?_)
    · refine go_sub' (lv' := [(0, .ref 44), (1, .int x1), (2, .int x2), (3, .int x3), (4, .int a4)]) rfl ?_
      exact hK a4 μ0
    · refine go_iload (q := 4) (pc := 49) hΓ d_M_depth_49 rfl ?_
      refine go_aload_n (q := 0) (i := 0) (pc := 51) hΓ d_M_depth_51 rfl rfl ?_
      refine go_getR (q := 54) (pc := 52) hΓ fl_M_38 d_M_depth_52 rfl rfl ?_
      refine go_iload (q := 5) (pc := 55) hΓ d_M_depth_55 rfl ?_
      refine go_ck (fun h11 => ?_)
      refine go_iald (pc := 57) hΓ d_M_depth_57 rfl h11 ?_
      refine go_iload_n (q := 3) (i := 3) (pc := 58) hΓ d_M_depth_58 rfl rfl ?_
      refine go_mg (α := Int32) 67 (fun q13 => [(0, .ref 44), (1, .int x1), (2, .int x2), (3, .int x3), (5, .int a5)]) (fun q13 => [.int q13, .int a4]) (fun q13 => ?_) (fun g18 g18h => ?_)
      · refine go_callS (index := 188) emI hΓ hR (g_M_flag N (d + 1) q13) mi_M_flag ml_M_188 d_M_depth_67 rfl rfl rfl (fun r14 μ15 => ?_)
        show Go Γ 6 70 [(0, .ref 44), (1, .int x1), (2, .int x2), (3, .int x3), (5, .int a5)] [.int r14, .int a4] μ15 _
        refine go_iadd (pc := 70) hΓ d_M_depth_70 ?_
        refine go_letI (fun v16 => ?_)
        refine go_istore (lv' := [(4, .int v16), (0, .ref 44), (1, .int x1), (2, .int x2), (3, .int x3), (5, .int a5)]) (pc := 71) hΓ d_M_depth_71 (by decide) rfl ?_
        refine go_incI (q := 5) (i := 5) (n := 1) (c := 1) (pc := 73) hΓ d_M_depth_73 rfl (by decide) (by decide) (fun v17 => ?_)
        refine go_sub' (lv' := [(5, .int v17), (4, .int v16), (0, .ref 44), (1, .int x1), (2, .int x2), (3, .int x3)]) rfl ?_
        refine go_goto 38 (pc := 76) hΓ d_M_depth_76 (by decide) ?_
        refine go_sub' (lv' := [(0, .ref 44), (1, .int x1), (2, .int x2), (3, .int x3), (4, .int v16), (5, .int v17)]) rfl ?_
        exact ih v16 v17 μ15
      · refine go_icmp_ne 66 (pc := 59) hΓ d_M_depth_59 (by decide) (fun h12 => ?_) (fun h12 => ?_)
        · rw [if_neg h12]
          refine go_iconst (v := 0) (pc := 66) hΓ d_M_depth_66 (by decide) ?_
          refine go_sub' (lv' := [(0, .ref 44), (1, .int x1), (2, .int x2), (3, .int x3), (5, .int a5)]) rfl ?_
          exact g18h _
        · rw [if_pos h12]
          refine go_iconst (v := 1) (pc := 62) hΓ d_M_depth_62 (by decide) ?_
          refine go_goto 67 (pc := 63) hΓ d_M_depth_63 (by decide) ?_
          refine go_sub' (lv' := [(0, .ref 44), (1, .int x1), (2, .int x2), (3, .int x3), (5, .int a5)]) rfl ?_
          exact g18h _
set_option maxHeartbeats 4000000 in
set_option maxRecDepth 100000 in
theorem glp_M_depth_27 (N d : Nat) {Γ : Cx Int32} (hΓ : Ok Γ "SortingNetsModel" c_M_depth 6) (hT : Rt Γ eI (some .int)) (hR : Rm Γ (d + 2)) (x1 : Int32) (x2 : Int32)    (K : Mem → Option (Int32 × Mem)) (hK : ∀  (ν : Mem), Go Γ 6 92 [(2, .int x2)] [] ν (K  ν)) : ∀ (n : Nat) (a3 : Int32) (μ0 : Mem), Go Γ 6 27 [(0, .ref 44), (1, .int x1), (2, .int x2), (3, .int a3)] [] μ0 (lp_M_depth_27 N x1 x2 K n a3 μ0) := by
  intro n
  induction n with
  | zero => intro a3 μ0; exact go_none
  | succ n ih =>
    intro a3 μ0
    rw [lp_M_depth_27]
    refine go_iload_n (q := 3) (i := 3) (pc := 27) hΓ d_M_depth_27 rfl rfl ?_
    refine go_iload_n (q := 2) (i := 2) (pc := 28) hΓ d_M_depth_28 rfl rfl ?_
    refine go_icmp_gt 92 (pc := 29) hΓ d_M_depth_29 (by decide) (fun h8 => go_eq (if_pos h8) ?_) (fun h8 => go_eq (if_neg h8) ?_)
    · refine go_sub' (lv' := [(2, .int x2)]) rfl ?_
      exact hK  μ0
    · refine go_iconst (v := 0) (pc := 32) hΓ d_M_depth_32 (by decide) ?_
      refine go_istore (lv' := [(4, .int 0), (0, .ref 44), (1, .int x1), (2, .int x2), (3, .int a3)]) (pc := 33) hΓ d_M_depth_33 (by decide) rfl ?_
      refine go_iconst (v := 0) (pc := 35) hΓ d_M_depth_35 (by decide) ?_
      refine go_istore (lv' := [(5, .int 0), (4, .int 0), (0, .ref 44), (1, .int x1), (2, .int x2), (3, .int a3)]) (pc := 36) hΓ d_M_depth_36 (by decide) rfl ?_
      refine go_sub' (lv' := [(0, .ref 44), (1, .int x1), (2, .int x2), (3, .int a3), (4, .int 0), (5, .int 0)]) rfl ?_
      refine glp_M_depth_38 N d hΓ hT hR x1 x2 a3 _ (fun v19 μ20 => ?_) N 0 0 μ0
      refine go_aload_n (q := 0) (i := 0) (pc := 79) hΓ d_M_depth_79 rfl rfl ?_
      refine go_iload (q := 4) (pc := 80) hΓ d_M_depth_80 rfl ?_
      refine go_i2l (pc := 82) hΓ d_M_depth_82 ?_
      refine go_callV (index := 76) emV hΓ hR (g_M_enters N (d + 1) (Int32.toInt64 v19)) mi_M_enters ml_M_76 d_M_depth_83 rfl rfl rfl rfl rfl (fun _ μ22 => ?_)
      show Go Γ 6 86 [(0, .ref 44), (1, .int x1), (2, .int x2), (3, .int a3), (4, .int v19)] [] μ22 _
      refine go_incI (q := 3) (i := 3) (n := 1) (c := 1) (pc := 86) hΓ d_M_depth_86 rfl (by decide) (by decide) (fun v23 => ?_)
      refine go_sub' (lv' := [(3, .int v23), (0, .ref 44), (1, .int x1), (2, .int x2), (4, .int v19)]) rfl ?_
      refine go_goto 27 (pc := 89) hΓ d_M_depth_89 (by decide) ?_
      refine go_sub' (lv' := [(0, .ref 44), (1, .int x1), (2, .int x2), (3, .int v23)]) rfl ?_
      exact ih v23 μ22
set_option maxHeartbeats 4000000 in
set_option maxRecDepth 100000 in
theorem g_M_depth (N d : Nat) (x1 : Int32)  : CallF eI y_M_depth c_M_depth 6 (some .int) (d + 2 + 1) [.ref 44, .int x1] (f_M_depth N x1) := by
  refine call_of (d := d + 2) (n := 1) mi_M_depth.1 (fun _ => rfl) ?_
  intro Γ μ0 hΓ hT hR
  show Go Γ 6 0 [(0, .ref 44), (1, .int x1)] [] μ0 (f_M_depth N x1 μ0)
  unfold f_M_depth
  refine go_aload_n (q := 0) (i := 0) (pc := 0) hΓ d_M_depth_0 rfl rfl ?_
  refine go_iconst (v := 0) (pc := 1) hΓ d_M_depth_1 (by decide) ?_
  refine go_putI (pc := 2) hΓ fp_M_69 d_M_depth_2 rfl rfl ?_
  refine go_letM (fun μ1 => ?_)
  refine go_iload_n (q := 1) (i := 1) (pc := 5) hΓ d_M_depth_5 rfl rfl ?_
  refine go_callS (index := 151) emI hΓ hR (g_M_isNet N (d + 0) x1) mi_M_isNet ml_M_151 d_M_depth_6 rfl rfl rfl (fun r2 μ3 => ?_)
  show Go Γ 6 9 [(0, .ref 44), (1, .int x1)] [.int r2] μ3 _
  refine go_if_ne 14 (pc := 9) hΓ d_M_depth_9 (by decide) (fun h4 => go_eq (if_neg h4) ?_) (fun h4 => go_eq (if_pos h4) ?_)
  · refine go_aload_n (q := 0) (i := 0) (pc := 14) hΓ d_M_depth_14 rfl rfl ?_
    refine go_iload_n (q := 1) (i := 1) (pc := 15) hΓ d_M_depth_15 rfl rfl ?_
    refine go_callV (index := 218) emI hΓ hR (g_M_laysLayers N (d + 0) x1) mi_M_laysLayers ml_M_218 d_M_depth_16 rfl rfl rfl rfl rfl (fun r5 μ6 => ?_)
    show Go Γ 6 19 [(0, .ref 44), (1, .int x1)] [.int r5] μ6 _
    refine go_istore_n (i := 2) (lv' := [(2, .int r5), (0, .ref 44), (1, .int x1)]) (pc := 19) hΓ d_M_depth_19 rfl (by decide) rfl ?_
    refine go_aload_n (q := 1) (i := 0) (pc := 20) hΓ d_M_depth_20 rfl rfl ?_
    refine go_iconst (v := 0) (pc := 21) hΓ d_M_depth_21 (by decide) ?_
    refine go_putI (pc := 22) hΓ fp_M_73 d_M_depth_22 rfl rfl ?_
    refine go_letM (fun μ7 => ?_)
    refine go_iconst (v := 1) (pc := 25) hΓ d_M_depth_25 (by decide) ?_
    refine go_istore_n (i := 3) (lv' := [(3, .int 1), (2, .int r5), (0, .ref 44), (1, .int x1)]) (pc := 26) hΓ d_M_depth_26 rfl (by decide) rfl ?_
    refine go_sub' (lv' := [(0, .ref 44), (1, .int x1), (2, .int r5), (3, .int 1)]) rfl ?_
    refine glp_M_depth_27 N d hΓ hT hR x1 r5 _ (fun μ24 => ?_) N 1 μ7
    refine go_iload_n (q := 0) (i := 2) (pc := 92) hΓ d_M_depth_92 rfl rfl ?_
    exact go_iret (pc := 93) hΓ hT d_M_depth_93
  · refine go_iconst (v := -1) (pc := 12) hΓ d_M_depth_12 (by decide) ?_
    exact go_iret (pc := 13) hΓ hT d_M_depth_13
def lp_M_cuts_57 (N : Nat) (x1 : Int32) (x2 : Int32) (x3 : Int32) (x4 : Int32) (x5 : Int32)  (K : Mem → Option (Int32 × Mem)) : Nat → Int32 → Mem → Option (Int32 × Mem)
  | 0, _, _ => none
  | n + 1, a6, μ0 => if x5 < a6 then (K  μ0) else (lt' (if x2 < a6 then (1 : Int32) else (0 : Int32)) fun q17 => bnd (f_M_flag N q17 μ0) fun r18 μ19 => ck (inb a6 8) (lt' (sI μ19 56 (tn a6) (a6 - r18)) fun μ21 => lt' (a6 + 1) fun v22 => lp_M_cuts_57 N x1 x2 x3 x4 x5 K n v22 μ21))
def lp_M_cuts_105 (N : Nat) (x1 : Int32) (x3 : Int32) (x4 : Int32) (x5 : Int32)  (K : Int32 → Mem → Option (Int32 × Mem)) : Nat → Int32 → Int32 → Mem → Option (Int32 × Mem)
  | 0, _, _, _ => none
  | n + 1, a6, a7, μ0 => ck (inb x1 4) (if a7 < (gI μ0 47 (tn x1)) then (bnd (f_M_lowOf N x1 a7 μ0) fun r28 μ29 => bnd (f_M_highOf N x1 a7 μ29) fun r30 μ31 => lt' (fun (w33 : Int32) (μ34 : Mem) => lt' (a7 + 1) fun v35 => lp_M_cuts_105 N x1 x3 x4 x5 K n w33 v35 μ34) fun (k32 : Int32 → Mem → Option (Int32 × Mem)) => lt' (fun (_ : Unit) => lt' (if a6 = r28 then (1 : Int32) else (0 : Int32)) fun q38 => if x3 = q38 then (lt' ((r28 + r30) - a6) fun v40 => ck (inb v40 8) (ck (inb a6 8) (lt' (sI μ31 56 (tn a6) (gI μ31 56 (tn v40))) fun μ43 => k32 v40 μ43))) else (k32 a6 μ31)) fun (k36 : Unit → Option (Int32 × Mem)) => if a6 = r28 then (k36 ()) else (if a6 = r30 then (k36 ()) else (ck (inb r28 8) (ck (inb (gI μ31 44 14) 60) (lt' (sI μ31 51 (tn (gI μ31 44 14)) (gI μ31 56 (tn r28))) fun μ49 => ck (inb r30 8) (ck (inb (gI μ49 44 14) 60) (lt' (sI μ49 52 (tn (gI μ49 44 14)) (gI μ49 56 (tn r30))) fun μ52 => lt' (sI μ52 44 14 ((gI μ52 44 14) + 1)) fun μ53 => k32 a6 μ53))))))) else (K a6 μ0))
def f_M_cuts (N : Nat) (x1 : Int32) (x2 : Int32) (x3 : Int32) (x4 : Int32) (μ0 : Mem) : Option (Int32 × Mem) :=
  lt' (sI μ0 44 0 0) fun μ1 => bnd (f_M_isNet N x1 μ1) fun r2 μ3 => if r2 = 0 then (some ((-1), μ3)) else (bnd (f_M_isNet N x4 μ3) fun r5 μ6 => if r5 = 0 then (some ((-1), μ6)) else (bnd (f_M_isWire N x1 x2 μ6) fun r8 μ9 => if r8 = 0 then (some ((-1), μ9)) else (ck (inb x1 4) (if (gI μ9 46 (tn x1)) = 2 then (some ((-2), μ9)) else (ck (inb x1 4) (lt' ((gI μ9 46 (tn x1)) - 1) fun v14 => lp_M_cuts_57 N x1 x2 x3 x4 v14 (fun μ24 => lt' (sI μ24 44 14 0) fun μ25 => lp_M_cuts_105 N x1 x3 x4 v14 (fun v54 μ55 => bnd (f_M_untangles N x4 v14 μ55) fun _ μ57 => bnd (f_M_tellsOne N (Int32.toInt64 v54) μ57) fun _ μ59 => ck (inb x4 4) (some (gI μ59 47 (tn x4), μ59))) N x2 0 μ25) N 0 μ9))))))
set_option maxHeartbeats 4000000 in
set_option maxRecDepth 100000 in
theorem glp_M_cuts_57 (N d : Nat) {Γ : Cx Int32} (hΓ : Ok Γ "SortingNetsModel" c_M_cuts 11) (hT : Rt Γ eI (some .int)) (hR : Rm Γ (d + 3)) (x1 : Int32) (x2 : Int32) (x3 : Int32) (x4 : Int32) (x5 : Int32)    (K : Mem → Option (Int32 × Mem)) (hK : ∀  (ν : Mem), Go Γ 11 94 [(0, .ref 44), (1, .int x1), (2, .int x2), (3, .int x3), (4, .int x4), (5, .int x5)] [] ν (K  ν)) : ∀ (n : Nat) (a6 : Int32) (μ0 : Mem), Go Γ 11 57 [(0, .ref 44), (1, .int x1), (2, .int x2), (3, .int x3), (4, .int x4), (5, .int x5), (6, .int a6)] [] μ0 (lp_M_cuts_57 N x1 x2 x3 x4 x5 K n a6 μ0) := by
  intro n
  induction n with
  | zero => intro a6 μ0; exact go_none
  | succ n ih =>
    intro a6 μ0
    rw [lp_M_cuts_57]
    refine go_iload (q := 6) (pc := 57) hΓ d_M_cuts_57 rfl ?_
    refine go_iload (q := 5) (pc := 59) hΓ d_M_cuts_59 rfl ?_
    refine go_icmp_gt 94 (pc := 61) hΓ d_M_cuts_61 (by decide) (fun h15 => go_eq (if_pos h15) ?_) (fun h15 => go_eq (if_neg h15) ?_)
    · refine go_sub' (lv' := [(0, .ref 44), (1, .int x1), (2, .int x2), (3, .int x3), (4, .int x4), (5, .int x5)]) rfl ?_
      exact hK  μ0
    · refine go_aload_n (q := 0) (i := 0) (pc := 64) hΓ d_M_cuts_64 rfl rfl ?_
      refine go_getR (q := 56) (pc := 65) hΓ fl_M_44 d_M_cuts_65 rfl rfl ?_
      refine go_iload (q := 6) (pc := 68) hΓ d_M_cuts_68 rfl ?_
      refine go_iload (q := 6) (pc := 70) hΓ d_M_cuts_70 rfl ?_
      refine go_iload (q := 6) (pc := 72) hΓ d_M_cuts_72 rfl ?_
      refine go_iload_n (q := 2) (i := 2) (pc := 74) hΓ d_M_cuts_74 rfl rfl ?_
      refine go_mg (α := Int32) 83 (fun q17 => [(0, .ref 44), (1, .int x1), (2, .int x2), (3, .int x3), (4, .int x4), (5, .int x5), (6, .int a6)]) (fun q17 => [.int q17, .int a6, .int a6, .ref 56]) (fun q17 => ?_) (fun g23 g23h => ?_)
      · refine go_callS (index := 188) emI hΓ hR (g_M_flag N (d + 2) q17) mi_M_flag ml_M_188 d_M_cuts_83 rfl rfl rfl (fun r18 μ19 => ?_)
        show Go Γ 11 86 [(0, .ref 44), (1, .int x1), (2, .int x2), (3, .int x3), (4, .int x4), (5, .int x5), (6, .int a6)] [.int r18, .int a6, .int a6, .ref 56] μ19 _
        refine go_isub (pc := 86) hΓ d_M_cuts_86 ?_
        refine go_ck (fun h20 => ?_)
        refine go_iast (pc := 87) hΓ d_M_cuts_87 rfl h20 ?_
        refine go_letM (fun μ21 => ?_)
        refine go_incI (q := 6) (i := 6) (n := 1) (c := 1) (pc := 88) hΓ d_M_cuts_88 rfl (by decide) (by decide) (fun v22 => ?_)
        refine go_sub' (lv' := [(6, .int v22), (0, .ref 44), (1, .int x1), (2, .int x2), (3, .int x3), (4, .int x4), (5, .int x5)]) rfl ?_
        refine go_goto 57 (pc := 91) hΓ d_M_cuts_91 (by decide) ?_
        refine go_sub' (lv' := [(0, .ref 44), (1, .int x1), (2, .int x2), (3, .int x3), (4, .int x4), (5, .int x5), (6, .int v22)]) rfl ?_
        exact ih v22 μ21
      · refine go_icmp_le 82 (pc := 75) hΓ d_M_cuts_75 (by decide) (fun h16 => ?_) (fun h16 => ?_)
        · rw [if_neg h16]
          refine go_iconst (v := 0) (pc := 82) hΓ d_M_cuts_82 (by decide) ?_
          refine go_sub' (lv' := [(0, .ref 44), (1, .int x1), (2, .int x2), (3, .int x3), (4, .int x4), (5, .int x5), (6, .int a6)]) rfl ?_
          exact g23h _
        · rw [if_pos h16]
          refine go_iconst (v := 1) (pc := 78) hΓ d_M_cuts_78 (by decide) ?_
          refine go_goto 83 (pc := 79) hΓ d_M_cuts_79 (by decide) ?_
          refine go_sub' (lv' := [(0, .ref 44), (1, .int x1), (2, .int x2), (3, .int x3), (4, .int x4), (5, .int x5), (6, .int a6)]) rfl ?_
          exact g23h _
set_option maxHeartbeats 4000000 in
set_option maxRecDepth 100000 in
theorem glp_M_cuts_105 (N d : Nat) {Γ : Cx Int32} (hΓ : Ok Γ "SortingNetsModel" c_M_cuts 11) (hT : Rt Γ eI (some .int)) (hR : Rm Γ (d + 3)) (x1 : Int32) (x3 : Int32) (x4 : Int32) (x5 : Int32)    (K : Int32 → Mem → Option (Int32 × Mem)) (hK : ∀ (b6 : Int32) (ν : Mem), Go Γ 11 243 [(0, .ref 44), (4, .int x4), (5, .int x5), (6, .int b6)] [] ν (K b6 ν)) : ∀ (n : Nat) (a6 : Int32) (a7 : Int32) (μ0 : Mem), Go Γ 11 105 [(0, .ref 44), (1, .int x1), (3, .int x3), (4, .int x4), (5, .int x5), (6, .int a6), (7, .int a7)] [] μ0 (lp_M_cuts_105 N x1 x3 x4 x5 K n a6 a7 μ0) := by
  intro n
  induction n with
  | zero => intro a6 a7 μ0; exact go_none
  | succ n ih =>
    intro a6 a7 μ0
    rw [lp_M_cuts_105]
    refine go_iload (q := 6) (pc := 105) hΓ d_M_cuts_105 rfl ?_
    refine go_aload_n (q := 0) (i := 0) (pc := 107) hΓ d_M_cuts_107 rfl rfl ?_
    refine go_getR (q := 47) (pc := 108) hΓ fl_M_17 d_M_cuts_108 rfl rfl ?_
    refine go_iload_n (q := 1) (i := 1) (pc := 111) hΓ d_M_cuts_111 rfl rfl ?_
    refine go_ck (fun h26 => ?_)
    refine go_iald (pc := 112) hΓ d_M_cuts_112 rfl h26 ?_
    refine go_icmp_ge 243 (pc := 113) hΓ d_M_cuts_113 (by decide) (fun h27 => go_eq (if_neg h27) ?_) (fun h27 => go_eq (if_pos h27) ?_)
    · refine go_sub' (lv' := [(0, .ref 44), (4, .int x4), (5, .int x5), (6, .int a6)]) rfl ?_
      exact hK a6 μ0
    · refine go_aload_n (q := 0) (i := 0) (pc := 116) hΓ d_M_cuts_116 rfl rfl ?_
      refine go_iload_n (q := 1) (i := 1) (pc := 117) hΓ d_M_cuts_117 rfl rfl ?_
      refine go_iload (q := 6) (pc := 118) hΓ d_M_cuts_118 rfl ?_
      refine go_callV (index := 199) emI hΓ hR (g_M_lowOf N (d + 2) x1 a7) mi_M_lowOf ml_M_199 d_M_cuts_120 rfl rfl rfl rfl rfl (fun r28 μ29 => ?_)
      show Go Γ 11 123 [(0, .ref 44), (1, .int x1), (3, .int x3), (4, .int x4), (5, .int x5), (6, .int a6), (7, .int a7)] [.int r28] μ29 _
      refine go_istore (lv' := [(8, .int r28), (0, .ref 44), (1, .int x1), (3, .int x3), (4, .int x4), (5, .int x5), (6, .int a6), (7, .int a7)]) (pc := 123) hΓ d_M_cuts_123 (by decide) rfl ?_
      refine go_aload_n (q := 1) (i := 0) (pc := 125) hΓ d_M_cuts_125 rfl rfl ?_
      refine go_iload_n (q := 2) (i := 1) (pc := 126) hΓ d_M_cuts_126 rfl rfl ?_
      refine go_iload (q := 7) (pc := 127) hΓ d_M_cuts_127 rfl ?_
      refine go_callV (index := 202) emI hΓ hR (g_M_highOf N (d + 2) x1 a7) mi_M_highOf ml_M_202 d_M_cuts_129 rfl rfl rfl rfl rfl (fun r30 μ31 => ?_)
      show Go Γ 11 132 [(8, .int r28), (0, .ref 44), (1, .int x1), (3, .int x3), (4, .int x4), (5, .int x5), (6, .int a6), (7, .int a7)] [.int r30] μ31 _
      refine go_istore (lv' := [(9, .int r30), (8, .int r28), (0, .ref 44), (1, .int x1), (3, .int x3), (4, .int x4), (5, .int x5), (6, .int a6), (7, .int a7)]) (pc := 132) hΓ d_M_cuts_132 (by decide) rfl ?_
      refine go_iload (q := 7) (pc := 134) hΓ d_M_cuts_134 rfl ?_
      refine go_iload (q := 1) (pc := 136) hΓ d_M_cuts_136 rfl ?_
      refine go_join (fun (k32 : Int32 → Mem → Option (Int32 × Mem)) => ∀ (w33 : Int32) (μ34 : Mem), Go Γ 11 237 [(0, .ref 44), (1, .int x1), (3, .int x3), (4, .int x4), (5, .int x5), (6, .int w33), (7, .int a7)] [] μ34 (k32 w33 μ34)) ?_ (fun k32 k32h => ?_)
      · intro w33 μ34
        refine go_incI (q := 6) (i := 7) (n := 1) (c := 1) (pc := 237) hΓ d_M_cuts_237 rfl (by decide) (by decide) (fun v35 => ?_)
        refine go_sub' (lv' := [(7, .int v35), (0, .ref 44), (1, .int x1), (3, .int x3), (4, .int x4), (5, .int x5), (6, .int w33)]) rfl ?_
        refine go_goto 105 (pc := 240) hΓ d_M_cuts_240 (by decide) ?_
        refine go_sub' (lv' := [(0, .ref 44), (1, .int x1), (3, .int x3), (4, .int x4), (5, .int x5), (6, .int w33), (7, .int v35)]) rfl ?_
        exact ih w33 v35 μ34
      · refine go_join (fun (k36 : Unit → Option (Int32 × Mem)) => ∀ (_ : Unit), Go Γ 11 193 [(0, .ref 44), (1, .int x1), (3, .int x3), (4, .int x4), (5, .int x5), (6, .int a6), (7, .int a7), (8, .int r28), (9, .int r30)] [] μ31 (k36 ())) ?_ (fun k36 k36h => ?_)
        · intro _
          refine go_iload_n (q := 2) (i := 3) (pc := 193) hΓ d_M_cuts_193 rfl rfl ?_
          refine go_iload (q := 5) (pc := 194) hΓ d_M_cuts_194 rfl ?_
          refine go_iload (q := 7) (pc := 196) hΓ d_M_cuts_196 rfl ?_
          refine go_mg (α := Int32) 206 (fun q38 => [(0, .ref 44), (1, .int x1), (3, .int x3), (4, .int x4), (5, .int x5), (6, .int a6), (7, .int a7), (8, .int r28), (9, .int r30)]) (fun q38 => [.int q38, .int x3]) (fun q38 => ?_) (fun g44 g44h => ?_)
          · refine go_icmp_ne 237 (pc := 206) hΓ d_M_cuts_206 (by decide) (fun h39 => go_eq (if_neg h39) ?_) (fun h39 => go_eq (if_pos h39) ?_)
            · refine go_sub' (lv' := [(0, .ref 44), (1, .int x1), (3, .int x3), (4, .int x4), (5, .int x5), (6, .int a6), (7, .int a7)]) rfl ?_
              exact k32h a6 μ31
            · refine go_iload (q := 7) (pc := 209) hΓ d_M_cuts_209 rfl ?_
              refine go_iload (q := 8) (pc := 211) hΓ d_M_cuts_211 rfl ?_
              refine go_iadd (pc := 213) hΓ d_M_cuts_213 ?_
              refine go_iload (q := 5) (pc := 214) hΓ d_M_cuts_214 rfl ?_
              refine go_isub (pc := 216) hΓ d_M_cuts_216 ?_
              refine go_letI (fun v40 => ?_)
              refine go_istore (lv' := [(10, .int v40), (0, .ref 44), (1, .int x1), (3, .int x3), (4, .int x4), (5, .int x5), (6, .int a6), (7, .int a7), (8, .int r28), (9, .int r30)]) (pc := 217) hΓ d_M_cuts_217 (by decide) rfl ?_
              refine go_aload_n (q := 1) (i := 0) (pc := 219) hΓ d_M_cuts_219 rfl rfl ?_
              refine go_getR (q := 56) (pc := 220) hΓ fl_M_44 d_M_cuts_220 rfl rfl ?_
              refine go_iload (q := 6) (pc := 223) hΓ d_M_cuts_223 rfl ?_
              refine go_aload_n (q := 1) (i := 0) (pc := 225) hΓ d_M_cuts_225 rfl rfl ?_
              refine go_getR (q := 56) (pc := 226) hΓ fl_M_44 d_M_cuts_226 rfl rfl ?_
              refine go_iload (q := 0) (pc := 229) hΓ d_M_cuts_229 rfl ?_
              refine go_ck (fun h41 => ?_)
              refine go_iald (pc := 231) hΓ d_M_cuts_231 rfl h41 ?_
              refine go_ck (fun h42 => ?_)
              refine go_iast (pc := 232) hΓ d_M_cuts_232 rfl h42 ?_
              refine go_letM (fun μ43 => ?_)
              refine go_iload (q := 0) (pc := 233) hΓ d_M_cuts_233 rfl ?_
              refine go_istore (lv' := [(6, .int v40), (10, .int v40), (0, .ref 44), (1, .int x1), (3, .int x3), (4, .int x4), (5, .int x5), (7, .int a7), (8, .int r28), (9, .int r30)]) (pc := 235) hΓ d_M_cuts_235 (by decide) rfl ?_
              refine go_sub' (lv' := [(0, .ref 44), (1, .int x1), (3, .int x3), (4, .int x4), (5, .int x5), (6, .int v40), (7, .int a7)]) rfl ?_
              exact k32h v40 μ43
          · refine go_icmp_ne 205 (pc := 198) hΓ d_M_cuts_198 (by decide) (fun h37 => ?_) (fun h37 => ?_)
            · rw [if_neg h37]
              refine go_iconst (v := 0) (pc := 205) hΓ d_M_cuts_205 (by decide) ?_
              refine go_sub' (lv' := [(0, .ref 44), (1, .int x1), (3, .int x3), (4, .int x4), (5, .int x5), (6, .int a6), (7, .int a7), (8, .int r28), (9, .int r30)]) rfl ?_
              exact g44h _
            · rw [if_pos h37]
              refine go_iconst (v := 1) (pc := 201) hΓ d_M_cuts_201 (by decide) ?_
              refine go_goto 206 (pc := 202) hΓ d_M_cuts_202 (by decide) ?_
              refine go_sub' (lv' := [(0, .ref 44), (1, .int x1), (3, .int x3), (4, .int x4), (5, .int x5), (6, .int a6), (7, .int a7), (8, .int r28), (9, .int r30)]) rfl ?_
              exact g44h _
        · refine go_icmp_eq 193 (pc := 138) hΓ d_M_cuts_138 (by decide) (fun h45 => go_eq (if_pos h45) ?_) (fun h45 => go_eq (if_neg h45) ?_)
          · refine go_sub' (lv' := [(0, .ref 44), (1, .int x1), (3, .int x3), (4, .int x4), (5, .int x5), (6, .int a6), (7, .int a7), (8, .int r28), (9, .int r30)]) rfl ?_
            exact k36h ()
          · refine go_iload (q := 7) (pc := 141) hΓ d_M_cuts_141 rfl ?_
            refine go_iload (q := 0) (pc := 143) hΓ d_M_cuts_143 rfl ?_
            refine go_icmp_eq 193 (pc := 145) hΓ d_M_cuts_145 (by decide) (fun h46 => go_eq (if_pos h46) ?_) (fun h46 => go_eq (if_neg h46) ?_)
            · refine go_sub' (lv' := [(0, .ref 44), (1, .int x1), (3, .int x3), (4, .int x4), (5, .int x5), (6, .int a6), (7, .int a7), (8, .int r28), (9, .int r30)]) rfl ?_
              exact k36h ()
            · refine go_aload_n (q := 2) (i := 0) (pc := 148) hΓ d_M_cuts_148 rfl rfl ?_
              refine go_getR (q := 51) (pc := 149) hΓ fl_M_29 d_M_cuts_149 rfl rfl ?_
              refine go_aload_n (q := 2) (i := 0) (pc := 152) hΓ d_M_cuts_152 rfl rfl ?_
              refine go_getI (pc := 153) hΓ fl_M_117 d_M_cuts_153 rfl rfl ?_
              refine go_aload_n (q := 2) (i := 0) (pc := 156) hΓ d_M_cuts_156 rfl rfl ?_
              refine go_getR (q := 56) (pc := 157) hΓ fl_M_44 d_M_cuts_157 rfl rfl ?_
              refine go_iload (q := 1) (pc := 160) hΓ d_M_cuts_160 rfl ?_
              refine go_ck (fun h47 => ?_)
              refine go_iald (pc := 162) hΓ d_M_cuts_162 rfl h47 ?_
              refine go_ck (fun h48 => ?_)
              refine go_iast (pc := 163) hΓ d_M_cuts_163 rfl h48 ?_
              refine go_letM (fun μ49 => ?_)
              refine go_aload_n (q := 2) (i := 0) (pc := 164) hΓ d_M_cuts_164 rfl rfl ?_
              refine go_getR (q := 52) (pc := 165) hΓ fl_M_32 d_M_cuts_165 rfl rfl ?_
              refine go_aload_n (q := 2) (i := 0) (pc := 168) hΓ d_M_cuts_168 rfl rfl ?_
              refine go_getI (pc := 169) hΓ fl_M_117 d_M_cuts_169 rfl rfl ?_
              refine go_aload_n (q := 2) (i := 0) (pc := 172) hΓ d_M_cuts_172 rfl rfl ?_
              refine go_getR (q := 56) (pc := 173) hΓ fl_M_44 d_M_cuts_173 rfl rfl ?_
              refine go_iload (q := 0) (pc := 176) hΓ d_M_cuts_176 rfl ?_
              refine go_ck (fun h50 => ?_)
              refine go_iald (pc := 178) hΓ d_M_cuts_178 rfl h50 ?_
              refine go_ck (fun h51 => ?_)
              refine go_iast (pc := 179) hΓ d_M_cuts_179 rfl h51 ?_
              refine go_letM (fun μ52 => ?_)
              refine go_aload_n (q := 2) (i := 0) (pc := 180) hΓ d_M_cuts_180 rfl rfl ?_
              refine go_dup (pc := 181) hΓ d_M_cuts_181 rfl ?_
              refine go_getI (pc := 182) hΓ fl_M_117 d_M_cuts_182 rfl rfl ?_
              refine go_iconst (v := 1) (pc := 185) hΓ d_M_cuts_185 (by decide) ?_
              refine go_iadd (pc := 186) hΓ d_M_cuts_186 ?_
              refine go_putI (pc := 187) hΓ fp_M_117 d_M_cuts_187 rfl rfl ?_
              refine go_letM (fun μ53 => ?_)
              refine go_goto 237 (pc := 190) hΓ d_M_cuts_190 (by decide) ?_
              refine go_sub' (lv' := [(0, .ref 44), (1, .int x1), (3, .int x3), (4, .int x4), (5, .int x5), (6, .int a6), (7, .int a7)]) rfl ?_
              exact k32h a6 μ53
set_option maxHeartbeats 4000000 in
set_option maxRecDepth 100000 in
theorem g_M_cuts (N d : Nat) (x1 : Int32) (x2 : Int32) (x3 : Int32) (x4 : Int32)  : CallF eI y_M_cuts c_M_cuts 11 (some .int) (d + 3 + 1) [.ref 44, .int x1, .int x2, .int x3, .int x4] (f_M_cuts N x1 x2 x3 x4) := by
  refine call_of (d := d + 3) (n := 4) mi_M_cuts.1 (fun _ => rfl) ?_
  intro Γ μ0 hΓ hT hR
  show Go Γ 11 0 [(0, .ref 44), (1, .int x1), (2, .int x2), (3, .int x3), (4, .int x4)] [] μ0 (f_M_cuts N x1 x2 x3 x4 μ0)
  unfold f_M_cuts
  refine go_aload_n (q := 0) (i := 0) (pc := 0) hΓ d_M_cuts_0 rfl rfl ?_
  refine go_iconst (v := 0) (pc := 1) hΓ d_M_cuts_1 (by decide) ?_
  refine go_putI (pc := 2) hΓ fp_M_69 d_M_cuts_2 rfl rfl ?_
  refine go_letM (fun μ1 => ?_)
  refine go_iload_n (q := 1) (i := 1) (pc := 5) hΓ d_M_cuts_5 rfl rfl ?_
  refine go_callS (index := 151) emI hΓ hR (g_M_isNet N (d + 1) x1) mi_M_isNet ml_M_151 d_M_cuts_6 rfl rfl rfl (fun r2 μ3 => ?_)
  show Go Γ 11 9 [(0, .ref 44), (1, .int x1), (2, .int x2), (3, .int x3), (4, .int x4)] [.int r2] μ3 _
  refine go_if_eq 29 (pc := 9) hΓ d_M_cuts_9 (by decide) (fun h4 => go_eq (if_pos h4) ?_) (fun h4 => go_eq (if_neg h4) ?_)
  · refine go_iconst (v := -1) (pc := 29) hΓ d_M_cuts_29 (by decide) ?_
    exact go_iret (pc := 30) hΓ hT d_M_cuts_30
  · refine go_iload (q := 4) (pc := 12) hΓ d_M_cuts_12 rfl ?_
    refine go_callS (index := 151) emI hΓ hR (g_M_isNet N (d + 1) x4) mi_M_isNet ml_M_151 d_M_cuts_14 rfl rfl rfl (fun r5 μ6 => ?_)
    show Go Γ 11 17 [(0, .ref 44), (1, .int x1), (2, .int x2), (3, .int x3), (4, .int x4)] [.int r5] μ6 _
    refine go_if_eq 29 (pc := 17) hΓ d_M_cuts_17 (by decide) (fun h7 => go_eq (if_pos h7) ?_) (fun h7 => go_eq (if_neg h7) ?_)
    · refine go_iconst (v := -1) (pc := 29) hΓ d_M_cuts_29 (by decide) ?_
      exact go_iret (pc := 30) hΓ hT d_M_cuts_30
    · refine go_aload_n (q := 0) (i := 0) (pc := 20) hΓ d_M_cuts_20 rfl rfl ?_
      refine go_iload_n (q := 1) (i := 1) (pc := 21) hΓ d_M_cuts_21 rfl rfl ?_
      refine go_iload_n (q := 2) (i := 2) (pc := 22) hΓ d_M_cuts_22 rfl rfl ?_
      refine go_callV (index := 196) emI hΓ hR (g_M_isWire N (d + 1) x1 x2) mi_M_isWire ml_M_196 d_M_cuts_23 rfl rfl rfl rfl rfl (fun r8 μ9 => ?_)
      show Go Γ 11 26 [(0, .ref 44), (1, .int x1), (2, .int x2), (3, .int x3), (4, .int x4)] [.int r8] μ9 _
      refine go_if_ne 31 (pc := 26) hΓ d_M_cuts_26 (by decide) (fun h10 => go_eq (if_neg h10) ?_) (fun h10 => go_eq (if_pos h10) ?_)
      · refine go_aload_n (q := 0) (i := 0) (pc := 31) hΓ d_M_cuts_31 rfl rfl ?_
        refine go_getR (q := 46) (pc := 32) hΓ fl_M_13 d_M_cuts_32 rfl rfl ?_
        refine go_iload_n (q := 1) (i := 1) (pc := 35) hΓ d_M_cuts_35 rfl rfl ?_
        refine go_ck (fun h11 => ?_)
        refine go_iald (pc := 36) hΓ d_M_cuts_36 rfl h11 ?_
        refine go_iconst (v := 2) (pc := 37) hΓ d_M_cuts_37 (by decide) ?_
        refine go_icmp_ne 44 (pc := 38) hΓ d_M_cuts_38 (by decide) (fun h12 => go_eq (if_neg h12) ?_) (fun h12 => go_eq (if_pos h12) ?_)
        · refine go_aload_n (q := 0) (i := 0) (pc := 44) hΓ d_M_cuts_44 rfl rfl ?_
          refine go_getR (q := 46) (pc := 45) hΓ fl_M_13 d_M_cuts_45 rfl rfl ?_
          refine go_iload_n (q := 1) (i := 1) (pc := 48) hΓ d_M_cuts_48 rfl rfl ?_
          refine go_ck (fun h13 => ?_)
          refine go_iald (pc := 49) hΓ d_M_cuts_49 rfl h13 ?_
          refine go_iconst (v := 1) (pc := 50) hΓ d_M_cuts_50 (by decide) ?_
          refine go_isub (pc := 51) hΓ d_M_cuts_51 ?_
          refine go_letI (fun v14 => ?_)
          refine go_istore (lv' := [(5, .int v14), (0, .ref 44), (1, .int x1), (2, .int x2), (3, .int x3), (4, .int x4)]) (pc := 52) hΓ d_M_cuts_52 (by decide) rfl ?_
          refine go_iconst (v := 0) (pc := 54) hΓ d_M_cuts_54 (by decide) ?_
          refine go_istore (lv' := [(6, .int 0), (5, .int v14), (0, .ref 44), (1, .int x1), (2, .int x2), (3, .int x3), (4, .int x4)]) (pc := 55) hΓ d_M_cuts_55 (by decide) rfl ?_
          refine go_sub' (lv' := [(0, .ref 44), (1, .int x1), (2, .int x2), (3, .int x3), (4, .int x4), (5, .int v14), (6, .int 0)]) rfl ?_
          refine glp_M_cuts_57 N d hΓ hT hR x1 x2 x3 x4 v14 _ (fun μ24 => ?_) N 0 μ9
          refine go_iload_n (q := 2) (i := 2) (pc := 94) hΓ d_M_cuts_94 rfl rfl ?_
          refine go_istore (lv' := [(6, .int x2), (0, .ref 44), (1, .int x1), (2, .int x2), (3, .int x3), (4, .int x4), (5, .int v14)]) (pc := 95) hΓ d_M_cuts_95 (by decide) rfl ?_
          refine go_aload_n (q := 1) (i := 0) (pc := 97) hΓ d_M_cuts_97 rfl rfl ?_
          refine go_iconst (v := 0) (pc := 98) hΓ d_M_cuts_98 (by decide) ?_
          refine go_putI (pc := 99) hΓ fp_M_117 d_M_cuts_99 rfl rfl ?_
          refine go_letM (fun μ25 => ?_)
          refine go_iconst (v := 0) (pc := 102) hΓ d_M_cuts_102 (by decide) ?_
          refine go_istore (lv' := [(7, .int 0), (6, .int x2), (0, .ref 44), (1, .int x1), (2, .int x2), (3, .int x3), (4, .int x4), (5, .int v14)]) (pc := 103) hΓ d_M_cuts_103 (by decide) rfl ?_
          refine go_sub' (lv' := [(0, .ref 44), (1, .int x1), (3, .int x3), (4, .int x4), (5, .int v14), (6, .int x2), (7, .int 0)]) rfl ?_
          refine glp_M_cuts_105 N d hΓ hT hR x1 x3 x4 v14 _ (fun v54 μ55 => ?_) N x2 0 μ25
          refine go_aload_n (q := 0) (i := 0) (pc := 243) hΓ d_M_cuts_243 rfl rfl ?_
          refine go_iload (q := 1) (pc := 244) hΓ d_M_cuts_244 rfl ?_
          refine go_iload (q := 2) (pc := 246) hΓ d_M_cuts_246 rfl ?_
          refine go_callV (index := 154) emV hΓ hR (g_M_untangles N (d + 0) x4 v14) mi_M_untangles ml_M_154 d_M_cuts_248 rfl rfl rfl rfl rfl (fun _ μ57 => ?_)
          show Go Γ 11 251 [(0, .ref 44), (4, .int x4), (5, .int v14), (6, .int v54)] [] μ57 _
          refine go_aload_n (q := 0) (i := 0) (pc := 251) hΓ d_M_cuts_251 rfl rfl ?_
          refine go_iload (q := 3) (pc := 252) hΓ d_M_cuts_252 rfl ?_
          refine go_i2l (pc := 254) hΓ d_M_cuts_254 ?_
          refine go_callV (index := 221) emV hΓ hR (g_M_tellsOne N (d + 1) (Int32.toInt64 v54)) mi_M_tellsOne ml_M_221 d_M_cuts_255 rfl rfl rfl rfl rfl (fun _ μ59 => ?_)
          show Go Γ 11 258 [(0, .ref 44), (4, .int x4), (5, .int v14), (6, .int v54)] [] μ59 _
          refine go_aload_n (q := 0) (i := 0) (pc := 258) hΓ d_M_cuts_258 rfl rfl ?_
          refine go_getR (q := 47) (pc := 259) hΓ fl_M_17 d_M_cuts_259 rfl rfl ?_
          refine go_iload (q := 1) (pc := 262) hΓ d_M_cuts_262 rfl ?_
          refine go_ck (fun h60 => ?_)
          refine go_iald (pc := 264) hΓ d_M_cuts_264 rfl h60 ?_
          exact go_iret (pc := 265) hΓ hT d_M_cuts_265
        · refine go_bipush (v := -2) (pc := 41) hΓ d_M_cuts_41 (by decide) ?_
          exact go_iret (pc := 43) hΓ hT d_M_cuts_43
      · refine go_iconst (v := -1) (pc := 29) hΓ d_M_cuts_29 (by decide) ?_
        exact go_iret (pc := 30) hΓ hT d_M_cuts_30
def f_M_isPattern (N : Nat) (x1 : Int32) (x2 : Int32) (μ0 : Mem) : Option (Int32 × Mem) :=
  bnd (f_M_all N x1 μ0) fun r1 μ2 => bnd (f_M_in N (Int32.toInt64 x2) 0 (Int32.toInt64 (r1 - 1)) μ2) fun r3 μ4 => ck (isb r3) (some (r3, μ4))
set_option maxHeartbeats 4000000 in
set_option maxRecDepth 100000 in
theorem g_M_isPattern (N d : Nat) (x1 : Int32) (x2 : Int32)  : CallF eI y_M_isPattern c_M_isPattern 3 (some .boolean) (d + 1 + 1) [.ref 44, .int x1, .int x2] (f_M_isPattern N x1 x2) := by
  refine call_of (d := d + 1) (n := 2) mi_M_isPattern.1 (fun _ => rfl) ?_
  intro Γ μ0 hΓ hT hR
  show Go Γ 3 0 [(0, .ref 44), (1, .int x1), (2, .int x2)] [] μ0 (f_M_isPattern N x1 x2 μ0)
  unfold f_M_isPattern
  refine go_iload_n (q := 2) (i := 2) (pc := 0) hΓ d_M_isPattern_0 rfl rfl ?_
  refine go_i2l (pc := 1) hΓ d_M_isPattern_1 ?_
  refine go_lconst (v := 0) (pc := 2) hΓ d_M_isPattern_2 (by decide) ?_
  refine go_aload_n (q := 0) (i := 0) (pc := 3) hΓ d_M_isPattern_3 rfl rfl ?_
  refine go_iload_n (q := 1) (i := 1) (pc := 4) hΓ d_M_isPattern_4 rfl rfl ?_
  refine go_callV (index := 86) emI hΓ hR (g_M_all N (d + 0) x1) mi_M_all ml_M_86 d_M_isPattern_5 rfl rfl rfl rfl rfl (fun r1 μ2 => ?_)
  show Go Γ 3 8 [(0, .ref 44), (1, .int x1), (2, .int x2)] [.int r1, .long 0, .long (Int32.toInt64 x2)] μ2 _
  refine go_iconst (v := 1) (pc := 8) hΓ d_M_isPattern_8 (by decide) ?_
  refine go_isub (pc := 9) hΓ d_M_isPattern_9 ?_
  refine go_i2l (pc := 10) hΓ d_M_isPattern_10 ?_
  refine go_callS (index := 82) emI hΓ hR (g_M_in N (d + 0) (Int32.toInt64 x2) 0 (Int32.toInt64 (r1 - 1))) mi_M_in ml_M_82 d_M_isPattern_11 rfl rfl rfl (fun r3 μ4 => ?_)
  show Go Γ 3 14 [(0, .ref 44), (1, .int x1), (2, .int x2)] [.int r3] μ4 _
  refine go_ck (fun h5 => ?_)
  exact go_zret (pc := 14) hΓ hT d_M_isPattern_14 h5
def f_M_runs (N : Nat) (x1 : Int32) (x2 : Int32) (μ0 : Mem) : Option (Int32 × Mem) :=
  lt' (sI μ0 44 0 0) fun μ1 => bnd (f_M_isNet N x1 μ1) fun r2 μ3 => if r2 = 0 then (some ((-1), μ3)) else (bnd (f_M_isPattern N x1 x2 μ3) fun r5 μ6 => if r5 = 0 then (some ((-1), μ6)) else (bnd (f_M_result N x1 x2 (-1) 0 μ6) fun r8 μ9 => bnd (f_M_tellsOne N (gL μ9 44 21) μ9) fun _ μ11 => some (r8, μ11)))
set_option maxHeartbeats 4000000 in
set_option maxRecDepth 100000 in
theorem g_M_runs (N d : Nat) (x1 : Int32) (x2 : Int32)  : CallF eI y_M_runs c_M_runs 4 (some .int) (d + 2 + 1) [.ref 44, .int x1, .int x2] (f_M_runs N x1 x2) := by
  refine call_of (d := d + 2) (n := 2) mi_M_runs.1 (fun _ => rfl) ?_
  intro Γ μ0 hΓ hT hR
  show Go Γ 4 0 [(0, .ref 44), (1, .int x1), (2, .int x2)] [] μ0 (f_M_runs N x1 x2 μ0)
  unfold f_M_runs
  refine go_aload_n (q := 0) (i := 0) (pc := 0) hΓ d_M_runs_0 rfl rfl ?_
  refine go_iconst (v := 0) (pc := 1) hΓ d_M_runs_1 (by decide) ?_
  refine go_putI (pc := 2) hΓ fp_M_69 d_M_runs_2 rfl rfl ?_
  refine go_letM (fun μ1 => ?_)
  refine go_iload_n (q := 1) (i := 1) (pc := 5) hΓ d_M_runs_5 rfl rfl ?_
  refine go_callS (index := 151) emI hΓ hR (g_M_isNet N (d + 0) x1) mi_M_isNet ml_M_151 d_M_runs_6 rfl rfl rfl (fun r2 μ3 => ?_)
  show Go Γ 4 9 [(0, .ref 44), (1, .int x1), (2, .int x2)] [.int r2] μ3 _
  refine go_if_eq 21 (pc := 9) hΓ d_M_runs_9 (by decide) (fun h4 => go_eq (if_pos h4) ?_) (fun h4 => go_eq (if_neg h4) ?_)
  · refine go_iconst (v := -1) (pc := 21) hΓ d_M_runs_21 (by decide) ?_
    exact go_iret (pc := 22) hΓ hT d_M_runs_22
  · refine go_aload_n (q := 0) (i := 0) (pc := 12) hΓ d_M_runs_12 rfl rfl ?_
    refine go_iload_n (q := 1) (i := 1) (pc := 13) hΓ d_M_runs_13 rfl rfl ?_
    refine go_iload_n (q := 2) (i := 2) (pc := 14) hΓ d_M_runs_14 rfl rfl ?_
    refine go_callV (index := 242) emI hΓ hR (g_M_isPattern N (d + 0) x1 x2) mi_M_isPattern ml_M_242 d_M_runs_15 rfl rfl rfl rfl rfl (fun r5 μ6 => ?_)
    show Go Γ 4 18 [(0, .ref 44), (1, .int x1), (2, .int x2)] [.int r5] μ6 _
    refine go_if_ne 23 (pc := 18) hΓ d_M_runs_18 (by decide) (fun h7 => go_eq (if_neg h7) ?_) (fun h7 => go_eq (if_pos h7) ?_)
    · refine go_aload_n (q := 0) (i := 0) (pc := 23) hΓ d_M_runs_23 rfl rfl ?_
      refine go_iload_n (q := 1) (i := 1) (pc := 24) hΓ d_M_runs_24 rfl rfl ?_
      refine go_iload_n (q := 2) (i := 2) (pc := 25) hΓ d_M_runs_25 rfl rfl ?_
      refine go_iconst (v := -1) (pc := 26) hΓ d_M_runs_26 (by decide) ?_
      refine go_iconst (v := 0) (pc := 27) hΓ d_M_runs_27 (by decide) ?_
      refine go_callV (index := 228) emI hΓ hR (g_M_result N (d + 0) x1 x2 (-1) 0) mi_M_result ml_M_228 d_M_runs_28 rfl rfl rfl rfl rfl (fun r8 μ9 => ?_)
      show Go Γ 4 31 [(0, .ref 44), (1, .int x1), (2, .int x2)] [.int r8] μ9 _
      refine go_istore_n (i := 3) (lv' := [(3, .int r8), (0, .ref 44), (1, .int x1), (2, .int x2)]) (pc := 31) hΓ d_M_runs_31 rfl (by decide) rfl ?_
      refine go_aload_n (q := 1) (i := 0) (pc := 32) hΓ d_M_runs_32 rfl rfl ?_
      refine go_aload_n (q := 1) (i := 0) (pc := 33) hΓ d_M_runs_33 rfl rfl ?_
      refine go_getL (pc := 34) hΓ fl_M_224 d_M_runs_34 rfl rfl ?_
      refine go_callV (index := 221) emV hΓ hR (g_M_tellsOne N (d + 0) (gL μ9 44 21)) mi_M_tellsOne ml_M_221 d_M_runs_37 rfl rfl rfl rfl rfl (fun _ μ11 => ?_)
      show Go Γ 4 40 [(3, .int r8), (0, .ref 44), (1, .int x1), (2, .int x2)] [] μ11 _
      refine go_iload_n (q := 0) (i := 3) (pc := 40) hΓ d_M_runs_40 rfl rfl ?_
      exact go_iret (pc := 41) hΓ hT d_M_runs_41
    · refine go_iconst (v := -1) (pc := 21) hΓ d_M_runs_21 (by decide) ?_
      exact go_iret (pc := 22) hΓ hT d_M_runs_22
def f_M_isDigit (N : Nat)  (μ0 : Mem) : Option (Int32 × Mem) :=
  if (gI μ0 44 9) < (gI μ0 44 10) then (ck (inb (gI μ0 44 9) 200) (bnd (f_M_in N (Int32.toInt64 (gI μ0 50 (tn (gI μ0 44 9)))) 48 57 μ0) fun r3 μ4 => if r3 = 0 then (some (0, μ4)) else (some (1, μ4)))) else (some (0, μ0))
set_option maxHeartbeats 4000000 in
set_option maxRecDepth 100000 in
theorem g_M_isDigit (N d : Nat)   : CallF eI y_M_isDigit c_M_isDigit 1 (some .boolean) (d + 1 + 1) [.ref 44] (f_M_isDigit N ) := by
  refine call_of (d := d + 1) (n := 0) mi_M_isDigit.1 (fun _ => rfl) ?_
  intro Γ μ0 hΓ hT hR
  show Go Γ 1 0 [(0, .ref 44)] [] μ0 (f_M_isDigit N  μ0)
  unfold f_M_isDigit
  refine go_aload_n (q := 0) (i := 0) (pc := 0) hΓ d_M_isDigit_0 rfl rfl ?_
  refine go_getI (pc := 1) hΓ fl_M_100 d_M_isDigit_1 rfl rfl ?_
  refine go_aload_n (q := 0) (i := 0) (pc := 4) hΓ d_M_isDigit_4 rfl rfl ?_
  refine go_getI (pc := 5) hΓ fl_M_97 d_M_isDigit_5 rfl rfl ?_
  refine go_icmp_ge 37 (pc := 8) hΓ d_M_isDigit_8 (by decide) (fun h1 => go_eq (if_neg h1) ?_) (fun h1 => go_eq (if_pos h1) ?_)
  · refine go_iconst (v := 0) (pc := 37) hΓ d_M_isDigit_37 (by decide) ?_
    exact go_zret (pc := 38) hΓ hT d_M_isDigit_38 rfl
  · refine go_aload_n (q := 0) (i := 0) (pc := 11) hΓ d_M_isDigit_11 rfl rfl ?_
    refine go_getR (q := 50) (pc := 12) hΓ fl_M_26 d_M_isDigit_12 rfl rfl ?_
    refine go_aload_n (q := 0) (i := 0) (pc := 15) hΓ d_M_isDigit_15 rfl rfl ?_
    refine go_getI (pc := 16) hΓ fl_M_100 d_M_isDigit_16 rfl rfl ?_
    refine go_ck (fun h2 => ?_)
    refine go_iald (pc := 19) hΓ d_M_isDigit_19 rfl h2 ?_
    refine go_i2l (pc := 20) hΓ d_M_isDigit_20 ?_
    refine go_ldc2 (v := 48) (pc := 21) hΓ (tb_5 (List.mem_of_getElem? (i := 169) rfl) rfl) d_M_isDigit_21 ?_
    refine go_ldc2 (v := 57) (pc := 24) hΓ (tb_5 (List.mem_of_getElem? (i := 170) rfl) rfl) d_M_isDigit_24 ?_
    refine go_callS (index := 82) emI hΓ hR (g_M_in N (d + 0) (Int32.toInt64 (gI μ0 50 (tn (gI μ0 44 9)))) 48 57) mi_M_in ml_M_82 d_M_isDigit_27 rfl rfl rfl (fun r3 μ4 => ?_)
    show Go Γ 1 30 [(0, .ref 44)] [.int r3] μ4 _
    refine go_if_eq 37 (pc := 30) hΓ d_M_isDigit_30 (by decide) (fun h5 => go_eq (if_pos h5) ?_) (fun h5 => go_eq (if_neg h5) ?_)
    · refine go_iconst (v := 0) (pc := 37) hΓ d_M_isDigit_37 (by decide) ?_
      exact go_zret (pc := 38) hΓ hT d_M_isDigit_38 rfl
    · refine go_iconst (v := 1) (pc := 33) hΓ d_M_isDigit_33 (by decide) ?_
      refine go_goto 38 (pc := 34) hΓ d_M_isDigit_34 (by decide) ?_
      exact go_zret (pc := 38) hΓ hT d_M_isDigit_38 rfl
def lp_M_takesNumbers_36 (N : Nat) (x1 : Int32) (x2 : Int32)  (K : Int32 → Mem → Option (Int32 × Mem)) : Nat → Int32 → Int32 → Mem → Option (Int32 × Mem)
  | 0, _, _, _ => none
  | n + 1, a3, a4, μ0 => if a4 < 4 then (bnd (f_M_isDigit N  μ0) fun r8 μ9 => if r8 = 0 then (K a3 μ9) else (ck (inb (gI μ9 44 9) 200) (lt' (((10 * a3) + (gI μ9 50 (tn (gI μ9 44 9)))) - 48) fun v12 => lt' (sI μ9 44 9 ((gI μ9 44 9) + 1)) fun μ13 => lt' (a4 + 1) fun v14 => lp_M_takesNumbers_36 N x1 x2 K n v12 v14 μ13))) else (K a3 μ0)
def lp_M_takesNumbers_2 (N : Nat) (x1 : Int32)  (K : Mem → Option (Int32 × Mem)) : Nat → Int32 → Mem → Option (Int32 × Mem)
  | 0, _, _ => none
  | n + 1, a2, μ0 => if a2 < x1 then (lt' (fun (μ3 : Mem) => bnd (f_M_isDigit N  μ3) fun r4 μ5 => if r4 = 0 then (some (0, μ5)) else (lp_M_takesNumbers_36 N x1 a2 (fun v15 μ16 => ck (inb a2 8) (lt' (sI μ16 57 (tn a2) v15) fun μ18 => lt' (a2 + 1) fun v19 => lp_M_takesNumbers_2 N x1 K n v19 μ18)) N 0 0 μ5)) fun (k2 : Mem → Option (Int32 × Mem)) => if 0 < a2 then (bnd (f_M_takes N 44 μ0) fun r21 μ22 => if r21 = 0 then (some (0, μ22)) else (k2 μ22)) else (k2 μ0)) else (K  μ0)
def f_M_takesNumbers (N : Nat) (x1 : Int32) (μ0 : Mem) : Option (Int32 × Mem) :=
  lp_M_takesNumbers_2 N x1 (fun μ24 => if (gI μ24 44 9) = (gI μ24 44 10) then (some (1, μ24)) else (some (0, μ24))) N 0 μ0
set_option maxHeartbeats 4000000 in
set_option maxRecDepth 100000 in
theorem glp_M_takesNumbers_36 (N d : Nat) {Γ : Cx Int32} (hΓ : Ok Γ "SortingNetsModel" c_M_takesNumbers 5) (hT : Rt Γ eI (some .boolean)) (hR : Rm Γ (d + 2)) (x1 : Int32) (x2 : Int32)    (K : Int32 → Mem → Option (Int32 × Mem)) (hK : ∀ (b3 : Int32) (ν : Mem), Go Γ 5 83 [(0, .ref 44), (1, .int x1), (2, .int x2), (3, .int b3)] [] ν (K b3 ν)) : ∀ (n : Nat) (a3 : Int32) (a4 : Int32) (μ0 : Mem), Go Γ 5 36 [(0, .ref 44), (1, .int x1), (2, .int x2), (3, .int a3), (4, .int a4)] [] μ0 (lp_M_takesNumbers_36 N x1 x2 K n a3 a4 μ0) := by
  intro n
  induction n with
  | zero => intro a3 a4 μ0; exact go_none
  | succ n ih =>
    intro a3 a4 μ0
    rw [lp_M_takesNumbers_36]
    refine go_iload (q := 4) (pc := 36) hΓ d_M_takesNumbers_36 rfl ?_
    refine go_iconst (v := 4) (pc := 38) hΓ d_M_takesNumbers_38 (by decide) ?_
    refine go_icmp_ge 83 (pc := 39) hΓ d_M_takesNumbers_39 (by decide) (fun h7 => go_eq (if_neg h7) ?_) (fun h7 => go_eq (if_pos h7) ?_)
    · refine go_sub' (lv' := [(0, .ref 44), (1, .int x1), (2, .int x2), (3, .int a3)]) rfl ?_
      exact hK a3 μ0
    · refine go_aload_n (q := 0) (i := 0) (pc := 42) hΓ d_M_takesNumbers_42 rfl rfl ?_
      refine go_callV (index := 245) emI hΓ hR (g_M_isDigit N (d + 0) ) mi_M_isDigit ml_M_245 d_M_takesNumbers_43 rfl rfl rfl rfl rfl (fun r8 μ9 => ?_)
      show Go Γ 5 46 [(0, .ref 44), (1, .int x1), (2, .int x2), (3, .int a3), (4, .int a4)] [.int r8] μ9 _
      refine go_if_eq 83 (pc := 46) hΓ d_M_takesNumbers_46 (by decide) (fun h10 => go_eq (if_pos h10) ?_) (fun h10 => go_eq (if_neg h10) ?_)
      · refine go_sub' (lv' := [(0, .ref 44), (1, .int x1), (2, .int x2), (3, .int a3)]) rfl ?_
        exact hK a3 μ9
      · refine go_bipush (v := 10) (pc := 49) hΓ d_M_takesNumbers_49 (by decide) ?_
        refine go_iload_n (q := 3) (i := 3) (pc := 51) hΓ d_M_takesNumbers_51 rfl rfl ?_
        refine go_imul (pc := 52) hΓ d_M_takesNumbers_52 ?_
        refine go_aload_n (q := 0) (i := 0) (pc := 53) hΓ d_M_takesNumbers_53 rfl rfl ?_
        refine go_getR (q := 50) (pc := 54) hΓ fl_M_26 d_M_takesNumbers_54 rfl rfl ?_
        refine go_aload_n (q := 0) (i := 0) (pc := 57) hΓ d_M_takesNumbers_57 rfl rfl ?_
        refine go_getI (pc := 58) hΓ fl_M_100 d_M_takesNumbers_58 rfl rfl ?_
        refine go_ck (fun h11 => ?_)
        refine go_iald (pc := 61) hΓ d_M_takesNumbers_61 rfl h11 ?_
        refine go_iadd (pc := 62) hΓ d_M_takesNumbers_62 ?_
        refine go_bipush (v := 48) (pc := 63) hΓ d_M_takesNumbers_63 (by decide) ?_
        refine go_isub (pc := 65) hΓ d_M_takesNumbers_65 ?_
        refine go_letI (fun v12 => ?_)
        refine go_istore_n (i := 3) (lv' := [(3, .int v12), (0, .ref 44), (1, .int x1), (2, .int x2), (4, .int a4)]) (pc := 66) hΓ d_M_takesNumbers_66 rfl (by decide) rfl ?_
        refine go_aload_n (q := 1) (i := 0) (pc := 67) hΓ d_M_takesNumbers_67 rfl rfl ?_
        refine go_dup (pc := 68) hΓ d_M_takesNumbers_68 rfl ?_
        refine go_getI (pc := 69) hΓ fl_M_100 d_M_takesNumbers_69 rfl rfl ?_
        refine go_iconst (v := 1) (pc := 72) hΓ d_M_takesNumbers_72 (by decide) ?_
        refine go_iadd (pc := 73) hΓ d_M_takesNumbers_73 ?_
        refine go_putI (pc := 74) hΓ fp_M_100 d_M_takesNumbers_74 rfl rfl ?_
        refine go_letM (fun μ13 => ?_)
        refine go_incI (q := 4) (i := 4) (n := 1) (c := 1) (pc := 77) hΓ d_M_takesNumbers_77 rfl (by decide) (by decide) (fun v14 => ?_)
        refine go_sub' (lv' := [(4, .int v14), (3, .int v12), (0, .ref 44), (1, .int x1), (2, .int x2)]) rfl ?_
        refine go_goto 36 (pc := 80) hΓ d_M_takesNumbers_80 (by decide) ?_
        refine go_sub' (lv' := [(0, .ref 44), (1, .int x1), (2, .int x2), (3, .int v12), (4, .int v14)]) rfl ?_
        exact ih v12 v14 μ13
set_option maxHeartbeats 4000000 in
set_option maxRecDepth 100000 in
theorem glp_M_takesNumbers_2 (N d : Nat) {Γ : Cx Int32} (hΓ : Ok Γ "SortingNetsModel" c_M_takesNumbers 5) (hT : Rt Γ eI (some .boolean)) (hR : Rm Γ (d + 2)) (x1 : Int32)    (K : Mem → Option (Int32 × Mem)) (hK : ∀  (ν : Mem), Go Γ 5 96 [(0, .ref 44)] [] ν (K  ν)) : ∀ (n : Nat) (a2 : Int32) (μ0 : Mem), Go Γ 5 2 [(0, .ref 44), (1, .int x1), (2, .int a2)] [] μ0 (lp_M_takesNumbers_2 N x1 K n a2 μ0) := by
  intro n
  induction n with
  | zero => intro a2 μ0; exact go_none
  | succ n ih =>
    intro a2 μ0
    rw [lp_M_takesNumbers_2]
    refine go_iload_n (q := 2) (i := 2) (pc := 2) hΓ d_M_takesNumbers_2 rfl rfl ?_
    refine go_iload_n (q := 1) (i := 1) (pc := 3) hΓ d_M_takesNumbers_3 rfl rfl ?_
    refine go_icmp_ge 96 (pc := 4) hΓ d_M_takesNumbers_4 (by decide) (fun h1 => go_eq (if_neg h1) ?_) (fun h1 => go_eq (if_pos h1) ?_)
    · refine go_sub' (lv' := [(0, .ref 44)]) rfl ?_
      exact hK  μ0
    · refine go_iload_n (q := 2) (i := 2) (pc := 7) hΓ d_M_takesNumbers_7 rfl rfl ?_
      refine go_join (fun (k2 : Mem → Option (Int32 × Mem)) => ∀ (μ3 : Mem), Go Γ 5 22 [(0, .ref 44), (1, .int x1), (2, .int a2)] [] μ3 (k2 μ3)) ?_ (fun k2 k2h => ?_)
      · intro μ3
        refine go_aload_n (q := 0) (i := 0) (pc := 22) hΓ d_M_takesNumbers_22 rfl rfl ?_
        refine go_callV (index := 245) emI hΓ hR (g_M_isDigit N (d + 0) ) mi_M_isDigit ml_M_245 d_M_takesNumbers_23 rfl rfl rfl rfl rfl (fun r4 μ5 => ?_)
        show Go Γ 5 26 [(0, .ref 44), (1, .int x1), (2, .int a2)] [.int r4] μ5 _
        refine go_if_ne 31 (pc := 26) hΓ d_M_takesNumbers_26 (by decide) (fun h6 => go_eq (if_neg h6) ?_) (fun h6 => go_eq (if_pos h6) ?_)
        · refine go_iconst (v := 0) (pc := 31) hΓ d_M_takesNumbers_31 (by decide) ?_
          refine go_istore_n (i := 3) (lv' := [(3, .int 0), (0, .ref 44), (1, .int x1), (2, .int a2)]) (pc := 32) hΓ d_M_takesNumbers_32 rfl (by decide) rfl ?_
          refine go_iconst (v := 0) (pc := 33) hΓ d_M_takesNumbers_33 (by decide) ?_
          refine go_istore (lv' := [(4, .int 0), (3, .int 0), (0, .ref 44), (1, .int x1), (2, .int a2)]) (pc := 34) hΓ d_M_takesNumbers_34 (by decide) rfl ?_
          refine go_sub' (lv' := [(0, .ref 44), (1, .int x1), (2, .int a2), (3, .int 0), (4, .int 0)]) rfl ?_
          refine glp_M_takesNumbers_36 N d hΓ hT hR x1 a2 _ (fun v15 μ16 => ?_) N 0 0 μ5
          refine go_aload_n (q := 0) (i := 0) (pc := 83) hΓ d_M_takesNumbers_83 rfl rfl ?_
          refine go_getR (q := 57) (pc := 84) hΓ fl_M_47 d_M_takesNumbers_84 rfl rfl ?_
          refine go_iload_n (q := 2) (i := 2) (pc := 87) hΓ d_M_takesNumbers_87 rfl rfl ?_
          refine go_iload_n (q := 3) (i := 3) (pc := 88) hΓ d_M_takesNumbers_88 rfl rfl ?_
          refine go_ck (fun h17 => ?_)
          refine go_iast (pc := 89) hΓ d_M_takesNumbers_89 rfl h17 ?_
          refine go_letM (fun μ18 => ?_)
          refine go_incI (q := 2) (i := 2) (n := 1) (c := 1) (pc := 90) hΓ d_M_takesNumbers_90 rfl (by decide) (by decide) (fun v19 => ?_)
          refine go_sub' (lv' := [(2, .int v19), (0, .ref 44), (1, .int x1), (3, .int v15)]) rfl ?_
          refine go_goto 2 (pc := 93) hΓ d_M_takesNumbers_93 (by decide) ?_
          refine go_sub' (lv' := [(0, .ref 44), (1, .int x1), (2, .int v19)]) rfl ?_
          exact ih v19 μ18
        · refine go_iconst (v := 0) (pc := 29) hΓ d_M_takesNumbers_29 (by decide) ?_
          exact go_zret (pc := 30) hΓ hT d_M_takesNumbers_30 rfl
      · refine go_if_le 22 (pc := 8) hΓ d_M_takesNumbers_8 (by decide) (fun h20 => go_eq (if_neg h20) ?_) (fun h20 => go_eq (if_pos h20) ?_)
        · refine go_sub' (lv' := [(0, .ref 44), (1, .int x1), (2, .int a2)]) rfl ?_
          exact k2h μ0
        · refine go_aload_n (q := 0) (i := 0) (pc := 11) hΓ d_M_takesNumbers_11 rfl rfl ?_
          refine go_bipush (v := 44) (pc := 12) hΓ d_M_takesNumbers_12 (by decide) ?_
          refine go_callV (index := 120) emI hΓ hR (g_M_takes N (d + 1) 44) mi_M_takes ml_M_120 d_M_takesNumbers_14 rfl rfl rfl rfl rfl (fun r21 μ22 => ?_)
          show Go Γ 5 17 [(0, .ref 44), (1, .int x1), (2, .int a2)] [.int r21] μ22 _
          refine go_if_ne 22 (pc := 17) hΓ d_M_takesNumbers_17 (by decide) (fun h23 => go_eq (if_neg h23) ?_) (fun h23 => go_eq (if_pos h23) ?_)
          · refine go_sub' (lv' := [(0, .ref 44), (1, .int x1), (2, .int a2)]) rfl ?_
            exact k2h μ22
          · refine go_iconst (v := 0) (pc := 20) hΓ d_M_takesNumbers_20 (by decide) ?_
            exact go_zret (pc := 21) hΓ hT d_M_takesNumbers_21 rfl
set_option maxHeartbeats 4000000 in
set_option maxRecDepth 100000 in
theorem g_M_takesNumbers (N d : Nat) (x1 : Int32)  : CallF eI y_M_takesNumbers c_M_takesNumbers 5 (some .boolean) (d + 2 + 1) [.ref 44, .int x1] (f_M_takesNumbers N x1) := by
  refine call_of (d := d + 2) (n := 1) mi_M_takesNumbers.1 (fun _ => rfl) ?_
  intro Γ μ0 hΓ hT hR
  show Go Γ 5 0 [(0, .ref 44), (1, .int x1)] [] μ0 (f_M_takesNumbers N x1 μ0)
  unfold f_M_takesNumbers
  refine go_iconst (v := 0) (pc := 0) hΓ d_M_takesNumbers_0 (by decide) ?_
  refine go_istore_n (i := 2) (lv' := [(2, .int 0), (0, .ref 44), (1, .int x1)]) (pc := 1) hΓ d_M_takesNumbers_1 rfl (by decide) rfl ?_
  refine go_sub' (lv' := [(0, .ref 44), (1, .int x1), (2, .int 0)]) rfl ?_
  refine glp_M_takesNumbers_2 N d hΓ hT hR x1 _ (fun μ24 => ?_) N 0 μ0
  refine go_aload_n (q := 0) (i := 0) (pc := 96) hΓ d_M_takesNumbers_96 rfl rfl ?_
  refine go_getI (pc := 97) hΓ fl_M_100 d_M_takesNumbers_97 rfl rfl ?_
  refine go_aload_n (q := 0) (i := 0) (pc := 100) hΓ d_M_takesNumbers_100 rfl rfl ?_
  refine go_getI (pc := 101) hΓ fl_M_97 d_M_takesNumbers_101 rfl rfl ?_
  refine go_icmp_ne 111 (pc := 104) hΓ d_M_takesNumbers_104 (by decide) (fun h25 => go_eq (if_neg h25) ?_) (fun h25 => go_eq (if_pos h25) ?_)
  · refine go_iconst (v := 0) (pc := 111) hΓ d_M_takesNumbers_111 (by decide) ?_
    exact go_zret (pc := 112) hΓ hT d_M_takesNumbers_112 rfl
  · refine go_iconst (v := 1) (pc := 107) hΓ d_M_takesNumbers_107 (by decide) ?_
    refine go_goto 112 (pc := 108) hΓ d_M_takesNumbers_108 (by decide) ?_
    exact go_zret (pc := 112) hΓ hT d_M_takesNumbers_112 rfl
def lp_M_tells_43 (N : Nat) (x1 : Int32)  (K : Int32 → Mem → Option (Int32 × Mem)) : Nat → Int32 → Int32 → Mem → Option (Int32 × Mem)
  | 0, _, _, _ => none
  | n + 1, a2, a3, μ0 => ck (inb x1 4) (if a3 < (gI μ0 47 (tn x1)) then (bnd (f_M_lowOf N x1 a3 μ0) fun r13 μ14 => ck (inb r13 8) (lt' (gI μ14 57 (tn r13)) fun v16 => bnd (f_M_highOf N x1 a3 μ14) fun r17 μ18 => ck (inb r17 8) (lt' (gI μ18 57 (tn r17)) fun v20 => lt' (if v20 < v16 then (1 : Int32) else (0 : Int32)) fun q22 => bnd (f_M_flag N q22 μ18) fun r23 μ24 => lt' (a2 + r23) fun v25 => bnd (f_M_lowOf N x1 a3 μ24) fun r26 μ27 => ck (inb r26 8) (lt' (sI μ27 57 (tn r26) (mnI v16 v20)) fun μ29 => bnd (f_M_highOf N x1 a3 μ29) fun r30 μ31 => ck (inb r30 8) (lt' (sI μ31 57 (tn r30) (mxI v16 v20)) fun μ33 => lt' (a3 + 1) fun v34 => lp_M_tells_43 N x1 K n v25 v34 μ33))))) else (K a2 μ0))
def lp_M_tells_146 (N : Nat) (x1 : Int32) (x2 : Int32)  (K : Mem → Option (Int32 × Mem)) : Nat → Int32 → Mem → Option (Int32 × Mem)
  | 0, _, _ => none
  | n + 1, a3, μ0 => ck (inb x1 4) (if a3 < (gI μ0 46 (tn x1)) then (ck (inb a3 8) (bnd (f_M_enters N (Int32.toInt64 (gI μ0 57 (tn a3))) μ0) fun _ μ43 => lt' (a3 + 1) fun v44 => lp_M_tells_146 N x1 x2 K n v44 μ43)) else (K  μ0))
def f_M_tells (N : Nat) (x1 : Int32) (μ0 : Mem) : Option (Int32 × Mem) :=
  lt' (sI μ0 44 0 0) fun μ1 => bnd (f_M_reads N  μ1) fun _ μ3 => bnd (f_M_isNet N x1 μ3) fun r4 μ5 => if r4 = 0 then (some ((-1), μ5)) else (ck (inb x1 4) (bnd (f_M_takesNumbers N (gI μ5 46 (tn x1)) μ5) fun r8 μ9 => if r8 = 0 then (some ((-21) - (gI μ9 44 9), μ9)) else (lp_M_tells_43 N x1 (fun v36 μ37 => lt' (sI μ37 44 1 0) fun μ38 => lp_M_tells_146 N x1 v36 (fun μ45 => some (v36, μ45)) N 0 μ38) N 0 0 μ9)))
set_option maxHeartbeats 4000000 in
set_option maxRecDepth 100000 in
theorem glp_M_tells_43 (N d : Nat) {Γ : Cx Int32} (hΓ : Ok Γ "SortingNetsModel" c_M_tells 6) (hT : Rt Γ eI (some .int)) (hR : Rm Γ (d + 3)) (x1 : Int32)    (K : Int32 → Mem → Option (Int32 × Mem)) (hK : ∀ (b2 : Int32) (ν : Mem), Go Γ 6 139 [(0, .ref 44), (1, .int x1), (2, .int b2)] [] ν (K b2 ν)) : ∀ (n : Nat) (a2 : Int32) (a3 : Int32) (μ0 : Mem), Go Γ 6 43 [(0, .ref 44), (1, .int x1), (2, .int a2), (3, .int a3)] [] μ0 (lp_M_tells_43 N x1 K n a2 a3 μ0) := by
  intro n
  induction n with
  | zero => intro a2 a3 μ0; exact go_none
  | succ n ih =>
    intro a2 a3 μ0
    rw [lp_M_tells_43]
    refine go_iload_n (q := 3) (i := 3) (pc := 43) hΓ d_M_tells_43 rfl rfl ?_
    refine go_aload_n (q := 0) (i := 0) (pc := 44) hΓ d_M_tells_44 rfl rfl ?_
    refine go_getR (q := 47) (pc := 45) hΓ fl_M_17 d_M_tells_45 rfl rfl ?_
    refine go_iload_n (q := 1) (i := 1) (pc := 48) hΓ d_M_tells_48 rfl rfl ?_
    refine go_ck (fun h11 => ?_)
    refine go_iald (pc := 49) hΓ d_M_tells_49 rfl h11 ?_
    refine go_icmp_ge 139 (pc := 50) hΓ d_M_tells_50 (by decide) (fun h12 => go_eq (if_neg h12) ?_) (fun h12 => go_eq (if_pos h12) ?_)
    · refine go_sub' (lv' := [(0, .ref 44), (1, .int x1), (2, .int a2)]) rfl ?_
      exact hK a2 μ0
    · refine go_aload_n (q := 0) (i := 0) (pc := 53) hΓ d_M_tells_53 rfl rfl ?_
      refine go_getR (q := 57) (pc := 54) hΓ fl_M_47 d_M_tells_54 rfl rfl ?_
      refine go_aload_n (q := 0) (i := 0) (pc := 57) hΓ d_M_tells_57 rfl rfl ?_
      refine go_iload_n (q := 1) (i := 1) (pc := 58) hΓ d_M_tells_58 rfl rfl ?_
      refine go_iload_n (q := 3) (i := 3) (pc := 59) hΓ d_M_tells_59 rfl rfl ?_
      refine go_callV (index := 199) emI hΓ hR (g_M_lowOf N (d + 2) x1 a3) mi_M_lowOf ml_M_199 d_M_tells_60 rfl rfl rfl rfl rfl (fun r13 μ14 => ?_)
      show Go Γ 6 63 [(0, .ref 44), (1, .int x1), (2, .int a2), (3, .int a3)] [.int r13, .ref 57] μ14 _
      refine go_ck (fun h15 => ?_)
      refine go_iald (pc := 63) hΓ d_M_tells_63 rfl h15 ?_
      refine go_letI (fun v16 => ?_)
      refine go_istore (lv' := [(4, .int v16), (0, .ref 44), (1, .int x1), (2, .int a2), (3, .int a3)]) (pc := 64) hΓ d_M_tells_64 (by decide) rfl ?_
      refine go_aload_n (q := 1) (i := 0) (pc := 66) hΓ d_M_tells_66 rfl rfl ?_
      refine go_getR (q := 57) (pc := 67) hΓ fl_M_47 d_M_tells_67 rfl rfl ?_
      refine go_aload_n (q := 1) (i := 0) (pc := 70) hΓ d_M_tells_70 rfl rfl ?_
      refine go_iload_n (q := 2) (i := 1) (pc := 71) hΓ d_M_tells_71 rfl rfl ?_
      refine go_iload_n (q := 4) (i := 3) (pc := 72) hΓ d_M_tells_72 rfl rfl ?_
      refine go_callV (index := 202) emI hΓ hR (g_M_highOf N (d + 2) x1 a3) mi_M_highOf ml_M_202 d_M_tells_73 rfl rfl rfl rfl rfl (fun r17 μ18 => ?_)
      show Go Γ 6 76 [(4, .int v16), (0, .ref 44), (1, .int x1), (2, .int a2), (3, .int a3)] [.int r17, .ref 57] μ18 _
      refine go_ck (fun h19 => ?_)
      refine go_iald (pc := 76) hΓ d_M_tells_76 rfl h19 ?_
      refine go_letI (fun v20 => ?_)
      refine go_istore (lv' := [(5, .int v20), (4, .int v16), (0, .ref 44), (1, .int x1), (2, .int a2), (3, .int a3)]) (pc := 77) hΓ d_M_tells_77 (by decide) rfl ?_
      refine go_iload_n (q := 4) (i := 2) (pc := 79) hΓ d_M_tells_79 rfl rfl ?_
      refine go_iload (q := 1) (pc := 80) hΓ d_M_tells_80 rfl ?_
      refine go_iload (q := 0) (pc := 82) hΓ d_M_tells_82 rfl ?_
      refine go_mg (α := Int32) 92 (fun q22 => [(0, .ref 44), (1, .int x1), (3, .int a3), (4, .int v16), (5, .int v20)]) (fun q22 => [.int q22, .int a2]) (fun q22 => ?_) (fun g35 g35h => ?_)
      · refine go_callS (index := 188) emI hΓ hR (g_M_flag N (d + 2) q22) mi_M_flag ml_M_188 d_M_tells_92 rfl rfl rfl (fun r23 μ24 => ?_)
        show Go Γ 6 95 [(0, .ref 44), (1, .int x1), (3, .int a3), (4, .int v16), (5, .int v20)] [.int r23, .int a2] μ24 _
        refine go_iadd (pc := 95) hΓ d_M_tells_95 ?_
        refine go_letI (fun v25 => ?_)
        refine go_istore_n (i := 2) (lv' := [(2, .int v25), (0, .ref 44), (1, .int x1), (3, .int a3), (4, .int v16), (5, .int v20)]) (pc := 96) hΓ d_M_tells_96 rfl (by decide) rfl ?_
        refine go_aload_n (q := 1) (i := 0) (pc := 97) hΓ d_M_tells_97 rfl rfl ?_
        refine go_getR (q := 57) (pc := 98) hΓ fl_M_47 d_M_tells_98 rfl rfl ?_
        refine go_aload_n (q := 1) (i := 0) (pc := 101) hΓ d_M_tells_101 rfl rfl ?_
        refine go_iload_n (q := 2) (i := 1) (pc := 102) hΓ d_M_tells_102 rfl rfl ?_
        refine go_iload_n (q := 3) (i := 3) (pc := 103) hΓ d_M_tells_103 rfl rfl ?_
        refine go_callV (index := 199) emI hΓ hR (g_M_lowOf N (d + 2) x1 a3) mi_M_lowOf ml_M_199 d_M_tells_104 rfl rfl rfl rfl rfl (fun r26 μ27 => ?_)
        show Go Γ 6 107 [(2, .int v25), (0, .ref 44), (1, .int x1), (3, .int a3), (4, .int v16), (5, .int v20)] [.int r26, .ref 57] μ27 _
        refine go_iload (q := 4) (pc := 107) hΓ d_M_tells_107 rfl ?_
        refine go_iload (q := 5) (pc := 109) hΓ d_M_tells_109 rfl ?_
        refine go_min (index := 132) (pc := 111) hΓ hR ml_M_132 d_M_tells_111 rfl ?_
        refine go_ck (fun h28 => ?_)
        refine go_iast (pc := 114) hΓ d_M_tells_114 rfl h28 ?_
        refine go_letM (fun μ29 => ?_)
        refine go_aload_n (q := 1) (i := 0) (pc := 115) hΓ d_M_tells_115 rfl rfl ?_
        refine go_getR (q := 57) (pc := 116) hΓ fl_M_47 d_M_tells_116 rfl rfl ?_
        refine go_aload_n (q := 1) (i := 0) (pc := 119) hΓ d_M_tells_119 rfl rfl ?_
        refine go_iload_n (q := 2) (i := 1) (pc := 120) hΓ d_M_tells_120 rfl rfl ?_
        refine go_iload_n (q := 3) (i := 3) (pc := 121) hΓ d_M_tells_121 rfl rfl ?_
        refine go_callV (index := 202) emI hΓ hR (g_M_highOf N (d + 2) x1 a3) mi_M_highOf ml_M_202 d_M_tells_122 rfl rfl rfl rfl rfl (fun r30 μ31 => ?_)
        show Go Γ 6 125 [(2, .int v25), (0, .ref 44), (1, .int x1), (3, .int a3), (4, .int v16), (5, .int v20)] [.int r30, .ref 57] μ31 _
        refine go_iload (q := 4) (pc := 125) hΓ d_M_tells_125 rfl ?_
        refine go_iload (q := 5) (pc := 127) hΓ d_M_tells_127 rfl ?_
        refine go_max (index := 138) (pc := 129) hΓ hR ml_M_138 d_M_tells_129 rfl ?_
        refine go_ck (fun h32 => ?_)
        refine go_iast (pc := 132) hΓ d_M_tells_132 rfl h32 ?_
        refine go_letM (fun μ33 => ?_)
        refine go_incI (q := 3) (i := 3) (n := 1) (c := 1) (pc := 133) hΓ d_M_tells_133 rfl (by decide) (by decide) (fun v34 => ?_)
        refine go_sub' (lv' := [(3, .int v34), (2, .int v25), (0, .ref 44), (1, .int x1), (4, .int v16), (5, .int v20)]) rfl ?_
        refine go_goto 43 (pc := 136) hΓ d_M_tells_136 (by decide) ?_
        refine go_sub' (lv' := [(0, .ref 44), (1, .int x1), (2, .int v25), (3, .int v34)]) rfl ?_
        exact ih v25 v34 μ33
      · refine go_icmp_le 91 (pc := 84) hΓ d_M_tells_84 (by decide) (fun h21 => ?_) (fun h21 => ?_)
        · rw [if_neg h21]
          refine go_iconst (v := 0) (pc := 91) hΓ d_M_tells_91 (by decide) ?_
          refine go_sub' (lv' := [(0, .ref 44), (1, .int x1), (3, .int a3), (4, .int v16), (5, .int v20)]) rfl ?_
          exact g35h _
        · rw [if_pos h21]
          refine go_iconst (v := 1) (pc := 87) hΓ d_M_tells_87 (by decide) ?_
          refine go_goto 92 (pc := 88) hΓ d_M_tells_88 (by decide) ?_
          refine go_sub' (lv' := [(0, .ref 44), (1, .int x1), (3, .int a3), (4, .int v16), (5, .int v20)]) rfl ?_
          exact g35h _
set_option maxHeartbeats 4000000 in
set_option maxRecDepth 100000 in
theorem glp_M_tells_146 (N d : Nat) {Γ : Cx Int32} (hΓ : Ok Γ "SortingNetsModel" c_M_tells 6) (hT : Rt Γ eI (some .int)) (hR : Rm Γ (d + 3)) (x1 : Int32) (x2 : Int32)    (K : Mem → Option (Int32 × Mem)) (hK : ∀  (ν : Mem), Go Γ 6 173 [(2, .int x2)] [] ν (K  ν)) : ∀ (n : Nat) (a3 : Int32) (μ0 : Mem), Go Γ 6 146 [(0, .ref 44), (1, .int x1), (2, .int x2), (3, .int a3)] [] μ0 (lp_M_tells_146 N x1 x2 K n a3 μ0) := by
  intro n
  induction n with
  | zero => intro a3 μ0; exact go_none
  | succ n ih =>
    intro a3 μ0
    rw [lp_M_tells_146]
    refine go_iload_n (q := 3) (i := 3) (pc := 146) hΓ d_M_tells_146 rfl rfl ?_
    refine go_aload_n (q := 0) (i := 0) (pc := 147) hΓ d_M_tells_147 rfl rfl ?_
    refine go_getR (q := 46) (pc := 148) hΓ fl_M_13 d_M_tells_148 rfl rfl ?_
    refine go_iload_n (q := 1) (i := 1) (pc := 151) hΓ d_M_tells_151 rfl rfl ?_
    refine go_ck (fun h39 => ?_)
    refine go_iald (pc := 152) hΓ d_M_tells_152 rfl h39 ?_
    refine go_icmp_ge 173 (pc := 153) hΓ d_M_tells_153 (by decide) (fun h40 => go_eq (if_neg h40) ?_) (fun h40 => go_eq (if_pos h40) ?_)
    · refine go_sub' (lv' := [(2, .int x2)]) rfl ?_
      exact hK  μ0
    · refine go_aload_n (q := 0) (i := 0) (pc := 156) hΓ d_M_tells_156 rfl rfl ?_
      refine go_aload_n (q := 0) (i := 0) (pc := 157) hΓ d_M_tells_157 rfl rfl ?_
      refine go_getR (q := 57) (pc := 158) hΓ fl_M_47 d_M_tells_158 rfl rfl ?_
      refine go_iload_n (q := 3) (i := 3) (pc := 161) hΓ d_M_tells_161 rfl rfl ?_
      refine go_ck (fun h41 => ?_)
      refine go_iald (pc := 162) hΓ d_M_tells_162 rfl h41 ?_
      refine go_i2l (pc := 163) hΓ d_M_tells_163 ?_
      refine go_callV (index := 76) emV hΓ hR (g_M_enters N (d + 2) (Int32.toInt64 (gI μ0 57 (tn a3)))) mi_M_enters ml_M_76 d_M_tells_164 rfl rfl rfl rfl rfl (fun _ μ43 => ?_)
      show Go Γ 6 167 [(0, .ref 44), (1, .int x1), (2, .int x2), (3, .int a3)] [] μ43 _
      refine go_incI (q := 3) (i := 3) (n := 1) (c := 1) (pc := 167) hΓ d_M_tells_167 rfl (by decide) (by decide) (fun v44 => ?_)
      refine go_sub' (lv' := [(3, .int v44), (0, .ref 44), (1, .int x1), (2, .int x2)]) rfl ?_
      refine go_goto 146 (pc := 170) hΓ d_M_tells_170 (by decide) ?_
      refine go_sub' (lv' := [(0, .ref 44), (1, .int x1), (2, .int x2), (3, .int v44)]) rfl ?_
      exact ih v44 μ43
set_option maxHeartbeats 4000000 in
set_option maxRecDepth 100000 in
theorem g_M_tells (N d : Nat) (x1 : Int32)  : CallF eI y_M_tells c_M_tells 6 (some .int) (d + 3 + 1) [.ref 44, .int x1] (f_M_tells N x1) := by
  refine call_of (d := d + 3) (n := 1) mi_M_tells.1 (fun _ => rfl) ?_
  intro Γ μ0 hΓ hT hR
  show Go Γ 6 0 [(0, .ref 44), (1, .int x1)] [] μ0 (f_M_tells N x1 μ0)
  unfold f_M_tells
  refine go_aload_n (q := 0) (i := 0) (pc := 0) hΓ d_M_tells_0 rfl rfl ?_
  refine go_iconst (v := 0) (pc := 1) hΓ d_M_tells_1 (by decide) ?_
  refine go_putI (pc := 2) hΓ fp_M_69 d_M_tells_2 rfl rfl ?_
  refine go_letM (fun μ1 => ?_)
  refine go_aload_n (q := 0) (i := 0) (pc := 5) hΓ d_M_tells_5 rfl rfl ?_
  refine go_callV (index := 145) emV hΓ hR (g_M_reads N (d + 2) ) mi_M_reads ml_M_145 d_M_tells_6 rfl rfl rfl rfl rfl (fun _ μ3 => ?_)
  show Go Γ 6 9 [(0, .ref 44), (1, .int x1)] [] μ3 _
  refine go_iload_n (q := 1) (i := 1) (pc := 9) hΓ d_M_tells_9 rfl rfl ?_
  refine go_callS (index := 151) emI hΓ hR (g_M_isNet N (d + 1) x1) mi_M_isNet ml_M_151 d_M_tells_10 rfl rfl rfl (fun r4 μ5 => ?_)
  show Go Γ 6 13 [(0, .ref 44), (1, .int x1)] [.int r4] μ5 _
  refine go_if_ne 18 (pc := 13) hΓ d_M_tells_13 (by decide) (fun h6 => go_eq (if_neg h6) ?_) (fun h6 => go_eq (if_pos h6) ?_)
  · refine go_aload_n (q := 0) (i := 0) (pc := 18) hΓ d_M_tells_18 rfl rfl ?_
    refine go_aload_n (q := 0) (i := 0) (pc := 19) hΓ d_M_tells_19 rfl rfl ?_
    refine go_getR (q := 46) (pc := 20) hΓ fl_M_13 d_M_tells_20 rfl rfl ?_
    refine go_iload_n (q := 1) (i := 1) (pc := 23) hΓ d_M_tells_23 rfl rfl ?_
    refine go_ck (fun h7 => ?_)
    refine go_iald (pc := 24) hΓ d_M_tells_24 rfl h7 ?_
    refine go_callV (index := 248) emI hΓ hR (g_M_takesNumbers N (d + 0) (gI μ5 46 (tn x1))) mi_M_takesNumbers ml_M_248 d_M_tells_25 rfl rfl rfl rfl rfl (fun r8 μ9 => ?_)
    show Go Γ 6 28 [(0, .ref 44), (1, .int x1)] [.int r8] μ9 _
    refine go_if_ne 39 (pc := 28) hΓ d_M_tells_28 (by decide) (fun h10 => go_eq (if_neg h10) ?_) (fun h10 => go_eq (if_pos h10) ?_)
    · refine go_iconst (v := 0) (pc := 39) hΓ d_M_tells_39 (by decide) ?_
      refine go_istore_n (i := 2) (lv' := [(2, .int 0), (0, .ref 44), (1, .int x1)]) (pc := 40) hΓ d_M_tells_40 rfl (by decide) rfl ?_
      refine go_iconst (v := 0) (pc := 41) hΓ d_M_tells_41 (by decide) ?_
      refine go_istore_n (i := 3) (lv' := [(3, .int 0), (2, .int 0), (0, .ref 44), (1, .int x1)]) (pc := 42) hΓ d_M_tells_42 rfl (by decide) rfl ?_
      refine go_sub' (lv' := [(0, .ref 44), (1, .int x1), (2, .int 0), (3, .int 0)]) rfl ?_
      refine glp_M_tells_43 N d hΓ hT hR x1 _ (fun v36 μ37 => ?_) N 0 0 μ9
      refine go_aload_n (q := 0) (i := 0) (pc := 139) hΓ d_M_tells_139 rfl rfl ?_
      refine go_iconst (v := 0) (pc := 140) hΓ d_M_tells_140 (by decide) ?_
      refine go_putI (pc := 141) hΓ fp_M_73 d_M_tells_141 rfl rfl ?_
      refine go_letM (fun μ38 => ?_)
      refine go_iconst (v := 0) (pc := 144) hΓ d_M_tells_144 (by decide) ?_
      refine go_istore_n (i := 3) (lv' := [(3, .int 0), (0, .ref 44), (1, .int x1), (2, .int v36)]) (pc := 145) hΓ d_M_tells_145 rfl (by decide) rfl ?_
      refine go_sub' (lv' := [(0, .ref 44), (1, .int x1), (2, .int v36), (3, .int 0)]) rfl ?_
      refine glp_M_tells_146 N d hΓ hT hR x1 v36 _ (fun μ45 => ?_) N 0 μ38
      refine go_iload_n (q := 0) (i := 2) (pc := 173) hΓ d_M_tells_173 rfl rfl ?_
      exact go_iret (pc := 174) hΓ hT d_M_tells_174
    · refine go_bipush (v := -21) (pc := 31) hΓ d_M_tells_31 (by decide) ?_
      refine go_aload_n (q := 0) (i := 0) (pc := 33) hΓ d_M_tells_33 rfl rfl ?_
      refine go_getI (pc := 34) hΓ fl_M_100 d_M_tells_34 rfl rfl ?_
      refine go_isub (pc := 37) hΓ d_M_tells_37 ?_
      exact go_iret (pc := 38) hΓ hT d_M_tells_38
  · refine go_iconst (v := -1) (pc := 16) hΓ d_M_tells_16 (by decide) ?_
    exact go_iret (pc := 17) hΓ hT d_M_tells_17
def f_M_sorts (N : Nat) (x1 : Int32) (μ0 : Mem) : Option (Int32 × Mem) :=
  lt' (sI μ0 44 0 0) fun μ1 => bnd (f_M_isNet N x1 μ1) fun r2 μ3 => if r2 = 0 then (some ((-1), μ3)) else (bnd (f_M_wrongs N x1 (-1) 0 μ3) fun r5 μ6 => bnd (f_M_tellsOne N (Int32.toInt64 r5) μ6) fun _ μ8 => bnd (f_M_enters N (Int32.toInt64 (gI μ8 44 22)) μ8) fun _ μ10 => lt' (if r5 = 0 then (1 : Int32) else (0 : Int32)) fun q12 => bnd (f_M_flag N q12 μ10) fun r13 μ14 => some (r13, μ14))
set_option maxHeartbeats 4000000 in
set_option maxRecDepth 100000 in
theorem g_M_sorts (N d : Nat) (x1 : Int32)  : CallF eI y_M_sorts c_M_sorts 3 (some .int) (d + 4 + 1) [.ref 44, .int x1] (f_M_sorts N x1) := by
  refine call_of (d := d + 4) (n := 1) mi_M_sorts.1 (fun _ => rfl) ?_
  intro Γ μ0 hΓ hT hR
  show Go Γ 3 0 [(0, .ref 44), (1, .int x1)] [] μ0 (f_M_sorts N x1 μ0)
  unfold f_M_sorts
  refine go_aload_n (q := 0) (i := 0) (pc := 0) hΓ d_M_sorts_0 rfl rfl ?_
  refine go_iconst (v := 0) (pc := 1) hΓ d_M_sorts_1 (by decide) ?_
  refine go_putI (pc := 2) hΓ fp_M_69 d_M_sorts_2 rfl rfl ?_
  refine go_letM (fun μ1 => ?_)
  refine go_iload_n (q := 1) (i := 1) (pc := 5) hΓ d_M_sorts_5 rfl rfl ?_
  refine go_callS (index := 151) emI hΓ hR (g_M_isNet N (d + 2) x1) mi_M_isNet ml_M_151 d_M_sorts_6 rfl rfl rfl (fun r2 μ3 => ?_)
  show Go Γ 3 9 [(0, .ref 44), (1, .int x1)] [.int r2] μ3 _
  refine go_if_ne 14 (pc := 9) hΓ d_M_sorts_9 (by decide) (fun h4 => go_eq (if_neg h4) ?_) (fun h4 => go_eq (if_pos h4) ?_)
  · refine go_aload_n (q := 0) (i := 0) (pc := 14) hΓ d_M_sorts_14 rfl rfl ?_
    refine go_iload_n (q := 1) (i := 1) (pc := 15) hΓ d_M_sorts_15 rfl rfl ?_
    refine go_iconst (v := -1) (pc := 16) hΓ d_M_sorts_16 (by decide) ?_
    refine go_iconst (v := 0) (pc := 17) hΓ d_M_sorts_17 (by decide) ?_
    refine go_callV (index := 192) emI hΓ hR (g_M_wrongs N (d + 0) x1 (-1) 0) mi_M_wrongs ml_M_192 d_M_sorts_18 rfl rfl rfl rfl rfl (fun r5 μ6 => ?_)
    show Go Γ 3 21 [(0, .ref 44), (1, .int x1)] [.int r5] μ6 _
    refine go_istore_n (i := 2) (lv' := [(2, .int r5), (0, .ref 44), (1, .int x1)]) (pc := 21) hΓ d_M_sorts_21 rfl (by decide) rfl ?_
    refine go_aload_n (q := 1) (i := 0) (pc := 22) hΓ d_M_sorts_22 rfl rfl ?_
    refine go_iload_n (q := 0) (i := 2) (pc := 23) hΓ d_M_sorts_23 rfl rfl ?_
    refine go_i2l (pc := 24) hΓ d_M_sorts_24 ?_
    refine go_callV (index := 221) emV hΓ hR (g_M_tellsOne N (d + 2) (Int32.toInt64 r5)) mi_M_tellsOne ml_M_221 d_M_sorts_25 rfl rfl rfl rfl rfl (fun _ μ8 => ?_)
    show Go Γ 3 28 [(2, .int r5), (0, .ref 44), (1, .int x1)] [] μ8 _
    refine go_aload_n (q := 1) (i := 0) (pc := 28) hΓ d_M_sorts_28 rfl rfl ?_
    refine go_aload_n (q := 1) (i := 0) (pc := 29) hΓ d_M_sorts_29 rfl rfl ?_
    refine go_getI (pc := 30) hΓ fl_M_235 d_M_sorts_30 rfl rfl ?_
    refine go_i2l (pc := 33) hΓ d_M_sorts_33 ?_
    refine go_callV (index := 76) emV hΓ hR (g_M_enters N (d + 3) (Int32.toInt64 (gI μ8 44 22))) mi_M_enters ml_M_76 d_M_sorts_34 rfl rfl rfl rfl rfl (fun _ μ10 => ?_)
    show Go Γ 3 37 [(2, .int r5), (0, .ref 44), (1, .int x1)] [] μ10 _
    refine go_iload_n (q := 0) (i := 2) (pc := 37) hΓ d_M_sorts_37 rfl rfl ?_
    refine go_mg (α := Int32) 46 (fun q12 => []) (fun q12 => [.int q12]) (fun q12 => ?_) (fun g15 g15h => ?_)
    · refine go_callS (index := 188) emI hΓ hR (g_M_flag N (d + 3) q12) mi_M_flag ml_M_188 d_M_sorts_46 rfl rfl rfl (fun r13 μ14 => ?_)
      show Go Γ 3 49 [] [.int r13] μ14 _
      exact go_iret (pc := 49) hΓ hT d_M_sorts_49
    · refine go_if_ne 45 (pc := 38) hΓ d_M_sorts_38 (by decide) (fun h11 => ?_) (fun h11 => ?_)
      · rw [if_neg h11]
        refine go_iconst (v := 0) (pc := 45) hΓ d_M_sorts_45 (by decide) ?_
        refine go_sub' (lv' := []) rfl ?_
        exact g15h _
      · rw [if_pos h11]
        refine go_iconst (v := 1) (pc := 41) hΓ d_M_sorts_41 (by decide) ?_
        refine go_goto 46 (pc := 42) hΓ d_M_sorts_42 (by decide) ?_
        refine go_sub' (lv' := []) rfl ?_
        exact g15h _
  · refine go_iconst (v := -1) (pc := 12) hΓ d_M_sorts_12 (by decide) ?_
    exact go_iret (pc := 13) hΓ hT d_M_sorts_13
def lp_M_laysImage_2 (N : Nat) (x1 : Int32)  (K : Mem → Option (Unit × Mem)) : Nat → Int32 → Mem → Option (Unit × Mem)
  | 0, _, _ => none
  | n + 1, a2, μ0 => if a2 < 256 then (ck (inb a2 256) (lt' (sI μ0 58 (tn a2) (vp_nar .boolean 0)) fun μ3 => lt' (a2 + 1) fun v4 => lp_M_laysImage_2 N x1 K n v4 μ3)) else (K  μ0)
def lp_M_laysImage_24 (N : Nat) (x1 : Int32)  (K : Mem → Option (Unit × Mem)) : Nat → Int32 → Mem → Option (Unit × Mem)
  | 0, _, _ => none
  | n + 1, a2, μ0 => bnd (f_M_all N x1 μ0) fun r6 μ7 => if a2 < r6 then (bnd (f_M_result N x1 a2 (-1) 0 μ7) fun r9 μ10 => ck (inb r9 256) (lt' (sI μ10 58 (tn r9) (vp_nar .boolean 1)) fun μ12 => lt' (a2 + 1) fun v13 => lp_M_laysImage_24 N x1 K n v13 μ12)) else (K  μ7)
def f_M_laysImage (N : Nat) (x1 : Int32) (μ0 : Mem) : Option (Unit × Mem) :=
  lp_M_laysImage_2 N x1 (fun μ5 => lp_M_laysImage_24 N x1 (fun μ14 => some ((), μ14)) N 0 μ5) N 0 μ0
set_option maxHeartbeats 4000000 in
set_option maxRecDepth 100000 in
theorem glp_M_laysImage_2 (N d : Nat) {Γ : Cx Unit} (hΓ : Ok Γ "SortingNetsModel" c_M_laysImage 3) (hT : Rt Γ eV none) (hR : Rm Γ (d + 2)) (x1 : Int32)    (K : Mem → Option (Unit × Mem)) (hK : ∀  (ν : Mem), Go Γ 3 22 [(0, .ref 44), (1, .int x1)] [] ν (K  ν)) : ∀ (n : Nat) (a2 : Int32) (μ0 : Mem), Go Γ 3 2 [(0, .ref 44), (1, .int x1), (2, .int a2)] [] μ0 (lp_M_laysImage_2 N x1 K n a2 μ0) := by
  intro n
  induction n with
  | zero => intro a2 μ0; exact go_none
  | succ n ih =>
    intro a2 μ0
    rw [lp_M_laysImage_2]
    refine go_iload_n (q := 2) (i := 2) (pc := 2) hΓ d_M_laysImage_2 rfl rfl ?_
    refine go_sipush (v := 256) (pc := 3) hΓ d_M_laysImage_3 (by decide) ?_
    refine go_icmp_ge 22 (pc := 6) hΓ d_M_laysImage_6 (by decide) (fun h1 => go_eq (if_neg h1) ?_) (fun h1 => go_eq (if_pos h1) ?_)
    · refine go_sub' (lv' := [(0, .ref 44), (1, .int x1)]) rfl ?_
      exact hK  μ0
    · refine go_aload_n (q := 0) (i := 0) (pc := 9) hΓ d_M_laysImage_9 rfl rfl ?_
      refine go_getR (q := 58) (pc := 10) hΓ fl_M_50 d_M_laysImage_10 rfl rfl ?_
      refine go_iload_n (q := 2) (i := 2) (pc := 13) hΓ d_M_laysImage_13 rfl rfl ?_
      refine go_iconst (v := 0) (pc := 14) hΓ d_M_laysImage_14 (by decide) ?_
      refine go_ck (fun h2 => ?_)
      refine go_bast (pc := 15) hΓ d_M_laysImage_15 rfl h2 ?_
      refine go_letM (fun μ3 => ?_)
      refine go_incI (q := 2) (i := 2) (n := 1) (c := 1) (pc := 16) hΓ d_M_laysImage_16 rfl (by decide) (by decide) (fun v4 => ?_)
      refine go_sub' (lv' := [(2, .int v4), (0, .ref 44), (1, .int x1)]) rfl ?_
      refine go_goto 2 (pc := 19) hΓ d_M_laysImage_19 (by decide) ?_
      refine go_sub' (lv' := [(0, .ref 44), (1, .int x1), (2, .int v4)]) rfl ?_
      exact ih v4 μ3
set_option maxHeartbeats 4000000 in
set_option maxRecDepth 100000 in
theorem glp_M_laysImage_24 (N d : Nat) {Γ : Cx Unit} (hΓ : Ok Γ "SortingNetsModel" c_M_laysImage 3) (hT : Rt Γ eV none) (hR : Rm Γ (d + 2)) (x1 : Int32)    (K : Mem → Option (Unit × Mem)) (hK : ∀  (ν : Mem), Go Γ 3 53 [] [] ν (K  ν)) : ∀ (n : Nat) (a2 : Int32) (μ0 : Mem), Go Γ 3 24 [(0, .ref 44), (1, .int x1), (2, .int a2)] [] μ0 (lp_M_laysImage_24 N x1 K n a2 μ0) := by
  intro n
  induction n with
  | zero => intro a2 μ0; exact go_none
  | succ n ih =>
    intro a2 μ0
    rw [lp_M_laysImage_24]
    refine go_iload_n (q := 2) (i := 2) (pc := 24) hΓ d_M_laysImage_24 rfl rfl ?_
    refine go_aload_n (q := 0) (i := 0) (pc := 25) hΓ d_M_laysImage_25 rfl rfl ?_
    refine go_iload_n (q := 1) (i := 1) (pc := 26) hΓ d_M_laysImage_26 rfl rfl ?_
    refine go_callV (index := 86) emI hΓ hR (g_M_all N (d + 1) x1) mi_M_all ml_M_86 d_M_laysImage_27 rfl rfl rfl rfl rfl (fun r6 μ7 => ?_)
    show Go Γ 3 30 [(0, .ref 44), (1, .int x1), (2, .int a2)] [.int r6, .int a2] μ7 _
    refine go_icmp_ge 53 (pc := 30) hΓ d_M_laysImage_30 (by decide) (fun h8 => go_eq (if_neg h8) ?_) (fun h8 => go_eq (if_pos h8) ?_)
    · refine go_sub' (lv' := []) rfl ?_
      exact hK  μ7
    · refine go_aload_n (q := 0) (i := 0) (pc := 33) hΓ d_M_laysImage_33 rfl rfl ?_
      refine go_getR (q := 58) (pc := 34) hΓ fl_M_50 d_M_laysImage_34 rfl rfl ?_
      refine go_aload_n (q := 0) (i := 0) (pc := 37) hΓ d_M_laysImage_37 rfl rfl ?_
      refine go_iload_n (q := 1) (i := 1) (pc := 38) hΓ d_M_laysImage_38 rfl rfl ?_
      refine go_iload_n (q := 2) (i := 2) (pc := 39) hΓ d_M_laysImage_39 rfl rfl ?_
      refine go_iconst (v := -1) (pc := 40) hΓ d_M_laysImage_40 (by decide) ?_
      refine go_iconst (v := 0) (pc := 41) hΓ d_M_laysImage_41 (by decide) ?_
      refine go_callV (index := 228) emI hΓ hR (g_M_result N (d + 0) x1 a2 (-1) 0) mi_M_result ml_M_228 d_M_laysImage_42 rfl rfl rfl rfl rfl (fun r9 μ10 => ?_)
      show Go Γ 3 45 [(0, .ref 44), (1, .int x1), (2, .int a2)] [.int r9, .ref 58] μ10 _
      refine go_iconst (v := 1) (pc := 45) hΓ d_M_laysImage_45 (by decide) ?_
      refine go_ck (fun h11 => ?_)
      refine go_bast (pc := 46) hΓ d_M_laysImage_46 rfl h11 ?_
      refine go_letM (fun μ12 => ?_)
      refine go_incI (q := 2) (i := 2) (n := 1) (c := 1) (pc := 47) hΓ d_M_laysImage_47 rfl (by decide) (by decide) (fun v13 => ?_)
      refine go_sub' (lv' := [(2, .int v13), (0, .ref 44), (1, .int x1)]) rfl ?_
      refine go_goto 24 (pc := 50) hΓ d_M_laysImage_50 (by decide) ?_
      refine go_sub' (lv' := [(0, .ref 44), (1, .int x1), (2, .int v13)]) rfl ?_
      exact ih v13 μ12
set_option maxHeartbeats 4000000 in
set_option maxRecDepth 100000 in
theorem g_M_laysImage (N d : Nat) (x1 : Int32)  : CallF eV y_M_laysImage c_M_laysImage 3 none (d + 2 + 1) [.ref 44, .int x1] (f_M_laysImage N x1) := by
  refine call_of (d := d + 2) (n := 1) mi_M_laysImage.1 (fun _ => rfl) ?_
  intro Γ μ0 hΓ hT hR
  show Go Γ 3 0 [(0, .ref 44), (1, .int x1)] [] μ0 (f_M_laysImage N x1 μ0)
  unfold f_M_laysImage
  refine go_iconst (v := 0) (pc := 0) hΓ d_M_laysImage_0 (by decide) ?_
  refine go_istore_n (i := 2) (lv' := [(2, .int 0), (0, .ref 44), (1, .int x1)]) (pc := 1) hΓ d_M_laysImage_1 rfl (by decide) rfl ?_
  refine go_sub' (lv' := [(0, .ref 44), (1, .int x1), (2, .int 0)]) rfl ?_
  refine glp_M_laysImage_2 N d hΓ hT hR x1 _ (fun μ5 => ?_) N 0 μ0
  refine go_iconst (v := 0) (pc := 22) hΓ d_M_laysImage_22 (by decide) ?_
  refine go_istore_n (i := 2) (lv' := [(2, .int 0), (0, .ref 44), (1, .int x1)]) (pc := 23) hΓ d_M_laysImage_23 rfl (by decide) rfl ?_
  refine go_sub' (lv' := [(0, .ref 44), (1, .int x1), (2, .int 0)]) rfl ?_
  refine glp_M_laysImage_24 N d hΓ hT hR x1 _ (fun μ14 => ?_) N 0 μ5
  exact go_vret (pc := 53) hΓ hT d_M_laysImage_53
def lp_M_image_26 (N : Nat) (x1 : Int32)  (K : Int32 → Int32 → Mem → Option (Int32 × Mem)) : Nat → Int32 → Int32 → Int32 → Mem → Option (Int32 × Mem)
  | 0, _, _, _, _ => none
  | n + 1, a2, a3, a4, μ0 => bnd (f_M_all N x1 μ0) fun r7 μ8 => if a4 < r7 then (ck (inb a4 256) (bnd (f_M_flag N (gI μ8 58 (tn a4)) μ8) fun r11 μ12 => lt' (a2 + r11) fun v13 => ck (inb a4 256) (lt' (fun (w16 : Int32) (μ17 : Mem) => bnd (f_M_flag N w16 μ17) fun r18 μ19 => lt' (a3 + r18) fun v20 => lt' (a4 + 1) fun v21 => lp_M_image_26 N x1 K n v13 v20 v21 μ19) fun (k15 : Int32 → Mem → Option (Int32 × Mem)) => lt' (fun (μ23 : Mem) => k15 0 μ23) fun (k22 : Mem → Option (Int32 × Mem)) => if (gI μ12 58 (tn a4)) = 0 then (k22 μ12) else (ck (inb x1 4) (bnd (f_M_isSorted N (gI μ12 46 (tn x1)) a4 μ12) fun r26 μ27 => if r26 = 0 then (k22 μ27) else (k15 1 μ27)))))) else (K a2 a3 μ8)
def f_M_image (N : Nat) (x1 : Int32) (μ0 : Mem) : Option (Int32 × Mem) :=
  lt' (sI μ0 44 0 0) fun μ1 => bnd (f_M_isNet N x1 μ1) fun r2 μ3 => if r2 = 0 then (some ((-1), μ3)) else (bnd (f_M_laysImage N x1 μ3) fun _ μ6 => lp_M_image_26 N x1 (fun v29 v30 μ31 => bnd (f_M_tellsOne N (Int32.toInt64 v30) μ31) fun _ μ33 => some (v29, μ33)) N 0 0 0 μ6)
set_option maxHeartbeats 4000000 in
set_option maxRecDepth 100000 in
theorem glp_M_image_26 (N d : Nat) {Γ : Cx Int32} (hΓ : Ok Γ "SortingNetsModel" c_M_image 5) (hT : Rt Γ eI (some .int)) (hR : Rm Γ (d + 3)) (x1 : Int32)    (K : Int32 → Int32 → Mem → Option (Int32 × Mem)) (hK : ∀ (b2 : Int32) (b3 : Int32) (ν : Mem), Go Γ 5 90 [(0, .ref 44), (2, .int b2), (3, .int b3)] [] ν (K b2 b3 ν)) : ∀ (n : Nat) (a2 : Int32) (a3 : Int32) (a4 : Int32) (μ0 : Mem), Go Γ 5 26 [(0, .ref 44), (1, .int x1), (2, .int a2), (3, .int a3), (4, .int a4)] [] μ0 (lp_M_image_26 N x1 K n a2 a3 a4 μ0) := by
  intro n
  induction n with
  | zero => intro a2 a3 a4 μ0; exact go_none
  | succ n ih =>
    intro a2 a3 a4 μ0
    rw [lp_M_image_26]
    refine go_iload (q := 4) (pc := 26) hΓ d_M_image_26 rfl ?_
    refine go_aload_n (q := 0) (i := 0) (pc := 28) hΓ d_M_image_28 rfl rfl ?_
    refine go_iload_n (q := 1) (i := 1) (pc := 29) hΓ d_M_image_29 rfl rfl ?_
    refine go_callV (index := 86) emI hΓ hR (g_M_all N (d + 2) x1) mi_M_all ml_M_86 d_M_image_30 rfl rfl rfl rfl rfl (fun r7 μ8 => ?_)
    show Go Γ 5 33 [(0, .ref 44), (1, .int x1), (2, .int a2), (3, .int a3), (4, .int a4)] [.int r7, .int a4] μ8 _
    refine go_icmp_ge 90 (pc := 33) hΓ d_M_image_33 (by decide) (fun h9 => go_eq (if_neg h9) ?_) (fun h9 => go_eq (if_pos h9) ?_)
    · refine go_sub' (lv' := [(0, .ref 44), (2, .int a2), (3, .int a3)]) rfl ?_
      exact hK a2 a3 μ8
    · refine go_iload_n (q := 2) (i := 2) (pc := 36) hΓ d_M_image_36 rfl rfl ?_
      refine go_aload_n (q := 0) (i := 0) (pc := 37) hΓ d_M_image_37 rfl rfl ?_
      refine go_getR (q := 58) (pc := 38) hΓ fl_M_50 d_M_image_38 rfl rfl ?_
      refine go_iload (q := 4) (pc := 41) hΓ d_M_image_41 rfl ?_
      refine go_ck (fun h10 => ?_)
      refine go_bald (pc := 43) hΓ d_M_image_43 rfl h10 ?_
      refine go_callS (index := 188) emI hΓ hR (g_M_flag N (d + 2) (gI μ8 58 (tn a4))) mi_M_flag ml_M_188 d_M_image_44 rfl rfl rfl (fun r11 μ12 => ?_)
      show Go Γ 5 47 [(0, .ref 44), (1, .int x1), (2, .int a2), (3, .int a3), (4, .int a4)] [.int r11, .int a2] μ12 _
      refine go_iadd (pc := 47) hΓ d_M_image_47 ?_
      refine go_letI (fun v13 => ?_)
      refine go_istore_n (i := 2) (lv' := [(2, .int v13), (0, .ref 44), (1, .int x1), (3, .int a3), (4, .int a4)]) (pc := 48) hΓ d_M_image_48 rfl (by decide) rfl ?_
      refine go_iload_n (q := 3) (i := 3) (pc := 49) hΓ d_M_image_49 rfl rfl ?_
      refine go_aload_n (q := 1) (i := 0) (pc := 50) hΓ d_M_image_50 rfl rfl ?_
      refine go_getR (q := 58) (pc := 51) hΓ fl_M_50 d_M_image_51 rfl rfl ?_
      refine go_iload (q := 4) (pc := 54) hΓ d_M_image_54 rfl ?_
      refine go_ck (fun h14 => ?_)
      refine go_bald (pc := 56) hΓ d_M_image_56 rfl h14 ?_
      refine go_join (fun (k15 : Int32 → Mem → Option (Int32 × Mem)) => ∀ (w16 : Int32) (μ17 : Mem), Go Γ 5 79 [(0, .ref 44), (1, .int x1), (2, .int v13), (4, .int a4)] [.int w16, .int a3] μ17 (k15 w16 μ17)) ?_ (fun k15 k15h => ?_)
      · intro w16 μ17
        refine go_callS (index := 188) emI hΓ hR (g_M_flag N (d + 2) w16) mi_M_flag ml_M_188 d_M_image_79 rfl rfl rfl (fun r18 μ19 => ?_)
        show Go Γ 5 82 [(0, .ref 44), (1, .int x1), (2, .int v13), (4, .int a4)] [.int r18, .int a3] μ19 _
        refine go_iadd (pc := 82) hΓ d_M_image_82 ?_
        refine go_letI (fun v20 => ?_)
        refine go_istore_n (i := 3) (lv' := [(3, .int v20), (0, .ref 44), (1, .int x1), (2, .int v13), (4, .int a4)]) (pc := 83) hΓ d_M_image_83 rfl (by decide) rfl ?_
        refine go_incI (q := 4) (i := 4) (n := 1) (c := 1) (pc := 84) hΓ d_M_image_84 rfl (by decide) (by decide) (fun v21 => ?_)
        refine go_sub' (lv' := [(4, .int v21), (3, .int v20), (0, .ref 44), (1, .int x1), (2, .int v13)]) rfl ?_
        refine go_goto 26 (pc := 87) hΓ d_M_image_87 (by decide) ?_
        refine go_sub' (lv' := [(0, .ref 44), (1, .int x1), (2, .int v13), (3, .int v20), (4, .int v21)]) rfl ?_
        exact ih v13 v20 v21 μ19
      · refine go_join (fun (k22 : Mem → Option (Int32 × Mem)) => ∀ (μ23 : Mem), Go Γ 5 78 [(0, .ref 44), (1, .int x1), (2, .int v13), (4, .int a4)] [.int a3] μ23 (k22 μ23)) ?_ (fun k22 k22h => ?_)
        · intro μ23
          refine go_iconst (v := 0) (pc := 78) hΓ d_M_image_78 (by decide) ?_
          refine go_sub' (lv' := [(0, .ref 44), (1, .int x1), (2, .int v13), (4, .int a4)]) rfl ?_
          exact k15h 0 μ23
        · refine go_if_eq 78 (pc := 57) hΓ d_M_image_57 (by decide) (fun h24 => go_eq (if_pos h24) ?_) (fun h24 => go_eq (if_neg h24) ?_)
          · refine go_sub' (lv' := [(0, .ref 44), (1, .int x1), (2, .int v13), (4, .int a4)]) rfl ?_
            exact k22h μ12
          · refine go_aload_n (q := 1) (i := 0) (pc := 60) hΓ d_M_image_60 rfl rfl ?_
            refine go_getR (q := 46) (pc := 61) hΓ fl_M_13 d_M_image_61 rfl rfl ?_
            refine go_iload_n (q := 2) (i := 1) (pc := 64) hΓ d_M_image_64 rfl rfl ?_
            refine go_ck (fun h25 => ?_)
            refine go_iald (pc := 65) hΓ d_M_image_65 rfl h25 ?_
            refine go_iload (q := 4) (pc := 66) hΓ d_M_image_66 rfl ?_
            refine go_callS (index := 232) emI hΓ hR (g_M_isSorted N (d + 2) (gI μ12 46 (tn x1)) a4) mi_M_isSorted ml_M_232 d_M_image_68 rfl rfl rfl (fun r26 μ27 => ?_)
            show Go Γ 5 71 [(2, .int v13), (0, .ref 44), (1, .int x1), (3, .int a3), (4, .int a4)] [.int r26, .int a3] μ27 _
            refine go_if_eq 78 (pc := 71) hΓ d_M_image_71 (by decide) (fun h28 => go_eq (if_pos h28) ?_) (fun h28 => go_eq (if_neg h28) ?_)
            · refine go_sub' (lv' := [(0, .ref 44), (1, .int x1), (2, .int v13), (4, .int a4)]) rfl ?_
              exact k22h μ27
            · refine go_iconst (v := 1) (pc := 74) hΓ d_M_image_74 (by decide) ?_
              refine go_goto 79 (pc := 75) hΓ d_M_image_75 (by decide) ?_
              refine go_sub' (lv' := [(0, .ref 44), (1, .int x1), (2, .int v13), (4, .int a4)]) rfl ?_
              exact k15h 1 μ27
set_option maxHeartbeats 4000000 in
set_option maxRecDepth 100000 in
theorem g_M_image (N d : Nat) (x1 : Int32)  : CallF eI y_M_image c_M_image 5 (some .int) (d + 3 + 1) [.ref 44, .int x1] (f_M_image N x1) := by
  refine call_of (d := d + 3) (n := 1) mi_M_image.1 (fun _ => rfl) ?_
  intro Γ μ0 hΓ hT hR
  show Go Γ 5 0 [(0, .ref 44), (1, .int x1)] [] μ0 (f_M_image N x1 μ0)
  unfold f_M_image
  refine go_aload_n (q := 0) (i := 0) (pc := 0) hΓ d_M_image_0 rfl rfl ?_
  refine go_iconst (v := 0) (pc := 1) hΓ d_M_image_1 (by decide) ?_
  refine go_putI (pc := 2) hΓ fp_M_69 d_M_image_2 rfl rfl ?_
  refine go_letM (fun μ1 => ?_)
  refine go_iload_n (q := 1) (i := 1) (pc := 5) hΓ d_M_image_5 rfl rfl ?_
  refine go_callS (index := 151) emI hΓ hR (g_M_isNet N (d + 1) x1) mi_M_isNet ml_M_151 d_M_image_6 rfl rfl rfl (fun r2 μ3 => ?_)
  show Go Γ 5 9 [(0, .ref 44), (1, .int x1)] [.int r2] μ3 _
  refine go_if_ne 14 (pc := 9) hΓ d_M_image_9 (by decide) (fun h4 => go_eq (if_neg h4) ?_) (fun h4 => go_eq (if_pos h4) ?_)
  · refine go_aload_n (q := 0) (i := 0) (pc := 14) hΓ d_M_image_14 rfl rfl ?_
    refine go_iload_n (q := 1) (i := 1) (pc := 15) hΓ d_M_image_15 rfl rfl ?_
    refine go_callV (index := 251) emV hΓ hR (g_M_laysImage N (d + 0) x1) mi_M_laysImage ml_M_251 d_M_image_16 rfl rfl rfl rfl rfl (fun _ μ6 => ?_)
    show Go Γ 5 19 [(0, .ref 44), (1, .int x1)] [] μ6 _
    refine go_iconst (v := 0) (pc := 19) hΓ d_M_image_19 (by decide) ?_
    refine go_istore_n (i := 2) (lv' := [(2, .int 0), (0, .ref 44), (1, .int x1)]) (pc := 20) hΓ d_M_image_20 rfl (by decide) rfl ?_
    refine go_iconst (v := 0) (pc := 21) hΓ d_M_image_21 (by decide) ?_
    refine go_istore_n (i := 3) (lv' := [(3, .int 0), (2, .int 0), (0, .ref 44), (1, .int x1)]) (pc := 22) hΓ d_M_image_22 rfl (by decide) rfl ?_
    refine go_iconst (v := 0) (pc := 23) hΓ d_M_image_23 (by decide) ?_
    refine go_istore (lv' := [(4, .int 0), (3, .int 0), (2, .int 0), (0, .ref 44), (1, .int x1)]) (pc := 24) hΓ d_M_image_24 (by decide) rfl ?_
    refine go_sub' (lv' := [(0, .ref 44), (1, .int x1), (2, .int 0), (3, .int 0), (4, .int 0)]) rfl ?_
    refine glp_M_image_26 N d hΓ hT hR x1 _ (fun v29 v30 μ31 => ?_) N 0 0 0 μ6
    refine go_aload_n (q := 0) (i := 0) (pc := 90) hΓ d_M_image_90 rfl rfl ?_
    refine go_iload_n (q := 2) (i := 3) (pc := 91) hΓ d_M_image_91 rfl rfl ?_
    refine go_i2l (pc := 92) hΓ d_M_image_92 ?_
    refine go_callV (index := 221) emV hΓ hR (g_M_tellsOne N (d + 1) (Int32.toInt64 v30)) mi_M_tellsOne ml_M_221 d_M_image_93 rfl rfl rfl rfl rfl (fun _ μ33 => ?_)
    show Go Γ 5 96 [(0, .ref 44), (2, .int v29), (3, .int v30)] [] μ33 _
    refine go_iload_n (q := 1) (i := 2) (pc := 96) hΓ d_M_image_96 rfl rfl ?_
    exact go_iret (pc := 97) hΓ hT d_M_image_97
  · refine go_iconst (v := -1) (pc := 12) hΓ d_M_image_12 (by decide) ?_
    exact go_iret (pc := 13) hΓ hT d_M_image_13
def lp_M_comes2_37 (N : Nat) (x1 : Int32) (x2 : Int32)  (K : Int32 → Int32 → Mem → Option (Int32 × Mem)) : Nat → Int32 → Int32 → Int32 → Mem → Option (Int32 × Mem)
  | 0, _, _, _, _ => none
  | n + 1, a3, a4, a5, μ0 => if a5 < 0 then (K a3 a4 μ0) else (bnd (f_M_result N x1 a5 (-1) 0 μ0) fun r12 μ13 => lt' (if r12 = x2 then ((a3 + 1 : Int32), (a5 : Int32)) else ((a3 : Int32), (a4 : Int32))) fun q15 => lt' (a5 + (-1)) fun v16 => lp_M_comes2_37 N x1 x2 K n q15.1 q15.2 v16 μ13)
def f_M_comes2 (N : Nat) (x1 : Int32) (x2 : Int32) (μ0 : Mem) : Option (Int32 × Mem) :=
  lt' (sI μ0 44 0 0) fun μ1 => bnd (f_M_isNet N x1 μ1) fun r2 μ3 => if r2 = 0 then (some ((-1), μ3)) else (bnd (f_M_isPattern N x1 x2 μ3) fun r5 μ6 => if r5 = 0 then (some ((-1), μ6)) else (bnd (f_M_all N x1 μ6) fun r8 μ9 => lt' (r8 - 1) fun v10 => lp_M_comes2_37 N x1 x2 (fun v18 v19 μ20 => bnd (f_M_tellsOne N (Int32.toInt64 v19) μ20) fun _ μ22 => some (v18, μ22)) N 0 (-1) v10 μ9))
set_option maxHeartbeats 4000000 in
set_option maxRecDepth 100000 in
theorem glp_M_comes2_37 (N d : Nat) {Γ : Cx Int32} (hΓ : Ok Γ "SortingNetsModel" c_M_comes2 6) (hT : Rt Γ eI (some .int)) (hR : Rm Γ (d + 2)) (x1 : Int32) (x2 : Int32)    (K : Int32 → Int32 → Mem → Option (Int32 × Mem)) (hK : ∀ (b3 : Int32) (b4 : Int32) (ν : Mem), Go Γ 6 71 [(0, .ref 44), (3, .int b3), (4, .int b4)] [] ν (K b3 b4 ν)) : ∀ (n : Nat) (a3 : Int32) (a4 : Int32) (a5 : Int32) (μ0 : Mem), Go Γ 6 37 [(0, .ref 44), (1, .int x1), (2, .int x2), (3, .int a3), (4, .int a4), (5, .int a5)] [] μ0 (lp_M_comes2_37 N x1 x2 K n a3 a4 a5 μ0) := by
  intro n
  induction n with
  | zero => intro a3 a4 a5 μ0; exact go_none
  | succ n ih =>
    intro a3 a4 a5 μ0
    rw [lp_M_comes2_37]
    refine go_iload (q := 5) (pc := 37) hΓ d_M_comes2_37 rfl ?_
    refine go_if_lt 71 (pc := 39) hΓ d_M_comes2_39 (by decide) (fun h11 => go_eq (if_pos h11) ?_) (fun h11 => go_eq (if_neg h11) ?_)
    · refine go_sub' (lv' := [(0, .ref 44), (3, .int a3), (4, .int a4)]) rfl ?_
      exact hK a3 a4 μ0
    · refine go_aload_n (q := 0) (i := 0) (pc := 42) hΓ d_M_comes2_42 rfl rfl ?_
      refine go_iload_n (q := 1) (i := 1) (pc := 43) hΓ d_M_comes2_43 rfl rfl ?_
      refine go_iload (q := 5) (pc := 44) hΓ d_M_comes2_44 rfl ?_
      refine go_iconst (v := -1) (pc := 46) hΓ d_M_comes2_46 (by decide) ?_
      refine go_iconst (v := 0) (pc := 47) hΓ d_M_comes2_47 (by decide) ?_
      refine go_callV (index := 228) emI hΓ hR (g_M_result N (d + 0) x1 a5 (-1) 0) mi_M_result ml_M_228 d_M_comes2_48 rfl rfl rfl rfl rfl (fun r12 μ13 => ?_)
      show Go Γ 6 51 [(0, .ref 44), (1, .int x1), (2, .int x2), (3, .int a3), (4, .int a4), (5, .int a5)] [.int r12] μ13 _
      refine go_iload_n (q := 2) (i := 2) (pc := 51) hΓ d_M_comes2_51 rfl rfl ?_
      refine go_mg (α := Int32 × Int32) 65 (fun q15 => [(0, .ref 44), (1, .int x1), (2, .int x2), (3, .int q15.1), (4, .int q15.2), (5, .int a5)]) (fun q15 => []) (fun q15 => ?_) (fun g17 g17h => ?_)
      · refine go_incI (q := 5) (i := 5) (n := -1) (c := -1) (pc := 65) hΓ d_M_comes2_65 rfl (by decide) (by decide) (fun v16 => ?_)
        refine go_sub' (lv' := [(5, .int v16), (0, .ref 44), (1, .int x1), (2, .int x2), (3, .int q15.1), (4, .int q15.2)]) rfl ?_
        refine go_goto 37 (pc := 68) hΓ d_M_comes2_68 (by decide) ?_
        refine go_sub' (lv' := [(0, .ref 44), (1, .int x1), (2, .int x2), (3, .int q15.1), (4, .int q15.2), (5, .int v16)]) rfl ?_
        exact ih q15.1 q15.2 v16 μ13
      · refine go_icmp_eq 58 (pc := 52) hΓ d_M_comes2_52 (by decide) (fun h14 => ?_) (fun h14 => ?_)
        · rw [if_pos h14]
          refine go_iinc (q := 3) (i := 3) (n := 1) (v := a3 + 1) (lv' := [(3, .int (a3 + 1)), (0, .ref 44), (1, .int x1), (2, .int x2), (4, .int a4), (5, .int a5)]) (pc := 58) hΓ d_M_comes2_58 rfl rfl (by decide) rfl ?_
          refine go_iload (q := 5) (pc := 61) hΓ d_M_comes2_61 rfl ?_
          refine go_istore (lv' := [(4, .int a5), (3, .int (a3 + 1)), (0, .ref 44), (1, .int x1), (2, .int x2), (5, .int a5)]) (pc := 63) hΓ d_M_comes2_63 (by decide) rfl ?_
          refine go_sub' (lv' := [(0, .ref 44), (1, .int x1), (2, .int x2), (3, .int (a3 + 1)), (4, .int a5), (5, .int a5)]) rfl ?_
          exact g17h _
        · rw [if_neg h14]
          refine go_goto 65 (pc := 55) hΓ d_M_comes2_55 (by decide) ?_
          refine go_sub' (lv' := [(0, .ref 44), (1, .int x1), (2, .int x2), (3, .int a3), (4, .int a4), (5, .int a5)]) rfl ?_
          exact g17h _
set_option maxHeartbeats 4000000 in
set_option maxRecDepth 100000 in
theorem g_M_comes2 (N d : Nat) (x1 : Int32) (x2 : Int32)  : CallF eI y_M_comes2 c_M_comes2 6 (some .int) (d + 2 + 1) [.ref 44, .int x1, .int x2] (f_M_comes2 N x1 x2) := by
  refine call_of (d := d + 2) (n := 2) mi_M_comes2.1 (fun _ => rfl) ?_
  intro Γ μ0 hΓ hT hR
  show Go Γ 6 0 [(0, .ref 44), (1, .int x1), (2, .int x2)] [] μ0 (f_M_comes2 N x1 x2 μ0)
  unfold f_M_comes2
  refine go_aload_n (q := 0) (i := 0) (pc := 0) hΓ d_M_comes2_0 rfl rfl ?_
  refine go_iconst (v := 0) (pc := 1) hΓ d_M_comes2_1 (by decide) ?_
  refine go_putI (pc := 2) hΓ fp_M_69 d_M_comes2_2 rfl rfl ?_
  refine go_letM (fun μ1 => ?_)
  refine go_iload_n (q := 1) (i := 1) (pc := 5) hΓ d_M_comes2_5 rfl rfl ?_
  refine go_callS (index := 151) emI hΓ hR (g_M_isNet N (d + 0) x1) mi_M_isNet ml_M_151 d_M_comes2_6 rfl rfl rfl (fun r2 μ3 => ?_)
  show Go Γ 6 9 [(0, .ref 44), (1, .int x1), (2, .int x2)] [.int r2] μ3 _
  refine go_if_eq 21 (pc := 9) hΓ d_M_comes2_9 (by decide) (fun h4 => go_eq (if_pos h4) ?_) (fun h4 => go_eq (if_neg h4) ?_)
  · refine go_iconst (v := -1) (pc := 21) hΓ d_M_comes2_21 (by decide) ?_
    exact go_iret (pc := 22) hΓ hT d_M_comes2_22
  · refine go_aload_n (q := 0) (i := 0) (pc := 12) hΓ d_M_comes2_12 rfl rfl ?_
    refine go_iload_n (q := 1) (i := 1) (pc := 13) hΓ d_M_comes2_13 rfl rfl ?_
    refine go_iload_n (q := 2) (i := 2) (pc := 14) hΓ d_M_comes2_14 rfl rfl ?_
    refine go_callV (index := 242) emI hΓ hR (g_M_isPattern N (d + 0) x1 x2) mi_M_isPattern ml_M_242 d_M_comes2_15 rfl rfl rfl rfl rfl (fun r5 μ6 => ?_)
    show Go Γ 6 18 [(0, .ref 44), (1, .int x1), (2, .int x2)] [.int r5] μ6 _
    refine go_if_ne 23 (pc := 18) hΓ d_M_comes2_18 (by decide) (fun h7 => go_eq (if_neg h7) ?_) (fun h7 => go_eq (if_pos h7) ?_)
    · refine go_iconst (v := 0) (pc := 23) hΓ d_M_comes2_23 (by decide) ?_
      refine go_istore_n (i := 3) (lv' := [(3, .int 0), (0, .ref 44), (1, .int x1), (2, .int x2)]) (pc := 24) hΓ d_M_comes2_24 rfl (by decide) rfl ?_
      refine go_iconst (v := -1) (pc := 25) hΓ d_M_comes2_25 (by decide) ?_
      refine go_istore (lv' := [(4, .int (-1)), (3, .int 0), (0, .ref 44), (1, .int x1), (2, .int x2)]) (pc := 26) hΓ d_M_comes2_26 (by decide) rfl ?_
      refine go_aload_n (q := 2) (i := 0) (pc := 28) hΓ d_M_comes2_28 rfl rfl ?_
      refine go_iload_n (q := 3) (i := 1) (pc := 29) hΓ d_M_comes2_29 rfl rfl ?_
      refine go_callV (index := 86) emI hΓ hR (g_M_all N (d + 1) x1) mi_M_all ml_M_86 d_M_comes2_30 rfl rfl rfl rfl rfl (fun r8 μ9 => ?_)
      show Go Γ 6 33 [(4, .int (-1)), (3, .int 0), (0, .ref 44), (1, .int x1), (2, .int x2)] [.int r8] μ9 _
      refine go_iconst (v := 1) (pc := 33) hΓ d_M_comes2_33 (by decide) ?_
      refine go_isub (pc := 34) hΓ d_M_comes2_34 ?_
      refine go_letI (fun v10 => ?_)
      refine go_istore (lv' := [(5, .int v10), (4, .int (-1)), (3, .int 0), (0, .ref 44), (1, .int x1), (2, .int x2)]) (pc := 35) hΓ d_M_comes2_35 (by decide) rfl ?_
      refine go_sub' (lv' := [(0, .ref 44), (1, .int x1), (2, .int x2), (3, .int 0), (4, .int (-1)), (5, .int v10)]) rfl ?_
      refine glp_M_comes2_37 N d hΓ hT hR x1 x2 _ (fun v18 v19 μ20 => ?_) N 0 (-1) v10 μ9
      refine go_aload_n (q := 0) (i := 0) (pc := 71) hΓ d_M_comes2_71 rfl rfl ?_
      refine go_iload (q := 2) (pc := 72) hΓ d_M_comes2_72 rfl ?_
      refine go_i2l (pc := 74) hΓ d_M_comes2_74 ?_
      refine go_callV (index := 221) emV hΓ hR (g_M_tellsOne N (d + 0) (Int32.toInt64 v19)) mi_M_tellsOne ml_M_221 d_M_comes2_75 rfl rfl rfl rfl rfl (fun _ μ22 => ?_)
      show Go Γ 6 78 [(0, .ref 44), (3, .int v18), (4, .int v19)] [] μ22 _
      refine go_iload_n (q := 1) (i := 3) (pc := 78) hΓ d_M_comes2_78 rfl rfl ?_
      exact go_iret (pc := 79) hΓ hT d_M_comes2_79
    · refine go_iconst (v := -1) (pc := 21) hΓ d_M_comes2_21 (by decide) ?_
      exact go_iret (pc := 22) hΓ hT d_M_comes2_22
def lp_M_wiresOf_48 (N : Nat) (x1 : Int32) (x2 : Int32) (x4 : Int32) (x5 : Int32)  (K : Int32 → Mem → Option (Int32 × Mem)) : Nat → Int32 → Int32 → Mem → Option (Int32 × Mem)
  | 0, _, _, _ => none
  | n + 1, a3, a6, μ0 => ck (inb x1 4) (if a6 < (gI μ0 46 (tn x1)) then (lt' (fun (w17 : Int32) (μ18 : Mem) => lt' (a3 ||| w17) fun v19 => lt' (a6 + 1) fun v20 => lp_M_wiresOf_48 N x1 x2 x4 x5 K n v19 v20 μ18) fun (k16 : Int32 → Mem → Option (Int32 × Mem)) => if ((shrI x4 a6) &&& 1) = 1 then (bnd (f_M_result N x1 (x4 ^^^ (shlI 1 a6)) (-1) 0 μ0) fun r22 μ23 => k16 (x5 ^^^ r22) μ23) else (k16 0 μ0)) else (K a3 μ0))
def lp_M_wiresOf_5 (N : Nat) (x1 : Int32) (x2 : Int32)  (K : Int32 → Mem → Option (Int32 × Mem)) : Nat → Int32 → Int32 → Mem → Option (Int32 × Mem)
  | 0, _, _, _ => none
  | n + 1, a3, a4, μ0 => bnd (f_M_all N x1 μ0) fun r1 μ2 => if a4 < r1 then (bnd (f_JInt_bitCount N a4 μ2) fun r4 μ5 => ck (inb x1 4) (lt' (fun (w8 : Int32) (μ9 : Mem) => lt' (a4 + 1) fun v10 => lp_M_wiresOf_5 N x1 x2 K n w8 v10 μ9) fun (k7 : Int32 → Mem → Option (Int32 × Mem)) => if r4 = ((gI μ5 46 (tn x1)) - x2) then (bnd (f_M_result N x1 a4 (-1) 0 μ5) fun r12 μ13 => lp_M_wiresOf_48 N x1 x2 a4 r12 (fun v24 μ25 => k7 v24 μ25) N a3 0 μ13) else (k7 a3 μ5))) else (K a3 μ2)
def f_M_wiresOf (N : Nat) (x1 : Int32) (x2 : Int32) (μ0 : Mem) : Option (Int32 × Mem) :=
  lp_M_wiresOf_5 N x1 x2 (fun v26 μ27 => some (v26, μ27)) N 0 0 μ0
set_option maxHeartbeats 4000000 in
set_option maxRecDepth 100000 in
theorem glp_M_wiresOf_48 (N d : Nat) {Γ : Cx Int32} (hΓ : Ok Γ "SortingNetsModel" c_M_wiresOf 7) (hT : Rt Γ eI (some .int)) (hR : Rm Γ (d + 2)) (x1 : Int32) (x2 : Int32) (x4 : Int32) (x5 : Int32)    (K : Int32 → Mem → Option (Int32 × Mem)) (hK : ∀ (b3 : Int32) (ν : Mem), Go Γ 7 100 [(0, .ref 44), (1, .int x1), (2, .int x2), (3, .int b3), (4, .int x4)] [] ν (K b3 ν)) : ∀ (n : Nat) (a3 : Int32) (a6 : Int32) (μ0 : Mem), Go Γ 7 48 [(0, .ref 44), (1, .int x1), (2, .int x2), (3, .int a3), (4, .int x4), (5, .int x5), (6, .int a6)] [] μ0 (lp_M_wiresOf_48 N x1 x2 x4 x5 K n a3 a6 μ0) := by
  intro n
  induction n with
  | zero => intro a3 a6 μ0; exact go_none
  | succ n ih =>
    intro a3 a6 μ0
    rw [lp_M_wiresOf_48]
    refine go_iload (q := 6) (pc := 48) hΓ d_M_wiresOf_48 rfl ?_
    refine go_aload_n (q := 0) (i := 0) (pc := 50) hΓ d_M_wiresOf_50 rfl rfl ?_
    refine go_getR (q := 46) (pc := 51) hΓ fl_M_13 d_M_wiresOf_51 rfl rfl ?_
    refine go_iload_n (q := 1) (i := 1) (pc := 54) hΓ d_M_wiresOf_54 rfl rfl ?_
    refine go_ck (fun h14 => ?_)
    refine go_iald (pc := 55) hΓ d_M_wiresOf_55 rfl h14 ?_
    refine go_icmp_ge 100 (pc := 56) hΓ d_M_wiresOf_56 (by decide) (fun h15 => go_eq (if_neg h15) ?_) (fun h15 => go_eq (if_pos h15) ?_)
    · refine go_sub' (lv' := [(0, .ref 44), (1, .int x1), (2, .int x2), (3, .int a3), (4, .int x4)]) rfl ?_
      exact hK a3 μ0
    · refine go_iload_n (q := 3) (i := 3) (pc := 59) hΓ d_M_wiresOf_59 rfl rfl ?_
      refine go_iload (q := 4) (pc := 60) hΓ d_M_wiresOf_60 rfl ?_
      refine go_iload (q := 6) (pc := 62) hΓ d_M_wiresOf_62 rfl ?_
      refine go_ishr (pc := 64) hΓ d_M_wiresOf_64 ?_
      refine go_iconst (v := 1) (pc := 65) hΓ d_M_wiresOf_65 (by decide) ?_
      refine go_iand (pc := 66) hΓ d_M_wiresOf_66 ?_
      refine go_iconst (v := 1) (pc := 67) hΓ d_M_wiresOf_67 (by decide) ?_
      refine go_join (fun (k16 : Int32 → Mem → Option (Int32 × Mem)) => ∀ (w17 : Int32) (μ18 : Mem), Go Γ 7 92 [(0, .ref 44), (1, .int x1), (2, .int x2), (4, .int x4), (5, .int x5), (6, .int a6)] [.int w17, .int a3] μ18 (k16 w17 μ18)) ?_ (fun k16 k16h => ?_)
      · intro w17 μ18
        refine go_ior (pc := 92) hΓ d_M_wiresOf_92 ?_
        refine go_letI (fun v19 => ?_)
        refine go_istore_n (i := 3) (lv' := [(3, .int v19), (0, .ref 44), (1, .int x1), (2, .int x2), (4, .int x4), (5, .int x5), (6, .int a6)]) (pc := 93) hΓ d_M_wiresOf_93 rfl (by decide) rfl ?_
        refine go_incI (q := 6) (i := 6) (n := 1) (c := 1) (pc := 94) hΓ d_M_wiresOf_94 rfl (by decide) (by decide) (fun v20 => ?_)
        refine go_sub' (lv' := [(6, .int v20), (3, .int v19), (0, .ref 44), (1, .int x1), (2, .int x2), (4, .int x4), (5, .int x5)]) rfl ?_
        refine go_goto 48 (pc := 97) hΓ d_M_wiresOf_97 (by decide) ?_
        refine go_sub' (lv' := [(0, .ref 44), (1, .int x1), (2, .int x2), (3, .int v19), (4, .int x4), (5, .int x5), (6, .int v20)]) rfl ?_
        exact ih v19 v20 μ18
      · refine go_icmp_ne 91 (pc := 68) hΓ d_M_wiresOf_68 (by decide) (fun h21 => go_eq (if_neg h21) ?_) (fun h21 => go_eq (if_pos h21) ?_)
        · refine go_iconst (v := 0) (pc := 91) hΓ d_M_wiresOf_91 (by decide) ?_
          refine go_sub' (lv' := [(0, .ref 44), (1, .int x1), (2, .int x2), (4, .int x4), (5, .int x5), (6, .int a6)]) rfl ?_
          exact k16h 0 μ0
        · refine go_iload (q := 5) (pc := 71) hΓ d_M_wiresOf_71 rfl ?_
          refine go_aload_n (q := 0) (i := 0) (pc := 73) hΓ d_M_wiresOf_73 rfl rfl ?_
          refine go_iload_n (q := 1) (i := 1) (pc := 74) hΓ d_M_wiresOf_74 rfl rfl ?_
          refine go_iload (q := 4) (pc := 75) hΓ d_M_wiresOf_75 rfl ?_
          refine go_iconst (v := 1) (pc := 77) hΓ d_M_wiresOf_77 (by decide) ?_
          refine go_iload (q := 6) (pc := 78) hΓ d_M_wiresOf_78 rfl ?_
          refine go_ishl (pc := 80) hΓ d_M_wiresOf_80 ?_
          refine go_ixor (pc := 81) hΓ d_M_wiresOf_81 ?_
          refine go_iconst (v := -1) (pc := 82) hΓ d_M_wiresOf_82 (by decide) ?_
          refine go_iconst (v := 0) (pc := 83) hΓ d_M_wiresOf_83 (by decide) ?_
          refine go_callV (index := 228) emI hΓ hR (g_M_result N (d + 0) x1 (x4 ^^^ (shlI 1 a6)) (-1) 0) mi_M_result ml_M_228 d_M_wiresOf_84 rfl rfl rfl rfl rfl (fun r22 μ23 => ?_)
          show Go Γ 7 87 [(0, .ref 44), (1, .int x1), (2, .int x2), (3, .int a3), (4, .int x4), (5, .int x5), (6, .int a6)] [.int r22, .int x5, .int a3] μ23 _
          refine go_ixor (pc := 87) hΓ d_M_wiresOf_87 ?_
          refine go_goto 92 (pc := 88) hΓ d_M_wiresOf_88 (by decide) ?_
          refine go_sub' (lv' := [(0, .ref 44), (1, .int x1), (2, .int x2), (4, .int x4), (5, .int x5), (6, .int a6)]) rfl ?_
          exact k16h (x5 ^^^ r22) μ23
set_option maxHeartbeats 4000000 in
set_option maxRecDepth 100000 in
theorem glp_M_wiresOf_5 (N d : Nat) {Γ : Cx Int32} (hΓ : Ok Γ "SortingNetsModel" c_M_wiresOf 7) (hT : Rt Γ eI (some .int)) (hR : Rm Γ (d + 2)) (x1 : Int32) (x2 : Int32)    (K : Int32 → Mem → Option (Int32 × Mem)) (hK : ∀ (b3 : Int32) (ν : Mem), Go Γ 7 106 [(3, .int b3)] [] ν (K b3 ν)) : ∀ (n : Nat) (a3 : Int32) (a4 : Int32) (μ0 : Mem), Go Γ 7 5 [(0, .ref 44), (1, .int x1), (2, .int x2), (3, .int a3), (4, .int a4)] [] μ0 (lp_M_wiresOf_5 N x1 x2 K n a3 a4 μ0) := by
  intro n
  induction n with
  | zero => intro a3 a4 μ0; exact go_none
  | succ n ih =>
    intro a3 a4 μ0
    rw [lp_M_wiresOf_5]
    refine go_iload (q := 4) (pc := 5) hΓ d_M_wiresOf_5 rfl ?_
    refine go_aload_n (q := 0) (i := 0) (pc := 7) hΓ d_M_wiresOf_7 rfl rfl ?_
    refine go_iload_n (q := 1) (i := 1) (pc := 8) hΓ d_M_wiresOf_8 rfl rfl ?_
    refine go_callV (index := 86) emI hΓ hR (g_M_all N (d + 1) x1) mi_M_all ml_M_86 d_M_wiresOf_9 rfl rfl rfl rfl rfl (fun r1 μ2 => ?_)
    show Go Γ 7 12 [(0, .ref 44), (1, .int x1), (2, .int x2), (3, .int a3), (4, .int a4)] [.int r1, .int a4] μ2 _
    refine go_icmp_ge 106 (pc := 12) hΓ d_M_wiresOf_12 (by decide) (fun h3 => go_eq (if_neg h3) ?_) (fun h3 => go_eq (if_pos h3) ?_)
    · refine go_sub' (lv' := [(3, .int a3)]) rfl ?_
      exact hK a3 μ2
    · refine go_iload (q := 4) (pc := 15) hΓ d_M_wiresOf_15 rfl ?_
      refine go_callS (index := 255) emI hΓ hR (g_JInt_bitCount N (d + 1) a4) mi_JInt_bitCount ml_M_255 d_M_wiresOf_17 rfl rfl rfl (fun r4 μ5 => ?_)
      show Go Γ 7 20 [(0, .ref 44), (1, .int x1), (2, .int x2), (3, .int a3), (4, .int a4)] [.int r4] μ5 _
      refine go_aload_n (q := 0) (i := 0) (pc := 20) hΓ d_M_wiresOf_20 rfl rfl ?_
      refine go_getR (q := 46) (pc := 21) hΓ fl_M_13 d_M_wiresOf_21 rfl rfl ?_
      refine go_iload_n (q := 1) (i := 1) (pc := 24) hΓ d_M_wiresOf_24 rfl rfl ?_
      refine go_ck (fun h6 => ?_)
      refine go_iald (pc := 25) hΓ d_M_wiresOf_25 rfl h6 ?_
      refine go_iload_n (q := 2) (i := 2) (pc := 26) hΓ d_M_wiresOf_26 rfl rfl ?_
      refine go_isub (pc := 27) hΓ d_M_wiresOf_27 ?_
      refine go_join (fun (k7 : Int32 → Mem → Option (Int32 × Mem)) => ∀ (w8 : Int32) (μ9 : Mem), Go Γ 7 100 [(0, .ref 44), (1, .int x1), (2, .int x2), (3, .int w8), (4, .int a4)] [] μ9 (k7 w8 μ9)) ?_ (fun k7 k7h => ?_)
      · intro w8 μ9
        refine go_incI (q := 4) (i := 4) (n := 1) (c := 1) (pc := 100) hΓ d_M_wiresOf_100 rfl (by decide) (by decide) (fun v10 => ?_)
        refine go_sub' (lv' := [(4, .int v10), (0, .ref 44), (1, .int x1), (2, .int x2), (3, .int w8)]) rfl ?_
        refine go_goto 5 (pc := 103) hΓ d_M_wiresOf_103 (by decide) ?_
        refine go_sub' (lv' := [(0, .ref 44), (1, .int x1), (2, .int x2), (3, .int w8), (4, .int v10)]) rfl ?_
        exact ih w8 v10 μ9
      · refine go_icmp_eq 34 (pc := 28) hΓ d_M_wiresOf_28 (by decide) (fun h11 => go_eq (if_pos h11) ?_) (fun h11 => go_eq (if_neg h11) ?_)
        · refine go_aload_n (q := 0) (i := 0) (pc := 34) hΓ d_M_wiresOf_34 rfl rfl ?_
          refine go_iload_n (q := 1) (i := 1) (pc := 35) hΓ d_M_wiresOf_35 rfl rfl ?_
          refine go_iload (q := 4) (pc := 36) hΓ d_M_wiresOf_36 rfl ?_
          refine go_iconst (v := -1) (pc := 38) hΓ d_M_wiresOf_38 (by decide) ?_
          refine go_iconst (v := 0) (pc := 39) hΓ d_M_wiresOf_39 (by decide) ?_
          refine go_callV (index := 228) emI hΓ hR (g_M_result N (d + 0) x1 a4 (-1) 0) mi_M_result ml_M_228 d_M_wiresOf_40 rfl rfl rfl rfl rfl (fun r12 μ13 => ?_)
          show Go Γ 7 43 [(0, .ref 44), (1, .int x1), (2, .int x2), (3, .int a3), (4, .int a4)] [.int r12] μ13 _
          refine go_istore (lv' := [(5, .int r12), (0, .ref 44), (1, .int x1), (2, .int x2), (3, .int a3), (4, .int a4)]) (pc := 43) hΓ d_M_wiresOf_43 (by decide) rfl ?_
          refine go_iconst (v := 0) (pc := 45) hΓ d_M_wiresOf_45 (by decide) ?_
          refine go_istore (lv' := [(6, .int 0), (5, .int r12), (0, .ref 44), (1, .int x1), (2, .int x2), (3, .int a3), (4, .int a4)]) (pc := 46) hΓ d_M_wiresOf_46 (by decide) rfl ?_
          refine go_sub' (lv' := [(0, .ref 44), (1, .int x1), (2, .int x2), (3, .int a3), (4, .int a4), (5, .int r12), (6, .int 0)]) rfl ?_
          refine glp_M_wiresOf_48 N d hΓ hT hR x1 x2 a4 r12 _ (fun v24 μ25 => ?_) N a3 0 μ13
          refine go_sub' (lv' := [(0, .ref 44), (1, .int x1), (2, .int x2), (3, .int v24), (4, .int a4)]) rfl ?_
          exact k7h v24 μ25
        · refine go_goto 100 (pc := 31) hΓ d_M_wiresOf_31 (by decide) ?_
          refine go_sub' (lv' := [(0, .ref 44), (1, .int x1), (2, .int x2), (3, .int a3), (4, .int a4)]) rfl ?_
          exact k7h a3 μ5
set_option maxHeartbeats 4000000 in
set_option maxRecDepth 100000 in
theorem g_M_wiresOf (N d : Nat) (x1 : Int32) (x2 : Int32)  : CallF eI y_M_wiresOf c_M_wiresOf 7 (some .int) (d + 2 + 1) [.ref 44, .int x1, .int x2] (f_M_wiresOf N x1 x2) := by
  refine call_of (d := d + 2) (n := 2) mi_M_wiresOf.1 (fun _ => rfl) ?_
  intro Γ μ0 hΓ hT hR
  show Go Γ 7 0 [(0, .ref 44), (1, .int x1), (2, .int x2)] [] μ0 (f_M_wiresOf N x1 x2 μ0)
  unfold f_M_wiresOf
  refine go_iconst (v := 0) (pc := 0) hΓ d_M_wiresOf_0 (by decide) ?_
  refine go_istore_n (i := 3) (lv' := [(3, .int 0), (0, .ref 44), (1, .int x1), (2, .int x2)]) (pc := 1) hΓ d_M_wiresOf_1 rfl (by decide) rfl ?_
  refine go_iconst (v := 0) (pc := 2) hΓ d_M_wiresOf_2 (by decide) ?_
  refine go_istore (lv' := [(4, .int 0), (3, .int 0), (0, .ref 44), (1, .int x1), (2, .int x2)]) (pc := 3) hΓ d_M_wiresOf_3 (by decide) rfl ?_
  refine go_sub' (lv' := [(0, .ref 44), (1, .int x1), (2, .int x2), (3, .int 0), (4, .int 0)]) rfl ?_
  refine glp_M_wiresOf_5 N d hΓ hT hR x1 x2 _ (fun v26 μ27 => ?_) N 0 0 μ0
  refine go_iload_n (q := 0) (i := 3) (pc := 106) hΓ d_M_wiresOf_106 rfl rfl ?_
  exact go_iret (pc := 107) hΓ hT d_M_wiresOf_107
def f_M_ranks (N : Nat) (x1 : Int32) (x2 : Int32) (μ0 : Mem) : Option (Int32 × Mem) :=
  lt' (sI μ0 44 0 0) fun μ1 => bnd (f_M_isNet N x1 μ1) fun r2 μ3 => if r2 = 0 then (some ((-1), μ3)) else (bnd (f_M_isWire N x1 x2 μ3) fun r5 μ6 => if r5 = 0 then (some ((-1), μ6)) else (bnd (f_M_wiresOf N x1 x2 μ6) fun r8 μ9 => bnd (f_JInt_bitCount N r8 μ9) fun r10 μ11 => bnd (f_M_tellsOne N (Int32.toInt64 r10) μ11) fun _ μ13 => some (r8, μ13)))
set_option maxHeartbeats 4000000 in
set_option maxRecDepth 100000 in
theorem g_M_ranks (N d : Nat) (x1 : Int32) (x2 : Int32)  : CallF eI y_M_ranks c_M_ranks 4 (some .int) (d + 3 + 1) [.ref 44, .int x1, .int x2] (f_M_ranks N x1 x2) := by
  refine call_of (d := d + 3) (n := 2) mi_M_ranks.1 (fun _ => rfl) ?_
  intro Γ μ0 hΓ hT hR
  show Go Γ 4 0 [(0, .ref 44), (1, .int x1), (2, .int x2)] [] μ0 (f_M_ranks N x1 x2 μ0)
  unfold f_M_ranks
  refine go_aload_n (q := 0) (i := 0) (pc := 0) hΓ d_M_ranks_0 rfl rfl ?_
  refine go_iconst (v := 0) (pc := 1) hΓ d_M_ranks_1 (by decide) ?_
  refine go_putI (pc := 2) hΓ fp_M_69 d_M_ranks_2 rfl rfl ?_
  refine go_letM (fun μ1 => ?_)
  refine go_iload_n (q := 1) (i := 1) (pc := 5) hΓ d_M_ranks_5 rfl rfl ?_
  refine go_callS (index := 151) emI hΓ hR (g_M_isNet N (d + 1) x1) mi_M_isNet ml_M_151 d_M_ranks_6 rfl rfl rfl (fun r2 μ3 => ?_)
  show Go Γ 4 9 [(0, .ref 44), (1, .int x1), (2, .int x2)] [.int r2] μ3 _
  refine go_if_eq 21 (pc := 9) hΓ d_M_ranks_9 (by decide) (fun h4 => go_eq (if_pos h4) ?_) (fun h4 => go_eq (if_neg h4) ?_)
  · refine go_iconst (v := -1) (pc := 21) hΓ d_M_ranks_21 (by decide) ?_
    exact go_iret (pc := 22) hΓ hT d_M_ranks_22
  · refine go_aload_n (q := 0) (i := 0) (pc := 12) hΓ d_M_ranks_12 rfl rfl ?_
    refine go_iload_n (q := 1) (i := 1) (pc := 13) hΓ d_M_ranks_13 rfl rfl ?_
    refine go_iload_n (q := 2) (i := 2) (pc := 14) hΓ d_M_ranks_14 rfl rfl ?_
    refine go_callV (index := 196) emI hΓ hR (g_M_isWire N (d + 1) x1 x2) mi_M_isWire ml_M_196 d_M_ranks_15 rfl rfl rfl rfl rfl (fun r5 μ6 => ?_)
    show Go Γ 4 18 [(0, .ref 44), (1, .int x1), (2, .int x2)] [.int r5] μ6 _
    refine go_if_ne 23 (pc := 18) hΓ d_M_ranks_18 (by decide) (fun h7 => go_eq (if_neg h7) ?_) (fun h7 => go_eq (if_pos h7) ?_)
    · refine go_aload_n (q := 0) (i := 0) (pc := 23) hΓ d_M_ranks_23 rfl rfl ?_
      refine go_iload_n (q := 1) (i := 1) (pc := 24) hΓ d_M_ranks_24 rfl rfl ?_
      refine go_iload_n (q := 2) (i := 2) (pc := 25) hΓ d_M_ranks_25 rfl rfl ?_
      refine go_callV (index := 260) emI hΓ hR (g_M_wiresOf N (d + 0) x1 x2) mi_M_wiresOf ml_M_260 d_M_ranks_26 rfl rfl rfl rfl rfl (fun r8 μ9 => ?_)
      show Go Γ 4 29 [(0, .ref 44), (1, .int x1), (2, .int x2)] [.int r8] μ9 _
      refine go_istore_n (i := 3) (lv' := [(3, .int r8), (0, .ref 44), (1, .int x1), (2, .int x2)]) (pc := 29) hΓ d_M_ranks_29 rfl (by decide) rfl ?_
      refine go_aload_n (q := 1) (i := 0) (pc := 30) hΓ d_M_ranks_30 rfl rfl ?_
      refine go_iload_n (q := 0) (i := 3) (pc := 31) hΓ d_M_ranks_31 rfl rfl ?_
      refine go_callS (index := 255) emI hΓ hR (g_JInt_bitCount N (d + 2) r8) mi_JInt_bitCount ml_M_255 d_M_ranks_32 rfl rfl rfl (fun r10 μ11 => ?_)
      show Go Γ 4 35 [(3, .int r8), (0, .ref 44), (1, .int x1), (2, .int x2)] [.int r10, .ref 44] μ11 _
      refine go_i2l (pc := 35) hΓ d_M_ranks_35 ?_
      refine go_callV (index := 221) emV hΓ hR (g_M_tellsOne N (d + 1) (Int32.toInt64 r10)) mi_M_tellsOne ml_M_221 d_M_ranks_36 rfl rfl rfl rfl rfl (fun _ μ13 => ?_)
      show Go Γ 4 39 [(3, .int r8), (0, .ref 44), (1, .int x1), (2, .int x2)] [] μ13 _
      refine go_iload_n (q := 0) (i := 3) (pc := 39) hΓ d_M_ranks_39 rfl rfl ?_
      exact go_iret (pc := 40) hΓ hT d_M_ranks_40
    · refine go_iconst (v := -1) (pc := 21) hΓ d_M_ranks_21 (by decide) ?_
      exact go_iret (pc := 22) hΓ hT d_M_ranks_22

def lp_M_same_53 (N : Nat) (x1 : Int32) (x2 : Int32)  (K : Int32 → Int32 → Mem → Option (Int32 × Mem)) : Nat → Int32 → Int32 → Int32 → Mem → Option (Int32 × Mem)
  | 0, _, _, _, _ => none
  | n + 1, a3, a4, a5, μ0 => if a5 < 0 then (K a3 a4 μ0) else (bnd (f_M_result N x1 a5 (-1) 0 μ0) fun r15 μ16 => bnd (f_M_result N x2 a5 (-1) 0 μ16) fun r17 μ18 => lt' (if r15 = r17 then ((a3 : Int32), (a4 : Int32)) else ((a3 + 1 : Int32), (a5 : Int32))) fun q20 => lt' (a5 + (-1)) fun v21 => lp_M_same_53 N x1 x2 K n q20.1 q20.2 v21 μ18)
def f_M_same (N : Nat) (x1 : Int32) (x2 : Int32) (μ0 : Mem) : Option (Int32 × Mem) :=
  lt' (sI μ0 44 0 0) fun μ1 => bnd (f_M_isNet N x1 μ1) fun r2 μ3 => if r2 = 0 then (some ((-1), μ3)) else (bnd (f_M_isNet N x2 μ3) fun r5 μ6 => if r5 = 0 then (some ((-1), μ6)) else (ck (inb x1 4) (ck (inb x2 4) (if (gI μ6 46 (tn x1)) = (gI μ6 46 (tn x2)) then (bnd (f_M_all N x1 μ6) fun r11 μ12 => lt' (r11 - 1) fun v13 => lp_M_same_53 N x1 x2 (fun v23 v24 μ25 => bnd (f_M_tellsOne N (Int32.toInt64 v23) μ25) fun _ μ27 => bnd (f_M_enters N (Int32.toInt64 v24) μ27) fun _ μ29 => lt' (if v23 = 0 then (1 : Int32) else (0 : Int32)) fun q31 => bnd (f_M_flag N q31 μ29) fun r32 μ33 => some (r32, μ33)) N 0 (-1) v13 μ12) else (some ((-2), μ6))))))
set_option maxHeartbeats 4000000 in
set_option maxRecDepth 100000 in
theorem glp_M_same_53 (N d : Nat) {Γ : Cx Int32} (hΓ : Ok Γ "SortingNetsModel" c_M_same 6) (hT : Rt Γ eI (some .int)) (hR : Rm Γ (d + 2)) (x1 : Int32) (x2 : Int32)    (K : Int32 → Int32 → Mem → Option (Int32 × Mem)) (hK : ∀ (b3 : Int32) (b4 : Int32) (ν : Mem), Go Γ 6 95 [(0, .ref 44), (3, .int b3), (4, .int b4)] [] ν (K b3 b4 ν)) : ∀ (n : Nat) (a3 : Int32) (a4 : Int32) (a5 : Int32) (μ0 : Mem), Go Γ 6 53 [(0, .ref 44), (1, .int x1), (2, .int x2), (3, .int a3), (4, .int a4), (5, .int a5)] [] μ0 (lp_M_same_53 N x1 x2 K n a3 a4 a5 μ0) := by
  intro n
  induction n with
  | zero => intro a3 a4 a5 μ0; exact go_none
  | succ n ih =>
    intro a3 a4 a5 μ0
    rw [lp_M_same_53]
    refine go_iload (q := 5) (pc := 53) hΓ d_M_same_53 rfl ?_
    refine go_if_lt 95 (pc := 55) hΓ d_M_same_55 (by decide) (fun h14 => go_eq (if_pos h14) ?_) (fun h14 => go_eq (if_neg h14) ?_)
    · refine go_sub' (lv' := [(0, .ref 44), (3, .int a3), (4, .int a4)]) rfl ?_
      exact hK a3 a4 μ0
    · refine go_aload_n (q := 0) (i := 0) (pc := 58) hΓ d_M_same_58 rfl rfl ?_
      refine go_iload_n (q := 1) (i := 1) (pc := 59) hΓ d_M_same_59 rfl rfl ?_
      refine go_iload (q := 5) (pc := 60) hΓ d_M_same_60 rfl ?_
      refine go_iconst (v := -1) (pc := 62) hΓ d_M_same_62 (by decide) ?_
      refine go_iconst (v := 0) (pc := 63) hΓ d_M_same_63 (by decide) ?_
      refine go_callV (index := 228) emI hΓ hR (g_M_result N (d + 0) x1 a5 (-1) 0) mi_M_result ml_M_228 d_M_same_64 rfl rfl rfl rfl rfl (fun r15 μ16 => ?_)
      show Go Γ 6 67 [(0, .ref 44), (1, .int x1), (2, .int x2), (3, .int a3), (4, .int a4), (5, .int a5)] [.int r15] μ16 _
      refine go_aload_n (q := 0) (i := 0) (pc := 67) hΓ d_M_same_67 rfl rfl ?_
      refine go_iload_n (q := 2) (i := 2) (pc := 68) hΓ d_M_same_68 rfl rfl ?_
      refine go_iload (q := 5) (pc := 69) hΓ d_M_same_69 rfl ?_
      refine go_iconst (v := -1) (pc := 71) hΓ d_M_same_71 (by decide) ?_
      refine go_iconst (v := 0) (pc := 72) hΓ d_M_same_72 (by decide) ?_
      refine go_callV (index := 228) emI hΓ hR (g_M_result N (d + 0) x2 a5 (-1) 0) mi_M_result ml_M_228 d_M_same_73 rfl rfl rfl rfl rfl (fun r17 μ18 => ?_)
      show Go Γ 6 76 [(0, .ref 44), (1, .int x1), (2, .int x2), (3, .int a3), (4, .int a4), (5, .int a5)] [.int r17, .int r15] μ18 _
      refine go_mg (α := Int32 × Int32) 89 (fun q20 => [(0, .ref 44), (1, .int x1), (2, .int x2), (3, .int q20.1), (4, .int q20.2), (5, .int a5)]) (fun q20 => []) (fun q20 => ?_) (fun g22 g22h => ?_)
      · refine go_incI (q := 5) (i := 5) (n := -1) (c := -1) (pc := 89) hΓ d_M_same_89 rfl (by decide) (by decide) (fun v21 => ?_)
        refine go_sub' (lv' := [(5, .int v21), (0, .ref 44), (1, .int x1), (2, .int x2), (3, .int q20.1), (4, .int q20.2)]) rfl ?_
        refine go_goto 53 (pc := 92) hΓ d_M_same_92 (by decide) ?_
        refine go_sub' (lv' := [(0, .ref 44), (1, .int x1), (2, .int x2), (3, .int q20.1), (4, .int q20.2), (5, .int v21)]) rfl ?_
        exact ih q20.1 q20.2 v21 μ18
      · refine go_icmp_ne 82 (pc := 76) hΓ d_M_same_76 (by decide) (fun h19 => ?_) (fun h19 => ?_)
        · rw [if_neg h19]
          refine go_iinc (q := 3) (i := 3) (n := 1) (v := a3 + 1) (lv' := [(3, .int (a3 + 1)), (0, .ref 44), (1, .int x1), (2, .int x2), (4, .int a4), (5, .int a5)]) (pc := 82) hΓ d_M_same_82 rfl rfl (by decide) rfl ?_
          refine go_iload (q := 5) (pc := 85) hΓ d_M_same_85 rfl ?_
          refine go_istore (lv' := [(4, .int a5), (3, .int (a3 + 1)), (0, .ref 44), (1, .int x1), (2, .int x2), (5, .int a5)]) (pc := 87) hΓ d_M_same_87 (by decide) rfl ?_
          refine go_sub' (lv' := [(0, .ref 44), (1, .int x1), (2, .int x2), (3, .int (a3 + 1)), (4, .int a5), (5, .int a5)]) rfl ?_
          exact g22h _
        · rw [if_pos h19]
          refine go_goto 89 (pc := 79) hΓ d_M_same_79 (by decide) ?_
          refine go_sub' (lv' := [(0, .ref 44), (1, .int x1), (2, .int x2), (3, .int a3), (4, .int a4), (5, .int a5)]) rfl ?_
          exact g22h _
set_option maxHeartbeats 4000000 in
set_option maxRecDepth 100000 in
theorem g_M_same (N d : Nat) (x1 : Int32) (x2 : Int32)  : CallF eI y_M_same c_M_same 6 (some .int) (d + 2 + 1) [.ref 44, .int x1, .int x2] (f_M_same N x1 x2) := by
  refine call_of (d := d + 2) (n := 2) mi_M_same.1 (fun _ => rfl) ?_
  intro Γ μ0 hΓ hT hR
  show Go Γ 6 0 [(0, .ref 44), (1, .int x1), (2, .int x2)] [] μ0 (f_M_same N x1 x2 μ0)
  unfold f_M_same
  refine go_aload_n (q := 0) (i := 0) (pc := 0) hΓ d_M_same_0 rfl rfl ?_
  refine go_iconst (v := 0) (pc := 1) hΓ d_M_same_1 (by decide) ?_
  refine go_putI (pc := 2) hΓ fp_M_69 d_M_same_2 rfl rfl ?_
  refine go_letM (fun μ1 => ?_)
  refine go_iload_n (q := 1) (i := 1) (pc := 5) hΓ d_M_same_5 rfl rfl ?_
  refine go_callS (index := 151) emI hΓ hR (g_M_isNet N (d + 0) x1) mi_M_isNet ml_M_151 d_M_same_6 rfl rfl rfl (fun r2 μ3 => ?_)
  show Go Γ 6 9 [(0, .ref 44), (1, .int x1), (2, .int x2)] [.int r2] μ3 _
  refine go_if_eq 19 (pc := 9) hΓ d_M_same_9 (by decide) (fun h4 => go_eq (if_pos h4) ?_) (fun h4 => go_eq (if_neg h4) ?_)
  · refine go_iconst (v := -1) (pc := 19) hΓ d_M_same_19 (by decide) ?_
    exact go_iret (pc := 20) hΓ hT d_M_same_20
  · refine go_iload_n (q := 2) (i := 2) (pc := 12) hΓ d_M_same_12 rfl rfl ?_
    refine go_callS (index := 151) emI hΓ hR (g_M_isNet N (d + 0) x2) mi_M_isNet ml_M_151 d_M_same_13 rfl rfl rfl (fun r5 μ6 => ?_)
    show Go Γ 6 16 [(0, .ref 44), (1, .int x1), (2, .int x2)] [.int r5] μ6 _
    refine go_if_ne 21 (pc := 16) hΓ d_M_same_16 (by decide) (fun h7 => go_eq (if_neg h7) ?_) (fun h7 => go_eq (if_pos h7) ?_)
    · refine go_aload_n (q := 0) (i := 0) (pc := 21) hΓ d_M_same_21 rfl rfl ?_
      refine go_getR (q := 46) (pc := 22) hΓ fl_M_13 d_M_same_22 rfl rfl ?_
      refine go_iload_n (q := 1) (i := 1) (pc := 25) hΓ d_M_same_25 rfl rfl ?_
      refine go_ck (fun h8 => ?_)
      refine go_iald (pc := 26) hΓ d_M_same_26 rfl h8 ?_
      refine go_aload_n (q := 0) (i := 0) (pc := 27) hΓ d_M_same_27 rfl rfl ?_
      refine go_getR (q := 46) (pc := 28) hΓ fl_M_13 d_M_same_28 rfl rfl ?_
      refine go_iload_n (q := 2) (i := 2) (pc := 31) hΓ d_M_same_31 rfl rfl ?_
      refine go_ck (fun h9 => ?_)
      refine go_iald (pc := 32) hΓ d_M_same_32 rfl h9 ?_
      refine go_icmp_eq 39 (pc := 33) hΓ d_M_same_33 (by decide) (fun h10 => go_eq (if_pos h10) ?_) (fun h10 => go_eq (if_neg h10) ?_)
      · refine go_iconst (v := 0) (pc := 39) hΓ d_M_same_39 (by decide) ?_
        refine go_istore_n (i := 3) (lv' := [(3, .int 0), (0, .ref 44), (1, .int x1), (2, .int x2)]) (pc := 40) hΓ d_M_same_40 rfl (by decide) rfl ?_
        refine go_iconst (v := -1) (pc := 41) hΓ d_M_same_41 (by decide) ?_
        refine go_istore (lv' := [(4, .int (-1)), (3, .int 0), (0, .ref 44), (1, .int x1), (2, .int x2)]) (pc := 42) hΓ d_M_same_42 (by decide) rfl ?_
        refine go_aload_n (q := 2) (i := 0) (pc := 44) hΓ d_M_same_44 rfl rfl ?_
        refine go_iload_n (q := 3) (i := 1) (pc := 45) hΓ d_M_same_45 rfl rfl ?_
        refine go_callV (index := 86) emI hΓ hR (g_M_all N (d + 1) x1) mi_M_all ml_M_86 d_M_same_46 rfl rfl rfl rfl rfl (fun r11 μ12 => ?_)
        show Go Γ 6 49 [(4, .int (-1)), (3, .int 0), (0, .ref 44), (1, .int x1), (2, .int x2)] [.int r11] μ12 _
        refine go_iconst (v := 1) (pc := 49) hΓ d_M_same_49 (by decide) ?_
        refine go_isub (pc := 50) hΓ d_M_same_50 ?_
        refine go_letI (fun v13 => ?_)
        refine go_istore (lv' := [(5, .int v13), (4, .int (-1)), (3, .int 0), (0, .ref 44), (1, .int x1), (2, .int x2)]) (pc := 51) hΓ d_M_same_51 (by decide) rfl ?_
        refine go_sub' (lv' := [(0, .ref 44), (1, .int x1), (2, .int x2), (3, .int 0), (4, .int (-1)), (5, .int v13)]) rfl ?_
        refine glp_M_same_53 N d hΓ hT hR x1 x2 _ (fun v23 v24 μ25 => ?_) N 0 (-1) v13 μ12
        refine go_aload_n (q := 0) (i := 0) (pc := 95) hΓ d_M_same_95 rfl rfl ?_
        refine go_iload_n (q := 1) (i := 3) (pc := 96) hΓ d_M_same_96 rfl rfl ?_
        refine go_i2l (pc := 97) hΓ d_M_same_97 ?_
        refine go_callV (index := 221) emV hΓ hR (g_M_tellsOne N (d + 0) (Int32.toInt64 v23)) mi_M_tellsOne ml_M_221 d_M_same_98 rfl rfl rfl rfl rfl (fun _ μ27 => ?_)
        show Go Γ 6 101 [(0, .ref 44), (3, .int v23), (4, .int v24)] [] μ27 _
        refine go_aload_n (q := 0) (i := 0) (pc := 101) hΓ d_M_same_101 rfl rfl ?_
        refine go_iload (q := 2) (pc := 102) hΓ d_M_same_102 rfl ?_
        refine go_i2l (pc := 104) hΓ d_M_same_104 ?_
        refine go_callV (index := 76) emV hΓ hR (g_M_enters N (d + 1) (Int32.toInt64 v24)) mi_M_enters ml_M_76 d_M_same_105 rfl rfl rfl rfl rfl (fun _ μ29 => ?_)
        show Go Γ 6 108 [(0, .ref 44), (3, .int v23), (4, .int v24)] [] μ29 _
        refine go_iload_n (q := 1) (i := 3) (pc := 108) hΓ d_M_same_108 rfl rfl ?_
        refine go_mg (α := Int32) 117 (fun q31 => []) (fun q31 => [.int q31]) (fun q31 => ?_) (fun g34 g34h => ?_)
        · refine go_callS (index := 188) emI hΓ hR (g_M_flag N (d + 1) q31) mi_M_flag ml_M_188 d_M_same_117 rfl rfl rfl (fun r32 μ33 => ?_)
          show Go Γ 6 120 [] [.int r32] μ33 _
          exact go_iret (pc := 120) hΓ hT d_M_same_120
        · refine go_if_ne 116 (pc := 109) hΓ d_M_same_109 (by decide) (fun h30 => ?_) (fun h30 => ?_)
          · rw [if_neg h30]
            refine go_iconst (v := 0) (pc := 116) hΓ d_M_same_116 (by decide) ?_
            refine go_sub' (lv' := []) rfl ?_
            exact g34h _
          · rw [if_pos h30]
            refine go_iconst (v := 1) (pc := 112) hΓ d_M_same_112 (by decide) ?_
            refine go_goto 117 (pc := 113) hΓ d_M_same_113 (by decide) ?_
            refine go_sub' (lv' := []) rfl ?_
            exact g34h _
      · refine go_bipush (v := -2) (pc := 36) hΓ d_M_same_36 (by decide) ?_
        exact go_iret (pc := 38) hΓ hT d_M_same_38
    · refine go_iconst (v := -1) (pc := 19) hΓ d_M_same_19 (by decide) ?_
      exact go_iret (pc := 20) hΓ hT d_M_same_20
def lp_M_imageOf_5 (N : Nat) (x1 : Int32)  (K : Int64 → Mem → Option (Int64 × Mem)) : Nat → Int64 → Int32 → Mem → Option (Int64 × Mem)
  | 0, _, _, _ => none
  | n + 1, a2, a4, μ0 => bnd (f_M_all N x1 μ0) fun r1 μ2 => if a4 < r1 then (bnd (f_M_result N x1 a4 (-1) 0 μ2) fun r4 μ5 => lt' (a2 ||| (shlL 1 r4)) fun v6 => lt' (a4 + 1) fun v7 => lp_M_imageOf_5 N x1 K n v6 v7 μ5) else (K a2 μ2)
def f_M_imageOf (N : Nat) (x1 : Int32) (μ0 : Mem) : Option (Int64 × Mem) :=
  lp_M_imageOf_5 N x1 (fun v8 μ9 => some (v8, μ9)) N 0 0 μ0
set_option maxHeartbeats 4000000 in
set_option maxRecDepth 100000 in
theorem glp_M_imageOf_5 (N d : Nat) {Γ : Cx Int64} (hΓ : Ok Γ "SortingNetsModel" c_M_imageOf 5) (hT : Rt Γ eL (some .long)) (hR : Rm Γ (d + 2)) (x1 : Int32)    (K : Int64 → Mem → Option (Int64 × Mem)) (hK : ∀ (b2 : Int64) (ν : Mem), Go Γ 5 35 [(2, .long b2)] [] ν (K b2 ν)) : ∀ (n : Nat) (a2 : Int64) (a4 : Int32) (μ0 : Mem), Go Γ 5 5 [(0, .ref 44), (1, .int x1), (2, .long a2), (4, .int a4)] [] μ0 (lp_M_imageOf_5 N x1 K n a2 a4 μ0) := by
  intro n
  induction n with
  | zero => intro a2 a4 μ0; exact go_none
  | succ n ih =>
    intro a2 a4 μ0
    rw [lp_M_imageOf_5]
    refine go_iload (q := 3) (pc := 5) hΓ d_M_imageOf_5 rfl ?_
    refine go_aload_n (q := 0) (i := 0) (pc := 7) hΓ d_M_imageOf_7 rfl rfl ?_
    refine go_iload_n (q := 1) (i := 1) (pc := 8) hΓ d_M_imageOf_8 rfl rfl ?_
    refine go_callV (index := 86) emI hΓ hR (g_M_all N (d + 1) x1) mi_M_all ml_M_86 d_M_imageOf_9 rfl rfl rfl rfl rfl (fun r1 μ2 => ?_)
    show Go Γ 5 12 [(0, .ref 44), (1, .int x1), (2, .long a2), (4, .int a4)] [.int r1, .int a4] μ2 _
    refine go_icmp_ge 35 (pc := 12) hΓ d_M_imageOf_12 (by decide) (fun h3 => go_eq (if_neg h3) ?_) (fun h3 => go_eq (if_pos h3) ?_)
    · refine go_sub' (lv' := [(2, .long a2)]) rfl ?_
      exact hK a2 μ2
    · refine go_lload_n (q := 2) (i := 2) (pc := 15) hΓ d_M_imageOf_15 rfl rfl ?_
      refine go_lconst (v := 1) (pc := 16) hΓ d_M_imageOf_16 (by decide) ?_
      refine go_aload_n (q := 0) (i := 0) (pc := 17) hΓ d_M_imageOf_17 rfl rfl ?_
      refine go_iload_n (q := 1) (i := 1) (pc := 18) hΓ d_M_imageOf_18 rfl rfl ?_
      refine go_iload (q := 3) (pc := 19) hΓ d_M_imageOf_19 rfl ?_
      refine go_iconst (v := -1) (pc := 21) hΓ d_M_imageOf_21 (by decide) ?_
      refine go_iconst (v := 0) (pc := 22) hΓ d_M_imageOf_22 (by decide) ?_
      refine go_callV (index := 228) emI hΓ hR (g_M_result N (d + 0) x1 a4 (-1) 0) mi_M_result ml_M_228 d_M_imageOf_23 rfl rfl rfl rfl rfl (fun r4 μ5 => ?_)
      show Go Γ 5 26 [(0, .ref 44), (1, .int x1), (2, .long a2), (4, .int a4)] [.int r4, .long 1, .long a2] μ5 _
      refine go_lshl (pc := 26) hΓ d_M_imageOf_26 ?_
      refine go_lor (pc := 27) hΓ d_M_imageOf_27 ?_
      refine go_letL (fun v6 => ?_)
      refine go_lstore_n (i := 2) (lv' := [(2, .long v6), (0, .ref 44), (1, .int x1), (4, .int a4)]) (pc := 28) hΓ d_M_imageOf_28 rfl (by decide) rfl ?_
      refine go_incI (q := 3) (i := 4) (n := 1) (c := 1) (pc := 29) hΓ d_M_imageOf_29 rfl (by decide) (by decide) (fun v7 => ?_)
      refine go_sub' (lv' := [(4, .int v7), (2, .long v6), (0, .ref 44), (1, .int x1)]) rfl ?_
      refine go_goto 5 (pc := 32) hΓ d_M_imageOf_32 (by decide) ?_
      refine go_sub' (lv' := [(0, .ref 44), (1, .int x1), (2, .long v6), (4, .int v7)]) rfl ?_
      exact ih v6 v7 μ5
set_option maxHeartbeats 4000000 in
set_option maxRecDepth 100000 in
theorem g_M_imageOf (N d : Nat) (x1 : Int32)  : CallF eL y_M_imageOf c_M_imageOf 5 (some .long) (d + 2 + 1) [.ref 44, .int x1] (f_M_imageOf N x1) := by
  refine call_of (d := d + 2) (n := 1) mi_M_imageOf.1 (fun _ => rfl) ?_
  intro Γ μ0 hΓ hT hR
  show Go Γ 5 0 [(0, .ref 44), (1, .int x1)] [] μ0 (f_M_imageOf N x1 μ0)
  unfold f_M_imageOf
  refine go_lconst (v := 0) (pc := 0) hΓ d_M_imageOf_0 (by decide) ?_
  refine go_lstore_n (i := 2) (lv' := [(2, .long 0), (0, .ref 44), (1, .int x1)]) (pc := 1) hΓ d_M_imageOf_1 rfl (by decide) rfl ?_
  refine go_iconst (v := 0) (pc := 2) hΓ d_M_imageOf_2 (by decide) ?_
  refine go_istore (lv' := [(4, .int 0), (2, .long 0), (0, .ref 44), (1, .int x1)]) (pc := 3) hΓ d_M_imageOf_3 (by decide) rfl ?_
  refine go_sub' (lv' := [(0, .ref 44), (1, .int x1), (2, .long 0), (4, .int 0)]) rfl ?_
  refine glp_M_imageOf_5 N d hΓ hT hR x1 _ (fun v8 μ9 => ?_) N 0 0 μ0
  refine go_lload_n (q := 0) (i := 2) (pc := 35) hΓ d_M_imageOf_35 rfl rfl ?_
  exact go_lret (pc := 36) hΓ hT d_M_imageOf_36
def lp_M_isTurnedIn_31 (N : Nat) (x1 : Int32) (x2 : Int64) (x4 : Int64) (x6 : Int32)  (K : Int32 → Mem → Option (Int32 × Mem)) : Nat → Int32 → Int32 → Mem → Option (Int32 × Mem)
  | 0, _, _, _ => none
  | n + 1, a7, a8, μ0 => if a8 < x1 then (ck (inb a8 8) (lt' (a7 ||| (shlI ((shrI x6 a8) &&& 1) (gI μ0 59 (tn a8)))) fun v8 => lt' (a8 + 1) fun v9 => lp_M_isTurnedIn_31 N x1 x2 x4 x6 K n v8 v9 μ0)) else (K a7 μ0)
def lp_M_isTurnedIn_3 (N : Nat) (x1 : Int32) (x2 : Int64) (x4 : Int64)  (K : Mem → Option (Int32 × Mem)) : Nat → Int32 → Mem → Option (Int32 × Mem)
  | 0, _, _ => none
  | n + 1, a6, μ0 => if a6 < (shlI 1 x1) then (lt' (fun (μ3 : Mem) => lt' (a6 + 1) fun v4 => lp_M_isTurnedIn_3 N x1 x2 x4 K n v4 μ3) fun (k2 : Mem → Option (Int32 × Mem)) => if (lg_cmp ((shrL x2 a6) &&& 1) 0) = 0 then (k2 μ0) else (lp_M_isTurnedIn_31 N x1 x2 x4 a6 (fun v10 μ11 => if (lg_cmp ((shrL x4 v10) &&& 1) 0) = 0 then (some (0, μ11)) else (k2 μ11)) N 0 0 μ0)) else (K  μ0)
def f_M_isTurnedIn (N : Nat) (x1 : Int32) (x2 : Int64) (x4 : Int64) (μ0 : Mem) : Option (Int32 × Mem) :=
  lp_M_isTurnedIn_3 N x1 x2 x4 (fun μ13 => some (1, μ13)) N 0 μ0
set_option maxHeartbeats 4000000 in
set_option maxRecDepth 100000 in
theorem glp_M_isTurnedIn_31 (N d : Nat) {Γ : Cx Int32} (hΓ : Ok Γ "SortingNetsModel" c_M_isTurnedIn 9) (hT : Rt Γ eI (some .boolean)) (hR : Rm Γ (d + 0)) (x1 : Int32) (x2 : Int64) (x4 : Int64) (x6 : Int32)    (K : Int32 → Mem → Option (Int32 × Mem)) (hK : ∀ (b7 : Int32) (ν : Mem), Go Γ 9 63 [(0, .ref 44), (1, .int x1), (2, .long x2), (4, .long x4), (6, .int x6), (7, .int b7)] [] ν (K b7 ν)) : ∀ (n : Nat) (a7 : Int32) (a8 : Int32) (μ0 : Mem), Go Γ 9 31 [(0, .ref 44), (1, .int x1), (2, .long x2), (4, .long x4), (6, .int x6), (7, .int a7), (8, .int a8)] [] μ0 (lp_M_isTurnedIn_31 N x1 x2 x4 x6 K n a7 a8 μ0) := by
  intro n
  induction n with
  | zero => intro a7 a8 μ0; exact go_none
  | succ n ih =>
    intro a7 a8 μ0
    rw [lp_M_isTurnedIn_31]
    refine go_iload (q := 6) (pc := 31) hΓ d_M_isTurnedIn_31 rfl ?_
    refine go_iload_n (q := 1) (i := 1) (pc := 33) hΓ d_M_isTurnedIn_33 rfl rfl ?_
    refine go_icmp_ge 63 (pc := 34) hΓ d_M_isTurnedIn_34 (by decide) (fun h6 => go_eq (if_neg h6) ?_) (fun h6 => go_eq (if_pos h6) ?_)
    · refine go_sub' (lv' := [(0, .ref 44), (1, .int x1), (2, .long x2), (4, .long x4), (6, .int x6), (7, .int a7)]) rfl ?_
      exact hK a7 μ0
    · refine go_iload (q := 5) (pc := 37) hΓ d_M_isTurnedIn_37 rfl ?_
      refine go_iload (q := 4) (pc := 39) hΓ d_M_isTurnedIn_39 rfl ?_
      refine go_iload (q := 6) (pc := 41) hΓ d_M_isTurnedIn_41 rfl ?_
      refine go_ishr (pc := 43) hΓ d_M_isTurnedIn_43 ?_
      refine go_iconst (v := 1) (pc := 44) hΓ d_M_isTurnedIn_44 (by decide) ?_
      refine go_iand (pc := 45) hΓ d_M_isTurnedIn_45 ?_
      refine go_aload_n (q := 0) (i := 0) (pc := 46) hΓ d_M_isTurnedIn_46 rfl rfl ?_
      refine go_getR (q := 59) (pc := 47) hΓ fl_M_54 d_M_isTurnedIn_47 rfl rfl ?_
      refine go_iload (q := 6) (pc := 50) hΓ d_M_isTurnedIn_50 rfl ?_
      refine go_ck (fun h7 => ?_)
      refine go_iald (pc := 52) hΓ d_M_isTurnedIn_52 rfl h7 ?_
      refine go_ishl (pc := 53) hΓ d_M_isTurnedIn_53 ?_
      refine go_ior (pc := 54) hΓ d_M_isTurnedIn_54 ?_
      refine go_letI (fun v8 => ?_)
      refine go_istore (lv' := [(7, .int v8), (0, .ref 44), (1, .int x1), (2, .long x2), (4, .long x4), (6, .int x6), (8, .int a8)]) (pc := 55) hΓ d_M_isTurnedIn_55 (by decide) rfl ?_
      refine go_incI (q := 6) (i := 8) (n := 1) (c := 1) (pc := 57) hΓ d_M_isTurnedIn_57 rfl (by decide) (by decide) (fun v9 => ?_)
      refine go_sub' (lv' := [(8, .int v9), (7, .int v8), (0, .ref 44), (1, .int x1), (2, .long x2), (4, .long x4), (6, .int x6)]) rfl ?_
      refine go_goto 31 (pc := 60) hΓ d_M_isTurnedIn_60 (by decide) ?_
      refine go_sub' (lv' := [(0, .ref 44), (1, .int x1), (2, .long x2), (4, .long x4), (6, .int x6), (7, .int v8), (8, .int v9)]) rfl ?_
      exact ih v8 v9 μ0
set_option maxHeartbeats 4000000 in
set_option maxRecDepth 100000 in
theorem glp_M_isTurnedIn_3 (N d : Nat) {Γ : Cx Int32} (hΓ : Ok Γ "SortingNetsModel" c_M_isTurnedIn 9) (hT : Rt Γ eI (some .boolean)) (hR : Rm Γ (d + 0)) (x1 : Int32) (x2 : Int64) (x4 : Int64)    (K : Mem → Option (Int32 × Mem)) (hK : ∀  (ν : Mem), Go Γ 9 83 [] [] ν (K  ν)) : ∀ (n : Nat) (a6 : Int32) (μ0 : Mem), Go Γ 9 3 [(0, .ref 44), (1, .int x1), (2, .long x2), (4, .long x4), (6, .int a6)] [] μ0 (lp_M_isTurnedIn_3 N x1 x2 x4 K n a6 μ0) := by
  intro n
  induction n with
  | zero => intro a6 μ0; exact go_none
  | succ n ih =>
    intro a6 μ0
    rw [lp_M_isTurnedIn_3]
    refine go_iload (q := 4) (pc := 3) hΓ d_M_isTurnedIn_3 rfl ?_
    refine go_iconst (v := 1) (pc := 5) hΓ d_M_isTurnedIn_5 (by decide) ?_
    refine go_iload_n (q := 1) (i := 1) (pc := 6) hΓ d_M_isTurnedIn_6 rfl rfl ?_
    refine go_ishl (pc := 7) hΓ d_M_isTurnedIn_7 ?_
    refine go_icmp_ge 83 (pc := 8) hΓ d_M_isTurnedIn_8 (by decide) (fun h1 => go_eq (if_neg h1) ?_) (fun h1 => go_eq (if_pos h1) ?_)
    · refine go_sub' (lv' := []) rfl ?_
      exact hK  μ0
    · refine go_lload_n (q := 2) (i := 2) (pc := 11) hΓ d_M_isTurnedIn_11 rfl rfl ?_
      refine go_iload (q := 4) (pc := 12) hΓ d_M_isTurnedIn_12 rfl ?_
      refine go_lshr (pc := 14) hΓ d_M_isTurnedIn_14 ?_
      refine go_lconst (v := 1) (pc := 15) hΓ d_M_isTurnedIn_15 (by decide) ?_
      refine go_land (pc := 16) hΓ d_M_isTurnedIn_16 ?_
      refine go_lconst (v := 0) (pc := 17) hΓ d_M_isTurnedIn_17 (by decide) ?_
      refine go_lcmp (pc := 18) hΓ d_M_isTurnedIn_18 ?_
      refine go_join (fun (k2 : Mem → Option (Int32 × Mem)) => ∀ (μ3 : Mem), Go Γ 9 77 [(0, .ref 44), (1, .int x1), (2, .long x2), (4, .long x4), (6, .int a6)] [] μ3 (k2 μ3)) ?_ (fun k2 k2h => ?_)
      · intro μ3
        refine go_incI (q := 4) (i := 6) (n := 1) (c := 1) (pc := 77) hΓ d_M_isTurnedIn_77 rfl (by decide) (by decide) (fun v4 => ?_)
        refine go_sub' (lv' := [(6, .int v4), (0, .ref 44), (1, .int x1), (2, .long x2), (4, .long x4)]) rfl ?_
        refine go_goto 3 (pc := 80) hΓ d_M_isTurnedIn_80 (by decide) ?_
        refine go_sub' (lv' := [(0, .ref 44), (1, .int x1), (2, .long x2), (4, .long x4), (6, .int v4)]) rfl ?_
        exact ih v4 μ3
      · refine go_if_ne 25 (pc := 19) hΓ d_M_isTurnedIn_19 (by decide) (fun h5 => go_eq (if_neg h5) ?_) (fun h5 => go_eq (if_pos h5) ?_)
        · refine go_iconst (v := 0) (pc := 25) hΓ d_M_isTurnedIn_25 (by decide) ?_
          refine go_istore (lv' := [(7, .int 0), (0, .ref 44), (1, .int x1), (2, .long x2), (4, .long x4), (6, .int a6)]) (pc := 26) hΓ d_M_isTurnedIn_26 (by decide) rfl ?_
          refine go_iconst (v := 0) (pc := 28) hΓ d_M_isTurnedIn_28 (by decide) ?_
          refine go_istore (lv' := [(8, .int 0), (7, .int 0), (0, .ref 44), (1, .int x1), (2, .long x2), (4, .long x4), (6, .int a6)]) (pc := 29) hΓ d_M_isTurnedIn_29 (by decide) rfl ?_
          refine go_sub' (lv' := [(0, .ref 44), (1, .int x1), (2, .long x2), (4, .long x4), (6, .int a6), (7, .int 0), (8, .int 0)]) rfl ?_
          refine glp_M_isTurnedIn_31 N d hΓ hT hR x1 x2 x4 a6 _ (fun v10 μ11 => ?_) N 0 0 μ0
          refine go_lload (q := 3) (pc := 63) hΓ d_M_isTurnedIn_63 rfl ?_
          refine go_iload (q := 5) (pc := 65) hΓ d_M_isTurnedIn_65 rfl ?_
          refine go_lshr (pc := 67) hΓ d_M_isTurnedIn_67 ?_
          refine go_lconst (v := 1) (pc := 68) hΓ d_M_isTurnedIn_68 (by decide) ?_
          refine go_land (pc := 69) hΓ d_M_isTurnedIn_69 ?_
          refine go_lconst (v := 0) (pc := 70) hΓ d_M_isTurnedIn_70 (by decide) ?_
          refine go_lcmp (pc := 71) hΓ d_M_isTurnedIn_71 ?_
          refine go_if_ne 77 (pc := 72) hΓ d_M_isTurnedIn_72 (by decide) (fun h12 => go_eq (if_neg h12) ?_) (fun h12 => go_eq (if_pos h12) ?_)
          · refine go_sub' (lv' := [(0, .ref 44), (1, .int x1), (2, .long x2), (4, .long x4), (6, .int a6)]) rfl ?_
            exact k2h μ11
          · refine go_iconst (v := 0) (pc := 75) hΓ d_M_isTurnedIn_75 (by decide) ?_
            exact go_zret (pc := 76) hΓ hT d_M_isTurnedIn_76 rfl
        · refine go_goto 77 (pc := 22) hΓ d_M_isTurnedIn_22 (by decide) ?_
          refine go_sub' (lv' := [(0, .ref 44), (1, .int x1), (2, .long x2), (4, .long x4), (6, .int a6)]) rfl ?_
          exact k2h μ0
set_option maxHeartbeats 4000000 in
set_option maxRecDepth 100000 in
theorem g_M_isTurnedIn (N d : Nat) (x1 : Int32) (x2 : Int64) (x4 : Int64)  : CallF eI y_M_isTurnedIn c_M_isTurnedIn 9 (some .boolean) (d + 0 + 1) [.ref 44, .int x1, .long x2, .long x4] (f_M_isTurnedIn N x1 x2 x4) := by
  refine call_of (d := d + 0) (n := 3) mi_M_isTurnedIn.1 (fun _ => rfl) ?_
  intro Γ μ0 hΓ hT hR
  show Go Γ 9 0 [(0, .ref 44), (1, .int x1), (2, .long x2), (4, .long x4)] [] μ0 (f_M_isTurnedIn N x1 x2 x4 μ0)
  unfold f_M_isTurnedIn
  refine go_iconst (v := 0) (pc := 0) hΓ d_M_isTurnedIn_0 (by decide) ?_
  refine go_istore (lv' := [(6, .int 0), (0, .ref 44), (1, .int x1), (2, .long x2), (4, .long x4)]) (pc := 1) hΓ d_M_isTurnedIn_1 (by decide) rfl ?_
  refine go_sub' (lv' := [(0, .ref 44), (1, .int x1), (2, .long x2), (4, .long x4), (6, .int 0)]) rfl ?_
  refine glp_M_isTurnedIn_3 N d hΓ hT hR x1 x2 x4 _ (fun μ13 => ?_) N 0 μ0
  refine go_iconst (v := 1) (pc := 83) hΓ d_M_isTurnedIn_83 (by decide) ?_
  exact go_zret (pc := 84) hΓ hT d_M_isTurnedIn_84 rfl
def lp_M_turns_27 (N : Nat) (x1 : Int32) (x2 : Int64) (x4 : Int64) (x6 : Int32)  (K : Int32 → Mem → Option (Int32 × Mem)) : Nat → Int32 → Int32 → Mem → Option (Int32 × Mem)
  | 0, _, _, _ => none
  | n + 1, a7, a8, μ0 => if a8 = 0 then (K a7 μ0) else (bnd (f_M_isTurnedIn N x1 x2 x4 μ0) fun r10 μ11 => bnd (f_M_flag N r10 μ11) fun r12 μ13 => lt' (a7 + r12) fun v14 => lt' (fun (w16 : Int32) (μ17 : Mem) => lp_M_turns_27 N x1 x2 x4 x6 K n v14 w16 μ17) fun (k15 : Int32 → Mem → Option (Int32 × Mem)) => lt' (fun (_ : Unit) => bnd (f_M_nextOrder N x1 μ13) fun r19 μ20 => if r19 = 0 then (k15 0 μ20) else (k15 1 μ20)) fun (k18 : Unit → Option (Int32 × Mem)) => if x6 = 0 then (if v14 = 0 then (k18 ()) else (k15 0 μ13)) else (k18 ()))
def f_M_turns (N : Nat) (x1 : Int32) (x2 : Int64) (x4 : Int64) (x6 : Int32) (μ0 : Mem) : Option (Int32 × Mem) :=
  bnd (f_M_firstOrder N x1 μ0) fun _ μ2 => bnd (f_M_bits N x2 μ2) fun r3 μ4 => bnd (f_M_bits N x4 μ4) fun r5 μ6 => lt' (if r5 < r3 then (0 : Int32) else (1 : Int32)) fun q8 => lp_M_turns_27 N x1 x2 x4 x6 (fun v24 μ25 => some (v24, μ25)) N 0 q8 μ6
set_option maxHeartbeats 4000000 in
set_option maxRecDepth 100000 in
theorem glp_M_turns_27 (N d : Nat) {Γ : Cx Int32} (hΓ : Ok Γ "SortingNetsModel" c_M_turns 9) (hT : Rt Γ eI (some .int)) (hR : Rm Γ (d + 2)) (x1 : Int32) (x2 : Int64) (x4 : Int64) (x6 : Int32)    (K : Int32 → Mem → Option (Int32 × Mem)) (hK : ∀ (b7 : Int32) (ν : Mem), Go Γ 9 76 [(7, .int b7)] [] ν (K b7 ν)) : ∀ (n : Nat) (a7 : Int32) (a8 : Int32) (μ0 : Mem), Go Γ 9 27 [(0, .ref 44), (1, .int x1), (2, .long x2), (4, .long x4), (6, .int x6), (7, .int a7), (8, .int a8)] [] μ0 (lp_M_turns_27 N x1 x2 x4 x6 K n a7 a8 μ0) := by
  intro n
  induction n with
  | zero => intro a7 a8 μ0; exact go_none
  | succ n ih =>
    intro a7 a8 μ0
    rw [lp_M_turns_27]
    refine go_iload (q := 6) (pc := 27) hΓ d_M_turns_27 rfl ?_
    refine go_if_eq 76 (pc := 29) hΓ d_M_turns_29 (by decide) (fun h9 => go_eq (if_pos h9) ?_) (fun h9 => go_eq (if_neg h9) ?_)
    · refine go_sub' (lv' := [(7, .int a7)]) rfl ?_
      exact hK a7 μ0
    · refine go_iload (q := 5) (pc := 32) hΓ d_M_turns_32 rfl ?_
      refine go_aload_n (q := 0) (i := 0) (pc := 34) hΓ d_M_turns_34 rfl rfl ?_
      refine go_iload_n (q := 1) (i := 1) (pc := 35) hΓ d_M_turns_35 rfl rfl ?_
      refine go_lload_n (q := 2) (i := 2) (pc := 36) hΓ d_M_turns_36 rfl rfl ?_
      refine go_lload (q := 3) (pc := 37) hΓ d_M_turns_37 rfl ?_
      refine go_callV (index := 296) emI hΓ hR (g_M_isTurnedIn N (d + 1) x1 x2 x4) mi_M_isTurnedIn ml_M_296 d_M_turns_39 rfl rfl rfl rfl rfl (fun r10 μ11 => ?_)
      show Go Γ 9 42 [(0, .ref 44), (1, .int x1), (2, .long x2), (4, .long x4), (6, .int x6), (7, .int a7), (8, .int a8)] [.int r10, .int a7] μ11 _
      refine go_callS (index := 188) emI hΓ hR (g_M_flag N (d + 1) r10) mi_M_flag ml_M_188 d_M_turns_42 rfl rfl rfl (fun r12 μ13 => ?_)
      show Go Γ 9 45 [(0, .ref 44), (1, .int x1), (2, .long x2), (4, .long x4), (6, .int x6), (7, .int a7), (8, .int a8)] [.int r12, .int a7] μ13 _
      refine go_iadd (pc := 45) hΓ d_M_turns_45 ?_
      refine go_letI (fun v14 => ?_)
      refine go_istore (lv' := [(7, .int v14), (0, .ref 44), (1, .int x1), (2, .long x2), (4, .long x4), (6, .int x6), (8, .int a8)]) (pc := 46) hΓ d_M_turns_46 (by decide) rfl ?_
      refine go_iload (q := 5) (pc := 48) hΓ d_M_turns_48 rfl ?_
      refine go_join (fun (k15 : Int32 → Mem → Option (Int32 × Mem)) => ∀ (w16 : Int32) (μ17 : Mem), Go Γ 9 71 [(0, .ref 44), (1, .int x1), (2, .long x2), (4, .long x4), (6, .int x6), (7, .int v14)] [.int w16] μ17 (k15 w16 μ17)) ?_ (fun k15 k15h => ?_)
      · intro w16 μ17
        refine go_istore (lv' := [(8, .int w16), (0, .ref 44), (1, .int x1), (2, .long x2), (4, .long x4), (6, .int x6), (7, .int v14)]) (pc := 71) hΓ d_M_turns_71 (by decide) rfl ?_
        refine go_goto 27 (pc := 73) hΓ d_M_turns_73 (by decide) ?_
        refine go_sub' (lv' := [(0, .ref 44), (1, .int x1), (2, .long x2), (4, .long x4), (6, .int x6), (7, .int v14), (8, .int w16)]) rfl ?_
        exact ih v14 w16 μ17
      · refine go_join (fun (k18 : Unit → Option (Int32 × Mem)) => ∀ (_ : Unit), Go Γ 9 58 [(0, .ref 44), (1, .int x1), (2, .long x2), (4, .long x4), (6, .int x6), (7, .int v14)] [] μ13 (k18 ())) ?_ (fun k18 k18h => ?_)
        · intro _
          refine go_aload_n (q := 0) (i := 0) (pc := 58) hΓ d_M_turns_58 rfl rfl ?_
          refine go_iload_n (q := 1) (i := 1) (pc := 59) hΓ d_M_turns_59 rfl rfl ?_
          refine go_callV (index := 271) emI hΓ hR (g_M_nextOrder N (d + 0) x1) mi_M_nextOrder ml_M_271 d_M_turns_60 rfl rfl rfl rfl rfl (fun r19 μ20 => ?_)
          show Go Γ 9 63 [(0, .ref 44), (1, .int x1), (2, .long x2), (4, .long x4), (6, .int x6), (7, .int v14)] [.int r19] μ20 _
          refine go_if_eq 70 (pc := 63) hΓ d_M_turns_63 (by decide) (fun h21 => go_eq (if_pos h21) ?_) (fun h21 => go_eq (if_neg h21) ?_)
          · refine go_iconst (v := 0) (pc := 70) hΓ d_M_turns_70 (by decide) ?_
            refine go_sub' (lv' := [(0, .ref 44), (1, .int x1), (2, .long x2), (4, .long x4), (6, .int x6), (7, .int v14)]) rfl ?_
            exact k15h 0 μ20
          · refine go_iconst (v := 1) (pc := 66) hΓ d_M_turns_66 (by decide) ?_
            refine go_goto 71 (pc := 67) hΓ d_M_turns_67 (by decide) ?_
            refine go_sub' (lv' := [(0, .ref 44), (1, .int x1), (2, .long x2), (4, .long x4), (6, .int x6), (7, .int v14)]) rfl ?_
            exact k15h 1 μ20
        · refine go_if_ne 58 (pc := 50) hΓ d_M_turns_50 (by decide) (fun h22 => go_eq (if_neg h22) ?_) (fun h22 => go_eq (if_pos h22) ?_)
          · refine go_sub' (lv' := [(0, .ref 44), (1, .int x1), (2, .long x2), (4, .long x4), (6, .int x6), (7, .int v14)]) rfl ?_
            exact k18h ()
          · refine go_iload (q := 0) (pc := 53) hΓ d_M_turns_53 rfl ?_
            refine go_if_ne 70 (pc := 55) hΓ d_M_turns_55 (by decide) (fun h23 => go_eq (if_neg h23) ?_) (fun h23 => go_eq (if_pos h23) ?_)
            · refine go_iconst (v := 0) (pc := 70) hΓ d_M_turns_70 (by decide) ?_
              refine go_sub' (lv' := [(0, .ref 44), (1, .int x1), (2, .long x2), (4, .long x4), (6, .int x6), (7, .int v14)]) rfl ?_
              exact k15h 0 μ13
            · refine go_sub' (lv' := [(0, .ref 44), (1, .int x1), (2, .long x2), (4, .long x4), (6, .int x6), (7, .int v14)]) rfl ?_
              exact k18h ()
set_option maxHeartbeats 4000000 in
set_option maxRecDepth 100000 in
theorem g_M_turns (N d : Nat) (x1 : Int32) (x2 : Int64) (x4 : Int64) (x6 : Int32)  : CallF eI y_M_turns c_M_turns 9 (some .int) (d + 2 + 1) [.ref 44, .int x1, .long x2, .long x4, .int x6] (f_M_turns N x1 x2 x4 x6) := by
  refine call_of (d := d + 2) (n := 4) mi_M_turns.1 (fun _ => rfl) ?_
  intro Γ μ0 hΓ hT hR
  show Go Γ 9 0 [(0, .ref 44), (1, .int x1), (2, .long x2), (4, .long x4), (6, .int x6)] [] μ0 (f_M_turns N x1 x2 x4 x6 μ0)
  unfold f_M_turns
  refine go_iconst (v := 0) (pc := 0) hΓ d_M_turns_0 (by decide) ?_
  refine go_istore (lv' := [(7, .int 0), (0, .ref 44), (1, .int x1), (2, .long x2), (4, .long x4), (6, .int x6)]) (pc := 1) hΓ d_M_turns_1 (by decide) rfl ?_
  refine go_aload_n (q := 1) (i := 0) (pc := 3) hΓ d_M_turns_3 rfl rfl ?_
  refine go_iload_n (q := 2) (i := 1) (pc := 4) hΓ d_M_turns_4 rfl rfl ?_
  refine go_callV (index := 265) emV hΓ hR (g_M_firstOrder N (d + 1) x1) mi_M_firstOrder ml_M_265 d_M_turns_5 rfl rfl rfl rfl rfl (fun _ μ2 => ?_)
  show Go Γ 9 8 [(7, .int 0), (0, .ref 44), (1, .int x1), (2, .long x2), (4, .long x4), (6, .int x6)] [] μ2 _
  refine go_lload_n (q := 3) (i := 2) (pc := 8) hΓ d_M_turns_8 rfl rfl ?_
  refine go_callS (index := 281) emI hΓ hR (g_M_bits N (d + 0) x2) mi_M_bits ml_M_281 d_M_turns_9 rfl rfl rfl (fun r3 μ4 => ?_)
  show Go Γ 9 12 [(7, .int 0), (0, .ref 44), (1, .int x1), (2, .long x2), (4, .long x4), (6, .int x6)] [.int r3] μ4 _
  refine go_lload (q := 4) (pc := 12) hΓ d_M_turns_12 rfl ?_
  refine go_callS (index := 281) emI hΓ hR (g_M_bits N (d + 0) x4) mi_M_bits ml_M_281 d_M_turns_14 rfl rfl rfl (fun r5 μ6 => ?_)
  show Go Γ 9 17 [(7, .int 0), (0, .ref 44), (1, .int x1), (2, .long x2), (4, .long x4), (6, .int x6)] [.int r5, .int r3] μ6 _
  refine go_mg (α := Int32) 25 (fun q8 => [(0, .ref 44), (1, .int x1), (2, .long x2), (4, .long x4), (6, .int x6), (7, .int 0)]) (fun q8 => [.int q8]) (fun q8 => ?_) (fun g26 g26h => ?_)
  · refine go_istore (lv' := [(8, .int q8), (0, .ref 44), (1, .int x1), (2, .long x2), (4, .long x4), (6, .int x6), (7, .int 0)]) (pc := 25) hΓ d_M_turns_25 (by decide) rfl ?_
    refine go_sub' (lv' := [(0, .ref 44), (1, .int x1), (2, .long x2), (4, .long x4), (6, .int x6), (7, .int 0), (8, .int q8)]) rfl ?_
    refine glp_M_turns_27 N d hΓ hT hR x1 x2 x4 x6 _ (fun v24 μ25 => ?_) N 0 q8 μ6
    refine go_iload (q := 0) (pc := 76) hΓ d_M_turns_76 rfl ?_
    exact go_iret (pc := 78) hΓ hT d_M_turns_78
  · refine go_icmp_gt 24 (pc := 17) hΓ d_M_turns_17 (by decide) (fun h7 => ?_) (fun h7 => ?_)
    · rw [if_pos h7]
      refine go_iconst (v := 0) (pc := 24) hΓ d_M_turns_24 (by decide) ?_
      refine go_sub' (lv' := [(0, .ref 44), (1, .int x1), (2, .long x2), (4, .long x4), (6, .int x6), (7, .int 0)]) rfl ?_
      exact g26h _
    · rw [if_neg h7]
      refine go_iconst (v := 1) (pc := 20) hΓ d_M_turns_20 (by decide) ?_
      refine go_goto 25 (pc := 21) hΓ d_M_turns_21 (by decide) ?_
      refine go_sub' (lv' := [(0, .ref 44), (1, .int x1), (2, .long x2), (4, .long x4), (6, .int x6), (7, .int 0)]) rfl ?_
      exact g26h _
def f_M_within (N : Nat) (x1 : Int32) (x2 : Int32) (μ0 : Mem) : Option (Int32 × Mem) :=
  lt' (sI μ0 44 0 0) fun μ1 => bnd (f_M_isNet N x1 μ1) fun r2 μ3 => if r2 = 0 then (some ((-1), μ3)) else (bnd (f_M_isNet N x2 μ3) fun r5 μ6 => if r5 = 0 then (some ((-1), μ6)) else (ck (inb x1 4) (ck (inb x2 4) (if (gI μ6 46 (tn x1)) = (gI μ6 46 (tn x2)) then (ck (inb x1 4) (if 6 < (gI μ6 46 (tn x1)) then (some ((-3), μ6)) else (ck (inb x1 4) (bnd (f_M_imageOf N x1 μ6) fun r14 μ15 => bnd (f_M_imageOf N x2 μ15) fun r16 μ17 => bnd (f_M_turns N (gI μ6 46 (tn x1)) r14 r16 1 μ17) fun r18 μ19 => bnd (f_M_tellsOne N (Int32.toInt64 r18) μ19) fun _ μ21 => lt' (if 0 < r18 then (1 : Int32) else (0 : Int32)) fun q23 => bnd (f_M_flag N q23 μ21) fun r24 μ25 => some (r24, μ25))))) else (some ((-2), μ6))))))
set_option maxHeartbeats 4000000 in
set_option maxRecDepth 100000 in
theorem g_M_within (N d : Nat) (x1 : Int32) (x2 : Int32)  : CallF eI y_M_within c_M_within 4 (some .int) (d + 3 + 1) [.ref 44, .int x1, .int x2] (f_M_within N x1 x2) := by
  refine call_of (d := d + 3) (n := 2) mi_M_within.1 (fun _ => rfl) ?_
  intro Γ μ0 hΓ hT hR
  show Go Γ 4 0 [(0, .ref 44), (1, .int x1), (2, .int x2)] [] μ0 (f_M_within N x1 x2 μ0)
  unfold f_M_within
  refine go_aload_n (q := 0) (i := 0) (pc := 0) hΓ d_M_within_0 rfl rfl ?_
  refine go_iconst (v := 0) (pc := 1) hΓ d_M_within_1 (by decide) ?_
  refine go_putI (pc := 2) hΓ fp_M_69 d_M_within_2 rfl rfl ?_
  refine go_letM (fun μ1 => ?_)
  refine go_iload_n (q := 1) (i := 1) (pc := 5) hΓ d_M_within_5 rfl rfl ?_
  refine go_callS (index := 151) emI hΓ hR (g_M_isNet N (d + 1) x1) mi_M_isNet ml_M_151 d_M_within_6 rfl rfl rfl (fun r2 μ3 => ?_)
  show Go Γ 4 9 [(0, .ref 44), (1, .int x1), (2, .int x2)] [.int r2] μ3 _
  refine go_if_eq 19 (pc := 9) hΓ d_M_within_9 (by decide) (fun h4 => go_eq (if_pos h4) ?_) (fun h4 => go_eq (if_neg h4) ?_)
  · refine go_iconst (v := -1) (pc := 19) hΓ d_M_within_19 (by decide) ?_
    exact go_iret (pc := 20) hΓ hT d_M_within_20
  · refine go_iload_n (q := 2) (i := 2) (pc := 12) hΓ d_M_within_12 rfl rfl ?_
    refine go_callS (index := 151) emI hΓ hR (g_M_isNet N (d + 1) x2) mi_M_isNet ml_M_151 d_M_within_13 rfl rfl rfl (fun r5 μ6 => ?_)
    show Go Γ 4 16 [(0, .ref 44), (1, .int x1), (2, .int x2)] [.int r5] μ6 _
    refine go_if_ne 21 (pc := 16) hΓ d_M_within_16 (by decide) (fun h7 => go_eq (if_neg h7) ?_) (fun h7 => go_eq (if_pos h7) ?_)
    · refine go_aload_n (q := 0) (i := 0) (pc := 21) hΓ d_M_within_21 rfl rfl ?_
      refine go_getR (q := 46) (pc := 22) hΓ fl_M_13 d_M_within_22 rfl rfl ?_
      refine go_iload_n (q := 1) (i := 1) (pc := 25) hΓ d_M_within_25 rfl rfl ?_
      refine go_ck (fun h8 => ?_)
      refine go_iald (pc := 26) hΓ d_M_within_26 rfl h8 ?_
      refine go_aload_n (q := 0) (i := 0) (pc := 27) hΓ d_M_within_27 rfl rfl ?_
      refine go_getR (q := 46) (pc := 28) hΓ fl_M_13 d_M_within_28 rfl rfl ?_
      refine go_iload_n (q := 2) (i := 2) (pc := 31) hΓ d_M_within_31 rfl rfl ?_
      refine go_ck (fun h9 => ?_)
      refine go_iald (pc := 32) hΓ d_M_within_32 rfl h9 ?_
      refine go_icmp_eq 39 (pc := 33) hΓ d_M_within_33 (by decide) (fun h10 => go_eq (if_pos h10) ?_) (fun h10 => go_eq (if_neg h10) ?_)
      · refine go_aload_n (q := 0) (i := 0) (pc := 39) hΓ d_M_within_39 rfl rfl ?_
        refine go_getR (q := 46) (pc := 40) hΓ fl_M_13 d_M_within_40 rfl rfl ?_
        refine go_iload_n (q := 1) (i := 1) (pc := 43) hΓ d_M_within_43 rfl rfl ?_
        refine go_ck (fun h11 => ?_)
        refine go_iald (pc := 44) hΓ d_M_within_44 rfl h11 ?_
        refine go_bipush (v := 6) (pc := 45) hΓ d_M_within_45 (by decide) ?_
        refine go_icmp_le 53 (pc := 47) hΓ d_M_within_47 (by decide) (fun h12 => go_eq (if_neg h12) ?_) (fun h12 => go_eq (if_pos h12) ?_)
        · refine go_aload_n (q := 0) (i := 0) (pc := 53) hΓ d_M_within_53 rfl rfl ?_
          refine go_aload_n (q := 0) (i := 0) (pc := 54) hΓ d_M_within_54 rfl rfl ?_
          refine go_getR (q := 46) (pc := 55) hΓ fl_M_13 d_M_within_55 rfl rfl ?_
          refine go_iload_n (q := 1) (i := 1) (pc := 58) hΓ d_M_within_58 rfl rfl ?_
          refine go_ck (fun h13 => ?_)
          refine go_iald (pc := 59) hΓ d_M_within_59 rfl h13 ?_
          refine go_aload_n (q := 0) (i := 0) (pc := 60) hΓ d_M_within_60 rfl rfl ?_
          refine go_iload_n (q := 1) (i := 1) (pc := 61) hΓ d_M_within_61 rfl rfl ?_
          refine go_callV (index := 300) emL hΓ hR (g_M_imageOf N (d + 0) x1) mi_M_imageOf ml_M_300 d_M_within_62 rfl rfl rfl rfl rfl (fun r14 μ15 => ?_)
          show Go Γ 4 65 [(0, .ref 44), (1, .int x1), (2, .int x2)] [.long r14, .int (gI μ6 46 (tn x1)), .ref 44] μ15 _
          refine go_aload_n (q := 0) (i := 0) (pc := 65) hΓ d_M_within_65 rfl rfl ?_
          refine go_iload_n (q := 2) (i := 2) (pc := 66) hΓ d_M_within_66 rfl rfl ?_
          refine go_callV (index := 300) emL hΓ hR (g_M_imageOf N (d + 0) x2) mi_M_imageOf ml_M_300 d_M_within_67 rfl rfl rfl rfl rfl (fun r16 μ17 => ?_)
          show Go Γ 4 70 [(0, .ref 44), (1, .int x1), (2, .int x2)] [.long r16, .long r14, .int (gI μ6 46 (tn x1)), .ref 44] μ17 _
          refine go_iconst (v := 1) (pc := 70) hΓ d_M_within_70 (by decide) ?_
          refine go_callV (index := 303) emI hΓ hR (g_M_turns N (d + 0) (gI μ6 46 (tn x1)) r14 r16 1) mi_M_turns ml_M_303 d_M_within_71 rfl rfl rfl rfl rfl (fun r18 μ19 => ?_)
          show Go Γ 4 74 [(0, .ref 44), (1, .int x1), (2, .int x2)] [.int r18] μ19 _
          refine go_istore_n (i := 3) (lv' := [(3, .int r18), (0, .ref 44), (1, .int x1), (2, .int x2)]) (pc := 74) hΓ d_M_within_74 rfl (by decide) rfl ?_
          refine go_aload_n (q := 1) (i := 0) (pc := 75) hΓ d_M_within_75 rfl rfl ?_
          refine go_iload_n (q := 0) (i := 3) (pc := 76) hΓ d_M_within_76 rfl rfl ?_
          refine go_i2l (pc := 77) hΓ d_M_within_77 ?_
          refine go_callV (index := 221) emV hΓ hR (g_M_tellsOne N (d + 1) (Int32.toInt64 r18)) mi_M_tellsOne ml_M_221 d_M_within_78 rfl rfl rfl rfl rfl (fun _ μ21 => ?_)
          show Go Γ 4 81 [(3, .int r18), (0, .ref 44), (1, .int x1), (2, .int x2)] [] μ21 _
          refine go_iload_n (q := 0) (i := 3) (pc := 81) hΓ d_M_within_81 rfl rfl ?_
          refine go_mg (α := Int32) 90 (fun q23 => []) (fun q23 => [.int q23]) (fun q23 => ?_) (fun g26 g26h => ?_)
          · refine go_callS (index := 188) emI hΓ hR (g_M_flag N (d + 2) q23) mi_M_flag ml_M_188 d_M_within_90 rfl rfl rfl (fun r24 μ25 => ?_)
            show Go Γ 4 93 [] [.int r24] μ25 _
            exact go_iret (pc := 93) hΓ hT d_M_within_93
          · refine go_if_le 89 (pc := 82) hΓ d_M_within_82 (by decide) (fun h22 => ?_) (fun h22 => ?_)
            · rw [if_neg h22]
              refine go_iconst (v := 0) (pc := 89) hΓ d_M_within_89 (by decide) ?_
              refine go_sub' (lv' := []) rfl ?_
              exact g26h _
            · rw [if_pos h22]
              refine go_iconst (v := 1) (pc := 85) hΓ d_M_within_85 (by decide) ?_
              refine go_goto 90 (pc := 86) hΓ d_M_within_86 (by decide) ?_
              refine go_sub' (lv' := []) rfl ?_
              exact g26h _
        · refine go_bipush (v := -3) (pc := 50) hΓ d_M_within_50 (by decide) ?_
          exact go_iret (pc := 52) hΓ hT d_M_within_52
      · refine go_bipush (v := -2) (pc := 36) hΓ d_M_within_36 (by decide) ?_
        exact go_iret (pc := 38) hΓ hT d_M_within_38
    · refine go_iconst (v := -1) (pc := 19) hΓ d_M_within_19 (by decide) ?_
      exact go_iret (pc := 20) hΓ hT d_M_within_20
def lp_M_isDone_4 (N : Nat) (x1 : Int32)  (K : Int32 → Mem → Option (Int32 × Mem)) : Nat → Int32 → Int32 → Mem → Option (Int32 × Mem)
  | 0, _, _, _ => none
  | n + 1, a2, a3, μ0 => if a3 < (gI μ0 44 29) then (lt' (fun (w3 : Int32) (μ4 : Mem) => lt' (a3 + 1) fun v5 => lp_M_isDone_4 N x1 K n w3 v5 μ4) fun (k2 : Int32 → Mem → Option (Int32 × Mem)) => lt' (fun (μ7 : Mem) => k2 1 μ7) fun (k6 : Mem → Option (Int32 × Mem)) => if a2 = 0 then (ck (isK (gR μ0 44 27)) (ck (inb a3 2000) (bnd (f_M_bits N (gL μ0 (gR μ0 44 27) (tn a3)) μ0) fun r11 μ12 => if r11 = (x1 + 1) then (k6 μ12) else (k2 0 μ12)))) else (k6 μ0)) else (K a2 μ0)
def f_M_isDone (N : Nat) (x1 : Int32) (μ0 : Mem) : Option (Int32 × Mem) :=
  lp_M_isDone_4 N x1 (fun v14 μ15 => ck (isb v14) (some (v14, μ15))) N 0 0 μ0
set_option maxHeartbeats 4000000 in
set_option maxRecDepth 100000 in
theorem glp_M_isDone_4 (N d : Nat) {Γ : Cx Int32} (hΓ : Ok Γ "SortingNetsModel" c_M_isDone 4) (hT : Rt Γ eI (some .boolean)) (hR : Rm Γ (d + 2)) (x1 : Int32)    (K : Int32 → Mem → Option (Int32 × Mem)) (hK : ∀ (b2 : Int32) (ν : Mem), Go Γ 4 43 [(2, .int b2)] [] ν (K b2 ν)) : ∀ (n : Nat) (a2 : Int32) (a3 : Int32) (μ0 : Mem), Go Γ 4 4 [(0, .ref 44), (1, .int x1), (2, .int a2), (3, .int a3)] [] μ0 (lp_M_isDone_4 N x1 K n a2 a3 μ0) := by
  intro n
  induction n with
  | zero => intro a2 a3 μ0; exact go_none
  | succ n ih =>
    intro a2 a3 μ0
    rw [lp_M_isDone_4]
    refine go_iload_n (q := 3) (i := 3) (pc := 4) hΓ d_M_isDone_4 rfl rfl ?_
    refine go_aload_n (q := 0) (i := 0) (pc := 5) hΓ d_M_isDone_5 rfl rfl ?_
    refine go_getI (pc := 6) hΓ fl_M_322 d_M_isDone_6 rfl rfl ?_
    refine go_icmp_ge 43 (pc := 9) hΓ d_M_isDone_9 (by decide) (fun h1 => go_eq (if_neg h1) ?_) (fun h1 => go_eq (if_pos h1) ?_)
    · refine go_sub' (lv' := [(2, .int a2)]) rfl ?_
      exact hK a2 μ0
    · refine go_iload_n (q := 2) (i := 2) (pc := 12) hΓ d_M_isDone_12 rfl rfl ?_
      refine go_join (fun (k2 : Int32 → Mem → Option (Int32 × Mem)) => ∀ (w3 : Int32) (μ4 : Mem), Go Γ 4 36 [(0, .ref 44), (1, .int x1), (3, .int a3)] [.int w3] μ4 (k2 w3 μ4)) ?_ (fun k2 k2h => ?_)
      · intro w3 μ4
        refine go_istore_n (i := 2) (lv' := [(2, .int w3), (0, .ref 44), (1, .int x1), (3, .int a3)]) (pc := 36) hΓ d_M_isDone_36 rfl (by decide) rfl ?_
        refine go_incI (q := 3) (i := 3) (n := 1) (c := 1) (pc := 37) hΓ d_M_isDone_37 rfl (by decide) (by decide) (fun v5 => ?_)
        refine go_sub' (lv' := [(3, .int v5), (2, .int w3), (0, .ref 44), (1, .int x1)]) rfl ?_
        refine go_goto 4 (pc := 40) hΓ d_M_isDone_40 (by decide) ?_
        refine go_sub' (lv' := [(0, .ref 44), (1, .int x1), (2, .int w3), (3, .int v5)]) rfl ?_
        exact ih w3 v5 μ4
      · refine go_join (fun (k6 : Mem → Option (Int32 × Mem)) => ∀ (μ7 : Mem), Go Γ 4 31 [(0, .ref 44), (1, .int x1), (3, .int a3)] [] μ7 (k6 μ7)) ?_ (fun k6 k6h => ?_)
        · intro μ7
          refine go_iconst (v := 1) (pc := 31) hΓ d_M_isDone_31 (by decide) ?_
          refine go_goto 36 (pc := 32) hΓ d_M_isDone_32 (by decide) ?_
          refine go_sub' (lv' := [(0, .ref 44), (1, .int x1), (3, .int a3)]) rfl ?_
          exact k2h 1 μ7
        · refine go_if_ne 31 (pc := 13) hΓ d_M_isDone_13 (by decide) (fun h8 => go_eq (if_neg h8) ?_) (fun h8 => go_eq (if_pos h8) ?_)
          · refine go_sub' (lv' := [(0, .ref 44), (1, .int x1), (3, .int a3)]) rfl ?_
            exact k6h μ0
          · refine go_aload_n (q := 0) (i := 0) (pc := 16) hΓ d_M_isDone_16 rfl rfl ?_
            refine go_ck (fun h9 => ?_)
            refine go_getD (pc := 17) hΓ fl_M_60 d_M_isDone_17 rfl rfl ?_
            refine go_iload_n (q := 3) (i := 3) (pc := 20) hΓ d_M_isDone_20 rfl rfl ?_
            refine go_ck (fun h10 => ?_)
            refine go_lald (pc := 21) hΓ d_M_isDone_21 (isK_sh h9) h10 ?_
            refine go_callS (index := 281) emI hΓ hR (g_M_bits N (d + 0) (gL μ0 (gR μ0 44 27) (tn a3))) mi_M_bits ml_M_281 d_M_isDone_22 rfl rfl rfl (fun r11 μ12 => ?_)
            show Go Γ 4 25 [(0, .ref 44), (1, .int x1), (2, .int a2), (3, .int a3)] [.int r11] μ12 _
            refine go_iload_n (q := 1) (i := 1) (pc := 25) hΓ d_M_isDone_25 rfl rfl ?_
            refine go_iconst (v := 1) (pc := 26) hΓ d_M_isDone_26 (by decide) ?_
            refine go_iadd (pc := 27) hΓ d_M_isDone_27 ?_
            refine go_icmp_ne 35 (pc := 28) hΓ d_M_isDone_28 (by decide) (fun h13 => go_eq (if_neg h13) ?_) (fun h13 => go_eq (if_pos h13) ?_)
            · refine go_iconst (v := 0) (pc := 35) hΓ d_M_isDone_35 (by decide) ?_
              refine go_sub' (lv' := [(0, .ref 44), (1, .int x1), (3, .int a3)]) rfl ?_
              exact k2h 0 μ12
            · refine go_sub' (lv' := [(0, .ref 44), (1, .int x1), (3, .int a3)]) rfl ?_
              exact k6h μ12
set_option maxHeartbeats 4000000 in
set_option maxRecDepth 100000 in
theorem g_M_isDone (N d : Nat) (x1 : Int32)  : CallF eI y_M_isDone c_M_isDone 4 (some .boolean) (d + 2 + 1) [.ref 44, .int x1] (f_M_isDone N x1) := by
  refine call_of (d := d + 2) (n := 1) mi_M_isDone.1 (fun _ => rfl) ?_
  intro Γ μ0 hΓ hT hR
  show Go Γ 4 0 [(0, .ref 44), (1, .int x1)] [] μ0 (f_M_isDone N x1 μ0)
  unfold f_M_isDone
  refine go_iconst (v := 0) (pc := 0) hΓ d_M_isDone_0 (by decide) ?_
  refine go_istore_n (i := 2) (lv' := [(2, .int 0), (0, .ref 44), (1, .int x1)]) (pc := 1) hΓ d_M_isDone_1 rfl (by decide) rfl ?_
  refine go_iconst (v := 0) (pc := 2) hΓ d_M_isDone_2 (by decide) ?_
  refine go_istore_n (i := 3) (lv' := [(3, .int 0), (2, .int 0), (0, .ref 44), (1, .int x1)]) (pc := 3) hΓ d_M_isDone_3 rfl (by decide) rfl ?_
  refine go_sub' (lv' := [(0, .ref 44), (1, .int x1), (2, .int 0), (3, .int 0)]) rfl ?_
  refine glp_M_isDone_4 N d hΓ hT hR x1 _ (fun v14 μ15 => ?_) N 0 0 μ0
  refine go_iload_n (q := 0) (i := 2) (pc := 43) hΓ d_M_isDone_43 rfl rfl ?_
  refine go_ck (fun h16 => ?_)
  exact go_zret (pc := 44) hΓ hT d_M_isDone_44 h16
def lp_M_comparedAll_6 (N : Nat) (x0 : Int32) (x1 : Int64) (x3 : Int32) (x4 : Int32)  (K : Int64 → Mem → Option (Int64 × Mem)) : Nat → Int64 → Int32 → Mem → Option (Int64 × Mem)
  | 0, _, _, _ => none
  | n + 1, a5, a7, μ0 => if a7 < (shlI 1 x0) then (bnd (f_M_compared N a7 x3 x4 μ0) fun r2 μ3 => lt' (a5 ||| (shlL ((shrL x1 a7) &&& 1) r2)) fun v4 => lt' (a7 + 1) fun v5 => lp_M_comparedAll_6 N x0 x1 x3 x4 K n v4 v5 μ3) else (K a5 μ0)
def f_M_comparedAll (N : Nat) (x0 : Int32) (x1 : Int64) (x3 : Int32) (x4 : Int32) (μ0 : Mem) : Option (Int64 × Mem) :=
  lp_M_comparedAll_6 N x0 x1 x3 x4 (fun v6 μ7 => some (v6, μ7)) N 0 0 μ0
set_option maxHeartbeats 4000000 in
set_option maxRecDepth 100000 in
theorem glp_M_comparedAll_6 (N d : Nat) {Γ : Cx Int64} (hΓ : Ok Γ "SortingNetsModel" c_M_comparedAll 8) (hT : Rt Γ eL (some .long)) (hR : Rm Γ (d + 1)) (x0 : Int32) (x1 : Int64) (x3 : Int32) (x4 : Int32)    (K : Int64 → Mem → Option (Int64 × Mem)) (hK : ∀ (b5 : Int64) (ν : Mem), Go Γ 8 40 [(5, .long b5)] [] ν (K b5 ν)) : ∀ (n : Nat) (a5 : Int64) (a7 : Int32) (μ0 : Mem), Go Γ 8 6 [(0, .int x0), (1, .long x1), (3, .int x3), (4, .int x4), (5, .long a5), (7, .int a7)] [] μ0 (lp_M_comparedAll_6 N x0 x1 x3 x4 K n a5 a7 μ0) := by
  intro n
  induction n with
  | zero => intro a5 a7 μ0; exact go_none
  | succ n ih =>
    intro a5 a7 μ0
    rw [lp_M_comparedAll_6]
    refine go_iload (q := 5) (pc := 6) hΓ d_M_comparedAll_6 rfl ?_
    refine go_iconst (v := 1) (pc := 8) hΓ d_M_comparedAll_8 (by decide) ?_
    refine go_iload_n (q := 0) (i := 0) (pc := 9) hΓ d_M_comparedAll_9 rfl rfl ?_
    refine go_ishl (pc := 10) hΓ d_M_comparedAll_10 ?_
    refine go_icmp_ge 40 (pc := 11) hΓ d_M_comparedAll_11 (by decide) (fun h1 => go_eq (if_neg h1) ?_) (fun h1 => go_eq (if_pos h1) ?_)
    · refine go_sub' (lv' := [(5, .long a5)]) rfl ?_
      exact hK a5 μ0
    · refine go_lload (q := 4) (pc := 14) hΓ d_M_comparedAll_14 rfl ?_
      refine go_lload_n (q := 1) (i := 1) (pc := 16) hΓ d_M_comparedAll_16 rfl rfl ?_
      refine go_iload (q := 5) (pc := 17) hΓ d_M_comparedAll_17 rfl ?_
      refine go_lshr (pc := 19) hΓ d_M_comparedAll_19 ?_
      refine go_lconst (v := 1) (pc := 20) hΓ d_M_comparedAll_20 (by decide) ?_
      refine go_land (pc := 21) hΓ d_M_comparedAll_21 ?_
      refine go_iload (q := 5) (pc := 22) hΓ d_M_comparedAll_22 rfl ?_
      refine go_iload_n (q := 2) (i := 3) (pc := 24) hΓ d_M_comparedAll_24 rfl rfl ?_
      refine go_iload (q := 3) (pc := 25) hΓ d_M_comparedAll_25 rfl ?_
      refine go_callS (index := 293) emI hΓ hR (g_M_compared N (d + 0) a7 x3 x4) mi_M_compared ml_M_293 d_M_comparedAll_27 rfl rfl rfl (fun r2 μ3 => ?_)
      show Go Γ 8 30 [(0, .int x0), (1, .long x1), (3, .int x3), (4, .int x4), (5, .long a5), (7, .int a7)] [.int r2, .long ((shrL x1 a7) &&& 1), .long a5] μ3 _
      refine go_lshl (pc := 30) hΓ d_M_comparedAll_30 ?_
      refine go_lor (pc := 31) hΓ d_M_comparedAll_31 ?_
      refine go_letL (fun v4 => ?_)
      refine go_lstore (lv' := [(5, .long v4), (0, .int x0), (1, .long x1), (3, .int x3), (4, .int x4), (7, .int a7)]) (pc := 32) hΓ d_M_comparedAll_32 (by decide) rfl ?_
      refine go_incI (q := 5) (i := 7) (n := 1) (c := 1) (pc := 34) hΓ d_M_comparedAll_34 rfl (by decide) (by decide) (fun v5 => ?_)
      refine go_sub' (lv' := [(7, .int v5), (5, .long v4), (0, .int x0), (1, .long x1), (3, .int x3), (4, .int x4)]) rfl ?_
      refine go_goto 6 (pc := 37) hΓ d_M_comparedAll_37 (by decide) ?_
      refine go_sub' (lv' := [(0, .int x0), (1, .long x1), (3, .int x3), (4, .int x4), (5, .long v4), (7, .int v5)]) rfl ?_
      exact ih v4 v5 μ3
set_option maxHeartbeats 4000000 in
set_option maxRecDepth 100000 in
theorem g_M_comparedAll (N d : Nat) (x0 : Int32) (x1 : Int64) (x3 : Int32) (x4 : Int32)  : CallF eL y_M_comparedAll c_M_comparedAll 8 (some .long) (d + 1 + 1) [.int x0, .long x1, .int x3, .int x4] (f_M_comparedAll N x0 x1 x3 x4) := by
  refine call_of (d := d + 1) (n := 4) mi_M_comparedAll.1 (fun _ => rfl) ?_
  intro Γ μ0 hΓ hT hR
  show Go Γ 8 0 [(0, .int x0), (1, .long x1), (3, .int x3), (4, .int x4)] [] μ0 (f_M_comparedAll N x0 x1 x3 x4 μ0)
  unfold f_M_comparedAll
  refine go_lconst (v := 0) (pc := 0) hΓ d_M_comparedAll_0 (by decide) ?_
  refine go_lstore (lv' := [(5, .long 0), (0, .int x0), (1, .long x1), (3, .int x3), (4, .int x4)]) (pc := 1) hΓ d_M_comparedAll_1 (by decide) rfl ?_
  refine go_iconst (v := 0) (pc := 3) hΓ d_M_comparedAll_3 (by decide) ?_
  refine go_istore (lv' := [(7, .int 0), (5, .long 0), (0, .int x0), (1, .long x1), (3, .int x3), (4, .int x4)]) (pc := 4) hΓ d_M_comparedAll_4 (by decide) rfl ?_
  refine go_sub' (lv' := [(0, .int x0), (1, .long x1), (3, .int x3), (4, .int x4), (5, .long 0), (7, .int 0)]) rfl ?_
  refine glp_M_comparedAll_6 N d hΓ hT hR x0 x1 x3 x4 _ (fun v6 μ7 => ?_) N 0 0 μ0
  refine go_lload (q := 0) (pc := 40) hΓ d_M_comparedAll_40 rfl ?_
  exact go_lret (pc := 42) hΓ hT d_M_comparedAll_42
def lp_M_layered_24 (N : Nat) (x0 : Int32) (x3 : Int32) (x8 : Int32)  (K : Int64 → Int32 → Int32 → Mem → Option (Int64 × Mem)) : Nat → Int64 → Int32 → Int32 → Int32 → Mem → Option (Int64 × Mem)
  | 0, _, _, _, _, _ => none
  | n + 1, a4, a6, a7, a9, μ0 => if a9 < x0 then (lt' (fun (w5 : Int64) (w6 : Int32) (μ7 : Mem) => lt' (a7 + 1) fun v8 => lt' (a9 + 1) fun v9 => lp_M_layered_24 N x0 x3 x8 K n w5 w6 v8 v9 μ7) fun (k4 : Int64 → Int32 → Mem → Option (Int64 × Mem)) => if ((shrI x3 a7) &&& 1) = 1 then (if (a6 &&& ((shlI 1 x8) ||| (shlI 1 a9))) = 0 then (lt' (a6 ||| ((shlI 1 x8) ||| (shlI 1 a9))) fun v12 => bnd (f_M_comparedAll N x0 a4 x8 a9 μ0) fun r13 μ14 => k4 r13 v12 μ14) else (some (0, μ0))) else (k4 a4 a6 μ0)) else (K a4 a6 a7 μ0)
def lp_M_layered_12 (N : Nat) (x0 : Int32) (x3 : Int32)  (K : Int64 → Mem → Option (Int64 × Mem)) : Nat → Int64 → Int32 → Int32 → Int32 → Mem → Option (Int64 × Mem)
  | 0, _, _, _, _, _ => none
  | n + 1, a4, a6, a7, a8, μ0 => if a8 < x0 then (lt' (a8 + 1) fun v2 => lp_M_layered_24 N x0 x3 a8 (fun v15 v16 v17 μ18 => lt' (a8 + 1) fun v19 => lp_M_layered_12 N x0 x3 K n v15 v16 v17 v19 μ18) N a4 a6 a7 v2 μ0) else (K a4 μ0)
def f_M_layered (N : Nat) (x0 : Int32) (x1 : Int64) (x3 : Int32) (μ0 : Mem) : Option (Int64 × Mem) :=
  lp_M_layered_12 N x0 x3 (fun v20 μ21 => some (v20, μ21)) N x1 0 0 0 μ0
set_option maxHeartbeats 4000000 in
set_option maxRecDepth 100000 in
theorem glp_M_layered_24 (N d : Nat) {Γ : Cx Int64} (hΓ : Ok Γ "SortingNetsModel" c_M_layered 10) (hT : Rt Γ eL (some .long)) (hR : Rm Γ (d + 2)) (x0 : Int32) (x3 : Int32) (x8 : Int32)    (K : Int64 → Int32 → Int32 → Mem → Option (Int64 × Mem)) (hK : ∀ (b4 : Int64) (b6 : Int32) (b7 : Int32) (ν : Mem), Go Γ 10 92 [(0, .int x0), (3, .int x3), (4, .long b4), (6, .int b6), (7, .int b7), (8, .int x8)] [] ν (K b4 b6 b7 ν)) : ∀ (n : Nat) (a4 : Int64) (a6 : Int32) (a7 : Int32) (a9 : Int32) (μ0 : Mem), Go Γ 10 24 [(0, .int x0), (3, .int x3), (4, .long a4), (6, .int a6), (7, .int a7), (8, .int x8), (9, .int a9)] [] μ0 (lp_M_layered_24 N x0 x3 x8 K n a4 a6 a7 a9 μ0) := by
  intro n
  induction n with
  | zero => intro a4 a6 a7 a9 μ0; exact go_none
  | succ n ih =>
    intro a4 a6 a7 a9 μ0
    rw [lp_M_layered_24]
    refine go_iload (q := 6) (pc := 24) hΓ d_M_layered_24 rfl ?_
    refine go_iload_n (q := 0) (i := 0) (pc := 26) hΓ d_M_layered_26 rfl rfl ?_
    refine go_icmp_ge 92 (pc := 27) hΓ d_M_layered_27 (by decide) (fun h3 => go_eq (if_neg h3) ?_) (fun h3 => go_eq (if_pos h3) ?_)
    · refine go_sub' (lv' := [(0, .int x0), (3, .int x3), (4, .long a4), (6, .int a6), (7, .int a7), (8, .int x8)]) rfl ?_
      exact hK a4 a6 a7 μ0
    · refine go_iload_n (q := 1) (i := 3) (pc := 30) hΓ d_M_layered_30 rfl rfl ?_
      refine go_iload (q := 4) (pc := 31) hΓ d_M_layered_31 rfl ?_
      refine go_ishr (pc := 33) hΓ d_M_layered_33 ?_
      refine go_iconst (v := 1) (pc := 34) hΓ d_M_layered_34 (by decide) ?_
      refine go_iand (pc := 35) hΓ d_M_layered_35 ?_
      refine go_iconst (v := 1) (pc := 36) hΓ d_M_layered_36 (by decide) ?_
      refine go_join (fun (k4 : Int64 → Int32 → Mem → Option (Int64 × Mem)) => ∀ (w5 : Int64) (w6 : Int32) (μ7 : Mem), Go Γ 10 83 [(0, .int x0), (3, .int x3), (4, .long w5), (6, .int w6), (7, .int a7), (8, .int x8), (9, .int a9)] [] μ7 (k4 w5 w6 μ7)) ?_ (fun k4 k4h => ?_)
      · intro w5 w6 μ7
        refine go_incI (q := 4) (i := 7) (n := 1) (c := 1) (pc := 83) hΓ d_M_layered_83 rfl (by decide) (by decide) (fun v8 => ?_)
        refine go_sub' (lv' := [(7, .int v8), (0, .int x0), (3, .int x3), (4, .long w5), (6, .int w6), (8, .int x8), (9, .int a9)]) rfl ?_
        refine go_incI (q := 6) (i := 9) (n := 1) (c := 1) (pc := 86) hΓ d_M_layered_86 rfl (by decide) (by decide) (fun v9 => ?_)
        refine go_sub' (lv' := [(9, .int v9), (7, .int v8), (0, .int x0), (3, .int x3), (4, .long w5), (6, .int w6), (8, .int x8)]) rfl ?_
        refine go_goto 24 (pc := 89) hΓ d_M_layered_89 (by decide) ?_
        refine go_sub' (lv' := [(0, .int x0), (3, .int x3), (4, .long w5), (6, .int w6), (7, .int v8), (8, .int x8), (9, .int v9)]) rfl ?_
        exact ih w5 w6 v8 v9 μ7
      · refine go_icmp_ne 83 (pc := 37) hΓ d_M_layered_37 (by decide) (fun h10 => go_eq (if_neg h10) ?_) (fun h10 => go_eq (if_pos h10) ?_)
        · refine go_sub' (lv' := [(0, .int x0), (3, .int x3), (4, .long a4), (6, .int a6), (7, .int a7), (8, .int x8), (9, .int a9)]) rfl ?_
          exact k4h a4 a6 μ0
        · refine go_iload (q := 3) (pc := 40) hΓ d_M_layered_40 rfl ?_
          refine go_iconst (v := 1) (pc := 42) hΓ d_M_layered_42 (by decide) ?_
          refine go_iload (q := 5) (pc := 43) hΓ d_M_layered_43 rfl ?_
          refine go_ishl (pc := 45) hΓ d_M_layered_45 ?_
          refine go_iconst (v := 1) (pc := 46) hΓ d_M_layered_46 (by decide) ?_
          refine go_iload (q := 6) (pc := 47) hΓ d_M_layered_47 rfl ?_
          refine go_ishl (pc := 49) hΓ d_M_layered_49 ?_
          refine go_ior (pc := 50) hΓ d_M_layered_50 ?_
          refine go_iand (pc := 51) hΓ d_M_layered_51 ?_
          refine go_if_eq 57 (pc := 52) hΓ d_M_layered_52 (by decide) (fun h11 => go_eq (if_pos h11) ?_) (fun h11 => go_eq (if_neg h11) ?_)
          · refine go_iload (q := 3) (pc := 57) hΓ d_M_layered_57 rfl ?_
            refine go_iconst (v := 1) (pc := 59) hΓ d_M_layered_59 (by decide) ?_
            refine go_iload (q := 5) (pc := 60) hΓ d_M_layered_60 rfl ?_
            refine go_ishl (pc := 62) hΓ d_M_layered_62 ?_
            refine go_iconst (v := 1) (pc := 63) hΓ d_M_layered_63 (by decide) ?_
            refine go_iload (q := 6) (pc := 64) hΓ d_M_layered_64 rfl ?_
            refine go_ishl (pc := 66) hΓ d_M_layered_66 ?_
            refine go_ior (pc := 67) hΓ d_M_layered_67 ?_
            refine go_ior (pc := 68) hΓ d_M_layered_68 ?_
            refine go_letI (fun v12 => ?_)
            refine go_istore (lv' := [(6, .int v12), (0, .int x0), (3, .int x3), (4, .long a4), (7, .int a7), (8, .int x8), (9, .int a9)]) (pc := 69) hΓ d_M_layered_69 (by decide) rfl ?_
            refine go_iload_n (q := 1) (i := 0) (pc := 71) hΓ d_M_layered_71 rfl rfl ?_
            refine go_lload (q := 3) (pc := 72) hΓ d_M_layered_72 rfl ?_
            refine go_iload (q := 5) (pc := 74) hΓ d_M_layered_74 rfl ?_
            refine go_iload (q := 6) (pc := 76) hΓ d_M_layered_76 rfl ?_
            refine go_callS (index := 310) emL hΓ hR (g_M_comparedAll N (d + 0) x0 a4 x8 a9) mi_M_comparedAll ml_M_310 d_M_layered_78 rfl rfl rfl (fun r13 μ14 => ?_)
            show Go Γ 10 81 [(6, .int v12), (0, .int x0), (3, .int x3), (4, .long a4), (7, .int a7), (8, .int x8), (9, .int a9)] [.long r13] μ14 _
            refine go_lstore (lv' := [(4, .long r13), (6, .int v12), (0, .int x0), (3, .int x3), (7, .int a7), (8, .int x8), (9, .int a9)]) (pc := 81) hΓ d_M_layered_81 (by decide) rfl ?_
            refine go_sub' (lv' := [(0, .int x0), (3, .int x3), (4, .long r13), (6, .int v12), (7, .int a7), (8, .int x8), (9, .int a9)]) rfl ?_
            exact k4h r13 v12 μ14
          · refine go_lconst (v := 0) (pc := 55) hΓ d_M_layered_55 (by decide) ?_
            exact go_lret (pc := 56) hΓ hT d_M_layered_56
set_option maxHeartbeats 4000000 in
set_option maxRecDepth 100000 in
theorem glp_M_layered_12 (N d : Nat) {Γ : Cx Int64} (hΓ : Ok Γ "SortingNetsModel" c_M_layered 10) (hT : Rt Γ eL (some .long)) (hR : Rm Γ (d + 2)) (x0 : Int32) (x3 : Int32)    (K : Int64 → Mem → Option (Int64 × Mem)) (hK : ∀ (b4 : Int64) (ν : Mem), Go Γ 10 98 [(4, .long b4)] [] ν (K b4 ν)) : ∀ (n : Nat) (a4 : Int64) (a6 : Int32) (a7 : Int32) (a8 : Int32) (μ0 : Mem), Go Γ 10 12 [(0, .int x0), (3, .int x3), (4, .long a4), (6, .int a6), (7, .int a7), (8, .int a8)] [] μ0 (lp_M_layered_12 N x0 x3 K n a4 a6 a7 a8 μ0) := by
  intro n
  induction n with
  | zero => intro a4 a6 a7 a8 μ0; exact go_none
  | succ n ih =>
    intro a4 a6 a7 a8 μ0
    rw [lp_M_layered_12]
    refine go_iload (q := 5) (pc := 12) hΓ d_M_layered_12 rfl ?_
    refine go_iload_n (q := 0) (i := 0) (pc := 14) hΓ d_M_layered_14 rfl rfl ?_
    refine go_icmp_ge 98 (pc := 15) hΓ d_M_layered_15 (by decide) (fun h1 => go_eq (if_neg h1) ?_) (fun h1 => go_eq (if_pos h1) ?_)
    · refine go_sub' (lv' := [(4, .long a4)]) rfl ?_
      exact hK a4 μ0
    · refine go_iload (q := 5) (pc := 18) hΓ d_M_layered_18 rfl ?_
      refine go_iconst (v := 1) (pc := 20) hΓ d_M_layered_20 (by decide) ?_
      refine go_iadd (pc := 21) hΓ d_M_layered_21 ?_
      refine go_letI (fun v2 => ?_)
      refine go_istore (lv' := [(9, .int v2), (0, .int x0), (3, .int x3), (4, .long a4), (6, .int a6), (7, .int a7), (8, .int a8)]) (pc := 22) hΓ d_M_layered_22 (by decide) rfl ?_
      refine go_sub' (lv' := [(0, .int x0), (3, .int x3), (4, .long a4), (6, .int a6), (7, .int a7), (8, .int a8), (9, .int v2)]) rfl ?_
      refine glp_M_layered_24 N d hΓ hT hR x0 x3 a8 _ (fun v15 v16 v17 μ18 => ?_) N a4 a6 a7 v2 μ0
      refine go_incI (q := 5) (i := 8) (n := 1) (c := 1) (pc := 92) hΓ d_M_layered_92 rfl (by decide) (by decide) (fun v19 => ?_)
      refine go_sub' (lv' := [(8, .int v19), (0, .int x0), (3, .int x3), (4, .long v15), (6, .int v16), (7, .int v17)]) rfl ?_
      refine go_goto 12 (pc := 95) hΓ d_M_layered_95 (by decide) ?_
      refine go_sub' (lv' := [(0, .int x0), (3, .int x3), (4, .long v15), (6, .int v16), (7, .int v17), (8, .int v19)]) rfl ?_
      exact ih v15 v16 v17 v19 μ18
set_option maxHeartbeats 4000000 in
set_option maxRecDepth 100000 in
theorem g_M_layered (N d : Nat) (x0 : Int32) (x1 : Int64) (x3 : Int32)  : CallF eL y_M_layered c_M_layered 10 (some .long) (d + 2 + 1) [.int x0, .long x1, .int x3] (f_M_layered N x0 x1 x3) := by
  refine call_of (d := d + 2) (n := 3) mi_M_layered.1 (fun _ => rfl) ?_
  intro Γ μ0 hΓ hT hR
  show Go Γ 10 0 [(0, .int x0), (1, .long x1), (3, .int x3)] [] μ0 (f_M_layered N x0 x1 x3 μ0)
  unfold f_M_layered
  refine go_lload_n (q := 1) (i := 1) (pc := 0) hΓ d_M_layered_0 rfl rfl ?_
  refine go_lstore (lv' := [(4, .long x1), (0, .int x0), (1, .long x1), (3, .int x3)]) (pc := 1) hΓ d_M_layered_1 (by decide) rfl ?_
  refine go_iconst (v := 0) (pc := 3) hΓ d_M_layered_3 (by decide) ?_
  refine go_istore (lv' := [(6, .int 0), (4, .long x1), (0, .int x0), (1, .long x1), (3, .int x3)]) (pc := 4) hΓ d_M_layered_4 (by decide) rfl ?_
  refine go_iconst (v := 0) (pc := 6) hΓ d_M_layered_6 (by decide) ?_
  refine go_istore (lv' := [(7, .int 0), (6, .int 0), (4, .long x1), (0, .int x0), (1, .long x1), (3, .int x3)]) (pc := 7) hΓ d_M_layered_7 (by decide) rfl ?_
  refine go_iconst (v := 0) (pc := 9) hΓ d_M_layered_9 (by decide) ?_
  refine go_istore (lv' := [(8, .int 0), (7, .int 0), (6, .int 0), (4, .long x1), (0, .int x0), (1, .long x1), (3, .int x3)]) (pc := 10) hΓ d_M_layered_10 (by decide) rfl ?_
  refine go_sub' (lv' := [(0, .int x0), (3, .int x3), (4, .long x1), (6, .int 0), (7, .int 0), (8, .int 0)]) rfl ?_
  refine glp_M_layered_12 N d hΓ hT hR x0 x3 _ (fun v20 μ21 => ?_) N x1 0 0 0 μ0
  refine go_lload (q := 0) (pc := 98) hΓ d_M_layered_98 rfl ?_
  exact go_lret (pc := 100) hΓ hT d_M_layered_100
def lp_M_offers_3 (N : Nat) (x1 : Int32) (x2 : Int64)  (K : Mem → Option (Unit × Mem)) : Nat → Int32 → Mem → Option (Unit × Mem)
  | 0, _, _ => none
  | n + 1, a4, μ0 => if a4 < (gI μ0 44 30) then (ck (isK (gR μ0 44 28)) (ck (inb a4 2000) (bnd (f_M_turns N x1 (gL μ0 (gR μ0 44 28) (tn a4)) x2 0 μ0) fun r4 μ5 => if 0 < r4 then (some ((), μ5)) else (lt' (a4 + 1) fun v7 => lp_M_offers_3 N x1 x2 K n v7 μ5)))) else (K  μ0)
def lp_M_offers_42 (N : Nat) (x1 : Int32) (x2 : Int64)  (K : Int32 → Mem → Option (Unit × Mem)) : Nat → Int32 → Int32 → Mem → Option (Unit × Mem)
  | 0, _, _, _ => none
  | n + 1, a4, a5, μ0 => if a5 < (gI μ0 44 30) then (ck (isK (gR μ0 44 28)) (ck (inb a5 2000) (bnd (f_M_turns N x1 x2 (gL μ0 (gR μ0 44 28) (tn a5)) 0 μ0) fun r12 μ13 => lt' (fun (w15 : Int32) (μ16 : Mem) => lt' (a5 + 1) fun v17 => lp_M_offers_42 N x1 x2 K n w15 v17 μ16) fun (k14 : Int32 → Mem → Option (Unit × Mem)) => if 0 < r12 then (k14 a4 μ13) else (ck (isK (gR μ13 44 28)) (ck (isK (gR μ13 44 28)) (ck (inb a5 2000) (ck (inb a4 2000) (lt' (sL μ13 (gR μ13 44 28) (tn a4) (gL μ13 (gR μ13 44 28) (tn a5))) fun μ23 => lt' (a4 + 1) fun v24 => k14 v24 μ23)))))))) else (K a4 μ0)
def f_M_offers (N : Nat) (x1 : Int32) (x2 : Int64) (μ0 : Mem) : Option (Unit × Mem) :=
  lp_M_offers_3 N x1 x2 (fun μ8 => lp_M_offers_42 N x1 x2 (fun v25 μ26 => ck (isK (gR μ26 44 28)) (ck (inb v25 2000) (lt' (sL μ26 (gR μ26 44 28) (tn v25) x2) fun μ29 => lt' (sI μ29 44 30 (v25 + 1)) fun μ30 => some ((), μ30)))) N 0 0 μ8) N 0 μ0
set_option maxHeartbeats 4000000 in
set_option maxRecDepth 100000 in
theorem glp_M_offers_3 (N d : Nat) {Γ : Cx Unit} (hΓ : Ok Γ "SortingNetsModel" c_M_offers 6) (hT : Rt Γ eV none) (hR : Rm Γ (d + 3)) (x1 : Int32) (x2 : Int64)    (K : Mem → Option (Unit × Mem)) (hK : ∀  (ν : Mem), Go Γ 6 36 [(0, .ref 44), (1, .int x1), (2, .long x2)] [] ν (K  ν)) : ∀ (n : Nat) (a4 : Int32) (μ0 : Mem), Go Γ 6 3 [(0, .ref 44), (1, .int x1), (2, .long x2), (4, .int a4)] [] μ0 (lp_M_offers_3 N x1 x2 K n a4 μ0) := by
  intro n
  induction n with
  | zero => intro a4 μ0; exact go_none
  | succ n ih =>
    intro a4 μ0
    rw [lp_M_offers_3]
    refine go_iload (q := 3) (pc := 3) hΓ d_M_offers_3 rfl ?_
    refine go_aload_n (q := 0) (i := 0) (pc := 5) hΓ d_M_offers_5 rfl rfl ?_
    refine go_getI (pc := 6) hΓ fl_M_307 d_M_offers_6 rfl rfl ?_
    refine go_icmp_ge 36 (pc := 9) hΓ d_M_offers_9 (by decide) (fun h1 => go_eq (if_neg h1) ?_) (fun h1 => go_eq (if_pos h1) ?_)
    · refine go_sub' (lv' := [(0, .ref 44), (1, .int x1), (2, .long x2)]) rfl ?_
      exact hK  μ0
    · refine go_aload_n (q := 0) (i := 0) (pc := 12) hΓ d_M_offers_12 rfl rfl ?_
      refine go_iload_n (q := 1) (i := 1) (pc := 13) hΓ d_M_offers_13 rfl rfl ?_
      refine go_aload_n (q := 0) (i := 0) (pc := 14) hΓ d_M_offers_14 rfl rfl ?_
      refine go_ck (fun h2 => ?_)
      refine go_getD (pc := 15) hΓ fl_M_63 d_M_offers_15 rfl rfl ?_
      refine go_iload (q := 3) (pc := 18) hΓ d_M_offers_18 rfl ?_
      refine go_ck (fun h3 => ?_)
      refine go_lald (pc := 20) hΓ d_M_offers_20 (isK_sh h2) h3 ?_
      refine go_lload_n (q := 2) (i := 2) (pc := 21) hΓ d_M_offers_21 rfl rfl ?_
      refine go_iconst (v := 0) (pc := 22) hΓ d_M_offers_22 (by decide) ?_
      refine go_callV (index := 303) emI hΓ hR (g_M_turns N (d + 0) x1 (gL μ0 (gR μ0 44 28) (tn a4)) x2 0) mi_M_turns ml_M_303 d_M_offers_23 rfl rfl rfl rfl rfl (fun r4 μ5 => ?_)
      show Go Γ 6 26 [(0, .ref 44), (1, .int x1), (2, .long x2), (4, .int a4)] [.int r4] μ5 _
      refine go_if_le 30 (pc := 26) hΓ d_M_offers_26 (by decide) (fun h6 => go_eq (if_neg h6) ?_) (fun h6 => go_eq (if_pos h6) ?_)
      · refine go_incI (q := 3) (i := 4) (n := 1) (c := 1) (pc := 30) hΓ d_M_offers_30 rfl (by decide) (by decide) (fun v7 => ?_)
        refine go_sub' (lv' := [(4, .int v7), (0, .ref 44), (1, .int x1), (2, .long x2)]) rfl ?_
        refine go_goto 3 (pc := 33) hΓ d_M_offers_33 (by decide) ?_
        refine go_sub' (lv' := [(0, .ref 44), (1, .int x1), (2, .long x2), (4, .int v7)]) rfl ?_
        exact ih v7 μ5
      · exact go_vret (pc := 29) hΓ hT d_M_offers_29
set_option maxHeartbeats 4000000 in
set_option maxRecDepth 100000 in
theorem glp_M_offers_42 (N d : Nat) {Γ : Cx Unit} (hΓ : Ok Γ "SortingNetsModel" c_M_offers 6) (hT : Rt Γ eV none) (hR : Rm Γ (d + 3)) (x1 : Int32) (x2 : Int64)    (K : Int32 → Mem → Option (Unit × Mem)) (hK : ∀ (b4 : Int32) (ν : Mem), Go Γ 6 94 [(0, .ref 44), (2, .long x2), (4, .int b4)] [] ν (K b4 ν)) : ∀ (n : Nat) (a4 : Int32) (a5 : Int32) (μ0 : Mem), Go Γ 6 42 [(0, .ref 44), (1, .int x1), (2, .long x2), (4, .int a4), (5, .int a5)] [] μ0 (lp_M_offers_42 N x1 x2 K n a4 a5 μ0) := by
  intro n
  induction n with
  | zero => intro a4 a5 μ0; exact go_none
  | succ n ih =>
    intro a4 a5 μ0
    rw [lp_M_offers_42]
    refine go_iload (q := 4) (pc := 42) hΓ d_M_offers_42 rfl ?_
    refine go_aload_n (q := 0) (i := 0) (pc := 44) hΓ d_M_offers_44 rfl rfl ?_
    refine go_getI (pc := 45) hΓ fl_M_307 d_M_offers_45 rfl rfl ?_
    refine go_icmp_ge 94 (pc := 48) hΓ d_M_offers_48 (by decide) (fun h9 => go_eq (if_neg h9) ?_) (fun h9 => go_eq (if_pos h9) ?_)
    · refine go_sub' (lv' := [(0, .ref 44), (2, .long x2), (4, .int a4)]) rfl ?_
      exact hK a4 μ0
    · refine go_aload_n (q := 0) (i := 0) (pc := 51) hΓ d_M_offers_51 rfl rfl ?_
      refine go_iload_n (q := 1) (i := 1) (pc := 52) hΓ d_M_offers_52 rfl rfl ?_
      refine go_lload_n (q := 2) (i := 2) (pc := 53) hΓ d_M_offers_53 rfl rfl ?_
      refine go_aload_n (q := 0) (i := 0) (pc := 54) hΓ d_M_offers_54 rfl rfl ?_
      refine go_ck (fun h10 => ?_)
      refine go_getD (pc := 55) hΓ fl_M_63 d_M_offers_55 rfl rfl ?_
      refine go_iload (q := 4) (pc := 58) hΓ d_M_offers_58 rfl ?_
      refine go_ck (fun h11 => ?_)
      refine go_lald (pc := 60) hΓ d_M_offers_60 (isK_sh h10) h11 ?_
      refine go_iconst (v := 0) (pc := 61) hΓ d_M_offers_61 (by decide) ?_
      refine go_callV (index := 303) emI hΓ hR (g_M_turns N (d + 0) x1 x2 (gL μ0 (gR μ0 44 28) (tn a5)) 0) mi_M_turns ml_M_303 d_M_offers_62 rfl rfl rfl rfl rfl (fun r12 μ13 => ?_)
      show Go Γ 6 65 [(0, .ref 44), (1, .int x1), (2, .long x2), (4, .int a4), (5, .int a5)] [.int r12] μ13 _
      refine go_join (fun (k14 : Int32 → Mem → Option (Unit × Mem)) => ∀ (w15 : Int32) (μ16 : Mem), Go Γ 6 88 [(0, .ref 44), (1, .int x1), (2, .long x2), (4, .int w15), (5, .int a5)] [] μ16 (k14 w15 μ16)) ?_ (fun k14 k14h => ?_)
      · intro w15 μ16
        refine go_incI (q := 4) (i := 5) (n := 1) (c := 1) (pc := 88) hΓ d_M_offers_88 rfl (by decide) (by decide) (fun v17 => ?_)
        refine go_sub' (lv' := [(5, .int v17), (0, .ref 44), (1, .int x1), (2, .long x2), (4, .int w15)]) rfl ?_
        refine go_goto 42 (pc := 91) hΓ d_M_offers_91 (by decide) ?_
        refine go_sub' (lv' := [(0, .ref 44), (1, .int x1), (2, .long x2), (4, .int w15), (5, .int v17)]) rfl ?_
        exact ih w15 v17 μ16
      · refine go_if_le 71 (pc := 65) hΓ d_M_offers_65 (by decide) (fun h18 => go_eq (if_neg h18) ?_) (fun h18 => go_eq (if_pos h18) ?_)
        · refine go_aload_n (q := 0) (i := 0) (pc := 71) hΓ d_M_offers_71 rfl rfl ?_
          refine go_ck (fun h19 => ?_)
          refine go_getD (pc := 72) hΓ fl_M_63 d_M_offers_72 rfl rfl ?_
          refine go_iload (q := 3) (pc := 75) hΓ d_M_offers_75 rfl ?_
          refine go_aload_n (q := 0) (i := 0) (pc := 77) hΓ d_M_offers_77 rfl rfl ?_
          refine go_ck (fun h20 => ?_)
          refine go_getD (pc := 78) hΓ fl_M_63 d_M_offers_78 rfl rfl ?_
          refine go_iload (q := 4) (pc := 81) hΓ d_M_offers_81 rfl ?_
          refine go_ck (fun h21 => ?_)
          refine go_lald (pc := 83) hΓ d_M_offers_83 (isK_sh h20) h21 ?_
          refine go_ck (fun h22 => ?_)
          refine go_last (pc := 84) hΓ d_M_offers_84 (isK_sh h19) h22 ?_
          refine go_letM (fun μ23 => ?_)
          refine go_incI (q := 3) (i := 4) (n := 1) (c := 1) (pc := 85) hΓ d_M_offers_85 rfl (by decide) (by decide) (fun v24 => ?_)
          refine go_sub' (lv' := [(4, .int v24), (0, .ref 44), (1, .int x1), (2, .long x2), (5, .int a5)]) rfl ?_
          refine go_sub' (lv' := [(0, .ref 44), (1, .int x1), (2, .long x2), (4, .int v24), (5, .int a5)]) rfl ?_
          exact k14h v24 μ23
        · refine go_goto 88 (pc := 68) hΓ d_M_offers_68 (by decide) ?_
          refine go_sub' (lv' := [(0, .ref 44), (1, .int x1), (2, .long x2), (4, .int a4), (5, .int a5)]) rfl ?_
          exact k14h a4 μ13
set_option maxHeartbeats 4000000 in
set_option maxRecDepth 100000 in
theorem g_M_offers (N d : Nat) (x1 : Int32) (x2 : Int64)  : CallF eV y_M_offers c_M_offers 6 none (d + 3 + 1) [.ref 44, .int x1, .long x2] (f_M_offers N x1 x2) := by
  refine call_of (d := d + 3) (n := 2) mi_M_offers.1 (fun _ => rfl) ?_
  intro Γ μ0 hΓ hT hR
  show Go Γ 6 0 [(0, .ref 44), (1, .int x1), (2, .long x2)] [] μ0 (f_M_offers N x1 x2 μ0)
  unfold f_M_offers
  refine go_iconst (v := 0) (pc := 0) hΓ d_M_offers_0 (by decide) ?_
  refine go_istore (lv' := [(4, .int 0), (0, .ref 44), (1, .int x1), (2, .long x2)]) (pc := 1) hΓ d_M_offers_1 (by decide) rfl ?_
  refine go_sub' (lv' := [(0, .ref 44), (1, .int x1), (2, .long x2), (4, .int 0)]) rfl ?_
  refine glp_M_offers_3 N d hΓ hT hR x1 x2 _ (fun μ8 => ?_) N 0 μ0
  refine go_iconst (v := 0) (pc := 36) hΓ d_M_offers_36 (by decide) ?_
  refine go_istore (lv' := [(4, .int 0), (0, .ref 44), (1, .int x1), (2, .long x2)]) (pc := 37) hΓ d_M_offers_37 (by decide) rfl ?_
  refine go_iconst (v := 0) (pc := 39) hΓ d_M_offers_39 (by decide) ?_
  refine go_istore (lv' := [(5, .int 0), (4, .int 0), (0, .ref 44), (1, .int x1), (2, .long x2)]) (pc := 40) hΓ d_M_offers_40 (by decide) rfl ?_
  refine go_sub' (lv' := [(0, .ref 44), (1, .int x1), (2, .long x2), (4, .int 0), (5, .int 0)]) rfl ?_
  refine glp_M_offers_42 N d hΓ hT hR x1 x2 _ (fun v25 μ26 => ?_) N 0 0 μ8
  refine go_aload_n (q := 0) (i := 0) (pc := 94) hΓ d_M_offers_94 rfl rfl ?_
  refine go_ck (fun h27 => ?_)
  refine go_getD (pc := 95) hΓ fl_M_63 d_M_offers_95 rfl rfl ?_
  refine go_iload (q := 2) (pc := 98) hΓ d_M_offers_98 rfl ?_
  refine go_lload_n (q := 1) (i := 2) (pc := 100) hΓ d_M_offers_100 rfl rfl ?_
  refine go_ck (fun h28 => ?_)
  refine go_last (pc := 101) hΓ d_M_offers_101 (isK_sh h27) h28 ?_
  refine go_letM (fun μ29 => ?_)
  refine go_aload_n (q := 0) (i := 0) (pc := 102) hΓ d_M_offers_102 rfl rfl ?_
  refine go_iload (q := 2) (pc := 103) hΓ d_M_offers_103 rfl ?_
  refine go_iconst (v := 1) (pc := 105) hΓ d_M_offers_105 (by decide) ?_
  refine go_iadd (pc := 106) hΓ d_M_offers_106 ?_
  refine go_putI (pc := 107) hΓ fp_M_307 d_M_offers_107 rfl rfl ?_
  refine go_letM (fun μ30 => ?_)
  exact go_vret (pc := 110) hΓ hT d_M_offers_110
def lp_M_offersLayers_3 (N : Nat) (x1 : Int32) (x2 : Int64)  (K : Mem → Option (Unit × Mem)) : Nat → Int32 → Mem → Option (Unit × Mem)
  | 0, _, _ => none
  | n + 1, a4, μ0 => if a4 < (shlI 1 ((x1 * (x1 - 1)) / 2)) then (bnd (f_M_layered N x1 x2 a4 μ0) fun r2 μ3 => lt' (fun (μ5 : Mem) => lt' (a4 + 1) fun v6 => lp_M_offersLayers_3 N x1 x2 K n v6 μ5) fun (k4 : Mem → Option (Unit × Mem)) => if (lg_cmp r2 0) = 0 then (k4 μ3) else (bnd (f_M_offers N x1 r2 μ3) fun _ μ9 => k4 μ9)) else (K  μ0)
def f_M_offersLayers (N : Nat) (x1 : Int32) (x2 : Int64) (μ0 : Mem) : Option (Unit × Mem) :=
  lp_M_offersLayers_3 N x1 x2 (fun μ10 => some ((), μ10)) N 1 μ0
set_option maxHeartbeats 4000000 in
set_option maxRecDepth 100000 in
theorem glp_M_offersLayers_3 (N d : Nat) {Γ : Cx Unit} (hΓ : Ok Γ "SortingNetsModel" c_M_offersLayers 7) (hT : Rt Γ eV none) (hR : Rm Γ (d + 4)) (x1 : Int32) (x2 : Int64)    (K : Mem → Option (Unit × Mem)) (hK : ∀  (ν : Mem), Go Γ 7 46 [] [] ν (K  ν)) : ∀ (n : Nat) (a4 : Int32) (μ0 : Mem), Go Γ 7 3 [(0, .ref 44), (1, .int x1), (2, .long x2), (4, .int a4)] [] μ0 (lp_M_offersLayers_3 N x1 x2 K n a4 μ0) := by
  intro n
  induction n with
  | zero => intro a4 μ0; exact go_none
  | succ n ih =>
    intro a4 μ0
    rw [lp_M_offersLayers_3]
    refine go_iload (q := 3) (pc := 3) hΓ d_M_offersLayers_3 rfl ?_
    refine go_iconst (v := 1) (pc := 5) hΓ d_M_offersLayers_5 (by decide) ?_
    refine go_iload_n (q := 1) (i := 1) (pc := 6) hΓ d_M_offersLayers_6 rfl rfl ?_
    refine go_iload_n (q := 1) (i := 1) (pc := 7) hΓ d_M_offersLayers_7 rfl rfl ?_
    refine go_iconst (v := 1) (pc := 8) hΓ d_M_offersLayers_8 (by decide) ?_
    refine go_isub (pc := 9) hΓ d_M_offersLayers_9 ?_
    refine go_imul (pc := 10) hΓ d_M_offersLayers_10 ?_
    refine go_iconst (v := 2) (pc := 11) hΓ d_M_offersLayers_11 (by decide) ?_
    refine go_idiv (pc := 12) hΓ d_M_offersLayers_12 (by decide) ?_
    refine go_ishl (pc := 13) hΓ d_M_offersLayers_13 ?_
    refine go_icmp_ge 46 (pc := 14) hΓ d_M_offersLayers_14 (by decide) (fun h1 => go_eq (if_neg h1) ?_) (fun h1 => go_eq (if_pos h1) ?_)
    · refine go_sub' (lv' := []) rfl ?_
      exact hK  μ0
    · refine go_iload_n (q := 1) (i := 1) (pc := 17) hΓ d_M_offersLayers_17 rfl rfl ?_
      refine go_lload_n (q := 2) (i := 2) (pc := 18) hΓ d_M_offersLayers_18 rfl rfl ?_
      refine go_iload (q := 3) (pc := 19) hΓ d_M_offersLayers_19 rfl ?_
      refine go_callS (index := 318) emL hΓ hR (g_M_layered N (d + 1) x1 x2 a4) mi_M_layered ml_M_318 d_M_offersLayers_21 rfl rfl rfl (fun r2 μ3 => ?_)
      show Go Γ 7 24 [(0, .ref 44), (1, .int x1), (2, .long x2), (4, .int a4)] [.long r2] μ3 _
      refine go_lstore (lv' := [(5, .long r2), (0, .ref 44), (1, .int x1), (2, .long x2), (4, .int a4)]) (pc := 24) hΓ d_M_offersLayers_24 (by decide) rfl ?_
      refine go_lload (q := 0) (pc := 26) hΓ d_M_offersLayers_26 rfl ?_
      refine go_lconst (v := 0) (pc := 28) hΓ d_M_offersLayers_28 (by decide) ?_
      refine go_lcmp (pc := 29) hΓ d_M_offersLayers_29 ?_
      refine go_join (fun (k4 : Mem → Option (Unit × Mem)) => ∀ (μ5 : Mem), Go Γ 7 40 [(0, .ref 44), (1, .int x1), (2, .long x2), (4, .int a4)] [] μ5 (k4 μ5)) ?_ (fun k4 k4h => ?_)
      · intro μ5
        refine go_incI (q := 3) (i := 4) (n := 1) (c := 1) (pc := 40) hΓ d_M_offersLayers_40 rfl (by decide) (by decide) (fun v6 => ?_)
        refine go_sub' (lv' := [(4, .int v6), (0, .ref 44), (1, .int x1), (2, .long x2)]) rfl ?_
        refine go_goto 3 (pc := 43) hΓ d_M_offersLayers_43 (by decide) ?_
        refine go_sub' (lv' := [(0, .ref 44), (1, .int x1), (2, .long x2), (4, .int v6)]) rfl ?_
        exact ih v6 μ5
      · refine go_if_eq 40 (pc := 30) hΓ d_M_offersLayers_30 (by decide) (fun h7 => go_eq (if_pos h7) ?_) (fun h7 => go_eq (if_neg h7) ?_)
        · refine go_sub' (lv' := [(0, .ref 44), (1, .int x1), (2, .long x2), (4, .int a4)]) rfl ?_
          exact k4h μ3
        · refine go_aload_n (q := 1) (i := 0) (pc := 33) hΓ d_M_offersLayers_33 rfl rfl ?_
          refine go_iload_n (q := 2) (i := 1) (pc := 34) hΓ d_M_offersLayers_34 rfl rfl ?_
          refine go_lload (q := 0) (pc := 35) hΓ d_M_offersLayers_35 rfl ?_
          refine go_callV (index := 314) emV hΓ hR (g_M_offers N (d + 0) x1 r2) mi_M_offers ml_M_314 d_M_offersLayers_37 rfl rfl rfl rfl rfl (fun _ μ9 => ?_)
          show Go Γ 7 40 [(5, .long r2), (0, .ref 44), (1, .int x1), (2, .long x2), (4, .int a4)] [] μ9 _
          refine go_sub' (lv' := [(0, .ref 44), (1, .int x1), (2, .long x2), (4, .int a4)]) rfl ?_
          exact k4h μ9
set_option maxHeartbeats 4000000 in
set_option maxRecDepth 100000 in
theorem g_M_offersLayers (N d : Nat) (x1 : Int32) (x2 : Int64)  : CallF eV y_M_offersLayers c_M_offersLayers 7 none (d + 4 + 1) [.ref 44, .int x1, .long x2] (f_M_offersLayers N x1 x2) := by
  refine call_of (d := d + 4) (n := 2) mi_M_offersLayers.1 (fun _ => rfl) ?_
  intro Γ μ0 hΓ hT hR
  show Go Γ 7 0 [(0, .ref 44), (1, .int x1), (2, .long x2)] [] μ0 (f_M_offersLayers N x1 x2 μ0)
  unfold f_M_offersLayers
  refine go_iconst (v := 1) (pc := 0) hΓ d_M_offersLayers_0 (by decide) ?_
  refine go_istore (lv' := [(4, .int 1), (0, .ref 44), (1, .int x1), (2, .long x2)]) (pc := 1) hΓ d_M_offersLayers_1 (by decide) rfl ?_
  refine go_sub' (lv' := [(0, .ref 44), (1, .int x1), (2, .long x2), (4, .int 1)]) rfl ?_
  refine glp_M_offersLayers_3 N d hΓ hT hR x1 x2 _ (fun μ10 => ?_) N 1 μ0
  exact go_vret (pc := 46) hΓ hT d_M_offersLayers_46
def lp_M_offersEach_15 (N : Nat) (x1 : Int32) (x2 : Int64) (x4 : Int32)  (K : Mem → Option (Unit × Mem)) : Nat → Int32 → Mem → Option (Unit × Mem)
  | 0, _, _ => none
  | n + 1, a5, μ0 => if a5 < x1 then (bnd (f_M_comparedAll N x1 x2 x4 a5 μ0) fun r4 μ5 => bnd (f_M_offers N x1 r4 μ5) fun _ μ7 => lt' (a5 + 1) fun v8 => lp_M_offersEach_15 N x1 x2 x4 K n v8 μ7) else (K  μ0)
def lp_M_offersEach_3 (N : Nat) (x1 : Int32) (x2 : Int64)  (K : Mem → Option (Unit × Mem)) : Nat → Int32 → Mem → Option (Unit × Mem)
  | 0, _, _ => none
  | n + 1, a4, μ0 => if a4 < x1 then (lt' (a4 + 1) fun v2 => lp_M_offersEach_15 N x1 x2 a4 (fun μ9 => lt' (a4 + 1) fun v10 => lp_M_offersEach_3 N x1 x2 K n v10 μ9) N v2 μ0) else (K  μ0)
def f_M_offersEach (N : Nat) (x1 : Int32) (x2 : Int64) (μ0 : Mem) : Option (Unit × Mem) :=
  lp_M_offersEach_3 N x1 x2 (fun μ11 => some ((), μ11)) N 0 μ0
set_option maxHeartbeats 4000000 in
set_option maxRecDepth 100000 in
theorem glp_M_offersEach_15 (N d : Nat) {Γ : Cx Unit} (hΓ : Ok Γ "SortingNetsModel" c_M_offersEach 6) (hT : Rt Γ eV none) (hR : Rm Γ (d + 4)) (x1 : Int32) (x2 : Int64) (x4 : Int32)    (K : Mem → Option (Unit × Mem)) (hK : ∀  (ν : Mem), Go Γ 6 41 [(0, .ref 44), (1, .int x1), (2, .long x2), (4, .int x4)] [] ν (K  ν)) : ∀ (n : Nat) (a5 : Int32) (μ0 : Mem), Go Γ 6 15 [(0, .ref 44), (1, .int x1), (2, .long x2), (4, .int x4), (5, .int a5)] [] μ0 (lp_M_offersEach_15 N x1 x2 x4 K n a5 μ0) := by
  intro n
  induction n with
  | zero => intro a5 μ0; exact go_none
  | succ n ih =>
    intro a5 μ0
    rw [lp_M_offersEach_15]
    refine go_iload (q := 4) (pc := 15) hΓ d_M_offersEach_15 rfl ?_
    refine go_iload_n (q := 1) (i := 1) (pc := 17) hΓ d_M_offersEach_17 rfl rfl ?_
    refine go_icmp_ge 41 (pc := 18) hΓ d_M_offersEach_18 (by decide) (fun h3 => go_eq (if_neg h3) ?_) (fun h3 => go_eq (if_pos h3) ?_)
    · refine go_sub' (lv' := [(0, .ref 44), (1, .int x1), (2, .long x2), (4, .int x4)]) rfl ?_
      exact hK  μ0
    · refine go_aload_n (q := 0) (i := 0) (pc := 21) hΓ d_M_offersEach_21 rfl rfl ?_
      refine go_iload_n (q := 1) (i := 1) (pc := 22) hΓ d_M_offersEach_22 rfl rfl ?_
      refine go_iload_n (q := 1) (i := 1) (pc := 23) hΓ d_M_offersEach_23 rfl rfl ?_
      refine go_lload_n (q := 2) (i := 2) (pc := 24) hΓ d_M_offersEach_24 rfl rfl ?_
      refine go_iload (q := 3) (pc := 25) hΓ d_M_offersEach_25 rfl ?_
      refine go_iload (q := 4) (pc := 27) hΓ d_M_offersEach_27 rfl ?_
      refine go_callS (index := 310) emL hΓ hR (g_M_comparedAll N (d + 2) x1 x2 x4 a5) mi_M_comparedAll ml_M_310 d_M_offersEach_29 rfl rfl rfl (fun r4 μ5 => ?_)
      show Go Γ 6 32 [(0, .ref 44), (1, .int x1), (2, .long x2), (4, .int x4), (5, .int a5)] [.long r4, .int x1, .ref 44] μ5 _
      refine go_callV (index := 314) emV hΓ hR (g_M_offers N (d + 0) x1 r4) mi_M_offers ml_M_314 d_M_offersEach_32 rfl rfl rfl rfl rfl (fun _ μ7 => ?_)
      show Go Γ 6 35 [(0, .ref 44), (1, .int x1), (2, .long x2), (4, .int x4), (5, .int a5)] [] μ7 _
      refine go_incI (q := 4) (i := 5) (n := 1) (c := 1) (pc := 35) hΓ d_M_offersEach_35 rfl (by decide) (by decide) (fun v8 => ?_)
      refine go_sub' (lv' := [(5, .int v8), (0, .ref 44), (1, .int x1), (2, .long x2), (4, .int x4)]) rfl ?_
      refine go_goto 15 (pc := 38) hΓ d_M_offersEach_38 (by decide) ?_
      refine go_sub' (lv' := [(0, .ref 44), (1, .int x1), (2, .long x2), (4, .int x4), (5, .int v8)]) rfl ?_
      exact ih v8 μ7
set_option maxHeartbeats 4000000 in
set_option maxRecDepth 100000 in
theorem glp_M_offersEach_3 (N d : Nat) {Γ : Cx Unit} (hΓ : Ok Γ "SortingNetsModel" c_M_offersEach 6) (hT : Rt Γ eV none) (hR : Rm Γ (d + 4)) (x1 : Int32) (x2 : Int64)    (K : Mem → Option (Unit × Mem)) (hK : ∀  (ν : Mem), Go Γ 6 47 [] [] ν (K  ν)) : ∀ (n : Nat) (a4 : Int32) (μ0 : Mem), Go Γ 6 3 [(0, .ref 44), (1, .int x1), (2, .long x2), (4, .int a4)] [] μ0 (lp_M_offersEach_3 N x1 x2 K n a4 μ0) := by
  intro n
  induction n with
  | zero => intro a4 μ0; exact go_none
  | succ n ih =>
    intro a4 μ0
    rw [lp_M_offersEach_3]
    refine go_iload (q := 3) (pc := 3) hΓ d_M_offersEach_3 rfl ?_
    refine go_iload_n (q := 1) (i := 1) (pc := 5) hΓ d_M_offersEach_5 rfl rfl ?_
    refine go_icmp_ge 47 (pc := 6) hΓ d_M_offersEach_6 (by decide) (fun h1 => go_eq (if_neg h1) ?_) (fun h1 => go_eq (if_pos h1) ?_)
    · refine go_sub' (lv' := []) rfl ?_
      exact hK  μ0
    · refine go_iload (q := 3) (pc := 9) hΓ d_M_offersEach_9 rfl ?_
      refine go_iconst (v := 1) (pc := 11) hΓ d_M_offersEach_11 (by decide) ?_
      refine go_iadd (pc := 12) hΓ d_M_offersEach_12 ?_
      refine go_letI (fun v2 => ?_)
      refine go_istore (lv' := [(5, .int v2), (0, .ref 44), (1, .int x1), (2, .long x2), (4, .int a4)]) (pc := 13) hΓ d_M_offersEach_13 (by decide) rfl ?_
      refine go_sub' (lv' := [(0, .ref 44), (1, .int x1), (2, .long x2), (4, .int a4), (5, .int v2)]) rfl ?_
      refine glp_M_offersEach_15 N d hΓ hT hR x1 x2 a4 _ (fun μ9 => ?_) N v2 μ0
      refine go_incI (q := 3) (i := 4) (n := 1) (c := 1) (pc := 41) hΓ d_M_offersEach_41 rfl (by decide) (by decide) (fun v10 => ?_)
      refine go_sub' (lv' := [(4, .int v10), (0, .ref 44), (1, .int x1), (2, .long x2)]) rfl ?_
      refine go_goto 3 (pc := 44) hΓ d_M_offersEach_44 (by decide) ?_
      refine go_sub' (lv' := [(0, .ref 44), (1, .int x1), (2, .long x2), (4, .int v10)]) rfl ?_
      exact ih v10 μ9
set_option maxHeartbeats 4000000 in
set_option maxRecDepth 100000 in
theorem g_M_offersEach (N d : Nat) (x1 : Int32) (x2 : Int64)  : CallF eV y_M_offersEach c_M_offersEach 6 none (d + 4 + 1) [.ref 44, .int x1, .long x2] (f_M_offersEach N x1 x2) := by
  refine call_of (d := d + 4) (n := 2) mi_M_offersEach.1 (fun _ => rfl) ?_
  intro Γ μ0 hΓ hT hR
  show Go Γ 6 0 [(0, .ref 44), (1, .int x1), (2, .long x2)] [] μ0 (f_M_offersEach N x1 x2 μ0)
  unfold f_M_offersEach
  refine go_iconst (v := 0) (pc := 0) hΓ d_M_offersEach_0 (by decide) ?_
  refine go_istore (lv' := [(4, .int 0), (0, .ref 44), (1, .int x1), (2, .long x2)]) (pc := 1) hΓ d_M_offersEach_1 (by decide) rfl ?_
  refine go_sub' (lv' := [(0, .ref 44), (1, .int x1), (2, .long x2), (4, .int 0)]) rfl ?_
  refine glp_M_offersEach_3 N d hΓ hT hR x1 x2 _ (fun μ11 => ?_) N 0 μ0
  exact go_vret (pc := 47) hΓ hT d_M_offersEach_47
def lp_M_fewest_38 (N : Nat) (x1 : Int32) (x2 : Int32)  (K : Mem → Option (Int32 × Mem)) : Nat → Int32 → Mem → Option (Int32 × Mem)
  | 0, _, _ => none
  | n + 1, a3, μ0 => if a3 < (gI μ0 44 29) then (lt' (fun (μ12 : Mem) => lt' (a3 + 1) fun v13 => lp_M_fewest_38 N x1 x2 K n v13 μ12) fun (k11 : Mem → Option (Int32 × Mem)) => if x2 = 0 then (ck (isK (gR μ0 44 27)) (ck (inb a3 2000) (bnd (f_M_offersEach N x1 (gL μ0 (gR μ0 44 27) (tn a3)) μ0) fun _ μ18 => k11 μ18))) else (ck (isK (gR μ0 44 27)) (ck (inb a3 2000) (bnd (f_M_offersLayers N x1 (gL μ0 (gR μ0 44 27) (tn a3)) μ0) fun _ μ22 => k11 μ22)))) else (K  μ0)
def lp_M_fewest_23 (N : Nat) (x1 : Int32) (x2 : Int32)  (K : Mem → Option (Int32 × Mem)) : Nat → Mem → Option (Int32 × Mem)
  | 0, _ => none
  | n + 1, μ0 => bnd (f_M_isDone N x1 μ0) fun r6 μ7 => if r6 = 0 then (lt' (sI μ7 44 30 0) fun μ9 => lp_M_fewest_38 N x1 x2 (fun μ23 => ck (isK (gR μ23 44 27)) (ck (isK (gR μ23 44 28)) (lt' (sR μ23 44 27 (gR μ23 44 28)) fun μ26 => lt' (sR μ26 44 28 (gR μ23 44 27)) fun μ27 => lt' (sI μ27 44 29 (gI μ27 44 30)) fun μ28 => bnd (f_M_enters N (Int32.toInt64 (gI μ28 44 29)) μ28) fun _ μ30 => lp_M_fewest_23 N x1 x2 K n  μ30))) N 0 μ9) else (K  μ7)
def f_M_fewest (N : Nat) (x1 : Int32) (x2 : Int32) (μ0 : Mem) : Option (Int32 × Mem) :=
  ck (isK (gR μ0 44 27)) (ck (inb 0 2000) (lt' (sL μ0 (gR μ0 44 27) (tn 0) ((shlL 1 (shlI 1 x1)) - 1)) fun μ3 => lt' (sI μ3 44 29 1) fun μ4 => lt' (sI μ4 44 1 0) fun μ5 => lp_M_fewest_23 N x1 x2 (fun μ31 => some (gI μ31 44 1, μ31)) N  μ5))
set_option maxHeartbeats 4000000 in
set_option maxRecDepth 100000 in
theorem glp_M_fewest_38 (N d : Nat) {Γ : Cx Int32} (hΓ : Ok Γ "SortingNetsModel" c_M_fewest 4) (hT : Rt Γ eI (some .int)) (hR : Rm Γ (d + 5)) (x1 : Int32) (x2 : Int32)    (K : Mem → Option (Int32 × Mem)) (hK : ∀  (ν : Mem), Go Γ 4 81 [(0, .ref 44), (1, .int x1), (2, .int x2)] [] ν (K  ν)) : ∀ (n : Nat) (a3 : Int32) (μ0 : Mem), Go Γ 4 38 [(0, .ref 44), (1, .int x1), (2, .int x2), (3, .int a3)] [] μ0 (lp_M_fewest_38 N x1 x2 K n a3 μ0) := by
  intro n
  induction n with
  | zero => intro a3 μ0; exact go_none
  | succ n ih =>
    intro a3 μ0
    rw [lp_M_fewest_38]
    refine go_iload_n (q := 3) (i := 3) (pc := 38) hΓ d_M_fewest_38 rfl rfl ?_
    refine go_aload_n (q := 0) (i := 0) (pc := 39) hΓ d_M_fewest_39 rfl rfl ?_
    refine go_getI (pc := 40) hΓ fl_M_322 d_M_fewest_40 rfl rfl ?_
    refine go_icmp_ge 81 (pc := 43) hΓ d_M_fewest_43 (by decide) (fun h10 => go_eq (if_neg h10) ?_) (fun h10 => go_eq (if_pos h10) ?_)
    · refine go_sub' (lv' := [(0, .ref 44), (1, .int x1), (2, .int x2)]) rfl ?_
      exact hK  μ0
    · refine go_iload_n (q := 2) (i := 2) (pc := 46) hΓ d_M_fewest_46 rfl rfl ?_
      refine go_join (fun (k11 : Mem → Option (Int32 × Mem)) => ∀ (μ12 : Mem), Go Γ 4 75 [(0, .ref 44), (1, .int x1), (2, .int x2), (3, .int a3)] [] μ12 (k11 μ12)) ?_ (fun k11 k11h => ?_)
      · intro μ12
        refine go_incI (q := 3) (i := 3) (n := 1) (c := 1) (pc := 75) hΓ d_M_fewest_75 rfl (by decide) (by decide) (fun v13 => ?_)
        refine go_sub' (lv' := [(3, .int v13), (0, .ref 44), (1, .int x1), (2, .int x2)]) rfl ?_
        refine go_goto 38 (pc := 78) hΓ d_M_fewest_78 (by decide) ?_
        refine go_sub' (lv' := [(0, .ref 44), (1, .int x1), (2, .int x2), (3, .int v13)]) rfl ?_
        exact ih v13 μ12
      · refine go_if_eq 64 (pc := 47) hΓ d_M_fewest_47 (by decide) (fun h14 => go_eq (if_pos h14) ?_) (fun h14 => go_eq (if_neg h14) ?_)
        · refine go_aload_n (q := 0) (i := 0) (pc := 64) hΓ d_M_fewest_64 rfl rfl ?_
          refine go_iload_n (q := 1) (i := 1) (pc := 65) hΓ d_M_fewest_65 rfl rfl ?_
          refine go_aload_n (q := 0) (i := 0) (pc := 66) hΓ d_M_fewest_66 rfl rfl ?_
          refine go_ck (fun h15 => ?_)
          refine go_getD (pc := 67) hΓ fl_M_60 d_M_fewest_67 rfl rfl ?_
          refine go_iload_n (q := 3) (i := 3) (pc := 70) hΓ d_M_fewest_70 rfl rfl ?_
          refine go_ck (fun h16 => ?_)
          refine go_lald (pc := 71) hΓ d_M_fewest_71 (isK_sh h15) h16 ?_
          refine go_callV (index := 331) emV hΓ hR (g_M_offersEach N (d + 0) x1 (gL μ0 (gR μ0 44 27) (tn a3))) mi_M_offersEach ml_M_331 d_M_fewest_72 rfl rfl rfl rfl rfl (fun _ μ18 => ?_)
          show Go Γ 4 75 [(0, .ref 44), (1, .int x1), (2, .int x2), (3, .int a3)] [] μ18 _
          refine go_sub' (lv' := [(0, .ref 44), (1, .int x1), (2, .int x2), (3, .int a3)]) rfl ?_
          exact k11h μ18
        · refine go_aload_n (q := 0) (i := 0) (pc := 50) hΓ d_M_fewest_50 rfl rfl ?_
          refine go_iload_n (q := 1) (i := 1) (pc := 51) hΓ d_M_fewest_51 rfl rfl ?_
          refine go_aload_n (q := 0) (i := 0) (pc := 52) hΓ d_M_fewest_52 rfl rfl ?_
          refine go_ck (fun h19 => ?_)
          refine go_getD (pc := 53) hΓ fl_M_60 d_M_fewest_53 rfl rfl ?_
          refine go_iload_n (q := 3) (i := 3) (pc := 56) hΓ d_M_fewest_56 rfl rfl ?_
          refine go_ck (fun h20 => ?_)
          refine go_lald (pc := 57) hΓ d_M_fewest_57 (isK_sh h19) h20 ?_
          refine go_callV (index := 328) emV hΓ hR (g_M_offersLayers N (d + 0) x1 (gL μ0 (gR μ0 44 27) (tn a3))) mi_M_offersLayers ml_M_328 d_M_fewest_58 rfl rfl rfl rfl rfl (fun _ μ22 => ?_)
          show Go Γ 4 61 [(0, .ref 44), (1, .int x1), (2, .int x2), (3, .int a3)] [] μ22 _
          refine go_goto 75 (pc := 61) hΓ d_M_fewest_61 (by decide) ?_
          refine go_sub' (lv' := [(0, .ref 44), (1, .int x1), (2, .int x2), (3, .int a3)]) rfl ?_
          exact k11h μ22
set_option maxHeartbeats 4000000 in
set_option maxRecDepth 100000 in
theorem glp_M_fewest_23 (N d : Nat) {Γ : Cx Int32} (hΓ : Ok Γ "SortingNetsModel" c_M_fewest 4) (hT : Rt Γ eI (some .int)) (hR : Rm Γ (d + 5)) (x1 : Int32) (x2 : Int32)    (K : Mem → Option (Int32 × Mem)) (hK : ∀  (ν : Mem), Go Γ 4 119 [(0, .ref 44)] [] ν (K  ν)) : ∀ (n : Nat)  (μ0 : Mem), Go Γ 4 23 [(0, .ref 44), (1, .int x1), (2, .int x2)] [] μ0 (lp_M_fewest_23 N x1 x2 K n  μ0) := by
  intro n
  induction n with
  | zero => intro  μ0; exact go_none
  | succ n ih =>
    intro  μ0
    rw [lp_M_fewest_23]
    refine go_aload_n (q := 0) (i := 0) (pc := 23) hΓ d_M_fewest_23 rfl rfl ?_
    refine go_iload_n (q := 1) (i := 1) (pc := 24) hΓ d_M_fewest_24 rfl rfl ?_
    refine go_callV (index := 325) emI hΓ hR (g_M_isDone N (d + 2) x1) mi_M_isDone ml_M_325 d_M_fewest_25 rfl rfl rfl rfl rfl (fun r6 μ7 => ?_)
    show Go Γ 4 28 [(0, .ref 44), (1, .int x1), (2, .int x2)] [.int r6] μ7 _
    refine go_if_ne 119 (pc := 28) hΓ d_M_fewest_28 (by decide) (fun h8 => go_eq (if_neg h8) ?_) (fun h8 => go_eq (if_pos h8) ?_)
    · refine go_sub' (lv' := [(0, .ref 44)]) rfl ?_
      exact hK  μ7
    · refine go_aload_n (q := 0) (i := 0) (pc := 31) hΓ d_M_fewest_31 rfl rfl ?_
      refine go_iconst (v := 0) (pc := 32) hΓ d_M_fewest_32 (by decide) ?_
      refine go_putI (pc := 33) hΓ fp_M_307 d_M_fewest_33 rfl rfl ?_
      refine go_letM (fun μ9 => ?_)
      refine go_iconst (v := 0) (pc := 36) hΓ d_M_fewest_36 (by decide) ?_
      refine go_istore_n (i := 3) (lv' := [(3, .int 0), (0, .ref 44), (1, .int x1), (2, .int x2)]) (pc := 37) hΓ d_M_fewest_37 rfl (by decide) rfl ?_
      refine go_sub' (lv' := [(0, .ref 44), (1, .int x1), (2, .int x2), (3, .int 0)]) rfl ?_
      refine glp_M_fewest_38 N d hΓ hT hR x1 x2 _ (fun μ23 => ?_) N 0 μ9
      refine go_aload_n (q := 0) (i := 0) (pc := 81) hΓ d_M_fewest_81 rfl rfl ?_
      refine go_ck (fun h24 => ?_)
      refine go_getD (pc := 82) hΓ fl_M_60 d_M_fewest_82 rfl rfl ?_
      refine go_astore_n (i := 3) (lv' := [(3, .ref (gR μ23 44 27)), (0, .ref 44), (1, .int x1), (2, .int x2)]) (pc := 85) hΓ d_M_fewest_85 rfl (by decide) rfl ?_
      refine go_aload_n (q := 1) (i := 0) (pc := 86) hΓ d_M_fewest_86 rfl rfl ?_
      refine go_aload_n (q := 1) (i := 0) (pc := 87) hΓ d_M_fewest_87 rfl rfl ?_
      refine go_ck (fun h25 => ?_)
      refine go_getD (pc := 88) hΓ fl_M_63 d_M_fewest_88 rfl rfl ?_
      refine go_putD (pc := 91) hΓ fp_M_60 d_M_fewest_91 rfl rfl ?_
      refine go_letM (fun μ26 => ?_)
      refine go_aload_n (q := 1) (i := 0) (pc := 94) hΓ d_M_fewest_94 rfl rfl ?_
      refine go_aload_n (q := 0) (i := 3) (pc := 95) hΓ d_M_fewest_95 rfl rfl ?_
      refine go_putD (pc := 96) hΓ fp_M_63 d_M_fewest_96 rfl rfl ?_
      refine go_letM (fun μ27 => ?_)
      refine go_aload_n (q := 1) (i := 0) (pc := 99) hΓ d_M_fewest_99 rfl rfl ?_
      refine go_aload_n (q := 1) (i := 0) (pc := 100) hΓ d_M_fewest_100 rfl rfl ?_
      refine go_getI (pc := 101) hΓ fl_M_307 d_M_fewest_101 rfl rfl ?_
      refine go_putI (pc := 104) hΓ fp_M_322 d_M_fewest_104 rfl rfl ?_
      refine go_letM (fun μ28 => ?_)
      refine go_aload_n (q := 1) (i := 0) (pc := 107) hΓ d_M_fewest_107 rfl rfl ?_
      refine go_aload_n (q := 1) (i := 0) (pc := 108) hΓ d_M_fewest_108 rfl rfl ?_
      refine go_getI (pc := 109) hΓ fl_M_322 d_M_fewest_109 rfl rfl ?_
      refine go_i2l (pc := 112) hΓ d_M_fewest_112 ?_
      refine go_callV (index := 76) emV hΓ hR (g_M_enters N (d + 4) (Int32.toInt64 (gI μ28 44 29))) mi_M_enters ml_M_76 d_M_fewest_113 rfl rfl rfl rfl rfl (fun _ μ30 => ?_)
      show Go Γ 4 116 [(3, .ref (gR μ23 44 27)), (0, .ref 44), (1, .int x1), (2, .int x2)] [] μ30 _
      refine go_goto 23 (pc := 116) hΓ d_M_fewest_116 (by decide) ?_
      refine go_sub' (lv' := [(0, .ref 44), (1, .int x1), (2, .int x2)]) rfl ?_
      exact ih  μ30
set_option maxHeartbeats 4000000 in
set_option maxRecDepth 100000 in
theorem g_M_fewest (N d : Nat) (x1 : Int32) (x2 : Int32)  : CallF eI y_M_fewest c_M_fewest 4 (some .int) (d + 5 + 1) [.ref 44, .int x1, .int x2] (f_M_fewest N x1 x2) := by
  refine call_of (d := d + 5) (n := 2) mi_M_fewest.1 (fun _ => rfl) ?_
  intro Γ μ0 hΓ hT hR
  show Go Γ 4 0 [(0, .ref 44), (1, .int x1), (2, .int x2)] [] μ0 (f_M_fewest N x1 x2 μ0)
  unfold f_M_fewest
  refine go_aload_n (q := 0) (i := 0) (pc := 0) hΓ d_M_fewest_0 rfl rfl ?_
  refine go_ck (fun h1 => ?_)
  refine go_getD (pc := 1) hΓ fl_M_60 d_M_fewest_1 rfl rfl ?_
  refine go_iconst (v := 0) (pc := 4) hΓ d_M_fewest_4 (by decide) ?_
  refine go_lconst (v := 1) (pc := 5) hΓ d_M_fewest_5 (by decide) ?_
  refine go_iconst (v := 1) (pc := 6) hΓ d_M_fewest_6 (by decide) ?_
  refine go_iload_n (q := 1) (i := 1) (pc := 7) hΓ d_M_fewest_7 rfl rfl ?_
  refine go_ishl (pc := 8) hΓ d_M_fewest_8 ?_
  refine go_lshl (pc := 9) hΓ d_M_fewest_9 ?_
  refine go_lconst (v := 1) (pc := 10) hΓ d_M_fewest_10 (by decide) ?_
  refine go_lsub (pc := 11) hΓ d_M_fewest_11 ?_
  refine go_ck (fun h2 => ?_)
  refine go_last (pc := 12) hΓ d_M_fewest_12 (isK_sh h1) h2 ?_
  refine go_letM (fun μ3 => ?_)
  refine go_aload_n (q := 0) (i := 0) (pc := 13) hΓ d_M_fewest_13 rfl rfl ?_
  refine go_iconst (v := 1) (pc := 14) hΓ d_M_fewest_14 (by decide) ?_
  refine go_putI (pc := 15) hΓ fp_M_322 d_M_fewest_15 rfl rfl ?_
  refine go_letM (fun μ4 => ?_)
  refine go_aload_n (q := 0) (i := 0) (pc := 18) hΓ d_M_fewest_18 rfl rfl ?_
  refine go_iconst (v := 0) (pc := 19) hΓ d_M_fewest_19 (by decide) ?_
  refine go_putI (pc := 20) hΓ fp_M_73 d_M_fewest_20 rfl rfl ?_
  refine go_letM (fun μ5 => ?_)
  refine go_sub' (lv' := [(0, .ref 44), (1, .int x1), (2, .int x2)]) rfl ?_
  refine glp_M_fewest_23 N d hΓ hT hR x1 x2 _ (fun μ31 => ?_) N  μ5
  refine go_aload_n (q := 0) (i := 0) (pc := 119) hΓ d_M_fewest_119 rfl rfl ?_
  refine go_getI (pc := 120) hΓ fl_M_73 d_M_fewest_120 rfl rfl ?_
  exact go_iret (pc := 123) hΓ hT d_M_fewest_123
def f_M_least (N : Nat) (x1 : Int32) (μ0 : Mem) : Option (Int32 × Mem) :=
  lt' (sI μ0 44 0 0) fun μ1 => bnd (f_M_in N (Int32.toInt64 x1) 1 5 μ1) fun r2 μ3 => if r2 = 0 then (some ((-1), μ3)) else (bnd (f_M_fewest N x1 0 μ3) fun r5 μ6 => some (r5, μ6))
set_option maxHeartbeats 4000000 in
set_option maxRecDepth 100000 in
theorem g_M_least (N d : Nat) (x1 : Int32)  : CallF eI y_M_least c_M_least 2 (some .int) (d + 6 + 1) [.ref 44, .int x1] (f_M_least N x1) := by
  refine call_of (d := d + 6) (n := 1) mi_M_least.1 (fun _ => rfl) ?_
  intro Γ μ0 hΓ hT hR
  show Go Γ 2 0 [(0, .ref 44), (1, .int x1)] [] μ0 (f_M_least N x1 μ0)
  unfold f_M_least
  refine go_aload_n (q := 0) (i := 0) (pc := 0) hΓ d_M_least_0 rfl rfl ?_
  refine go_iconst (v := 0) (pc := 1) hΓ d_M_least_1 (by decide) ?_
  refine go_putI (pc := 2) hΓ fp_M_69 d_M_least_2 rfl rfl ?_
  refine go_letM (fun μ1 => ?_)
  refine go_iload_n (q := 1) (i := 1) (pc := 5) hΓ d_M_least_5 rfl rfl ?_
  refine go_i2l (pc := 6) hΓ d_M_least_6 ?_
  refine go_lconst (v := 1) (pc := 7) hΓ d_M_least_7 (by decide) ?_
  refine go_ldc2 (v := 5) (pc := 8) hΓ (tb_6 (List.mem_of_getElem? (i := 49) rfl) rfl) d_M_least_8 ?_
  refine go_callS (index := 82) emI hΓ hR (g_M_in N (d + 5) (Int32.toInt64 x1) 1 5) mi_M_in ml_M_82 d_M_least_11 rfl rfl rfl (fun r2 μ3 => ?_)
  show Go Γ 2 14 [(0, .ref 44), (1, .int x1)] [.int r2] μ3 _
  refine go_if_eq 26 (pc := 14) hΓ d_M_least_14 (by decide) (fun h4 => go_eq (if_pos h4) ?_) (fun h4 => go_eq (if_neg h4) ?_)
  · refine go_iconst (v := -1) (pc := 26) hΓ d_M_least_26 (by decide) ?_
    exact go_iret (pc := 27) hΓ hT d_M_least_27
  · refine go_aload_n (q := 0) (i := 0) (pc := 17) hΓ d_M_least_17 rfl rfl ?_
    refine go_iload_n (q := 1) (i := 1) (pc := 18) hΓ d_M_least_18 rfl rfl ?_
    refine go_iconst (v := 0) (pc := 19) hΓ d_M_least_19 (by decide) ?_
    refine go_callV (index := 336) emI hΓ hR (g_M_fewest N (d + 0) x1 0) mi_M_fewest ml_M_336 d_M_least_20 rfl rfl rfl rfl rfl (fun r5 μ6 => ?_)
    show Go Γ 2 23 [(0, .ref 44), (1, .int x1)] [.int r5] μ6 _
    refine go_goto 27 (pc := 23) hΓ d_M_least_23 (by decide) ?_
    exact go_iret (pc := 27) hΓ hT d_M_least_27
def f_M_shallow (N : Nat) (x1 : Int32) (μ0 : Mem) : Option (Int32 × Mem) :=
  lt' (sI μ0 44 0 0) fun μ1 => bnd (f_M_in N (Int32.toInt64 x1) 1 5 μ1) fun r2 μ3 => if r2 = 0 then (some ((-1), μ3)) else (bnd (f_M_fewest N x1 1 μ3) fun r5 μ6 => some (r5, μ6))
set_option maxHeartbeats 4000000 in
set_option maxRecDepth 100000 in
theorem g_M_shallow (N d : Nat) (x1 : Int32)  : CallF eI y_M_shallow c_M_shallow 2 (some .int) (d + 6 + 1) [.ref 44, .int x1] (f_M_shallow N x1) := by
  refine call_of (d := d + 6) (n := 1) mi_M_shallow.1 (fun _ => rfl) ?_
  intro Γ μ0 hΓ hT hR
  show Go Γ 2 0 [(0, .ref 44), (1, .int x1)] [] μ0 (f_M_shallow N x1 μ0)
  unfold f_M_shallow
  refine go_aload_n (q := 0) (i := 0) (pc := 0) hΓ d_M_shallow_0 rfl rfl ?_
  refine go_iconst (v := 0) (pc := 1) hΓ d_M_shallow_1 (by decide) ?_
  refine go_putI (pc := 2) hΓ fp_M_69 d_M_shallow_2 rfl rfl ?_
  refine go_letM (fun μ1 => ?_)
  refine go_iload_n (q := 1) (i := 1) (pc := 5) hΓ d_M_shallow_5 rfl rfl ?_
  refine go_i2l (pc := 6) hΓ d_M_shallow_6 ?_
  refine go_lconst (v := 1) (pc := 7) hΓ d_M_shallow_7 (by decide) ?_
  refine go_ldc2 (v := 5) (pc := 8) hΓ (tb_6 (List.mem_of_getElem? (i := 49) rfl) rfl) d_M_shallow_8 ?_
  refine go_callS (index := 82) emI hΓ hR (g_M_in N (d + 5) (Int32.toInt64 x1) 1 5) mi_M_in ml_M_82 d_M_shallow_11 rfl rfl rfl (fun r2 μ3 => ?_)
  show Go Γ 2 14 [(0, .ref 44), (1, .int x1)] [.int r2] μ3 _
  refine go_if_eq 26 (pc := 14) hΓ d_M_shallow_14 (by decide) (fun h4 => go_eq (if_pos h4) ?_) (fun h4 => go_eq (if_neg h4) ?_)
  · refine go_iconst (v := -1) (pc := 26) hΓ d_M_shallow_26 (by decide) ?_
    exact go_iret (pc := 27) hΓ hT d_M_shallow_27
  · refine go_aload_n (q := 0) (i := 0) (pc := 17) hΓ d_M_shallow_17 rfl rfl ?_
    refine go_iload_n (q := 1) (i := 1) (pc := 18) hΓ d_M_shallow_18 rfl rfl ?_
    refine go_iconst (v := 1) (pc := 19) hΓ d_M_shallow_19 (by decide) ?_
    refine go_callV (index := 336) emI hΓ hR (g_M_fewest N (d + 0) x1 1) mi_M_fewest ml_M_336 d_M_shallow_20 rfl rfl rfl rfl rfl (fun r5 μ6 => ?_)
    show Go Γ 2 23 [(0, .ref 44), (1, .int x1)] [.int r5] μ6 _
    refine go_goto 27 (pc := 23) hΓ d_M_shallow_23 (by decide) ?_
    exact go_iret (pc := 27) hΓ hT d_M_shallow_27
def lp_M_canBe_41 (N : Nat) (x1 : Int32) (x2 : Int64) (x4 : Int32) (x5 : Int32) (x6 : Int32) (F : Int32 → Int64 → Int32 → Int32 → Mem → Option (Int32 × Mem)) (K : Mem → Option (Int32 × Mem)) : Nat → Int32 → Mem → Option (Int32 × Mem)
  | 0, _, _ => none
  | n + 1, a7, μ0 => if a7 < x1 then (ck (inb x4 8) (lt' (sI μ0 63 (tn x4) ((10 * x6) + a7)) fun μ9 => bnd (f_M_comparedAll N x1 x2 x6 a7 μ9) fun r10 μ11 => bnd (F x1 r10 (x4 + 1) (x5 - 1) μ11) fun r12 μ13 => if r12 = 0 then (lt' (a7 + 1) fun v15 => lp_M_canBe_41 N x1 x2 x4 x5 x6 F K n v15 μ13) else (some (1, μ13)))) else (K  μ0)
def lp_M_canBe_24 (N : Nat) (x1 : Int32) (x2 : Int64) (x4 : Int32) (x5 : Int32) (F : Int32 → Int64 → Int32 → Int32 → Mem → Option (Int32 × Mem)) (K : Mem → Option (Int32 × Mem)) : Nat → Int32 → Mem → Option (Int32 × Mem)
  | 0, _, _ => none
  | n + 1, a6, μ0 => if a6 < x1 then (if 0 < x5 then (lt' (a6 + 1) fun v6 => lp_M_canBe_41 N x1 x2 x4 x5 a6 F (fun μ16 => lt' (a6 + 1) fun v17 => lp_M_canBe_24 N x1 x2 x4 x5 F K n v17 μ16) N v6 μ0) else (K  μ0)) else (K  μ0)
def f_M_canBe (N : Nat) : Nat → Int32 → Int64 → Int32 → Int32 → Mem → Option (Int32 × Mem)
  | 0, _, _, _, _, _ => none
  | D + 1, x1, x2, x4, x5, μ0 => bnd (f_M_bits N x2 μ0) fun r1 μ2 => if r1 = (x1 + 1) then (if x5 = 0 then (some (1, μ2)) else (some (0, μ2))) else (lp_M_canBe_24 N x1 x2 x4 x5 (f_M_canBe N D) (fun μ18 => some (0, μ18)) N 0 μ2)
set_option maxHeartbeats 4000000 in
set_option maxRecDepth 100000 in
theorem glp_M_canBe_41 (N d D : Nat) {Γ : Cx Int32} (hΓ : Ok Γ "SortingNetsModel" c_M_canBe 8) (hT : Rt Γ eI (some .boolean)) (hR : Rm Γ (d + D + 2)) (x1 : Int32) (x2 : Int64) (x4 : Int32) (x5 : Int32) (x6 : Int32)  (F : Int32 → Int64 → Int32 → Int32 → Mem → Option (Int32 × Mem)) (hF : ∀ (x1 : Int32) (x2 : Int64) (x4 : Int32) (x5 : Int32), CallF eI y_M_canBe c_M_canBe 8 (some .boolean) (d + D + 2) [.ref 44, .int x1, .long x2, .int x4, .int x5] (F x1 x2 x4 x5)) (K : Mem → Option (Int32 × Mem)) (hK : ∀  (ν : Mem), Go Γ 8 95 [(0, .ref 44), (1, .int x1), (2, .long x2), (4, .int x4), (5, .int x5), (6, .int x6)] [] ν (K  ν)) : ∀ (n : Nat) (a7 : Int32) (μ0 : Mem), Go Γ 8 41 [(0, .ref 44), (1, .int x1), (2, .long x2), (4, .int x4), (5, .int x5), (6, .int x6), (7, .int a7)] [] μ0 (lp_M_canBe_41 N x1 x2 x4 x5 x6 F K n a7 μ0) := by
  intro n
  induction n with
  | zero => intro a7 μ0; exact go_none
  | succ n ih =>
    intro a7 μ0
    rw [lp_M_canBe_41]
    refine go_iload (q := 6) (pc := 41) hΓ d_M_canBe_41 rfl ?_
    refine go_iload_n (q := 1) (i := 1) (pc := 43) hΓ d_M_canBe_43 rfl rfl ?_
    refine go_icmp_ge 95 (pc := 44) hΓ d_M_canBe_44 (by decide) (fun h7 => go_eq (if_neg h7) ?_) (fun h7 => go_eq (if_pos h7) ?_)
    · refine go_sub' (lv' := [(0, .ref 44), (1, .int x1), (2, .long x2), (4, .int x4), (5, .int x5), (6, .int x6)]) rfl ?_
      exact hK  μ0
    · refine go_aload_n (q := 0) (i := 0) (pc := 47) hΓ d_M_canBe_47 rfl rfl ?_
      refine go_getR (q := 63) (pc := 48) hΓ fl_M_66 d_M_canBe_48 rfl rfl ?_
      refine go_iload (q := 3) (pc := 51) hΓ d_M_canBe_51 rfl ?_
      refine go_bipush (v := 10) (pc := 53) hΓ d_M_canBe_53 (by decide) ?_
      refine go_iload (q := 5) (pc := 55) hΓ d_M_canBe_55 rfl ?_
      refine go_imul (pc := 57) hΓ d_M_canBe_57 ?_
      refine go_iload (q := 6) (pc := 58) hΓ d_M_canBe_58 rfl ?_
      refine go_iadd (pc := 60) hΓ d_M_canBe_60 ?_
      refine go_ck (fun h8 => ?_)
      refine go_iast (pc := 61) hΓ d_M_canBe_61 rfl h8 ?_
      refine go_letM (fun μ9 => ?_)
      refine go_aload_n (q := 0) (i := 0) (pc := 62) hΓ d_M_canBe_62 rfl rfl ?_
      refine go_iload_n (q := 1) (i := 1) (pc := 63) hΓ d_M_canBe_63 rfl rfl ?_
      refine go_iload_n (q := 1) (i := 1) (pc := 64) hΓ d_M_canBe_64 rfl rfl ?_
      refine go_lload_n (q := 2) (i := 2) (pc := 65) hΓ d_M_canBe_65 rfl rfl ?_
      refine go_iload (q := 5) (pc := 66) hΓ d_M_canBe_66 rfl ?_
      refine go_iload (q := 6) (pc := 68) hΓ d_M_canBe_68 rfl ?_
      refine go_callS (index := 310) emL hΓ hR (g_M_comparedAll N (d + D + 0) x1 x2 x6 a7) mi_M_comparedAll ml_M_310 d_M_canBe_70 rfl rfl rfl (fun r10 μ11 => ?_)
      show Go Γ 8 73 [(0, .ref 44), (1, .int x1), (2, .long x2), (4, .int x4), (5, .int x5), (6, .int x6), (7, .int a7)] [.long r10, .int x1, .ref 44] μ11 _
      refine go_iload (q := 3) (pc := 73) hΓ d_M_canBe_73 rfl ?_
      refine go_iconst (v := 1) (pc := 75) hΓ d_M_canBe_75 (by decide) ?_
      refine go_iadd (pc := 76) hΓ d_M_canBe_76 ?_
      refine go_iload (q := 4) (pc := 77) hΓ d_M_canBe_77 rfl ?_
      refine go_iconst (v := 1) (pc := 79) hΓ d_M_canBe_79 (by decide) ?_
      refine go_isub (pc := 80) hΓ d_M_canBe_80 ?_
      refine go_callV (index := 340) emI hΓ hR (hF x1 r10 (x4 + 1) (x5 - 1)) mi_M_canBe ml_M_340 d_M_canBe_81 rfl rfl rfl rfl rfl (fun r12 μ13 => ?_)
      show Go Γ 8 84 [(0, .ref 44), (1, .int x1), (2, .long x2), (4, .int x4), (5, .int x5), (6, .int x6), (7, .int a7)] [.int r12] μ13 _
      refine go_if_eq 89 (pc := 84) hΓ d_M_canBe_84 (by decide) (fun h14 => go_eq (if_pos h14) ?_) (fun h14 => go_eq (if_neg h14) ?_)
      · refine go_incI (q := 6) (i := 7) (n := 1) (c := 1) (pc := 89) hΓ d_M_canBe_89 rfl (by decide) (by decide) (fun v15 => ?_)
        refine go_sub' (lv' := [(7, .int v15), (0, .ref 44), (1, .int x1), (2, .long x2), (4, .int x4), (5, .int x5), (6, .int x6)]) rfl ?_
        refine go_goto 41 (pc := 92) hΓ d_M_canBe_92 (by decide) ?_
        refine go_sub' (lv' := [(0, .ref 44), (1, .int x1), (2, .long x2), (4, .int x4), (5, .int x5), (6, .int x6), (7, .int v15)]) rfl ?_
        exact ih v15 μ13
      · refine go_iconst (v := 1) (pc := 87) hΓ d_M_canBe_87 (by decide) ?_
        exact go_zret (pc := 88) hΓ hT d_M_canBe_88 rfl
set_option maxHeartbeats 4000000 in
set_option maxRecDepth 100000 in
theorem glp_M_canBe_24 (N d D : Nat) {Γ : Cx Int32} (hΓ : Ok Γ "SortingNetsModel" c_M_canBe 8) (hT : Rt Γ eI (some .boolean)) (hR : Rm Γ (d + D + 2)) (x1 : Int32) (x2 : Int64) (x4 : Int32) (x5 : Int32)  (F : Int32 → Int64 → Int32 → Int32 → Mem → Option (Int32 × Mem)) (hF : ∀ (x1 : Int32) (x2 : Int64) (x4 : Int32) (x5 : Int32), CallF eI y_M_canBe c_M_canBe 8 (some .boolean) (d + D + 2) [.ref 44, .int x1, .long x2, .int x4, .int x5] (F x1 x2 x4 x5)) (K : Mem → Option (Int32 × Mem)) (hK : ∀  (ν : Mem), Go Γ 8 101 [] [] ν (K  ν)) : ∀ (n : Nat) (a6 : Int32) (μ0 : Mem), Go Γ 8 24 [(0, .ref 44), (1, .int x1), (2, .long x2), (4, .int x4), (5, .int x5), (6, .int a6)] [] μ0 (lp_M_canBe_24 N x1 x2 x4 x5 F K n a6 μ0) := by
  intro n
  induction n with
  | zero => intro a6 μ0; exact go_none
  | succ n ih =>
    intro a6 μ0
    rw [lp_M_canBe_24]
    refine go_iload (q := 5) (pc := 24) hΓ d_M_canBe_24 rfl ?_
    refine go_iload_n (q := 1) (i := 1) (pc := 26) hΓ d_M_canBe_26 rfl rfl ?_
    refine go_icmp_ge 101 (pc := 27) hΓ d_M_canBe_27 (by decide) (fun h4 => go_eq (if_neg h4) ?_) (fun h4 => go_eq (if_pos h4) ?_)
    · refine go_sub' (lv' := []) rfl ?_
      exact hK  μ0
    · refine go_iload (q := 4) (pc := 30) hΓ d_M_canBe_30 rfl ?_
      refine go_if_le 101 (pc := 32) hΓ d_M_canBe_32 (by decide) (fun h5 => go_eq (if_neg h5) ?_) (fun h5 => go_eq (if_pos h5) ?_)
      · refine go_sub' (lv' := []) rfl ?_
        exact hK  μ0
      · refine go_iload (q := 5) (pc := 35) hΓ d_M_canBe_35 rfl ?_
        refine go_iconst (v := 1) (pc := 37) hΓ d_M_canBe_37 (by decide) ?_
        refine go_iadd (pc := 38) hΓ d_M_canBe_38 ?_
        refine go_letI (fun v6 => ?_)
        refine go_istore (lv' := [(7, .int v6), (0, .ref 44), (1, .int x1), (2, .long x2), (4, .int x4), (5, .int x5), (6, .int a6)]) (pc := 39) hΓ d_M_canBe_39 (by decide) rfl ?_
        refine go_sub' (lv' := [(0, .ref 44), (1, .int x1), (2, .long x2), (4, .int x4), (5, .int x5), (6, .int a6), (7, .int v6)]) rfl ?_
        refine glp_M_canBe_41 N d D hΓ hT hR x1 x2 x4 x5 a6 _ hF _ (fun μ16 => ?_) N v6 μ0
        refine go_incI (q := 5) (i := 6) (n := 1) (c := 1) (pc := 95) hΓ d_M_canBe_95 rfl (by decide) (by decide) (fun v17 => ?_)
        refine go_sub' (lv' := [(6, .int v17), (0, .ref 44), (1, .int x1), (2, .long x2), (4, .int x4), (5, .int x5)]) rfl ?_
        refine go_goto 24 (pc := 98) hΓ d_M_canBe_98 (by decide) ?_
        refine go_sub' (lv' := [(0, .ref 44), (1, .int x1), (2, .long x2), (4, .int x4), (5, .int x5), (6, .int v17)]) rfl ?_
        exact ih v17 μ16
set_option maxHeartbeats 4000000 in
set_option maxRecDepth 100000 in
theorem g_M_canBe (N : Nat) : ∀ (D d : Nat) (x1 : Int32) (x2 : Int64) (x4 : Int32) (x5 : Int32), CallF eI y_M_canBe c_M_canBe 8 (some .boolean) (d + D + 2) [.ref 44, .int x1, .long x2, .int x4, .int x5] (f_M_canBe N D x1 x2 x4 x5) := by
  intro D
  induction D with
  | zero => intro d x1 x2 x4 x5 l D ad kA μ r μ' h; cases h
  | succ D ih =>
    intro d x1 x2 x4 x5
    refine call_of (d := d + D + 2) (n := 4) mi_M_canBe.1 (fun _ => rfl) ?_
    intro Γ μ0 hΓ hT hR
    show Go Γ 8 0 [(0, .ref 44), (1, .int x1), (2, .long x2), (4, .int x4), (5, .int x5)] [] μ0 (f_M_canBe N (D + 1) x1 x2 x4 x5 μ0)
    have hF := ih d
    rw [f_M_canBe]
    refine go_lload_n (q := 2) (i := 2) (pc := 0) hΓ d_M_canBe_0 rfl rfl ?_
    refine go_callS (index := 281) emI hΓ hR (g_M_bits N (d + D + 0) x2) mi_M_bits ml_M_281 d_M_canBe_1 rfl rfl rfl (fun r1 μ2 => ?_)
    show Go Γ 8 4 [(0, .ref 44), (1, .int x1), (2, .long x2), (4, .int x4), (5, .int x5)] [.int r1] μ2 _
    refine go_iload_n (q := 1) (i := 1) (pc := 4) hΓ d_M_canBe_4 rfl rfl ?_
    refine go_iconst (v := 1) (pc := 5) hΓ d_M_canBe_5 (by decide) ?_
    refine go_iadd (pc := 6) hΓ d_M_canBe_6 ?_
    refine go_icmp_ne 21 (pc := 7) hΓ d_M_canBe_7 (by decide) (fun h3 => go_eq (if_neg h3) ?_) (fun h3 => go_eq (if_pos h3) ?_)
    · refine go_iconst (v := 0) (pc := 21) hΓ d_M_canBe_21 (by decide) ?_
      refine go_istore (lv' := [(6, .int 0), (0, .ref 44), (1, .int x1), (2, .long x2), (4, .int x4), (5, .int x5)]) (pc := 22) hΓ d_M_canBe_22 (by decide) rfl ?_
      refine go_sub' (lv' := [(0, .ref 44), (1, .int x1), (2, .long x2), (4, .int x4), (5, .int x5), (6, .int 0)]) rfl ?_
      refine glp_M_canBe_24 N d D hΓ hT hR x1 x2 x4 x5 _ hF _ (fun μ18 => ?_) N 0 μ2
      refine go_iconst (v := 0) (pc := 101) hΓ d_M_canBe_101 (by decide) ?_
      exact go_zret (pc := 102) hΓ hT d_M_canBe_102 rfl
    · refine go_iload (q := 4) (pc := 10) hΓ d_M_canBe_10 rfl ?_
      refine go_if_ne 19 (pc := 12) hΓ d_M_canBe_12 (by decide) (fun h19 => go_eq (if_neg h19) ?_) (fun h19 => go_eq (if_pos h19) ?_)
      · refine go_iconst (v := 0) (pc := 19) hΓ d_M_canBe_19 (by decide) ?_
        exact go_zret (pc := 20) hΓ hT d_M_canBe_20 rfl
      · refine go_iconst (v := 1) (pc := 15) hΓ d_M_canBe_15 (by decide) ?_
        refine go_goto 20 (pc := 16) hΓ d_M_canBe_16 (by decide) ?_
        exact go_zret (pc := 20) hΓ hT d_M_canBe_20 rfl
def lp_M_rest_36 (N : Nat) (x1 : Int32) (x2 : Int64)  (K : Int32 → Mem → Option (Int32 × Mem)) : Nat → Int32 → Mem → Option (Int32 × Mem)
  | 0, _, _ => none
  | n + 1, a4, μ0 => ck (inb x1 4) (bnd (f_M_canBe N 12 (gI μ0 46 (tn x1)) x2 0 a4 μ0) fun r10 μ11 => if r10 = 0 then (lt' (a4 + 1) fun v13 => lp_M_rest_36 N x1 x2 K n v13 μ11) else (K a4 μ11))
def lp_M_rest_67 (N : Nat) (x4 : Int32)  (K : Mem → Option (Int32 × Mem)) : Nat → Int32 → Mem → Option (Int32 × Mem)
  | 0, _, _ => none
  | n + 1, a5, μ0 => if a5 < x4 then (ck (inb a5 8) (bnd (f_M_enters N (Int32.toInt64 (gI μ0 63 (tn a5))) μ0) fun _ μ20 => lt' (a5 + 1) fun v21 => lp_M_rest_67 N x4 K n v21 μ20)) else (K  μ0)
def f_M_rest (N : Nat) (x1 : Int32) (μ0 : Mem) : Option (Int32 × Mem) :=
  lt' (sI μ0 44 0 0) fun μ1 => bnd (f_M_isNet N x1 μ1) fun r2 μ3 => if r2 = 0 then (some ((-1), μ3)) else (ck (inb x1 4) (if 4 < (gI μ3 46 (tn x1)) then (some ((-2), μ3)) else (bnd (f_M_imageOf N x1 μ3) fun r7 μ8 => lp_M_rest_36 N x1 r7 (fun v14 μ15 => lt' (sI μ15 44 1 0) fun μ16 => lp_M_rest_67 N v14 (fun μ22 => some (v14, μ22)) N 0 μ16) N 0 μ8)))
set_option maxHeartbeats 4000000 in
set_option maxRecDepth 100000 in
theorem glp_M_rest_36 (N d : Nat) {Γ : Cx Int32} (hΓ : Ok Γ "SortingNetsModel" c_M_rest 6) (hT : Rt Γ eI (some .int)) (hR : Rm Γ (d + 15)) (x1 : Int32) (x2 : Int64)    (K : Int32 → Mem → Option (Int32 × Mem)) (hK : ∀ (b4 : Int32) (ν : Mem), Go Γ 6 59 [(0, .ref 44), (4, .int b4)] [] ν (K b4 ν)) : ∀ (n : Nat) (a4 : Int32) (μ0 : Mem), Go Γ 6 36 [(0, .ref 44), (1, .int x1), (2, .long x2), (4, .int a4)] [] μ0 (lp_M_rest_36 N x1 x2 K n a4 μ0) := by
  intro n
  induction n with
  | zero => intro a4 μ0; exact go_none
  | succ n ih =>
    intro a4 μ0
    rw [lp_M_rest_36]
    refine go_aload_n (q := 0) (i := 0) (pc := 36) hΓ d_M_rest_36 rfl rfl ?_
    refine go_aload_n (q := 0) (i := 0) (pc := 37) hΓ d_M_rest_37 rfl rfl ?_
    refine go_getR (q := 46) (pc := 38) hΓ fl_M_13 d_M_rest_38 rfl rfl ?_
    refine go_iload_n (q := 1) (i := 1) (pc := 41) hΓ d_M_rest_41 rfl rfl ?_
    refine go_ck (fun h9 => ?_)
    refine go_iald (pc := 42) hΓ d_M_rest_42 rfl h9 ?_
    refine go_lload_n (q := 2) (i := 2) (pc := 43) hΓ d_M_rest_43 rfl rfl ?_
    refine go_iconst (v := 0) (pc := 44) hΓ d_M_rest_44 (by decide) ?_
    refine go_iload (q := 3) (pc := 45) hΓ d_M_rest_45 rfl ?_
    refine go_callV (index := 340) emI hΓ hR (g_M_canBe N 12 (d + 1) (gI μ0 46 (tn x1)) x2 0 a4) mi_M_canBe ml_M_340 d_M_rest_47 rfl rfl rfl rfl rfl (fun r10 μ11 => ?_)
    show Go Γ 6 50 [(0, .ref 44), (1, .int x1), (2, .long x2), (4, .int a4)] [.int r10] μ11 _
    refine go_if_ne 59 (pc := 50) hΓ d_M_rest_50 (by decide) (fun h12 => go_eq (if_neg h12) ?_) (fun h12 => go_eq (if_pos h12) ?_)
    · refine go_sub' (lv' := [(0, .ref 44), (4, .int a4)]) rfl ?_
      exact hK a4 μ11
    · refine go_incI (q := 3) (i := 4) (n := 1) (c := 1) (pc := 53) hΓ d_M_rest_53 rfl (by decide) (by decide) (fun v13 => ?_)
      refine go_sub' (lv' := [(4, .int v13), (0, .ref 44), (1, .int x1), (2, .long x2)]) rfl ?_
      refine go_goto 36 (pc := 56) hΓ d_M_rest_56 (by decide) ?_
      refine go_sub' (lv' := [(0, .ref 44), (1, .int x1), (2, .long x2), (4, .int v13)]) rfl ?_
      exact ih v13 μ11
set_option maxHeartbeats 4000000 in
set_option maxRecDepth 100000 in
theorem glp_M_rest_67 (N d : Nat) {Γ : Cx Int32} (hΓ : Ok Γ "SortingNetsModel" c_M_rest 6) (hT : Rt Γ eI (some .int)) (hR : Rm Γ (d + 15)) (x4 : Int32)    (K : Mem → Option (Int32 × Mem)) (hK : ∀  (ν : Mem), Go Γ 6 92 [(4, .int x4)] [] ν (K  ν)) : ∀ (n : Nat) (a5 : Int32) (μ0 : Mem), Go Γ 6 67 [(0, .ref 44), (4, .int x4), (5, .int a5)] [] μ0 (lp_M_rest_67 N x4 K n a5 μ0) := by
  intro n
  induction n with
  | zero => intro a5 μ0; exact go_none
  | succ n ih =>
    intro a5 μ0
    rw [lp_M_rest_67]
    refine go_iload (q := 2) (pc := 67) hΓ d_M_rest_67 rfl ?_
    refine go_iload (q := 1) (pc := 69) hΓ d_M_rest_69 rfl ?_
    refine go_icmp_ge 92 (pc := 71) hΓ d_M_rest_71 (by decide) (fun h17 => go_eq (if_neg h17) ?_) (fun h17 => go_eq (if_pos h17) ?_)
    · refine go_sub' (lv' := [(4, .int x4)]) rfl ?_
      exact hK  μ0
    · refine go_aload_n (q := 0) (i := 0) (pc := 74) hΓ d_M_rest_74 rfl rfl ?_
      refine go_aload_n (q := 0) (i := 0) (pc := 75) hΓ d_M_rest_75 rfl rfl ?_
      refine go_getR (q := 63) (pc := 76) hΓ fl_M_66 d_M_rest_76 rfl rfl ?_
      refine go_iload (q := 2) (pc := 79) hΓ d_M_rest_79 rfl ?_
      refine go_ck (fun h18 => ?_)
      refine go_iald (pc := 81) hΓ d_M_rest_81 rfl h18 ?_
      refine go_i2l (pc := 82) hΓ d_M_rest_82 ?_
      refine go_callV (index := 76) emV hΓ hR (g_M_enters N (d + 14) (Int32.toInt64 (gI μ0 63 (tn a5)))) mi_M_enters ml_M_76 d_M_rest_83 rfl rfl rfl rfl rfl (fun _ μ20 => ?_)
      show Go Γ 6 86 [(0, .ref 44), (4, .int x4), (5, .int a5)] [] μ20 _
      refine go_incI (q := 2) (i := 5) (n := 1) (c := 1) (pc := 86) hΓ d_M_rest_86 rfl (by decide) (by decide) (fun v21 => ?_)
      refine go_sub' (lv' := [(5, .int v21), (0, .ref 44), (4, .int x4)]) rfl ?_
      refine go_goto 67 (pc := 89) hΓ d_M_rest_89 (by decide) ?_
      refine go_sub' (lv' := [(0, .ref 44), (4, .int x4), (5, .int v21)]) rfl ?_
      exact ih v21 μ20
set_option maxHeartbeats 4000000 in
set_option maxRecDepth 100000 in
theorem g_M_rest (N d : Nat) (x1 : Int32)  : CallF eI y_M_rest c_M_rest 6 (some .int) (d + 15 + 1) [.ref 44, .int x1] (f_M_rest N x1) := by
  refine call_of (d := d + 15) (n := 1) mi_M_rest.1 (fun _ => rfl) ?_
  intro Γ μ0 hΓ hT hR
  show Go Γ 6 0 [(0, .ref 44), (1, .int x1)] [] μ0 (f_M_rest N x1 μ0)
  unfold f_M_rest
  refine go_aload_n (q := 0) (i := 0) (pc := 0) hΓ d_M_rest_0 rfl rfl ?_
  refine go_iconst (v := 0) (pc := 1) hΓ d_M_rest_1 (by decide) ?_
  refine go_putI (pc := 2) hΓ fp_M_69 d_M_rest_2 rfl rfl ?_
  refine go_letM (fun μ1 => ?_)
  refine go_iload_n (q := 1) (i := 1) (pc := 5) hΓ d_M_rest_5 rfl rfl ?_
  refine go_callS (index := 151) emI hΓ hR (g_M_isNet N (d + 13) x1) mi_M_isNet ml_M_151 d_M_rest_6 rfl rfl rfl (fun r2 μ3 => ?_)
  show Go Γ 6 9 [(0, .ref 44), (1, .int x1)] [.int r2] μ3 _
  refine go_if_ne 14 (pc := 9) hΓ d_M_rest_9 (by decide) (fun h4 => go_eq (if_neg h4) ?_) (fun h4 => go_eq (if_pos h4) ?_)
  · refine go_aload_n (q := 0) (i := 0) (pc := 14) hΓ d_M_rest_14 rfl rfl ?_
    refine go_getR (q := 46) (pc := 15) hΓ fl_M_13 d_M_rest_15 rfl rfl ?_
    refine go_iload_n (q := 1) (i := 1) (pc := 18) hΓ d_M_rest_18 rfl rfl ?_
    refine go_ck (fun h5 => ?_)
    refine go_iald (pc := 19) hΓ d_M_rest_19 rfl h5 ?_
    refine go_iconst (v := 4) (pc := 20) hΓ d_M_rest_20 (by decide) ?_
    refine go_icmp_le 27 (pc := 21) hΓ d_M_rest_21 (by decide) (fun h6 => go_eq (if_neg h6) ?_) (fun h6 => go_eq (if_pos h6) ?_)
    · refine go_aload_n (q := 0) (i := 0) (pc := 27) hΓ d_M_rest_27 rfl rfl ?_
      refine go_iload_n (q := 1) (i := 1) (pc := 28) hΓ d_M_rest_28 rfl rfl ?_
      refine go_callV (index := 300) emL hΓ hR (g_M_imageOf N (d + 12) x1) mi_M_imageOf ml_M_300 d_M_rest_29 rfl rfl rfl rfl rfl (fun r7 μ8 => ?_)
      show Go Γ 6 32 [(0, .ref 44), (1, .int x1)] [.long r7] μ8 _
      refine go_lstore_n (i := 2) (lv' := [(2, .long r7), (0, .ref 44), (1, .int x1)]) (pc := 32) hΓ d_M_rest_32 rfl (by decide) rfl ?_
      refine go_iconst (v := 0) (pc := 33) hΓ d_M_rest_33 (by decide) ?_
      refine go_istore (lv' := [(4, .int 0), (2, .long r7), (0, .ref 44), (1, .int x1)]) (pc := 34) hΓ d_M_rest_34 (by decide) rfl ?_
      refine go_sub' (lv' := [(0, .ref 44), (1, .int x1), (2, .long r7), (4, .int 0)]) rfl ?_
      refine glp_M_rest_36 N d hΓ hT hR x1 r7 _ (fun v14 μ15 => ?_) N 0 μ8
      refine go_aload_n (q := 0) (i := 0) (pc := 59) hΓ d_M_rest_59 rfl rfl ?_
      refine go_iconst (v := 0) (pc := 60) hΓ d_M_rest_60 (by decide) ?_
      refine go_putI (pc := 61) hΓ fp_M_73 d_M_rest_61 rfl rfl ?_
      refine go_letM (fun μ16 => ?_)
      refine go_iconst (v := 0) (pc := 64) hΓ d_M_rest_64 (by decide) ?_
      refine go_istore (lv' := [(5, .int 0), (0, .ref 44), (4, .int v14)]) (pc := 65) hΓ d_M_rest_65 (by decide) rfl ?_
      refine go_sub' (lv' := [(0, .ref 44), (4, .int v14), (5, .int 0)]) rfl ?_
      refine glp_M_rest_67 N d hΓ hT hR v14 _ (fun μ22 => ?_) N 0 μ16
      refine go_iload (q := 0) (pc := 92) hΓ d_M_rest_92 rfl ?_
      exact go_iret (pc := 94) hΓ hT d_M_rest_94
    · refine go_bipush (v := -2) (pc := 24) hΓ d_M_rest_24 (by decide) ?_
      exact go_iret (pc := 26) hΓ hT d_M_rest_26
  · refine go_iconst (v := -1) (pc := 12) hΓ d_M_rest_12 (by decide) ?_
    exact go_iret (pc := 13) hΓ hT d_M_rest_13
def f_M_has (N : Nat) (x1 : Int32) (x2 : Int32) (μ0 : Mem) : Option (Int32 × Mem) :=
  lt' (sI μ0 44 0 0) fun μ1 => bnd (f_M_isNet N x1 μ1) fun r2 μ3 => if r2 = 0 then (some ((-1), μ3)) else (bnd (f_M_in N (Int32.toInt64 x2) 0 1 μ3) fun r5 μ6 => if r5 = 0 then (some ((-1), μ6)) else (if x2 = 0 then (ck (inb x1 4) (some (gI μ6 46 (tn x1), μ6))) else (ck (inb x1 4) (some (gI μ6 47 (tn x1), μ6)))))
set_option maxHeartbeats 4000000 in
set_option maxRecDepth 100000 in
theorem g_M_has (N d : Nat) (x1 : Int32) (x2 : Int32)  : CallF eI y_M_has c_M_has 3 (some .int) (d + 2 + 1) [.ref 44, .int x1, .int x2] (f_M_has N x1 x2) := by
  refine call_of (d := d + 2) (n := 2) mi_M_has.1 (fun _ => rfl) ?_
  intro Γ μ0 hΓ hT hR
  show Go Γ 3 0 [(0, .ref 44), (1, .int x1), (2, .int x2)] [] μ0 (f_M_has N x1 x2 μ0)
  unfold f_M_has
  refine go_aload_n (q := 0) (i := 0) (pc := 0) hΓ d_M_has_0 rfl rfl ?_
  refine go_iconst (v := 0) (pc := 1) hΓ d_M_has_1 (by decide) ?_
  refine go_putI (pc := 2) hΓ fp_M_69 d_M_has_2 rfl rfl ?_
  refine go_letM (fun μ1 => ?_)
  refine go_iload_n (q := 1) (i := 1) (pc := 5) hΓ d_M_has_5 rfl rfl ?_
  refine go_callS (index := 151) emI hΓ hR (g_M_isNet N (d + 0) x1) mi_M_isNet ml_M_151 d_M_has_6 rfl rfl rfl (fun r2 μ3 => ?_)
  show Go Γ 3 9 [(0, .ref 44), (1, .int x1), (2, .int x2)] [.int r2] μ3 _
  refine go_if_eq 22 (pc := 9) hΓ d_M_has_9 (by decide) (fun h4 => go_eq (if_pos h4) ?_) (fun h4 => go_eq (if_neg h4) ?_)
  · refine go_iconst (v := -1) (pc := 22) hΓ d_M_has_22 (by decide) ?_
    exact go_iret (pc := 23) hΓ hT d_M_has_23
  · refine go_iload_n (q := 2) (i := 2) (pc := 12) hΓ d_M_has_12 rfl rfl ?_
    refine go_i2l (pc := 13) hΓ d_M_has_13 ?_
    refine go_lconst (v := 0) (pc := 14) hΓ d_M_has_14 (by decide) ?_
    refine go_lconst (v := 1) (pc := 15) hΓ d_M_has_15 (by decide) ?_
    refine go_callS (index := 82) emI hΓ hR (g_M_in N (d + 1) (Int32.toInt64 x2) 0 1) mi_M_in ml_M_82 d_M_has_16 rfl rfl rfl (fun r5 μ6 => ?_)
    show Go Γ 3 19 [(0, .ref 44), (1, .int x1), (2, .int x2)] [.int r5] μ6 _
    refine go_if_ne 24 (pc := 19) hΓ d_M_has_19 (by decide) (fun h7 => go_eq (if_neg h7) ?_) (fun h7 => go_eq (if_pos h7) ?_)
    · refine go_iload_n (q := 2) (i := 2) (pc := 24) hΓ d_M_has_24 rfl rfl ?_
      refine go_if_ne 37 (pc := 25) hΓ d_M_has_25 (by decide) (fun h8 => go_eq (if_neg h8) ?_) (fun h8 => go_eq (if_pos h8) ?_)
      · refine go_aload_n (q := 0) (i := 0) (pc := 37) hΓ d_M_has_37 rfl rfl ?_
        refine go_getR (q := 47) (pc := 38) hΓ fl_M_17 d_M_has_38 rfl rfl ?_
        refine go_iload_n (q := 1) (i := 1) (pc := 41) hΓ d_M_has_41 rfl rfl ?_
        refine go_ck (fun h9 => ?_)
        refine go_iald (pc := 42) hΓ d_M_has_42 rfl h9 ?_
        exact go_iret (pc := 43) hΓ hT d_M_has_43
      · refine go_aload_n (q := 0) (i := 0) (pc := 28) hΓ d_M_has_28 rfl rfl ?_
        refine go_getR (q := 46) (pc := 29) hΓ fl_M_13 d_M_has_29 rfl rfl ?_
        refine go_iload_n (q := 1) (i := 1) (pc := 32) hΓ d_M_has_32 rfl rfl ?_
        refine go_ck (fun h10 => ?_)
        refine go_iald (pc := 33) hΓ d_M_has_33 rfl h10 ?_
        refine go_goto 43 (pc := 34) hΓ d_M_has_34 (by decide) ?_
        exact go_iret (pc := 43) hΓ hT d_M_has_43
    · refine go_iconst (v := -1) (pc := 22) hΓ d_M_has_22 (by decide) ?_
      exact go_iret (pc := 23) hΓ hT d_M_has_23

def f_M_thrown (N : Nat)  (μ0 : Mem) : Option (Int32 × Mem) :=
  some (gI μ0 44 0, μ0)
set_option maxHeartbeats 4000000 in
set_option maxRecDepth 100000 in
theorem g_M_thrown (N d : Nat)   : CallF eI y_M_thrown c_M_thrown 1 (some .int) (d + 0 + 1) [.ref 44] (f_M_thrown N ) := by
  refine call_of (d := d + 0) (n := 0) mi_M_thrown.1 (fun _ => rfl) ?_
  intro Γ μ0 hΓ hT hR
  show Go Γ 1 0 [(0, .ref 44)] [] μ0 (f_M_thrown N  μ0)
  unfold f_M_thrown
  refine go_aload_n (q := 0) (i := 0) (pc := 0) hΓ d_M_thrown_0 rfl rfl ?_
  refine go_getI (pc := 1) hΓ fl_M_69 d_M_thrown_1 rfl rfl ?_
  exact go_iret (pc := 4) hΓ hT d_M_thrown_4
def lp_M_sign_19 (N : Nat) (x1 : Int32)  (K : Mem → Option (Int32 × Mem)) : Nat → Int32 → Mem → Option (Int32 × Mem)
  | 0, _, _ => none
  | n + 1, a2, μ0 => if a2 < 4 then (ck (inb ((gI μ0 44 8) + a2) 200) (lt' (sI μ0 50 (tn ((gI μ0 44 8) + a2)) ((shrI x1 (24 - (8 * a2))) &&& 255)) fun μ5 => lt' (a2 + 1) fun v6 => lp_M_sign_19 N x1 K n v6 μ5)) else (K  μ0)
def f_M_sign (N : Nat) (x1 : Int32) (μ0 : Mem) : Option (Int32 × Mem) :=
  lt' (sI μ0 44 0 0) fun μ1 => if 196 < (gI μ1 44 8) then (some ((-1), μ1)) else (lp_M_sign_19 N x1 (fun μ7 => lt' (sI μ7 44 8 ((gI μ7 44 8) + 4)) fun μ8 => some (gI μ8 44 8, μ8)) N 0 μ1)
set_option maxHeartbeats 4000000 in
set_option maxRecDepth 100000 in
theorem glp_M_sign_19 (N d : Nat) {Γ : Cx Int32} (hΓ : Ok Γ "SortingNetsModel" c_M_sign 3) (hT : Rt Γ eI (some .int)) (hR : Rm Γ (d + 0)) (x1 : Int32)    (K : Mem → Option (Int32 × Mem)) (hK : ∀  (ν : Mem), Go Γ 3 54 [(0, .ref 44)] [] ν (K  ν)) : ∀ (n : Nat) (a2 : Int32) (μ0 : Mem), Go Γ 3 19 [(0, .ref 44), (1, .int x1), (2, .int a2)] [] μ0 (lp_M_sign_19 N x1 K n a2 μ0) := by
  intro n
  induction n with
  | zero => intro a2 μ0; exact go_none
  | succ n ih =>
    intro a2 μ0
    rw [lp_M_sign_19]
    refine go_iload_n (q := 2) (i := 2) (pc := 19) hΓ d_M_sign_19 rfl rfl ?_
    refine go_iconst (v := 4) (pc := 20) hΓ d_M_sign_20 (by decide) ?_
    refine go_icmp_ge 54 (pc := 21) hΓ d_M_sign_21 (by decide) (fun h3 => go_eq (if_neg h3) ?_) (fun h3 => go_eq (if_pos h3) ?_)
    · refine go_sub' (lv' := [(0, .ref 44)]) rfl ?_
      exact hK  μ0
    · refine go_aload_n (q := 0) (i := 0) (pc := 24) hΓ d_M_sign_24 rfl rfl ?_
      refine go_getR (q := 50) (pc := 25) hΓ fl_M_26 d_M_sign_25 rfl rfl ?_
      refine go_aload_n (q := 0) (i := 0) (pc := 28) hΓ d_M_sign_28 rfl rfl ?_
      refine go_getI (pc := 29) hΓ fl_M_94 d_M_sign_29 rfl rfl ?_
      refine go_iload_n (q := 2) (i := 2) (pc := 32) hΓ d_M_sign_32 rfl rfl ?_
      refine go_iadd (pc := 33) hΓ d_M_sign_33 ?_
      refine go_iload_n (q := 1) (i := 1) (pc := 34) hΓ d_M_sign_34 rfl rfl ?_
      refine go_bipush (v := 24) (pc := 35) hΓ d_M_sign_35 (by decide) ?_
      refine go_bipush (v := 8) (pc := 37) hΓ d_M_sign_37 (by decide) ?_
      refine go_iload_n (q := 2) (i := 2) (pc := 39) hΓ d_M_sign_39 rfl rfl ?_
      refine go_imul (pc := 40) hΓ d_M_sign_40 ?_
      refine go_isub (pc := 41) hΓ d_M_sign_41 ?_
      refine go_ishr (pc := 42) hΓ d_M_sign_42 ?_
      refine go_sipush (v := 255) (pc := 43) hΓ d_M_sign_43 (by decide) ?_
      refine go_iand (pc := 46) hΓ d_M_sign_46 ?_
      refine go_ck (fun h4 => ?_)
      refine go_iast (pc := 47) hΓ d_M_sign_47 rfl h4 ?_
      refine go_letM (fun μ5 => ?_)
      refine go_incI (q := 2) (i := 2) (n := 1) (c := 1) (pc := 48) hΓ d_M_sign_48 rfl (by decide) (by decide) (fun v6 => ?_)
      refine go_sub' (lv' := [(2, .int v6), (0, .ref 44), (1, .int x1)]) rfl ?_
      refine go_goto 19 (pc := 51) hΓ d_M_sign_51 (by decide) ?_
      refine go_sub' (lv' := [(0, .ref 44), (1, .int x1), (2, .int v6)]) rfl ?_
      exact ih v6 μ5
set_option maxHeartbeats 4000000 in
set_option maxRecDepth 100000 in
theorem g_M_sign (N d : Nat) (x1 : Int32)  : CallF eI y_M_sign c_M_sign 3 (some .int) (d + 0 + 1) [.ref 44, .int x1] (f_M_sign N x1) := by
  refine call_of (d := d + 0) (n := 1) mi_M_sign.1 (fun _ => rfl) ?_
  intro Γ μ0 hΓ hT hR
  show Go Γ 3 0 [(0, .ref 44), (1, .int x1)] [] μ0 (f_M_sign N x1 μ0)
  unfold f_M_sign
  refine go_aload_n (q := 0) (i := 0) (pc := 0) hΓ d_M_sign_0 rfl rfl ?_
  refine go_iconst (v := 0) (pc := 1) hΓ d_M_sign_1 (by decide) ?_
  refine go_putI (pc := 2) hΓ fp_M_69 d_M_sign_2 rfl rfl ?_
  refine go_letM (fun μ1 => ?_)
  refine go_aload_n (q := 0) (i := 0) (pc := 5) hΓ d_M_sign_5 rfl rfl ?_
  refine go_getI (pc := 6) hΓ fl_M_94 d_M_sign_6 rfl rfl ?_
  refine go_sipush (v := 196) (pc := 9) hΓ d_M_sign_9 (by decide) ?_
  refine go_icmp_le 17 (pc := 12) hΓ d_M_sign_12 (by decide) (fun h2 => go_eq (if_neg h2) ?_) (fun h2 => go_eq (if_pos h2) ?_)
  · refine go_iconst (v := 0) (pc := 17) hΓ d_M_sign_17 (by decide) ?_
    refine go_istore_n (i := 2) (lv' := [(2, .int 0), (0, .ref 44), (1, .int x1)]) (pc := 18) hΓ d_M_sign_18 rfl (by decide) rfl ?_
    refine go_sub' (lv' := [(0, .ref 44), (1, .int x1), (2, .int 0)]) rfl ?_
    refine glp_M_sign_19 N d hΓ hT hR x1 _ (fun μ7 => ?_) N 0 μ1
    refine go_aload_n (q := 0) (i := 0) (pc := 54) hΓ d_M_sign_54 rfl rfl ?_
    refine go_dup (pc := 55) hΓ d_M_sign_55 rfl ?_
    refine go_getI (pc := 56) hΓ fl_M_94 d_M_sign_56 rfl rfl ?_
    refine go_iconst (v := 4) (pc := 59) hΓ d_M_sign_59 (by decide) ?_
    refine go_iadd (pc := 60) hΓ d_M_sign_60 ?_
    refine go_putI (pc := 61) hΓ fp_M_94 d_M_sign_61 rfl rfl ?_
    refine go_letM (fun μ8 => ?_)
    refine go_aload_n (q := 0) (i := 0) (pc := 64) hΓ d_M_sign_64 rfl rfl ?_
    refine go_getI (pc := 65) hΓ fl_M_94 d_M_sign_65 rfl rfl ?_
    exact go_iret (pc := 68) hΓ hT d_M_sign_68
  · refine go_iconst (v := -1) (pc := 15) hΓ d_M_sign_15 (by decide) ?_
    exact go_iret (pc := 16) hΓ hT d_M_sign_16
def f_M_in (N : Nat) (x0 : Int64) (x2 : Int64) (x4 : Int64) (μ0 : Mem) : Option (Int32 × Mem) :=
  if (lg_cmp x0 x2) < 0 then (some (0, μ0)) else (if 0 < (lg_cmp x0 x4) then (some (0, μ0)) else (some (1, μ0)))
set_option maxHeartbeats 4000000 in
set_option maxRecDepth 100000 in
theorem g_M_in (N d : Nat) (x0 : Int64) (x2 : Int64) (x4 : Int64)  : CallF eI y_M_in c_M_in 6 (some .boolean) (d + 0 + 1) [.long x0, .long x2, .long x4] (f_M_in N x0 x2 x4) := by
  refine call_of (d := d + 0) (n := 3) mi_M_in.1 (fun _ => rfl) ?_
  intro Γ μ0 hΓ hT hR
  show Go Γ 6 0 [(0, .long x0), (2, .long x2), (4, .long x4)] [] μ0 (f_M_in N x0 x2 x4 μ0)
  unfold f_M_in
  refine go_lload_n (q := 0) (i := 0) (pc := 0) hΓ d_M_in_0 rfl rfl ?_
  refine go_lload_n (q := 1) (i := 2) (pc := 1) hΓ d_M_in_1 rfl rfl ?_
  refine go_lcmp (pc := 2) hΓ d_M_in_2 ?_
  refine go_if_lt 17 (pc := 3) hΓ d_M_in_3 (by decide) (fun h1 => go_eq (if_pos h1) ?_) (fun h1 => go_eq (if_neg h1) ?_)
  · refine go_iconst (v := 0) (pc := 17) hΓ d_M_in_17 (by decide) ?_
    exact go_zret (pc := 18) hΓ hT d_M_in_18 rfl
  · refine go_lload_n (q := 0) (i := 0) (pc := 6) hΓ d_M_in_6 rfl rfl ?_
    refine go_lload (q := 2) (pc := 7) hΓ d_M_in_7 rfl ?_
    refine go_lcmp (pc := 9) hΓ d_M_in_9 ?_
    refine go_if_gt 17 (pc := 10) hΓ d_M_in_10 (by decide) (fun h2 => go_eq (if_pos h2) ?_) (fun h2 => go_eq (if_neg h2) ?_)
    · refine go_iconst (v := 0) (pc := 17) hΓ d_M_in_17 (by decide) ?_
      exact go_zret (pc := 18) hΓ hT d_M_in_18 rfl
    · refine go_iconst (v := 1) (pc := 13) hΓ d_M_in_13 (by decide) ?_
      refine go_goto 18 (pc := 14) hΓ d_M_in_14 (by decide) ?_
      exact go_zret (pc := 18) hΓ hT d_M_in_18 rfl
def f_M_end (N : Nat) (x1 : Int32) (μ0 : Mem) : Option (Int32 × Mem) :=
  lt' (sI μ0 44 0 0) fun μ1 => bnd (f_M_in N (Int32.toInt64 x1) 0 (Int32.toInt64 (gI μ1 44 8)) μ1) fun r2 μ3 => if r2 = 0 then (some (0, μ3)) else (lt' (sI μ3 44 8 x1) fun μ5 => some (1, μ5))
set_option maxHeartbeats 4000000 in
set_option maxRecDepth 100000 in
theorem g_M_end (N d : Nat) (x1 : Int32)  : CallF eI y_M_end c_M_end 2 (some .boolean) (d + 1 + 1) [.ref 44, .int x1] (f_M_end N x1) := by
  refine call_of (d := d + 1) (n := 1) mi_M_end.1 (fun _ => rfl) ?_
  intro Γ μ0 hΓ hT hR
  show Go Γ 2 0 [(0, .ref 44), (1, .int x1)] [] μ0 (f_M_end N x1 μ0)
  unfold f_M_end
  refine go_aload_n (q := 0) (i := 0) (pc := 0) hΓ d_M_end_0 rfl rfl ?_
  refine go_iconst (v := 0) (pc := 1) hΓ d_M_end_1 (by decide) ?_
  refine go_putI (pc := 2) hΓ fp_M_69 d_M_end_2 rfl rfl ?_
  refine go_letM (fun μ1 => ?_)
  refine go_iload_n (q := 1) (i := 1) (pc := 5) hΓ d_M_end_5 rfl rfl ?_
  refine go_i2l (pc := 6) hΓ d_M_end_6 ?_
  refine go_lconst (v := 0) (pc := 7) hΓ d_M_end_7 (by decide) ?_
  refine go_aload_n (q := 0) (i := 0) (pc := 8) hΓ d_M_end_8 rfl rfl ?_
  refine go_getI (pc := 9) hΓ fl_M_94 d_M_end_9 rfl rfl ?_
  refine go_i2l (pc := 12) hΓ d_M_end_12 ?_
  refine go_callS (index := 82) emI hΓ hR (g_M_in N (d + 0) (Int32.toInt64 x1) 0 (Int32.toInt64 (gI μ1 44 8))) mi_M_in ml_M_82 d_M_end_13 rfl rfl rfl (fun r2 μ3 => ?_)
  show Go Γ 2 16 [(0, .ref 44), (1, .int x1)] [.int r2] μ3 _
  refine go_if_ne 21 (pc := 16) hΓ d_M_end_16 (by decide) (fun h4 => go_eq (if_neg h4) ?_) (fun h4 => go_eq (if_pos h4) ?_)
  · refine go_aload_n (q := 0) (i := 0) (pc := 21) hΓ d_M_end_21 rfl rfl ?_
    refine go_iload_n (q := 1) (i := 1) (pc := 22) hΓ d_M_end_22 rfl rfl ?_
    refine go_putI (pc := 23) hΓ fp_M_94 d_M_end_23 rfl rfl ?_
    refine go_letM (fun μ5 => ?_)
    refine go_iconst (v := 1) (pc := 26) hΓ d_M_end_26 (by decide) ?_
    exact go_zret (pc := 27) hΓ hT d_M_end_27 rfl
  · refine go_iconst (v := 0) (pc := 19) hΓ d_M_end_19 (by decide) ?_
    exact go_zret (pc := 20) hΓ hT d_M_end_20 rfl
def f_M_reads (N : Nat)  (μ0 : Mem) : Option (Unit × Mem) :=
  lt' (sI μ0 44 10 (gI μ0 44 8)) fun μ1 => lt' (sI μ1 44 8 0) fun μ2 => lt' (sI μ2 44 9 0) fun μ3 => some ((), μ3)
set_option maxHeartbeats 4000000 in
set_option maxRecDepth 100000 in
theorem g_M_reads (N d : Nat)   : CallF eV y_M_reads c_M_reads 1 none (d + 0 + 1) [.ref 44] (f_M_reads N ) := by
  refine call_of (d := d + 0) (n := 0) mi_M_reads.1 (fun _ => rfl) ?_
  intro Γ μ0 hΓ hT hR
  show Go Γ 1 0 [(0, .ref 44)] [] μ0 (f_M_reads N  μ0)
  unfold f_M_reads
  refine go_aload_n (q := 0) (i := 0) (pc := 0) hΓ d_M_reads_0 rfl rfl ?_
  refine go_aload_n (q := 0) (i := 0) (pc := 1) hΓ d_M_reads_1 rfl rfl ?_
  refine go_getI (pc := 2) hΓ fl_M_94 d_M_reads_2 rfl rfl ?_
  refine go_putI (pc := 5) hΓ fp_M_97 d_M_reads_5 rfl rfl ?_
  refine go_letM (fun μ1 => ?_)
  refine go_aload_n (q := 0) (i := 0) (pc := 8) hΓ d_M_reads_8 rfl rfl ?_
  refine go_iconst (v := 0) (pc := 9) hΓ d_M_reads_9 (by decide) ?_
  refine go_putI (pc := 10) hΓ fp_M_94 d_M_reads_10 rfl rfl ?_
  refine go_letM (fun μ2 => ?_)
  refine go_aload_n (q := 0) (i := 0) (pc := 13) hΓ d_M_reads_13 rfl rfl ?_
  refine go_iconst (v := 0) (pc := 14) hΓ d_M_reads_14 (by decide) ?_
  refine go_putI (pc := 15) hΓ fp_M_100 d_M_reads_15 rfl rfl ?_
  refine go_letM (fun μ3 => ?_)
  exact go_vret (pc := 18) hΓ hT d_M_reads_18
def f_M_takesDigit (N : Nat) (x1 : Int32) (x2 : Int32) (μ0 : Mem) : Option (Int32 × Mem) :=
  if (gI μ0 44 9) < (gI μ0 44 10) then (ck (inb (gI μ0 44 9) 200) (bnd (f_M_in N (Int32.toInt64 ((gI μ0 50 (tn (gI μ0 44 9))) - 48)) (Int32.toInt64 x1) (Int32.toInt64 x2) μ0) fun r3 μ4 => if r3 = 0 then (some (0, μ4)) else (ck (inb (gI μ4 44 9) 200) (lt' (sI μ4 44 11 ((gI μ4 50 (tn (gI μ4 44 9))) - 48)) fun μ7 => lt' (sI μ7 44 9 ((gI μ7 44 9) + 1)) fun μ8 => some (1, μ8))))) else (some (0, μ0))
set_option maxHeartbeats 4000000 in
set_option maxRecDepth 100000 in
theorem g_M_takesDigit (N d : Nat) (x1 : Int32) (x2 : Int32)  : CallF eI y_M_takesDigit c_M_takesDigit 3 (some .boolean) (d + 1 + 1) [.ref 44, .int x1, .int x2] (f_M_takesDigit N x1 x2) := by
  refine call_of (d := d + 1) (n := 2) mi_M_takesDigit.1 (fun _ => rfl) ?_
  intro Γ μ0 hΓ hT hR
  show Go Γ 3 0 [(0, .ref 44), (1, .int x1), (2, .int x2)] [] μ0 (f_M_takesDigit N x1 x2 μ0)
  unfold f_M_takesDigit
  refine go_aload_n (q := 0) (i := 0) (pc := 0) hΓ d_M_takesDigit_0 rfl rfl ?_
  refine go_getI (pc := 1) hΓ fl_M_100 d_M_takesDigit_1 rfl rfl ?_
  refine go_aload_n (q := 0) (i := 0) (pc := 4) hΓ d_M_takesDigit_4 rfl rfl ?_
  refine go_getI (pc := 5) hΓ fl_M_97 d_M_takesDigit_5 rfl rfl ?_
  refine go_icmp_ge 34 (pc := 8) hΓ d_M_takesDigit_8 (by decide) (fun h1 => go_eq (if_neg h1) ?_) (fun h1 => go_eq (if_pos h1) ?_)
  · refine go_iconst (v := 0) (pc := 34) hΓ d_M_takesDigit_34 (by decide) ?_
    exact go_zret (pc := 35) hΓ hT d_M_takesDigit_35 rfl
  · refine go_aload_n (q := 0) (i := 0) (pc := 11) hΓ d_M_takesDigit_11 rfl rfl ?_
    refine go_getR (q := 50) (pc := 12) hΓ fl_M_26 d_M_takesDigit_12 rfl rfl ?_
    refine go_aload_n (q := 0) (i := 0) (pc := 15) hΓ d_M_takesDigit_15 rfl rfl ?_
    refine go_getI (pc := 16) hΓ fl_M_100 d_M_takesDigit_16 rfl rfl ?_
    refine go_ck (fun h2 => ?_)
    refine go_iald (pc := 19) hΓ d_M_takesDigit_19 rfl h2 ?_
    refine go_bipush (v := 48) (pc := 20) hΓ d_M_takesDigit_20 (by decide) ?_
    refine go_isub (pc := 22) hΓ d_M_takesDigit_22 ?_
    refine go_i2l (pc := 23) hΓ d_M_takesDigit_23 ?_
    refine go_iload_n (q := 1) (i := 1) (pc := 24) hΓ d_M_takesDigit_24 rfl rfl ?_
    refine go_i2l (pc := 25) hΓ d_M_takesDigit_25 ?_
    refine go_iload_n (q := 2) (i := 2) (pc := 26) hΓ d_M_takesDigit_26 rfl rfl ?_
    refine go_i2l (pc := 27) hΓ d_M_takesDigit_27 ?_
    refine go_callS (index := 82) emI hΓ hR (g_M_in N (d + 0) (Int32.toInt64 ((gI μ0 50 (tn (gI μ0 44 9))) - 48)) (Int32.toInt64 x1) (Int32.toInt64 x2)) mi_M_in ml_M_82 d_M_takesDigit_28 rfl rfl rfl (fun r3 μ4 => ?_)
    show Go Γ 3 31 [(0, .ref 44), (1, .int x1), (2, .int x2)] [.int r3] μ4 _
    refine go_if_ne 36 (pc := 31) hΓ d_M_takesDigit_31 (by decide) (fun h5 => go_eq (if_neg h5) ?_) (fun h5 => go_eq (if_pos h5) ?_)
    · refine go_aload_n (q := 0) (i := 0) (pc := 36) hΓ d_M_takesDigit_36 rfl rfl ?_
      refine go_aload_n (q := 0) (i := 0) (pc := 37) hΓ d_M_takesDigit_37 rfl rfl ?_
      refine go_getR (q := 50) (pc := 38) hΓ fl_M_26 d_M_takesDigit_38 rfl rfl ?_
      refine go_aload_n (q := 0) (i := 0) (pc := 41) hΓ d_M_takesDigit_41 rfl rfl ?_
      refine go_getI (pc := 42) hΓ fl_M_100 d_M_takesDigit_42 rfl rfl ?_
      refine go_ck (fun h6 => ?_)
      refine go_iald (pc := 45) hΓ d_M_takesDigit_45 rfl h6 ?_
      refine go_bipush (v := 48) (pc := 46) hΓ d_M_takesDigit_46 (by decide) ?_
      refine go_isub (pc := 48) hΓ d_M_takesDigit_48 ?_
      refine go_putI (pc := 49) hΓ fp_M_107 d_M_takesDigit_49 rfl rfl ?_
      refine go_letM (fun μ7 => ?_)
      refine go_aload_n (q := 0) (i := 0) (pc := 52) hΓ d_M_takesDigit_52 rfl rfl ?_
      refine go_dup (pc := 53) hΓ d_M_takesDigit_53 rfl ?_
      refine go_getI (pc := 54) hΓ fl_M_100 d_M_takesDigit_54 rfl rfl ?_
      refine go_iconst (v := 1) (pc := 57) hΓ d_M_takesDigit_57 (by decide) ?_
      refine go_iadd (pc := 58) hΓ d_M_takesDigit_58 ?_
      refine go_putI (pc := 59) hΓ fp_M_100 d_M_takesDigit_59 rfl rfl ?_
      refine go_letM (fun μ8 => ?_)
      refine go_iconst (v := 1) (pc := 62) hΓ d_M_takesDigit_62 (by decide) ?_
      exact go_zret (pc := 63) hΓ hT d_M_takesDigit_63 rfl
    · refine go_iconst (v := 0) (pc := 34) hΓ d_M_takesDigit_34 (by decide) ?_
      exact go_zret (pc := 35) hΓ hT d_M_takesDigit_35 rfl
def f_M_takes (N : Nat) (x1 : Int32) (μ0 : Mem) : Option (Int32 × Mem) :=
  if (gI μ0 44 9) < (gI μ0 44 10) then (ck (inb (gI μ0 44 9) 200) (if (gI μ0 50 (tn (gI μ0 44 9))) = x1 then (lt' (sI μ0 44 9 ((gI μ0 44 9) + 1)) fun μ4 => some (1, μ4)) else (some (0, μ0)))) else (some (0, μ0))
set_option maxHeartbeats 4000000 in
set_option maxRecDepth 100000 in
theorem g_M_takes (N d : Nat) (x1 : Int32)  : CallF eI y_M_takes c_M_takes 2 (some .boolean) (d + 0 + 1) [.ref 44, .int x1] (f_M_takes N x1) := by
  refine call_of (d := d + 0) (n := 1) mi_M_takes.1 (fun _ => rfl) ?_
  intro Γ μ0 hΓ hT hR
  show Go Γ 2 0 [(0, .ref 44), (1, .int x1)] [] μ0 (f_M_takes N x1 μ0)
  unfold f_M_takes
  refine go_aload_n (q := 0) (i := 0) (pc := 0) hΓ d_M_takes_0 rfl rfl ?_
  refine go_getI (pc := 1) hΓ fl_M_100 d_M_takes_1 rfl rfl ?_
  refine go_aload_n (q := 0) (i := 0) (pc := 4) hΓ d_M_takes_4 rfl rfl ?_
  refine go_getI (pc := 5) hΓ fl_M_97 d_M_takes_5 rfl rfl ?_
  refine go_icmp_ge 24 (pc := 8) hΓ d_M_takes_8 (by decide) (fun h1 => go_eq (if_neg h1) ?_) (fun h1 => go_eq (if_pos h1) ?_)
  · refine go_iconst (v := 0) (pc := 24) hΓ d_M_takes_24 (by decide) ?_
    exact go_zret (pc := 25) hΓ hT d_M_takes_25 rfl
  · refine go_aload_n (q := 0) (i := 0) (pc := 11) hΓ d_M_takes_11 rfl rfl ?_
    refine go_getR (q := 50) (pc := 12) hΓ fl_M_26 d_M_takes_12 rfl rfl ?_
    refine go_aload_n (q := 0) (i := 0) (pc := 15) hΓ d_M_takes_15 rfl rfl ?_
    refine go_getI (pc := 16) hΓ fl_M_100 d_M_takes_16 rfl rfl ?_
    refine go_ck (fun h2 => ?_)
    refine go_iald (pc := 19) hΓ d_M_takes_19 rfl h2 ?_
    refine go_iload_n (q := 1) (i := 1) (pc := 20) hΓ d_M_takes_20 rfl rfl ?_
    refine go_icmp_eq 26 (pc := 21) hΓ d_M_takes_21 (by decide) (fun h3 => go_eq (if_pos h3) ?_) (fun h3 => go_eq (if_neg h3) ?_)
    · refine go_aload_n (q := 0) (i := 0) (pc := 26) hΓ d_M_takes_26 rfl rfl ?_
      refine go_dup (pc := 27) hΓ d_M_takes_27 rfl ?_
      refine go_getI (pc := 28) hΓ fl_M_100 d_M_takes_28 rfl rfl ?_
      refine go_iconst (v := 1) (pc := 31) hΓ d_M_takes_31 (by decide) ?_
      refine go_iadd (pc := 32) hΓ d_M_takes_32 ?_
      refine go_putI (pc := 33) hΓ fp_M_100 d_M_takes_33 rfl rfl ?_
      refine go_letM (fun μ4 => ?_)
      refine go_iconst (v := 1) (pc := 36) hΓ d_M_takes_36 (by decide) ?_
      exact go_zret (pc := 37) hΓ hT d_M_takes_37 rfl
    · refine go_iconst (v := 0) (pc := 24) hΓ d_M_takes_24 (by decide) ?_
      exact go_zret (pc := 25) hΓ hT d_M_takes_25 rfl
def f_M_takesPair (N : Nat)  (μ0 : Mem) : Option (Int32 × Mem) :=
  bnd (f_M_takesDigit N 0 ((gI μ0 44 15) - 1) μ0) fun r1 μ2 => if r1 = 0 then (some (0, μ2)) else (ck (inb (gI μ2 44 14) 60) (lt' (sI μ2 51 (tn (gI μ2 44 14)) (gI μ2 44 11)) fun μ5 => lt' (fun (_ : Unit) => bnd (f_M_takesDigit N 0 ((gI μ5 44 15) - 1) μ5) fun r7 μ8 => if r7 = 0 then (some (0, μ8)) else (ck (inb (gI μ8 44 14) 60) (lt' (sI μ8 52 (tn (gI μ8 44 14)) (gI μ8 44 11)) fun μ11 => lt' (sI μ11 44 14 ((gI μ11 44 14) + 1)) fun μ12 => some (1, μ12)))) fun (k6 : Unit → Option (Int32 × Mem)) => if (gI μ5 44 9) < (gI μ5 44 10) then (ck (inb (gI μ5 44 9) 200) (if ((gI μ5 50 (tn (gI μ5 44 9))) - 48) = (gI μ5 44 11) then (some (0, μ5)) else (k6 ()))) else (k6 ())))
set_option maxHeartbeats 4000000 in
set_option maxRecDepth 100000 in
theorem g_M_takesPair (N d : Nat)   : CallF eI y_M_takesPair c_M_takesPair 1 (some .boolean) (d + 2 + 1) [.ref 44] (f_M_takesPair N ) := by
  refine call_of (d := d + 2) (n := 0) mi_M_takesPair.1 (fun _ => rfl) ?_
  intro Γ μ0 hΓ hT hR
  show Go Γ 1 0 [(0, .ref 44)] [] μ0 (f_M_takesPair N  μ0)
  unfold f_M_takesPair
  refine go_aload_n (q := 0) (i := 0) (pc := 0) hΓ d_M_takesPair_0 rfl rfl ?_
  refine go_iconst (v := 0) (pc := 1) hΓ d_M_takesPair_1 (by decide) ?_
  refine go_aload_n (q := 0) (i := 0) (pc := 2) hΓ d_M_takesPair_2 rfl rfl ?_
  refine go_getI (pc := 3) hΓ fl_M_110 d_M_takesPair_3 rfl rfl ?_
  refine go_iconst (v := 1) (pc := 6) hΓ d_M_takesPair_6 (by decide) ?_
  refine go_isub (pc := 7) hΓ d_M_takesPair_7 ?_
  refine go_callV (index := 113) emI hΓ hR (g_M_takesDigit N (d + 0) 0 ((gI μ0 44 15) - 1)) mi_M_takesDigit ml_M_113 d_M_takesPair_8 rfl rfl rfl rfl rfl (fun r1 μ2 => ?_)
  show Go Γ 1 11 [(0, .ref 44)] [.int r1] μ2 _
  refine go_if_ne 16 (pc := 11) hΓ d_M_takesPair_11 (by decide) (fun h3 => go_eq (if_neg h3) ?_) (fun h3 => go_eq (if_pos h3) ?_)
  · refine go_aload_n (q := 0) (i := 0) (pc := 16) hΓ d_M_takesPair_16 rfl rfl ?_
    refine go_getR (q := 51) (pc := 17) hΓ fl_M_29 d_M_takesPair_17 rfl rfl ?_
    refine go_aload_n (q := 0) (i := 0) (pc := 20) hΓ d_M_takesPair_20 rfl rfl ?_
    refine go_getI (pc := 21) hΓ fl_M_117 d_M_takesPair_21 rfl rfl ?_
    refine go_aload_n (q := 0) (i := 0) (pc := 24) hΓ d_M_takesPair_24 rfl rfl ?_
    refine go_getI (pc := 25) hΓ fl_M_107 d_M_takesPair_25 rfl rfl ?_
    refine go_ck (fun h4 => ?_)
    refine go_iast (pc := 28) hΓ d_M_takesPair_28 rfl h4 ?_
    refine go_letM (fun μ5 => ?_)
    refine go_aload_n (q := 0) (i := 0) (pc := 29) hΓ d_M_takesPair_29 rfl rfl ?_
    refine go_getI (pc := 30) hΓ fl_M_100 d_M_takesPair_30 rfl rfl ?_
    refine go_aload_n (q := 0) (i := 0) (pc := 33) hΓ d_M_takesPair_33 rfl rfl ?_
    refine go_getI (pc := 34) hΓ fl_M_97 d_M_takesPair_34 rfl rfl ?_
    refine go_join (fun (k6 : Unit → Option (Int32 × Mem)) => ∀ (_ : Unit), Go Γ 1 61 [(0, .ref 44)] [] μ5 (k6 ())) ?_ (fun k6 k6h => ?_)
    · intro _
      refine go_aload_n (q := 0) (i := 0) (pc := 61) hΓ d_M_takesPair_61 rfl rfl ?_
      refine go_iconst (v := 0) (pc := 62) hΓ d_M_takesPair_62 (by decide) ?_
      refine go_aload_n (q := 0) (i := 0) (pc := 63) hΓ d_M_takesPair_63 rfl rfl ?_
      refine go_getI (pc := 64) hΓ fl_M_110 d_M_takesPair_64 rfl rfl ?_
      refine go_iconst (v := 1) (pc := 67) hΓ d_M_takesPair_67 (by decide) ?_
      refine go_isub (pc := 68) hΓ d_M_takesPair_68 ?_
      refine go_callV (index := 113) emI hΓ hR (g_M_takesDigit N (d + 0) 0 ((gI μ5 44 15) - 1)) mi_M_takesDigit ml_M_113 d_M_takesPair_69 rfl rfl rfl rfl rfl (fun r7 μ8 => ?_)
      show Go Γ 1 72 [(0, .ref 44)] [.int r7] μ8 _
      refine go_if_ne 77 (pc := 72) hΓ d_M_takesPair_72 (by decide) (fun h9 => go_eq (if_neg h9) ?_) (fun h9 => go_eq (if_pos h9) ?_)
      · refine go_aload_n (q := 0) (i := 0) (pc := 77) hΓ d_M_takesPair_77 rfl rfl ?_
        refine go_getR (q := 52) (pc := 78) hΓ fl_M_32 d_M_takesPair_78 rfl rfl ?_
        refine go_aload_n (q := 0) (i := 0) (pc := 81) hΓ d_M_takesPair_81 rfl rfl ?_
        refine go_getI (pc := 82) hΓ fl_M_117 d_M_takesPair_82 rfl rfl ?_
        refine go_aload_n (q := 0) (i := 0) (pc := 85) hΓ d_M_takesPair_85 rfl rfl ?_
        refine go_getI (pc := 86) hΓ fl_M_107 d_M_takesPair_86 rfl rfl ?_
        refine go_ck (fun h10 => ?_)
        refine go_iast (pc := 89) hΓ d_M_takesPair_89 rfl h10 ?_
        refine go_letM (fun μ11 => ?_)
        refine go_aload_n (q := 0) (i := 0) (pc := 90) hΓ d_M_takesPair_90 rfl rfl ?_
        refine go_dup (pc := 91) hΓ d_M_takesPair_91 rfl ?_
        refine go_getI (pc := 92) hΓ fl_M_117 d_M_takesPair_92 rfl rfl ?_
        refine go_iconst (v := 1) (pc := 95) hΓ d_M_takesPair_95 (by decide) ?_
        refine go_iadd (pc := 96) hΓ d_M_takesPair_96 ?_
        refine go_putI (pc := 97) hΓ fp_M_117 d_M_takesPair_97 rfl rfl ?_
        refine go_letM (fun μ12 => ?_)
        refine go_iconst (v := 1) (pc := 100) hΓ d_M_takesPair_100 (by decide) ?_
        exact go_zret (pc := 101) hΓ hT d_M_takesPair_101 rfl
      · refine go_iconst (v := 0) (pc := 75) hΓ d_M_takesPair_75 (by decide) ?_
        exact go_zret (pc := 76) hΓ hT d_M_takesPair_76 rfl
    · refine go_icmp_ge 61 (pc := 37) hΓ d_M_takesPair_37 (by decide) (fun h13 => go_eq (if_neg h13) ?_) (fun h13 => go_eq (if_pos h13) ?_)
      · refine go_sub' (lv' := [(0, .ref 44)]) rfl ?_
        exact k6h ()
      · refine go_aload_n (q := 0) (i := 0) (pc := 40) hΓ d_M_takesPair_40 rfl rfl ?_
        refine go_getR (q := 50) (pc := 41) hΓ fl_M_26 d_M_takesPair_41 rfl rfl ?_
        refine go_aload_n (q := 0) (i := 0) (pc := 44) hΓ d_M_takesPair_44 rfl rfl ?_
        refine go_getI (pc := 45) hΓ fl_M_100 d_M_takesPair_45 rfl rfl ?_
        refine go_ck (fun h14 => ?_)
        refine go_iald (pc := 48) hΓ d_M_takesPair_48 rfl h14 ?_
        refine go_bipush (v := 48) (pc := 49) hΓ d_M_takesPair_49 (by decide) ?_
        refine go_isub (pc := 51) hΓ d_M_takesPair_51 ?_
        refine go_aload_n (q := 0) (i := 0) (pc := 52) hΓ d_M_takesPair_52 rfl rfl ?_
        refine go_getI (pc := 53) hΓ fl_M_107 d_M_takesPair_53 rfl rfl ?_
        refine go_icmp_ne 61 (pc := 56) hΓ d_M_takesPair_56 (by decide) (fun h15 => go_eq (if_neg h15) ?_) (fun h15 => go_eq (if_pos h15) ?_)
        · refine go_sub' (lv' := [(0, .ref 44)]) rfl ?_
          exact k6h ()
        · refine go_iconst (v := 0) (pc := 59) hΓ d_M_takesPair_59 (by decide) ?_
          exact go_zret (pc := 60) hΓ hT d_M_takesPair_60 rfl
  · refine go_iconst (v := 0) (pc := 14) hΓ d_M_takesPair_14 (by decide) ?_
    exact go_zret (pc := 15) hΓ hT d_M_takesPair_15 rfl
def lp_M_takesNet_51 (N : Nat)   (K : Mem → Option (Int32 × Mem)) : Nat → Int32 → Mem → Option (Int32 × Mem)
  | 0, _, _ => none
  | n + 1, a1, μ0 => if a1 = 0 then (K  μ0) else (bnd (f_M_takesPair N  μ0) fun r11 μ12 => if r11 = 0 then (some (0, μ12)) else (lt' (fun (w15 : Int32) (μ16 : Mem) => lp_M_takesNet_51 N K n w15 μ16) fun (k14 : Int32 → Mem → Option (Int32 × Mem)) => lt' (fun (μ18 : Mem) => k14 0 μ18) fun (k17 : Mem → Option (Int32 × Mem)) => if (gI μ12 44 14) < 60 then (bnd (f_M_takes N 44 μ12) fun r20 μ21 => if r20 = 0 then (k17 μ21) else (k14 1 μ21)) else (k17 μ12)))
def f_M_takesNet (N : Nat)  (μ0 : Mem) : Option (Int32 × Mem) :=
  lt' (sI μ0 44 14 0) fun μ1 => bnd (f_M_takesDigit N 2 8 μ1) fun r2 μ3 => if r2 = 0 then (some (0, μ3)) else (lt' (sI μ3 44 15 (gI μ3 44 11)) fun μ5 => bnd (f_M_takes N 58 μ5) fun r6 μ7 => if r6 = 0 then (some (0, μ7)) else (if (gI μ7 44 9) = (gI μ7 44 10) then (some (1, μ7)) else (lp_M_takesNet_51 N  (fun μ23 => if (gI μ23 44 9) = (gI μ23 44 10) then (some (1, μ23)) else (some (0, μ23))) N 1 μ7)))
set_option maxHeartbeats 4000000 in
set_option maxRecDepth 100000 in
theorem glp_M_takesNet_51 (N d : Nat) {Γ : Cx Int32} (hΓ : Ok Γ "SortingNetsModel" c_M_takesNet 2) (hT : Rt Γ eI (some .boolean)) (hR : Rm Γ (d + 3))     (K : Mem → Option (Int32 × Mem)) (hK : ∀  (ν : Mem), Go Γ 2 91 [(0, .ref 44)] [] ν (K  ν)) : ∀ (n : Nat) (a1 : Int32) (μ0 : Mem), Go Γ 2 51 [(0, .ref 44), (1, .int a1)] [] μ0 (lp_M_takesNet_51 N K n a1 μ0) := by
  intro n
  induction n with
  | zero => intro a1 μ0; exact go_none
  | succ n ih =>
    intro a1 μ0
    rw [lp_M_takesNet_51]
    refine go_iload_n (q := 1) (i := 1) (pc := 51) hΓ d_M_takesNet_51 rfl rfl ?_
    refine go_if_eq 91 (pc := 52) hΓ d_M_takesNet_52 (by decide) (fun h10 => go_eq (if_pos h10) ?_) (fun h10 => go_eq (if_neg h10) ?_)
    · refine go_sub' (lv' := [(0, .ref 44)]) rfl ?_
      exact hK  μ0
    · refine go_aload_n (q := 0) (i := 0) (pc := 55) hΓ d_M_takesNet_55 rfl rfl ?_
      refine go_callV (index := 124) emI hΓ hR (g_M_takesPair N (d + 0) ) mi_M_takesPair ml_M_124 d_M_takesNet_56 rfl rfl rfl rfl rfl (fun r11 μ12 => ?_)
      show Go Γ 2 59 [(0, .ref 44), (1, .int a1)] [.int r11] μ12 _
      refine go_if_ne 64 (pc := 59) hΓ d_M_takesNet_59 (by decide) (fun h13 => go_eq (if_neg h13) ?_) (fun h13 => go_eq (if_pos h13) ?_)
      · refine go_aload_n (q := 0) (i := 0) (pc := 64) hΓ d_M_takesNet_64 rfl rfl ?_
        refine go_getI (pc := 65) hΓ fl_M_117 d_M_takesNet_65 rfl rfl ?_
        refine go_bipush (v := 60) (pc := 68) hΓ d_M_takesNet_68 (by decide) ?_
        refine go_join (fun (k14 : Int32 → Mem → Option (Int32 × Mem)) => ∀ (w15 : Int32) (μ16 : Mem), Go Γ 2 87 [(0, .ref 44)] [.int w15] μ16 (k14 w15 μ16)) ?_ (fun k14 k14h => ?_)
        · intro w15 μ16
          refine go_istore_n (i := 1) (lv' := [(1, .int w15), (0, .ref 44)]) (pc := 87) hΓ d_M_takesNet_87 rfl (by decide) rfl ?_
          refine go_goto 51 (pc := 88) hΓ d_M_takesNet_88 (by decide) ?_
          refine go_sub' (lv' := [(0, .ref 44), (1, .int w15)]) rfl ?_
          exact ih w15 μ16
        · refine go_join (fun (k17 : Mem → Option (Int32 × Mem)) => ∀ (μ18 : Mem), Go Γ 2 86 [(0, .ref 44)] [] μ18 (k17 μ18)) ?_ (fun k17 k17h => ?_)
          · intro μ18
            refine go_iconst (v := 0) (pc := 86) hΓ d_M_takesNet_86 (by decide) ?_
            refine go_sub' (lv' := [(0, .ref 44)]) rfl ?_
            exact k14h 0 μ18
          · refine go_icmp_ge 86 (pc := 70) hΓ d_M_takesNet_70 (by decide) (fun h19 => go_eq (if_neg h19) ?_) (fun h19 => go_eq (if_pos h19) ?_)
            · refine go_sub' (lv' := [(0, .ref 44)]) rfl ?_
              exact k17h μ12
            · refine go_aload_n (q := 0) (i := 0) (pc := 73) hΓ d_M_takesNet_73 rfl rfl ?_
              refine go_bipush (v := 44) (pc := 74) hΓ d_M_takesNet_74 (by decide) ?_
              refine go_callV (index := 120) emI hΓ hR (g_M_takes N (d + 2) 44) mi_M_takes ml_M_120 d_M_takesNet_76 rfl rfl rfl rfl rfl (fun r20 μ21 => ?_)
              show Go Γ 2 79 [(0, .ref 44), (1, .int a1)] [.int r20] μ21 _
              refine go_if_eq 86 (pc := 79) hΓ d_M_takesNet_79 (by decide) (fun h22 => go_eq (if_pos h22) ?_) (fun h22 => go_eq (if_neg h22) ?_)
              · refine go_sub' (lv' := [(0, .ref 44)]) rfl ?_
                exact k17h μ21
              · refine go_iconst (v := 1) (pc := 82) hΓ d_M_takesNet_82 (by decide) ?_
                refine go_goto 87 (pc := 83) hΓ d_M_takesNet_83 (by decide) ?_
                refine go_sub' (lv' := [(0, .ref 44)]) rfl ?_
                exact k14h 1 μ21
      · refine go_iconst (v := 0) (pc := 62) hΓ d_M_takesNet_62 (by decide) ?_
        exact go_zret (pc := 63) hΓ hT d_M_takesNet_63 rfl
set_option maxHeartbeats 4000000 in
set_option maxRecDepth 100000 in
theorem g_M_takesNet (N d : Nat)   : CallF eI y_M_takesNet c_M_takesNet 2 (some .boolean) (d + 3 + 1) [.ref 44] (f_M_takesNet N ) := by
  refine call_of (d := d + 3) (n := 0) mi_M_takesNet.1 (fun _ => rfl) ?_
  intro Γ μ0 hΓ hT hR
  show Go Γ 2 0 [(0, .ref 44)] [] μ0 (f_M_takesNet N  μ0)
  unfold f_M_takesNet
  refine go_aload_n (q := 0) (i := 0) (pc := 0) hΓ d_M_takesNet_0 rfl rfl ?_
  refine go_iconst (v := 0) (pc := 1) hΓ d_M_takesNet_1 (by decide) ?_
  refine go_putI (pc := 2) hΓ fp_M_117 d_M_takesNet_2 rfl rfl ?_
  refine go_letM (fun μ1 => ?_)
  refine go_aload_n (q := 0) (i := 0) (pc := 5) hΓ d_M_takesNet_5 rfl rfl ?_
  refine go_iconst (v := 2) (pc := 6) hΓ d_M_takesNet_6 (by decide) ?_
  refine go_bipush (v := 8) (pc := 7) hΓ d_M_takesNet_7 (by decide) ?_
  refine go_callV (index := 113) emI hΓ hR (g_M_takesDigit N (d + 1) 2 8) mi_M_takesDigit ml_M_113 d_M_takesNet_9 rfl rfl rfl rfl rfl (fun r2 μ3 => ?_)
  show Go Γ 2 12 [(0, .ref 44)] [.int r2] μ3 _
  refine go_if_ne 17 (pc := 12) hΓ d_M_takesNet_12 (by decide) (fun h4 => go_eq (if_neg h4) ?_) (fun h4 => go_eq (if_pos h4) ?_)
  · refine go_aload_n (q := 0) (i := 0) (pc := 17) hΓ d_M_takesNet_17 rfl rfl ?_
    refine go_aload_n (q := 0) (i := 0) (pc := 18) hΓ d_M_takesNet_18 rfl rfl ?_
    refine go_getI (pc := 19) hΓ fl_M_107 d_M_takesNet_19 rfl rfl ?_
    refine go_putI (pc := 22) hΓ fp_M_110 d_M_takesNet_22 rfl rfl ?_
    refine go_letM (fun μ5 => ?_)
    refine go_aload_n (q := 0) (i := 0) (pc := 25) hΓ d_M_takesNet_25 rfl rfl ?_
    refine go_bipush (v := 58) (pc := 26) hΓ d_M_takesNet_26 (by decide) ?_
    refine go_callV (index := 120) emI hΓ hR (g_M_takes N (d + 2) 58) mi_M_takes ml_M_120 d_M_takesNet_28 rfl rfl rfl rfl rfl (fun r6 μ7 => ?_)
    show Go Γ 2 31 [(0, .ref 44)] [.int r6] μ7 _
    refine go_if_ne 36 (pc := 31) hΓ d_M_takesNet_31 (by decide) (fun h8 => go_eq (if_neg h8) ?_) (fun h8 => go_eq (if_pos h8) ?_)
    · refine go_aload_n (q := 0) (i := 0) (pc := 36) hΓ d_M_takesNet_36 rfl rfl ?_
      refine go_getI (pc := 37) hΓ fl_M_100 d_M_takesNet_37 rfl rfl ?_
      refine go_aload_n (q := 0) (i := 0) (pc := 40) hΓ d_M_takesNet_40 rfl rfl ?_
      refine go_getI (pc := 41) hΓ fl_M_97 d_M_takesNet_41 rfl rfl ?_
      refine go_icmp_ne 49 (pc := 44) hΓ d_M_takesNet_44 (by decide) (fun h9 => go_eq (if_neg h9) ?_) (fun h9 => go_eq (if_pos h9) ?_)
      · refine go_iconst (v := 1) (pc := 49) hΓ d_M_takesNet_49 (by decide) ?_
        refine go_istore_n (i := 1) (lv' := [(1, .int 1), (0, .ref 44)]) (pc := 50) hΓ d_M_takesNet_50 rfl (by decide) rfl ?_
        refine go_sub' (lv' := [(0, .ref 44), (1, .int 1)]) rfl ?_
        refine glp_M_takesNet_51 N d hΓ hT hR  _ (fun μ23 => ?_) N 1 μ7
        refine go_aload_n (q := 0) (i := 0) (pc := 91) hΓ d_M_takesNet_91 rfl rfl ?_
        refine go_getI (pc := 92) hΓ fl_M_100 d_M_takesNet_92 rfl rfl ?_
        refine go_aload_n (q := 0) (i := 0) (pc := 95) hΓ d_M_takesNet_95 rfl rfl ?_
        refine go_getI (pc := 96) hΓ fl_M_97 d_M_takesNet_96 rfl rfl ?_
        refine go_icmp_ne 106 (pc := 99) hΓ d_M_takesNet_99 (by decide) (fun h24 => go_eq (if_neg h24) ?_) (fun h24 => go_eq (if_pos h24) ?_)
        · refine go_iconst (v := 0) (pc := 106) hΓ d_M_takesNet_106 (by decide) ?_
          exact go_zret (pc := 107) hΓ hT d_M_takesNet_107 rfl
        · refine go_iconst (v := 1) (pc := 102) hΓ d_M_takesNet_102 (by decide) ?_
          refine go_goto 107 (pc := 103) hΓ d_M_takesNet_103 (by decide) ?_
          exact go_zret (pc := 107) hΓ hT d_M_takesNet_107 rfl
      · refine go_iconst (v := 1) (pc := 47) hΓ d_M_takesNet_47 (by decide) ?_
        exact go_zret (pc := 48) hΓ hT d_M_takesNet_48 rfl
    · refine go_iconst (v := 0) (pc := 34) hΓ d_M_takesNet_34 (by decide) ?_
      exact go_zret (pc := 35) hΓ hT d_M_takesNet_35 rfl
  · refine go_iconst (v := 0) (pc := 15) hΓ d_M_takesNet_15 (by decide) ?_
    exact go_zret (pc := 16) hΓ hT d_M_takesNet_16 rfl
def f_M_isNet (N : Nat) (x0 : Int32) (μ0 : Mem) : Option (Int32 × Mem) :=
  bnd (f_M_in N (Int32.toInt64 x0) 0 3 μ0) fun r1 μ2 => ck (isb r1) (some (r1, μ2))
set_option maxHeartbeats 4000000 in
set_option maxRecDepth 100000 in
theorem g_M_isNet (N d : Nat) (x0 : Int32)  : CallF eI y_M_isNet c_M_isNet 1 (some .boolean) (d + 1 + 1) [.int x0] (f_M_isNet N x0) := by
  refine call_of (d := d + 1) (n := 1) mi_M_isNet.1 (fun _ => rfl) ?_
  intro Γ μ0 hΓ hT hR
  show Go Γ 1 0 [(0, .int x0)] [] μ0 (f_M_isNet N x0 μ0)
  unfold f_M_isNet
  refine go_iload_n (q := 0) (i := 0) (pc := 0) hΓ d_M_isNet_0 rfl rfl ?_
  refine go_i2l (pc := 1) hΓ d_M_isNet_1 ?_
  refine go_lconst (v := 0) (pc := 2) hΓ d_M_isNet_2 (by decide) ?_
  refine go_ldc2 (v := 3) (pc := 3) hΓ (tb_4 (List.mem_of_getElem? (i := 227) rfl) rfl) d_M_isNet_3 ?_
  refine go_callS (index := 82) emI hΓ hR (g_M_in N (d + 0) (Int32.toInt64 x0) 0 3) mi_M_in ml_M_82 d_M_isNet_6 rfl rfl rfl (fun r1 μ2 => ?_)
  show Go Γ 1 9 [(0, .int x0)] [.int r1] μ2 _
  refine go_ck (fun h3 => ?_)
  exact go_zret (pc := 9) hΓ hT d_M_isNet_9 h3
def f_M_begins (N : Nat) (x1 : Int32) (x2 : Int32) (μ0 : Mem) : Option (Unit × Mem) :=
  ck (inb x1 4) (lt' (sI μ0 46 (tn x1) x2) fun μ2 => ck (inb x1 4) (lt' (sI μ2 47 (tn x1) 0) fun μ4 => some ((), μ4)))
set_option maxHeartbeats 4000000 in
set_option maxRecDepth 100000 in
theorem g_M_begins (N d : Nat) (x1 : Int32) (x2 : Int32)  : CallF eV y_M_begins c_M_begins 3 none (d + 0 + 1) [.ref 44, .int x1, .int x2] (f_M_begins N x1 x2) := by
  refine call_of (d := d + 0) (n := 2) mi_M_begins.1 (fun _ => rfl) ?_
  intro Γ μ0 hΓ hT hR
  show Go Γ 3 0 [(0, .ref 44), (1, .int x1), (2, .int x2)] [] μ0 (f_M_begins N x1 x2 μ0)
  unfold f_M_begins
  refine go_aload_n (q := 0) (i := 0) (pc := 0) hΓ d_M_begins_0 rfl rfl ?_
  refine go_getR (q := 46) (pc := 1) hΓ fl_M_13 d_M_begins_1 rfl rfl ?_
  refine go_iload_n (q := 1) (i := 1) (pc := 4) hΓ d_M_begins_4 rfl rfl ?_
  refine go_iload_n (q := 2) (i := 2) (pc := 5) hΓ d_M_begins_5 rfl rfl ?_
  refine go_ck (fun h1 => ?_)
  refine go_iast (pc := 6) hΓ d_M_begins_6 rfl h1 ?_
  refine go_letM (fun μ2 => ?_)
  refine go_aload_n (q := 0) (i := 0) (pc := 7) hΓ d_M_begins_7 rfl rfl ?_
  refine go_getR (q := 47) (pc := 8) hΓ fl_M_17 d_M_begins_8 rfl rfl ?_
  refine go_iload_n (q := 1) (i := 1) (pc := 11) hΓ d_M_begins_11 rfl rfl ?_
  refine go_iconst (v := 0) (pc := 12) hΓ d_M_begins_12 (by decide) ?_
  refine go_ck (fun h3 => ?_)
  refine go_iast (pc := 13) hΓ d_M_begins_13 rfl h3 ?_
  refine go_letM (fun μ4 => ?_)
  exact go_vret (pc := 14) hΓ hT d_M_begins_14
def f_M_sets (N : Nat) (x1 : Int32) (x2 : Int32) (x3 : Int32) (x4 : Int32) (μ0 : Mem) : Option (Unit × Mem) :=
  ck (inb ((60 * x1) + x2) 240) (lt' (sI μ0 48 (tn ((60 * x1) + x2)) x3) fun μ2 => ck (inb ((60 * x1) + x2) 240) (lt' (sI μ2 49 (tn ((60 * x1) + x2)) x4) fun μ4 => some ((), μ4)))
set_option maxHeartbeats 4000000 in
set_option maxRecDepth 100000 in
theorem g_M_sets (N d : Nat) (x1 : Int32) (x2 : Int32) (x3 : Int32) (x4 : Int32)  : CallF eV y_M_sets c_M_sets 5 none (d + 0 + 1) [.ref 44, .int x1, .int x2, .int x3, .int x4] (f_M_sets N x1 x2 x3 x4) := by
  refine call_of (d := d + 0) (n := 4) mi_M_sets.1 (fun _ => rfl) ?_
  intro Γ μ0 hΓ hT hR
  show Go Γ 5 0 [(0, .ref 44), (1, .int x1), (2, .int x2), (3, .int x3), (4, .int x4)] [] μ0 (f_M_sets N x1 x2 x3 x4 μ0)
  unfold f_M_sets
  refine go_aload_n (q := 0) (i := 0) (pc := 0) hΓ d_M_sets_0 rfl rfl ?_
  refine go_getR (q := 48) (pc := 1) hΓ fl_M_20 d_M_sets_1 rfl rfl ?_
  refine go_bipush (v := 60) (pc := 4) hΓ d_M_sets_4 (by decide) ?_
  refine go_iload_n (q := 1) (i := 1) (pc := 6) hΓ d_M_sets_6 rfl rfl ?_
  refine go_imul (pc := 7) hΓ d_M_sets_7 ?_
  refine go_iload_n (q := 2) (i := 2) (pc := 8) hΓ d_M_sets_8 rfl rfl ?_
  refine go_iadd (pc := 9) hΓ d_M_sets_9 ?_
  refine go_iload_n (q := 3) (i := 3) (pc := 10) hΓ d_M_sets_10 rfl rfl ?_
  refine go_ck (fun h1 => ?_)
  refine go_iast (pc := 11) hΓ d_M_sets_11 rfl h1 ?_
  refine go_letM (fun μ2 => ?_)
  refine go_aload_n (q := 0) (i := 0) (pc := 12) hΓ d_M_sets_12 rfl rfl ?_
  refine go_getR (q := 49) (pc := 13) hΓ fl_M_23 d_M_sets_13 rfl rfl ?_
  refine go_bipush (v := 60) (pc := 16) hΓ d_M_sets_16 (by decide) ?_
  refine go_iload_n (q := 1) (i := 1) (pc := 18) hΓ d_M_sets_18 rfl rfl ?_
  refine go_imul (pc := 19) hΓ d_M_sets_19 ?_
  refine go_iload_n (q := 2) (i := 2) (pc := 20) hΓ d_M_sets_20 rfl rfl ?_
  refine go_iadd (pc := 21) hΓ d_M_sets_21 ?_
  refine go_iload (q := 4) (pc := 22) hΓ d_M_sets_22 rfl ?_
  refine go_ck (fun h3 => ?_)
  refine go_iast (pc := 24) hΓ d_M_sets_24 rfl h3 ?_
  refine go_letM (fun μ4 => ?_)
  exact go_vret (pc := 25) hΓ hT d_M_sets_25
def f_M_comes3 (N : Nat) (x1 : Int32) (x2 : Int32) (x3 : Int32) (μ0 : Mem) : Option (Unit × Mem) :=
  ck (inb x1 4) (bnd (f_M_sets N x1 (gI μ0 47 (tn x1)) x2 x3 μ0) fun _ μ3 => ck (inb x1 4) (ck (inb x1 4) (lt' (sI μ3 47 (tn x1) ((gI μ3 47 (tn x1)) + 1)) fun μ6 => some ((), μ6))))
set_option maxHeartbeats 4000000 in
set_option maxRecDepth 100000 in
theorem g_M_comes3 (N d : Nat) (x1 : Int32) (x2 : Int32) (x3 : Int32)  : CallF eV y_M_comes3 c_M_comes3 4 none (d + 1 + 1) [.ref 44, .int x1, .int x2, .int x3] (f_M_comes3 N x1 x2 x3) := by
  refine call_of (d := d + 1) (n := 3) mi_M_comes3.1 (fun _ => rfl) ?_
  intro Γ μ0 hΓ hT hR
  show Go Γ 4 0 [(0, .ref 44), (1, .int x1), (2, .int x2), (3, .int x3)] [] μ0 (f_M_comes3 N x1 x2 x3 μ0)
  unfold f_M_comes3
  refine go_aload_n (q := 0) (i := 0) (pc := 0) hΓ d_M_comes3_0 rfl rfl ?_
  refine go_iload_n (q := 1) (i := 1) (pc := 1) hΓ d_M_comes3_1 rfl rfl ?_
  refine go_aload_n (q := 0) (i := 0) (pc := 2) hΓ d_M_comes3_2 rfl rfl ?_
  refine go_getR (q := 47) (pc := 3) hΓ fl_M_17 d_M_comes3_3 rfl rfl ?_
  refine go_iload_n (q := 1) (i := 1) (pc := 6) hΓ d_M_comes3_6 rfl rfl ?_
  refine go_ck (fun h1 => ?_)
  refine go_iald (pc := 7) hΓ d_M_comes3_7 rfl h1 ?_
  refine go_iload_n (q := 2) (i := 2) (pc := 8) hΓ d_M_comes3_8 rfl rfl ?_
  refine go_iload_n (q := 3) (i := 3) (pc := 9) hΓ d_M_comes3_9 rfl rfl ?_
  refine go_callV (index := 90) emV hΓ hR (g_M_sets N (d + 0) x1 (gI μ0 47 (tn x1)) x2 x3) mi_M_sets ml_M_90 d_M_comes3_10 rfl rfl rfl rfl rfl (fun _ μ3 => ?_)
  show Go Γ 4 13 [(0, .ref 44), (1, .int x1), (2, .int x2), (3, .int x3)] [] μ3 _
  refine go_aload_n (q := 0) (i := 0) (pc := 13) hΓ d_M_comes3_13 rfl rfl ?_
  refine go_getR (q := 47) (pc := 14) hΓ fl_M_17 d_M_comes3_14 rfl rfl ?_
  refine go_iload_n (q := 1) (i := 1) (pc := 17) hΓ d_M_comes3_17 rfl rfl ?_
  refine go_dup2 (pc := 18) hΓ d_M_comes3_18 rfl rfl ?_
  refine go_ck (fun h4 => ?_)
  refine go_iald (pc := 19) hΓ d_M_comes3_19 rfl h4 ?_
  refine go_iconst (v := 1) (pc := 20) hΓ d_M_comes3_20 (by decide) ?_
  refine go_iadd (pc := 21) hΓ d_M_comes3_21 ?_
  refine go_ck (fun h5 => ?_)
  refine go_iast (pc := 22) hΓ d_M_comes3_22 rfl h5 ?_
  refine go_letM (fun μ6 => ?_)
  exact go_vret (pc := 23) hΓ hT d_M_comes3_23
def lp_M_untangles_8 (N : Nat) (x1 : Int32) (x2 : Int32)  (K : Mem → Option (Unit × Mem)) : Nat → Int32 → Mem → Option (Unit × Mem)
  | 0, _, _ => none
  | n + 1, a3, μ0 => if a3 < x2 then (ck (inb a3 8) (lt' (sI μ0 53 (tn a3) a3) fun μ5 => lt' (a3 + 1) fun v6 => lp_M_untangles_8 N x1 x2 K n v6 μ5)) else (K  μ0)
def lp_M_untangles_28 (N : Nat) (x1 : Int32)  (K : Mem → Option (Unit × Mem)) : Nat → Int32 → Mem → Option (Unit × Mem)
  | 0, _, _ => none
  | n + 1, a3, μ0 => if a3 < (gI μ0 44 14) then (ck (inb a3 60) (ck (inb (gI μ0 51 (tn a3)) 8) (lt' (gI μ0 53 (tn (gI μ0 51 (tn a3)))) fun v11 => ck (inb a3 60) (ck (inb (gI μ0 52 (tn a3)) 8) (lt' (gI μ0 53 (tn (gI μ0 52 (tn a3)))) fun v14 => bnd (f_M_comes3 N x1 (mnI v11 v14) (mxI v11 v14) μ0) fun _ μ16 => lt' (fun (μ18 : Mem) => lt' (a3 + 1) fun v19 => lp_M_untangles_28 N x1 K n v19 μ18) fun (k17 : Mem → Option (Unit × Mem)) => if v14 < v11 then (ck (inb a3 60) (ck (inb (gI μ16 51 (tn a3)) 8) (lt' (sI μ16 53 (tn (gI μ16 51 (tn a3))) v14) fun μ23 => ck (inb a3 60) (ck (inb (gI μ23 52 (tn a3)) 8) (lt' (sI μ23 53 (tn (gI μ23 52 (tn a3))) v11) fun μ26 => k17 μ26))))) else (k17 μ16)))))) else (K  μ0)
def f_M_untangles (N : Nat) (x1 : Int32) (x2 : Int32) (μ0 : Mem) : Option (Unit × Mem) :=
  bnd (f_M_begins N x1 x2 μ0) fun _ μ2 => lp_M_untangles_8 N x1 x2 (fun μ7 => lp_M_untangles_28 N x1 (fun μ27 => some ((), μ27)) N 0 μ7) N 0 μ2
set_option maxHeartbeats 4000000 in
set_option maxRecDepth 100000 in
theorem glp_M_untangles_8 (N d : Nat) {Γ : Cx Unit} (hΓ : Ok Γ "SortingNetsModel" c_M_untangles 6) (hT : Rt Γ eV none) (hR : Rm Γ (d + 2)) (x1 : Int32) (x2 : Int32)    (K : Mem → Option (Unit × Mem)) (hK : ∀  (ν : Mem), Go Γ 6 26 [(0, .ref 44), (1, .int x1)] [] ν (K  ν)) : ∀ (n : Nat) (a3 : Int32) (μ0 : Mem), Go Γ 6 8 [(0, .ref 44), (1, .int x1), (2, .int x2), (3, .int a3)] [] μ0 (lp_M_untangles_8 N x1 x2 K n a3 μ0) := by
  intro n
  induction n with
  | zero => intro a3 μ0; exact go_none
  | succ n ih =>
    intro a3 μ0
    rw [lp_M_untangles_8]
    refine go_iload_n (q := 3) (i := 3) (pc := 8) hΓ d_M_untangles_8 rfl rfl ?_
    refine go_iload_n (q := 2) (i := 2) (pc := 9) hΓ d_M_untangles_9 rfl rfl ?_
    refine go_icmp_ge 26 (pc := 10) hΓ d_M_untangles_10 (by decide) (fun h3 => go_eq (if_neg h3) ?_) (fun h3 => go_eq (if_pos h3) ?_)
    · refine go_sub' (lv' := [(0, .ref 44), (1, .int x1)]) rfl ?_
      exact hK  μ0
    · refine go_aload_n (q := 0) (i := 0) (pc := 13) hΓ d_M_untangles_13 rfl rfl ?_
      refine go_getR (q := 53) (pc := 14) hΓ fl_M_35 d_M_untangles_14 rfl rfl ?_
      refine go_iload_n (q := 3) (i := 3) (pc := 17) hΓ d_M_untangles_17 rfl rfl ?_
      refine go_iload_n (q := 3) (i := 3) (pc := 18) hΓ d_M_untangles_18 rfl rfl ?_
      refine go_ck (fun h4 => ?_)
      refine go_iast (pc := 19) hΓ d_M_untangles_19 rfl h4 ?_
      refine go_letM (fun μ5 => ?_)
      refine go_incI (q := 3) (i := 3) (n := 1) (c := 1) (pc := 20) hΓ d_M_untangles_20 rfl (by decide) (by decide) (fun v6 => ?_)
      refine go_sub' (lv' := [(3, .int v6), (0, .ref 44), (1, .int x1), (2, .int x2)]) rfl ?_
      refine go_goto 8 (pc := 23) hΓ d_M_untangles_23 (by decide) ?_
      refine go_sub' (lv' := [(0, .ref 44), (1, .int x1), (2, .int x2), (3, .int v6)]) rfl ?_
      exact ih v6 μ5
set_option maxHeartbeats 4000000 in
set_option maxRecDepth 100000 in
theorem glp_M_untangles_28 (N d : Nat) {Γ : Cx Unit} (hΓ : Ok Γ "SortingNetsModel" c_M_untangles 6) (hT : Rt Γ eV none) (hR : Rm Γ (d + 2)) (x1 : Int32)    (K : Mem → Option (Unit × Mem)) (hK : ∀  (ν : Mem), Go Γ 6 120 [] [] ν (K  ν)) : ∀ (n : Nat) (a3 : Int32) (μ0 : Mem), Go Γ 6 28 [(0, .ref 44), (1, .int x1), (3, .int a3)] [] μ0 (lp_M_untangles_28 N x1 K n a3 μ0) := by
  intro n
  induction n with
  | zero => intro a3 μ0; exact go_none
  | succ n ih =>
    intro a3 μ0
    rw [lp_M_untangles_28]
    refine go_iload_n (q := 2) (i := 3) (pc := 28) hΓ d_M_untangles_28 rfl rfl ?_
    refine go_aload_n (q := 0) (i := 0) (pc := 29) hΓ d_M_untangles_29 rfl rfl ?_
    refine go_getI (pc := 30) hΓ fl_M_117 d_M_untangles_30 rfl rfl ?_
    refine go_icmp_ge 120 (pc := 33) hΓ d_M_untangles_33 (by decide) (fun h8 => go_eq (if_neg h8) ?_) (fun h8 => go_eq (if_pos h8) ?_)
    · refine go_sub' (lv' := []) rfl ?_
      exact hK  μ0
    · refine go_aload_n (q := 0) (i := 0) (pc := 36) hΓ d_M_untangles_36 rfl rfl ?_
      refine go_getR (q := 53) (pc := 37) hΓ fl_M_35 d_M_untangles_37 rfl rfl ?_
      refine go_aload_n (q := 0) (i := 0) (pc := 40) hΓ d_M_untangles_40 rfl rfl ?_
      refine go_getR (q := 51) (pc := 41) hΓ fl_M_29 d_M_untangles_41 rfl rfl ?_
      refine go_iload_n (q := 2) (i := 3) (pc := 44) hΓ d_M_untangles_44 rfl rfl ?_
      refine go_ck (fun h9 => ?_)
      refine go_iald (pc := 45) hΓ d_M_untangles_45 rfl h9 ?_
      refine go_ck (fun h10 => ?_)
      refine go_iald (pc := 46) hΓ d_M_untangles_46 rfl h10 ?_
      refine go_letI (fun v11 => ?_)
      refine go_istore (lv' := [(4, .int v11), (0, .ref 44), (1, .int x1), (3, .int a3)]) (pc := 47) hΓ d_M_untangles_47 (by decide) rfl ?_
      refine go_aload_n (q := 1) (i := 0) (pc := 49) hΓ d_M_untangles_49 rfl rfl ?_
      refine go_getR (q := 53) (pc := 50) hΓ fl_M_35 d_M_untangles_50 rfl rfl ?_
      refine go_aload_n (q := 1) (i := 0) (pc := 53) hΓ d_M_untangles_53 rfl rfl ?_
      refine go_getR (q := 52) (pc := 54) hΓ fl_M_32 d_M_untangles_54 rfl rfl ?_
      refine go_iload_n (q := 3) (i := 3) (pc := 57) hΓ d_M_untangles_57 rfl rfl ?_
      refine go_ck (fun h12 => ?_)
      refine go_iald (pc := 58) hΓ d_M_untangles_58 rfl h12 ?_
      refine go_ck (fun h13 => ?_)
      refine go_iald (pc := 59) hΓ d_M_untangles_59 rfl h13 ?_
      refine go_letI (fun v14 => ?_)
      refine go_istore (lv' := [(5, .int v14), (4, .int v11), (0, .ref 44), (1, .int x1), (3, .int a3)]) (pc := 60) hΓ d_M_untangles_60 (by decide) rfl ?_
      refine go_aload_n (q := 2) (i := 0) (pc := 62) hΓ d_M_untangles_62 rfl rfl ?_
      refine go_iload_n (q := 3) (i := 1) (pc := 63) hΓ d_M_untangles_63 rfl rfl ?_
      refine go_iload (q := 1) (pc := 64) hΓ d_M_untangles_64 rfl ?_
      refine go_iload (q := 0) (pc := 66) hΓ d_M_untangles_66 rfl ?_
      refine go_min (index := 132) (pc := 68) hΓ hR ml_M_132 d_M_untangles_68 rfl ?_
      refine go_iload (q := 1) (pc := 71) hΓ d_M_untangles_71 rfl ?_
      refine go_iload (q := 0) (pc := 73) hΓ d_M_untangles_73 rfl ?_
      refine go_max (index := 138) (pc := 75) hΓ hR ml_M_138 d_M_untangles_75 rfl ?_
      refine go_callV (index := 141) emV hΓ hR (g_M_comes3 N (d + 0) x1 (mnI v11 v14) (mxI v11 v14)) mi_M_comes3 ml_M_141 d_M_untangles_78 rfl rfl rfl rfl rfl (fun _ μ16 => ?_)
      show Go Γ 6 81 [(5, .int v14), (4, .int v11), (0, .ref 44), (1, .int x1), (3, .int a3)] [] μ16 _
      refine go_iload (q := 1) (pc := 81) hΓ d_M_untangles_81 rfl ?_
      refine go_iload (q := 0) (pc := 83) hΓ d_M_untangles_83 rfl ?_
      refine go_join (fun (k17 : Mem → Option (Unit × Mem)) => ∀ (μ18 : Mem), Go Γ 6 114 [(0, .ref 44), (1, .int x1), (3, .int a3)] [] μ18 (k17 μ18)) ?_ (fun k17 k17h => ?_)
      · intro μ18
        refine go_incI (q := 2) (i := 3) (n := 1) (c := 1) (pc := 114) hΓ d_M_untangles_114 rfl (by decide) (by decide) (fun v19 => ?_)
        refine go_sub' (lv' := [(3, .int v19), (0, .ref 44), (1, .int x1)]) rfl ?_
        refine go_goto 28 (pc := 117) hΓ d_M_untangles_117 (by decide) ?_
        refine go_sub' (lv' := [(0, .ref 44), (1, .int x1), (3, .int v19)]) rfl ?_
        exact ih v19 μ18
      · refine go_icmp_le 114 (pc := 85) hΓ d_M_untangles_85 (by decide) (fun h20 => go_eq (if_neg h20) ?_) (fun h20 => go_eq (if_pos h20) ?_)
        · refine go_sub' (lv' := [(0, .ref 44), (1, .int x1), (3, .int a3)]) rfl ?_
          exact k17h μ16
        · refine go_aload_n (q := 2) (i := 0) (pc := 88) hΓ d_M_untangles_88 rfl rfl ?_
          refine go_getR (q := 53) (pc := 89) hΓ fl_M_35 d_M_untangles_89 rfl rfl ?_
          refine go_aload_n (q := 2) (i := 0) (pc := 92) hΓ d_M_untangles_92 rfl rfl ?_
          refine go_getR (q := 51) (pc := 93) hΓ fl_M_29 d_M_untangles_93 rfl rfl ?_
          refine go_iload_n (q := 4) (i := 3) (pc := 96) hΓ d_M_untangles_96 rfl rfl ?_
          refine go_ck (fun h21 => ?_)
          refine go_iald (pc := 97) hΓ d_M_untangles_97 rfl h21 ?_
          refine go_iload (q := 0) (pc := 98) hΓ d_M_untangles_98 rfl ?_
          refine go_ck (fun h22 => ?_)
          refine go_iast (pc := 100) hΓ d_M_untangles_100 rfl h22 ?_
          refine go_letM (fun μ23 => ?_)
          refine go_aload_n (q := 2) (i := 0) (pc := 101) hΓ d_M_untangles_101 rfl rfl ?_
          refine go_getR (q := 53) (pc := 102) hΓ fl_M_35 d_M_untangles_102 rfl rfl ?_
          refine go_aload_n (q := 2) (i := 0) (pc := 105) hΓ d_M_untangles_105 rfl rfl ?_
          refine go_getR (q := 52) (pc := 106) hΓ fl_M_32 d_M_untangles_106 rfl rfl ?_
          refine go_iload_n (q := 4) (i := 3) (pc := 109) hΓ d_M_untangles_109 rfl rfl ?_
          refine go_ck (fun h24 => ?_)
          refine go_iald (pc := 110) hΓ d_M_untangles_110 rfl h24 ?_
          refine go_iload (q := 1) (pc := 111) hΓ d_M_untangles_111 rfl ?_
          refine go_ck (fun h25 => ?_)
          refine go_iast (pc := 113) hΓ d_M_untangles_113 rfl h25 ?_
          refine go_letM (fun μ26 => ?_)
          refine go_sub' (lv' := [(0, .ref 44), (1, .int x1), (3, .int a3)]) rfl ?_
          exact k17h μ26
set_option maxHeartbeats 4000000 in
set_option maxRecDepth 100000 in
theorem g_M_untangles (N d : Nat) (x1 : Int32) (x2 : Int32)  : CallF eV y_M_untangles c_M_untangles 6 none (d + 2 + 1) [.ref 44, .int x1, .int x2] (f_M_untangles N x1 x2) := by
  refine call_of (d := d + 2) (n := 2) mi_M_untangles.1 (fun _ => rfl) ?_
  intro Γ μ0 hΓ hT hR
  show Go Γ 6 0 [(0, .ref 44), (1, .int x1), (2, .int x2)] [] μ0 (f_M_untangles N x1 x2 μ0)
  unfold f_M_untangles
  refine go_aload_n (q := 0) (i := 0) (pc := 0) hΓ d_M_untangles_0 rfl rfl ?_
  refine go_iload_n (q := 1) (i := 1) (pc := 1) hΓ d_M_untangles_1 rfl rfl ?_
  refine go_iload_n (q := 2) (i := 2) (pc := 2) hΓ d_M_untangles_2 rfl rfl ?_
  refine go_callV (index := 128) emV hΓ hR (g_M_begins N (d + 1) x1 x2) mi_M_begins ml_M_128 d_M_untangles_3 rfl rfl rfl rfl rfl (fun _ μ2 => ?_)
  show Go Γ 6 6 [(0, .ref 44), (1, .int x1), (2, .int x2)] [] μ2 _
  refine go_iconst (v := 0) (pc := 6) hΓ d_M_untangles_6 (by decide) ?_
  refine go_istore_n (i := 3) (lv' := [(3, .int 0), (0, .ref 44), (1, .int x1), (2, .int x2)]) (pc := 7) hΓ d_M_untangles_7 rfl (by decide) rfl ?_
  refine go_sub' (lv' := [(0, .ref 44), (1, .int x1), (2, .int x2), (3, .int 0)]) rfl ?_
  refine glp_M_untangles_8 N d hΓ hT hR x1 x2 _ (fun μ7 => ?_) N 0 μ2
  refine go_iconst (v := 0) (pc := 26) hΓ d_M_untangles_26 (by decide) ?_
  refine go_istore_n (i := 3) (lv' := [(3, .int 0), (0, .ref 44), (1, .int x1)]) (pc := 27) hΓ d_M_untangles_27 rfl (by decide) rfl ?_
  refine go_sub' (lv' := [(0, .ref 44), (1, .int x1), (3, .int 0)]) rfl ?_
  refine glp_M_untangles_28 N d hΓ hT hR x1 _ (fun μ27 => ?_) N 0 μ7
  exact go_vret (pc := 120) hΓ hT d_M_untangles_120
def f_M_enters (N : Nat) (x1 : Int64) (μ0 : Mem) : Option (Unit × Mem) :=
  ck (inb (gI μ0 44 1) 64) (lt' (sL μ0 45 (tn (gI μ0 44 1)) x1) fun μ2 => lt' (sI μ2 44 1 ((gI μ2 44 1) + 1)) fun μ3 => some ((), μ3))
set_option maxHeartbeats 4000000 in
set_option maxRecDepth 100000 in
theorem g_M_enters (N d : Nat) (x1 : Int64)  : CallF eV y_M_enters c_M_enters 3 none (d + 0 + 1) [.ref 44, .long x1] (f_M_enters N x1) := by
  refine call_of (d := d + 0) (n := 1) mi_M_enters.1 (fun _ => rfl) ?_
  intro Γ μ0 hΓ hT hR
  show Go Γ 3 0 [(0, .ref 44), (1, .long x1)] [] μ0 (f_M_enters N x1 μ0)
  unfold f_M_enters
  refine go_aload_n (q := 0) (i := 0) (pc := 0) hΓ d_M_enters_0 rfl rfl ?_
  refine go_getR (q := 45) (pc := 1) hΓ fl_M_7 d_M_enters_1 rfl rfl ?_
  refine go_aload_n (q := 0) (i := 0) (pc := 4) hΓ d_M_enters_4 rfl rfl ?_
  refine go_getI (pc := 5) hΓ fl_M_73 d_M_enters_5 rfl rfl ?_
  refine go_lload_n (q := 1) (i := 1) (pc := 8) hΓ d_M_enters_8 rfl rfl ?_
  refine go_ck (fun h1 => ?_)
  refine go_last (pc := 9) hΓ d_M_enters_9 rfl h1 ?_
  refine go_letM (fun μ2 => ?_)
  refine go_aload_n (q := 0) (i := 0) (pc := 10) hΓ d_M_enters_10 rfl rfl ?_
  refine go_dup (pc := 11) hΓ d_M_enters_11 rfl ?_
  refine go_getI (pc := 12) hΓ fl_M_73 d_M_enters_12 rfl rfl ?_
  refine go_iconst (v := 1) (pc := 15) hΓ d_M_enters_15 (by decide) ?_
  refine go_iadd (pc := 16) hΓ d_M_enters_16 ?_
  refine go_putI (pc := 17) hΓ fp_M_73 d_M_enters_17 rfl rfl ?_
  refine go_letM (fun μ3 => ?_)
  exact go_vret (pc := 20) hΓ hT d_M_enters_20
def lp_M_net_49 (N : Nat) (x1 : Int32)  (K : Mem → Option (Int32 × Mem)) : Nat → Int32 → Mem → Option (Int32 × Mem)
  | 0, _, _ => none
  | n + 1, a2, μ0 => if a2 < (gI μ0 44 15) then (ck (inb a2 8) (bnd (f_M_enters N (Int32.toInt64 (gI μ0 53 (tn a2))) μ0) fun _ μ16 => lt' (a2 + 1) fun v17 => lp_M_net_49 N x1 K n v17 μ16)) else (K  μ0)
def f_M_net (N : Nat) (x1 : Int32) (μ0 : Mem) : Option (Int32 × Mem) :=
  lt' (sI μ0 44 0 0) fun μ1 => bnd (f_M_reads N  μ1) fun _ μ3 => bnd (f_M_takesNet N  μ3) fun r4 μ5 => if r4 = 0 then (some ((-21) - (gI μ5 44 9), μ5)) else (bnd (f_M_isNet N x1 μ5) fun r7 μ8 => if r7 = 0 then (some ((-1), μ8)) else (bnd (f_M_untangles N x1 (gI μ8 44 15) μ8) fun _ μ11 => lt' (sI μ11 44 1 0) fun μ12 => lp_M_net_49 N x1 (fun μ18 => ck (inb x1 4) (some (gI μ18 47 (tn x1), μ18))) N 0 μ12))
set_option maxHeartbeats 4000000 in
set_option maxRecDepth 100000 in
theorem glp_M_net_49 (N d : Nat) {Γ : Cx Int32} (hΓ : Ok Γ "SortingNetsModel" c_M_net 3) (hT : Rt Γ eI (some .int)) (hR : Rm Γ (d + 4)) (x1 : Int32)    (K : Mem → Option (Int32 × Mem)) (hK : ∀  (ν : Mem), Go Γ 3 74 [(0, .ref 44), (1, .int x1)] [] ν (K  ν)) : ∀ (n : Nat) (a2 : Int32) (μ0 : Mem), Go Γ 3 49 [(0, .ref 44), (1, .int x1), (2, .int a2)] [] μ0 (lp_M_net_49 N x1 K n a2 μ0) := by
  intro n
  induction n with
  | zero => intro a2 μ0; exact go_none
  | succ n ih =>
    intro a2 μ0
    rw [lp_M_net_49]
    refine go_iload_n (q := 2) (i := 2) (pc := 49) hΓ d_M_net_49 rfl rfl ?_
    refine go_aload_n (q := 0) (i := 0) (pc := 50) hΓ d_M_net_50 rfl rfl ?_
    refine go_getI (pc := 51) hΓ fl_M_110 d_M_net_51 rfl rfl ?_
    refine go_icmp_ge 74 (pc := 54) hΓ d_M_net_54 (by decide) (fun h13 => go_eq (if_neg h13) ?_) (fun h13 => go_eq (if_pos h13) ?_)
    · refine go_sub' (lv' := [(0, .ref 44), (1, .int x1)]) rfl ?_
      exact hK  μ0
    · refine go_aload_n (q := 0) (i := 0) (pc := 57) hΓ d_M_net_57 rfl rfl ?_
      refine go_aload_n (q := 0) (i := 0) (pc := 58) hΓ d_M_net_58 rfl rfl ?_
      refine go_getR (q := 53) (pc := 59) hΓ fl_M_35 d_M_net_59 rfl rfl ?_
      refine go_iload_n (q := 2) (i := 2) (pc := 62) hΓ d_M_net_62 rfl rfl ?_
      refine go_ck (fun h14 => ?_)
      refine go_iald (pc := 63) hΓ d_M_net_63 rfl h14 ?_
      refine go_i2l (pc := 64) hΓ d_M_net_64 ?_
      refine go_callV (index := 76) emV hΓ hR (g_M_enters N (d + 3) (Int32.toInt64 (gI μ0 53 (tn a2)))) mi_M_enters ml_M_76 d_M_net_65 rfl rfl rfl rfl rfl (fun _ μ16 => ?_)
      show Go Γ 3 68 [(0, .ref 44), (1, .int x1), (2, .int a2)] [] μ16 _
      refine go_incI (q := 2) (i := 2) (n := 1) (c := 1) (pc := 68) hΓ d_M_net_68 rfl (by decide) (by decide) (fun v17 => ?_)
      refine go_sub' (lv' := [(2, .int v17), (0, .ref 44), (1, .int x1)]) rfl ?_
      refine go_goto 49 (pc := 71) hΓ d_M_net_71 (by decide) ?_
      refine go_sub' (lv' := [(0, .ref 44), (1, .int x1), (2, .int v17)]) rfl ?_
      exact ih v17 μ16
set_option maxHeartbeats 4000000 in
set_option maxRecDepth 100000 in
theorem g_M_net (N d : Nat) (x1 : Int32)  : CallF eI y_M_net c_M_net 3 (some .int) (d + 4 + 1) [.ref 44, .int x1] (f_M_net N x1) := by
  refine call_of (d := d + 4) (n := 1) mi_M_net.1 (fun _ => rfl) ?_
  intro Γ μ0 hΓ hT hR
  show Go Γ 3 0 [(0, .ref 44), (1, .int x1)] [] μ0 (f_M_net N x1 μ0)
  unfold f_M_net
  refine go_aload_n (q := 0) (i := 0) (pc := 0) hΓ d_M_net_0 rfl rfl ?_
  refine go_iconst (v := 0) (pc := 1) hΓ d_M_net_1 (by decide) ?_
  refine go_putI (pc := 2) hΓ fp_M_69 d_M_net_2 rfl rfl ?_
  refine go_letM (fun μ1 => ?_)
  refine go_aload_n (q := 0) (i := 0) (pc := 5) hΓ d_M_net_5 rfl rfl ?_
  refine go_callV (index := 145) emV hΓ hR (g_M_reads N (d + 3) ) mi_M_reads ml_M_145 d_M_net_6 rfl rfl rfl rfl rfl (fun _ μ3 => ?_)
  show Go Γ 3 9 [(0, .ref 44), (1, .int x1)] [] μ3 _
  refine go_aload_n (q := 0) (i := 0) (pc := 9) hΓ d_M_net_9 rfl rfl ?_
  refine go_callV (index := 148) emI hΓ hR (g_M_takesNet N (d + 0) ) mi_M_takesNet ml_M_148 d_M_net_10 rfl rfl rfl rfl rfl (fun r4 μ5 => ?_)
  show Go Γ 3 13 [(0, .ref 44), (1, .int x1)] [.int r4] μ5 _
  refine go_if_ne 24 (pc := 13) hΓ d_M_net_13 (by decide) (fun h6 => go_eq (if_neg h6) ?_) (fun h6 => go_eq (if_pos h6) ?_)
  · refine go_iload_n (q := 1) (i := 1) (pc := 24) hΓ d_M_net_24 rfl rfl ?_
    refine go_callS (index := 151) emI hΓ hR (g_M_isNet N (d + 2) x1) mi_M_isNet ml_M_151 d_M_net_25 rfl rfl rfl (fun r7 μ8 => ?_)
    show Go Γ 3 28 [(0, .ref 44), (1, .int x1)] [.int r7] μ8 _
    refine go_if_ne 33 (pc := 28) hΓ d_M_net_28 (by decide) (fun h9 => go_eq (if_neg h9) ?_) (fun h9 => go_eq (if_pos h9) ?_)
    · refine go_aload_n (q := 0) (i := 0) (pc := 33) hΓ d_M_net_33 rfl rfl ?_
      refine go_iload_n (q := 1) (i := 1) (pc := 34) hΓ d_M_net_34 rfl rfl ?_
      refine go_aload_n (q := 0) (i := 0) (pc := 35) hΓ d_M_net_35 rfl rfl ?_
      refine go_getI (pc := 36) hΓ fl_M_110 d_M_net_36 rfl rfl ?_
      refine go_callV (index := 154) emV hΓ hR (g_M_untangles N (d + 1) x1 (gI μ8 44 15)) mi_M_untangles ml_M_154 d_M_net_39 rfl rfl rfl rfl rfl (fun _ μ11 => ?_)
      show Go Γ 3 42 [(0, .ref 44), (1, .int x1)] [] μ11 _
      refine go_aload_n (q := 0) (i := 0) (pc := 42) hΓ d_M_net_42 rfl rfl ?_
      refine go_iconst (v := 0) (pc := 43) hΓ d_M_net_43 (by decide) ?_
      refine go_putI (pc := 44) hΓ fp_M_73 d_M_net_44 rfl rfl ?_
      refine go_letM (fun μ12 => ?_)
      refine go_iconst (v := 0) (pc := 47) hΓ d_M_net_47 (by decide) ?_
      refine go_istore_n (i := 2) (lv' := [(2, .int 0), (0, .ref 44), (1, .int x1)]) (pc := 48) hΓ d_M_net_48 rfl (by decide) rfl ?_
      refine go_sub' (lv' := [(0, .ref 44), (1, .int x1), (2, .int 0)]) rfl ?_
      refine glp_M_net_49 N d hΓ hT hR x1 _ (fun μ18 => ?_) N 0 μ12
      refine go_aload_n (q := 0) (i := 0) (pc := 74) hΓ d_M_net_74 rfl rfl ?_
      refine go_getR (q := 47) (pc := 75) hΓ fl_M_17 d_M_net_75 rfl rfl ?_
      refine go_iload_n (q := 1) (i := 1) (pc := 78) hΓ d_M_net_78 rfl rfl ?_
      refine go_ck (fun h19 => ?_)
      refine go_iald (pc := 79) hΓ d_M_net_79 rfl h19 ?_
      exact go_iret (pc := 80) hΓ hT d_M_net_80
    · refine go_iconst (v := -1) (pc := 31) hΓ d_M_net_31 (by decide) ?_
      exact go_iret (pc := 32) hΓ hT d_M_net_32
  · refine go_bipush (v := -21) (pc := 16) hΓ d_M_net_16 (by decide) ?_
    refine go_aload_n (q := 0) (i := 0) (pc := 18) hΓ d_M_net_18 rfl rfl ?_
    refine go_getI (pc := 19) hΓ fl_M_100 d_M_net_19 rfl rfl ?_
    refine go_isub (pc := 22) hΓ d_M_net_22 ?_
    exact go_iret (pc := 23) hΓ hT d_M_net_23
def lp_M_sinks_12 (N : Nat) (x1 : Int32) (x2 : Int32) (x3 : Int32)  (K : Mem → Option (Unit × Mem)) : Nat → Int32 → Mem → Option (Unit × Mem)
  | 0, _, _ => none
  | n + 1, a4, μ0 => if a4 < ((x2 - 1) - x3) then (bnd (f_M_comes3 N x1 a4 (a4 + 1) μ0) fun _ μ4 => lt' (a4 + 1) fun v5 => lp_M_sinks_12 N x1 x2 x3 K n v5 μ4) else (K  μ0)
def lp_M_sinks_2 (N : Nat) (x1 : Int32) (x2 : Int32)  (K : Mem → Option (Unit × Mem)) : Nat → Int32 → Mem → Option (Unit × Mem)
  | 0, _, _ => none
  | n + 1, a3, μ0 => if a3 < (x2 - 1) then (lp_M_sinks_12 N x1 x2 a3 (fun μ6 => lt' (a3 + 1) fun v7 => lp_M_sinks_2 N x1 x2 K n v7 μ6) N 0 μ0) else (K  μ0)
def f_M_sinks (N : Nat) (x1 : Int32) (x2 : Int32) (μ0 : Mem) : Option (Unit × Mem) :=
  lp_M_sinks_2 N x1 x2 (fun μ8 => some ((), μ8)) N 0 μ0
set_option maxHeartbeats 4000000 in
set_option maxRecDepth 100000 in
theorem glp_M_sinks_12 (N d : Nat) {Γ : Cx Unit} (hΓ : Ok Γ "SortingNetsModel" c_M_sinks 5) (hT : Rt Γ eV none) (hR : Rm Γ (d + 2)) (x1 : Int32) (x2 : Int32) (x3 : Int32)    (K : Mem → Option (Unit × Mem)) (hK : ∀  (ν : Mem), Go Γ 5 39 [(0, .ref 44), (1, .int x1), (2, .int x2), (3, .int x3)] [] ν (K  ν)) : ∀ (n : Nat) (a4 : Int32) (μ0 : Mem), Go Γ 5 12 [(0, .ref 44), (1, .int x1), (2, .int x2), (3, .int x3), (4, .int a4)] [] μ0 (lp_M_sinks_12 N x1 x2 x3 K n a4 μ0) := by
  intro n
  induction n with
  | zero => intro a4 μ0; exact go_none
  | succ n ih =>
    intro a4 μ0
    rw [lp_M_sinks_12]
    refine go_iload (q := 4) (pc := 12) hΓ d_M_sinks_12 rfl ?_
    refine go_iload_n (q := 2) (i := 2) (pc := 14) hΓ d_M_sinks_14 rfl rfl ?_
    refine go_iconst (v := 1) (pc := 15) hΓ d_M_sinks_15 (by decide) ?_
    refine go_isub (pc := 16) hΓ d_M_sinks_16 ?_
    refine go_iload_n (q := 3) (i := 3) (pc := 17) hΓ d_M_sinks_17 rfl rfl ?_
    refine go_isub (pc := 18) hΓ d_M_sinks_18 ?_
    refine go_icmp_ge 39 (pc := 19) hΓ d_M_sinks_19 (by decide) (fun h2 => go_eq (if_neg h2) ?_) (fun h2 => go_eq (if_pos h2) ?_)
    · refine go_sub' (lv' := [(0, .ref 44), (1, .int x1), (2, .int x2), (3, .int x3)]) rfl ?_
      exact hK  μ0
    · refine go_aload_n (q := 0) (i := 0) (pc := 22) hΓ d_M_sinks_22 rfl rfl ?_
      refine go_iload_n (q := 1) (i := 1) (pc := 23) hΓ d_M_sinks_23 rfl rfl ?_
      refine go_iload (q := 4) (pc := 24) hΓ d_M_sinks_24 rfl ?_
      refine go_iload (q := 4) (pc := 26) hΓ d_M_sinks_26 rfl ?_
      refine go_iconst (v := 1) (pc := 28) hΓ d_M_sinks_28 (by decide) ?_
      refine go_iadd (pc := 29) hΓ d_M_sinks_29 ?_
      refine go_callV (index := 141) emV hΓ hR (g_M_comes3 N (d + 0) x1 a4 (a4 + 1)) mi_M_comes3 ml_M_141 d_M_sinks_30 rfl rfl rfl rfl rfl (fun _ μ4 => ?_)
      show Go Γ 5 33 [(0, .ref 44), (1, .int x1), (2, .int x2), (3, .int x3), (4, .int a4)] [] μ4 _
      refine go_incI (q := 4) (i := 4) (n := 1) (c := 1) (pc := 33) hΓ d_M_sinks_33 rfl (by decide) (by decide) (fun v5 => ?_)
      refine go_sub' (lv' := [(4, .int v5), (0, .ref 44), (1, .int x1), (2, .int x2), (3, .int x3)]) rfl ?_
      refine go_goto 12 (pc := 36) hΓ d_M_sinks_36 (by decide) ?_
      refine go_sub' (lv' := [(0, .ref 44), (1, .int x1), (2, .int x2), (3, .int x3), (4, .int v5)]) rfl ?_
      exact ih v5 μ4
set_option maxHeartbeats 4000000 in
set_option maxRecDepth 100000 in
theorem glp_M_sinks_2 (N d : Nat) {Γ : Cx Unit} (hΓ : Ok Γ "SortingNetsModel" c_M_sinks 5) (hT : Rt Γ eV none) (hR : Rm Γ (d + 2)) (x1 : Int32) (x2 : Int32)    (K : Mem → Option (Unit × Mem)) (hK : ∀  (ν : Mem), Go Γ 5 45 [] [] ν (K  ν)) : ∀ (n : Nat) (a3 : Int32) (μ0 : Mem), Go Γ 5 2 [(0, .ref 44), (1, .int x1), (2, .int x2), (3, .int a3)] [] μ0 (lp_M_sinks_2 N x1 x2 K n a3 μ0) := by
  intro n
  induction n with
  | zero => intro a3 μ0; exact go_none
  | succ n ih =>
    intro a3 μ0
    rw [lp_M_sinks_2]
    refine go_iload_n (q := 3) (i := 3) (pc := 2) hΓ d_M_sinks_2 rfl rfl ?_
    refine go_iload_n (q := 2) (i := 2) (pc := 3) hΓ d_M_sinks_3 rfl rfl ?_
    refine go_iconst (v := 1) (pc := 4) hΓ d_M_sinks_4 (by decide) ?_
    refine go_isub (pc := 5) hΓ d_M_sinks_5 ?_
    refine go_icmp_ge 45 (pc := 6) hΓ d_M_sinks_6 (by decide) (fun h1 => go_eq (if_neg h1) ?_) (fun h1 => go_eq (if_pos h1) ?_)
    · refine go_sub' (lv' := []) rfl ?_
      exact hK  μ0
    · refine go_iconst (v := 0) (pc := 9) hΓ d_M_sinks_9 (by decide) ?_
      refine go_istore (lv' := [(4, .int 0), (0, .ref 44), (1, .int x1), (2, .int x2), (3, .int a3)]) (pc := 10) hΓ d_M_sinks_10 (by decide) rfl ?_
      refine go_sub' (lv' := [(0, .ref 44), (1, .int x1), (2, .int x2), (3, .int a3), (4, .int 0)]) rfl ?_
      refine glp_M_sinks_12 N d hΓ hT hR x1 x2 a3 _ (fun μ6 => ?_) N 0 μ0
      refine go_incI (q := 3) (i := 3) (n := 1) (c := 1) (pc := 39) hΓ d_M_sinks_39 rfl (by decide) (by decide) (fun v7 => ?_)
      refine go_sub' (lv' := [(3, .int v7), (0, .ref 44), (1, .int x1), (2, .int x2)]) rfl ?_
      refine go_goto 2 (pc := 42) hΓ d_M_sinks_42 (by decide) ?_
      refine go_sub' (lv' := [(0, .ref 44), (1, .int x1), (2, .int x2), (3, .int v7)]) rfl ?_
      exact ih v7 μ6
set_option maxHeartbeats 4000000 in
set_option maxRecDepth 100000 in
theorem g_M_sinks (N d : Nat) (x1 : Int32) (x2 : Int32)  : CallF eV y_M_sinks c_M_sinks 5 none (d + 2 + 1) [.ref 44, .int x1, .int x2] (f_M_sinks N x1 x2) := by
  refine call_of (d := d + 2) (n := 2) mi_M_sinks.1 (fun _ => rfl) ?_
  intro Γ μ0 hΓ hT hR
  show Go Γ 5 0 [(0, .ref 44), (1, .int x1), (2, .int x2)] [] μ0 (f_M_sinks N x1 x2 μ0)
  unfold f_M_sinks
  refine go_iconst (v := 0) (pc := 0) hΓ d_M_sinks_0 (by decide) ?_
  refine go_istore_n (i := 3) (lv' := [(3, .int 0), (0, .ref 44), (1, .int x1), (2, .int x2)]) (pc := 1) hΓ d_M_sinks_1 rfl (by decide) rfl ?_
  refine go_sub' (lv' := [(0, .ref 44), (1, .int x1), (2, .int x2), (3, .int 0)]) rfl ?_
  refine glp_M_sinks_2 N d hΓ hT hR x1 x2 _ (fun μ8 => ?_) N 0 μ0
  exact go_vret (pc := 45) hΓ hT d_M_sinks_45
def lp_M_inserts_12 (N : Nat) (x1 : Int32) (x2 : Int32) (x3 : Int32)  (K : Mem → Option (Unit × Mem)) : Nat → Int32 → Mem → Option (Unit × Mem)
  | 0, _, _ => none
  | n + 1, a4, μ0 => if a4 < 0 then (K  μ0) else (bnd (f_M_comes3 N x1 a4 (a4 + 1) μ0) fun _ μ5 => lt' (a4 + (-1)) fun v6 => lp_M_inserts_12 N x1 x2 x3 K n v6 μ5)
def lp_M_inserts_2 (N : Nat) (x1 : Int32) (x2 : Int32)  (K : Mem → Option (Unit × Mem)) : Nat → Int32 → Mem → Option (Unit × Mem)
  | 0, _, _ => none
  | n + 1, a3, μ0 => if a3 < x2 then (lt' (a3 - 1) fun v2 => lp_M_inserts_12 N x1 x2 a3 (fun μ7 => lt' (a3 + 1) fun v8 => lp_M_inserts_2 N x1 x2 K n v8 μ7) N v2 μ0) else (K  μ0)
def f_M_inserts (N : Nat) (x1 : Int32) (x2 : Int32) (μ0 : Mem) : Option (Unit × Mem) :=
  lp_M_inserts_2 N x1 x2 (fun μ9 => some ((), μ9)) N 1 μ0
set_option maxHeartbeats 4000000 in
set_option maxRecDepth 100000 in
theorem glp_M_inserts_12 (N d : Nat) {Γ : Cx Unit} (hΓ : Ok Γ "SortingNetsModel" c_M_inserts 5) (hT : Rt Γ eV none) (hR : Rm Γ (d + 2)) (x1 : Int32) (x2 : Int32) (x3 : Int32)    (K : Mem → Option (Unit × Mem)) (hK : ∀  (ν : Mem), Go Γ 5 34 [(0, .ref 44), (1, .int x1), (2, .int x2), (3, .int x3)] [] ν (K  ν)) : ∀ (n : Nat) (a4 : Int32) (μ0 : Mem), Go Γ 5 12 [(0, .ref 44), (1, .int x1), (2, .int x2), (3, .int x3), (4, .int a4)] [] μ0 (lp_M_inserts_12 N x1 x2 x3 K n a4 μ0) := by
  intro n
  induction n with
  | zero => intro a4 μ0; exact go_none
  | succ n ih =>
    intro a4 μ0
    rw [lp_M_inserts_12]
    refine go_iload (q := 4) (pc := 12) hΓ d_M_inserts_12 rfl ?_
    refine go_if_lt 34 (pc := 14) hΓ d_M_inserts_14 (by decide) (fun h3 => go_eq (if_pos h3) ?_) (fun h3 => go_eq (if_neg h3) ?_)
    · refine go_sub' (lv' := [(0, .ref 44), (1, .int x1), (2, .int x2), (3, .int x3)]) rfl ?_
      exact hK  μ0
    · refine go_aload_n (q := 0) (i := 0) (pc := 17) hΓ d_M_inserts_17 rfl rfl ?_
      refine go_iload_n (q := 1) (i := 1) (pc := 18) hΓ d_M_inserts_18 rfl rfl ?_
      refine go_iload (q := 4) (pc := 19) hΓ d_M_inserts_19 rfl ?_
      refine go_iload (q := 4) (pc := 21) hΓ d_M_inserts_21 rfl ?_
      refine go_iconst (v := 1) (pc := 23) hΓ d_M_inserts_23 (by decide) ?_
      refine go_iadd (pc := 24) hΓ d_M_inserts_24 ?_
      refine go_callV (index := 141) emV hΓ hR (g_M_comes3 N (d + 0) x1 a4 (a4 + 1)) mi_M_comes3 ml_M_141 d_M_inserts_25 rfl rfl rfl rfl rfl (fun _ μ5 => ?_)
      show Go Γ 5 28 [(0, .ref 44), (1, .int x1), (2, .int x2), (3, .int x3), (4, .int a4)] [] μ5 _
      refine go_incI (q := 4) (i := 4) (n := -1) (c := -1) (pc := 28) hΓ d_M_inserts_28 rfl (by decide) (by decide) (fun v6 => ?_)
      refine go_sub' (lv' := [(4, .int v6), (0, .ref 44), (1, .int x1), (2, .int x2), (3, .int x3)]) rfl ?_
      refine go_goto 12 (pc := 31) hΓ d_M_inserts_31 (by decide) ?_
      refine go_sub' (lv' := [(0, .ref 44), (1, .int x1), (2, .int x2), (3, .int x3), (4, .int v6)]) rfl ?_
      exact ih v6 μ5
set_option maxHeartbeats 4000000 in
set_option maxRecDepth 100000 in
theorem glp_M_inserts_2 (N d : Nat) {Γ : Cx Unit} (hΓ : Ok Γ "SortingNetsModel" c_M_inserts 5) (hT : Rt Γ eV none) (hR : Rm Γ (d + 2)) (x1 : Int32) (x2 : Int32)    (K : Mem → Option (Unit × Mem)) (hK : ∀  (ν : Mem), Go Γ 5 40 [] [] ν (K  ν)) : ∀ (n : Nat) (a3 : Int32) (μ0 : Mem), Go Γ 5 2 [(0, .ref 44), (1, .int x1), (2, .int x2), (3, .int a3)] [] μ0 (lp_M_inserts_2 N x1 x2 K n a3 μ0) := by
  intro n
  induction n with
  | zero => intro a3 μ0; exact go_none
  | succ n ih =>
    intro a3 μ0
    rw [lp_M_inserts_2]
    refine go_iload_n (q := 3) (i := 3) (pc := 2) hΓ d_M_inserts_2 rfl rfl ?_
    refine go_iload_n (q := 2) (i := 2) (pc := 3) hΓ d_M_inserts_3 rfl rfl ?_
    refine go_icmp_ge 40 (pc := 4) hΓ d_M_inserts_4 (by decide) (fun h1 => go_eq (if_neg h1) ?_) (fun h1 => go_eq (if_pos h1) ?_)
    · refine go_sub' (lv' := []) rfl ?_
      exact hK  μ0
    · refine go_iload_n (q := 3) (i := 3) (pc := 7) hΓ d_M_inserts_7 rfl rfl ?_
      refine go_iconst (v := 1) (pc := 8) hΓ d_M_inserts_8 (by decide) ?_
      refine go_isub (pc := 9) hΓ d_M_inserts_9 ?_
      refine go_letI (fun v2 => ?_)
      refine go_istore (lv' := [(4, .int v2), (0, .ref 44), (1, .int x1), (2, .int x2), (3, .int a3)]) (pc := 10) hΓ d_M_inserts_10 (by decide) rfl ?_
      refine go_sub' (lv' := [(0, .ref 44), (1, .int x1), (2, .int x2), (3, .int a3), (4, .int v2)]) rfl ?_
      refine glp_M_inserts_12 N d hΓ hT hR x1 x2 a3 _ (fun μ7 => ?_) N v2 μ0
      refine go_incI (q := 3) (i := 3) (n := 1) (c := 1) (pc := 34) hΓ d_M_inserts_34 rfl (by decide) (by decide) (fun v8 => ?_)
      refine go_sub' (lv' := [(3, .int v8), (0, .ref 44), (1, .int x1), (2, .int x2)]) rfl ?_
      refine go_goto 2 (pc := 37) hΓ d_M_inserts_37 (by decide) ?_
      refine go_sub' (lv' := [(0, .ref 44), (1, .int x1), (2, .int x2), (3, .int v8)]) rfl ?_
      exact ih v8 μ7
set_option maxHeartbeats 4000000 in
set_option maxRecDepth 100000 in
theorem g_M_inserts (N d : Nat) (x1 : Int32) (x2 : Int32)  : CallF eV y_M_inserts c_M_inserts 5 none (d + 2 + 1) [.ref 44, .int x1, .int x2] (f_M_inserts N x1 x2) := by
  refine call_of (d := d + 2) (n := 2) mi_M_inserts.1 (fun _ => rfl) ?_
  intro Γ μ0 hΓ hT hR
  show Go Γ 5 0 [(0, .ref 44), (1, .int x1), (2, .int x2)] [] μ0 (f_M_inserts N x1 x2 μ0)
  unfold f_M_inserts
  refine go_iconst (v := 1) (pc := 0) hΓ d_M_inserts_0 (by decide) ?_
  refine go_istore_n (i := 3) (lv' := [(3, .int 1), (0, .ref 44), (1, .int x1), (2, .int x2)]) (pc := 1) hΓ d_M_inserts_1 rfl (by decide) rfl ?_
  refine go_sub' (lv' := [(0, .ref 44), (1, .int x1), (2, .int x2), (3, .int 1)]) rfl ?_
  refine glp_M_inserts_2 N d hΓ hT hR x1 x2 _ (fun μ9 => ?_) N 1 μ0
  exact go_vret (pc := 40) hΓ hT d_M_inserts_40
def lp_M_alternates_12 (N : Nat) (x1 : Int32) (x2 : Int32) (x3 : Int32)  (K : Mem → Option (Unit × Mem)) : Nat → Int32 → Mem → Option (Unit × Mem)
  | 0, _, _ => none
  | n + 1, a4, μ0 => if a4 < (x2 - 1) then (bnd (f_M_comes3 N x1 a4 (a4 + 1) μ0) fun _ μ5 => lt' (a4 + 2) fun v6 => lp_M_alternates_12 N x1 x2 x3 K n v6 μ5) else (K  μ0)
def lp_M_alternates_2 (N : Nat) (x1 : Int32) (x2 : Int32)  (K : Mem → Option (Unit × Mem)) : Nat → Int32 → Mem → Option (Unit × Mem)
  | 0, _, _ => none
  | n + 1, a3, μ0 => if a3 < x2 then (lt' (remI a3 2) fun v2 => lp_M_alternates_12 N x1 x2 a3 (fun μ7 => lt' (a3 + 1) fun v8 => lp_M_alternates_2 N x1 x2 K n v8 μ7) N v2 μ0) else (K  μ0)
def f_M_alternates (N : Nat) (x1 : Int32) (x2 : Int32) (μ0 : Mem) : Option (Unit × Mem) :=
  lp_M_alternates_2 N x1 x2 (fun μ9 => some ((), μ9)) N 0 μ0
set_option maxHeartbeats 4000000 in
set_option maxRecDepth 100000 in
theorem glp_M_alternates_12 (N d : Nat) {Γ : Cx Unit} (hΓ : Ok Γ "SortingNetsModel" c_M_alternates 5) (hT : Rt Γ eV none) (hR : Rm Γ (d + 2)) (x1 : Int32) (x2 : Int32) (x3 : Int32)    (K : Mem → Option (Unit × Mem)) (hK : ∀  (ν : Mem), Go Γ 5 37 [(0, .ref 44), (1, .int x1), (2, .int x2), (3, .int x3)] [] ν (K  ν)) : ∀ (n : Nat) (a4 : Int32) (μ0 : Mem), Go Γ 5 12 [(0, .ref 44), (1, .int x1), (2, .int x2), (3, .int x3), (4, .int a4)] [] μ0 (lp_M_alternates_12 N x1 x2 x3 K n a4 μ0) := by
  intro n
  induction n with
  | zero => intro a4 μ0; exact go_none
  | succ n ih =>
    intro a4 μ0
    rw [lp_M_alternates_12]
    refine go_iload (q := 4) (pc := 12) hΓ d_M_alternates_12 rfl ?_
    refine go_iload_n (q := 2) (i := 2) (pc := 14) hΓ d_M_alternates_14 rfl rfl ?_
    refine go_iconst (v := 1) (pc := 15) hΓ d_M_alternates_15 (by decide) ?_
    refine go_isub (pc := 16) hΓ d_M_alternates_16 ?_
    refine go_icmp_ge 37 (pc := 17) hΓ d_M_alternates_17 (by decide) (fun h3 => go_eq (if_neg h3) ?_) (fun h3 => go_eq (if_pos h3) ?_)
    · refine go_sub' (lv' := [(0, .ref 44), (1, .int x1), (2, .int x2), (3, .int x3)]) rfl ?_
      exact hK  μ0
    · refine go_aload_n (q := 0) (i := 0) (pc := 20) hΓ d_M_alternates_20 rfl rfl ?_
      refine go_iload_n (q := 1) (i := 1) (pc := 21) hΓ d_M_alternates_21 rfl rfl ?_
      refine go_iload (q := 4) (pc := 22) hΓ d_M_alternates_22 rfl ?_
      refine go_iload (q := 4) (pc := 24) hΓ d_M_alternates_24 rfl ?_
      refine go_iconst (v := 1) (pc := 26) hΓ d_M_alternates_26 (by decide) ?_
      refine go_iadd (pc := 27) hΓ d_M_alternates_27 ?_
      refine go_callV (index := 141) emV hΓ hR (g_M_comes3 N (d + 0) x1 a4 (a4 + 1)) mi_M_comes3 ml_M_141 d_M_alternates_28 rfl rfl rfl rfl rfl (fun _ μ5 => ?_)
      show Go Γ 5 31 [(0, .ref 44), (1, .int x1), (2, .int x2), (3, .int x3), (4, .int a4)] [] μ5 _
      refine go_incI (q := 4) (i := 4) (n := 2) (c := 2) (pc := 31) hΓ d_M_alternates_31 rfl (by decide) (by decide) (fun v6 => ?_)
      refine go_sub' (lv' := [(4, .int v6), (0, .ref 44), (1, .int x1), (2, .int x2), (3, .int x3)]) rfl ?_
      refine go_goto 12 (pc := 34) hΓ d_M_alternates_34 (by decide) ?_
      refine go_sub' (lv' := [(0, .ref 44), (1, .int x1), (2, .int x2), (3, .int x3), (4, .int v6)]) rfl ?_
      exact ih v6 μ5
set_option maxHeartbeats 4000000 in
set_option maxRecDepth 100000 in
theorem glp_M_alternates_2 (N d : Nat) {Γ : Cx Unit} (hΓ : Ok Γ "SortingNetsModel" c_M_alternates 5) (hT : Rt Γ eV none) (hR : Rm Γ (d + 2)) (x1 : Int32) (x2 : Int32)    (K : Mem → Option (Unit × Mem)) (hK : ∀  (ν : Mem), Go Γ 5 43 [] [] ν (K  ν)) : ∀ (n : Nat) (a3 : Int32) (μ0 : Mem), Go Γ 5 2 [(0, .ref 44), (1, .int x1), (2, .int x2), (3, .int a3)] [] μ0 (lp_M_alternates_2 N x1 x2 K n a3 μ0) := by
  intro n
  induction n with
  | zero => intro a3 μ0; exact go_none
  | succ n ih =>
    intro a3 μ0
    rw [lp_M_alternates_2]
    refine go_iload_n (q := 3) (i := 3) (pc := 2) hΓ d_M_alternates_2 rfl rfl ?_
    refine go_iload_n (q := 2) (i := 2) (pc := 3) hΓ d_M_alternates_3 rfl rfl ?_
    refine go_icmp_ge 43 (pc := 4) hΓ d_M_alternates_4 (by decide) (fun h1 => go_eq (if_neg h1) ?_) (fun h1 => go_eq (if_pos h1) ?_)
    · refine go_sub' (lv' := []) rfl ?_
      exact hK  μ0
    · refine go_iload_n (q := 3) (i := 3) (pc := 7) hΓ d_M_alternates_7 rfl rfl ?_
      refine go_iconst (v := 2) (pc := 8) hΓ d_M_alternates_8 (by decide) ?_
      refine go_irem (pc := 9) hΓ d_M_alternates_9 (by decide) ?_
      refine go_letI (fun v2 => ?_)
      refine go_istore (lv' := [(4, .int v2), (0, .ref 44), (1, .int x1), (2, .int x2), (3, .int a3)]) (pc := 10) hΓ d_M_alternates_10 (by decide) rfl ?_
      refine go_sub' (lv' := [(0, .ref 44), (1, .int x1), (2, .int x2), (3, .int a3), (4, .int v2)]) rfl ?_
      refine glp_M_alternates_12 N d hΓ hT hR x1 x2 a3 _ (fun μ7 => ?_) N v2 μ0
      refine go_incI (q := 3) (i := 3) (n := 1) (c := 1) (pc := 37) hΓ d_M_alternates_37 rfl (by decide) (by decide) (fun v8 => ?_)
      refine go_sub' (lv' := [(3, .int v8), (0, .ref 44), (1, .int x1), (2, .int x2)]) rfl ?_
      refine go_goto 2 (pc := 40) hΓ d_M_alternates_40 (by decide) ?_
      refine go_sub' (lv' := [(0, .ref 44), (1, .int x1), (2, .int x2), (3, .int v8)]) rfl ?_
      exact ih v8 μ7
set_option maxHeartbeats 4000000 in
set_option maxRecDepth 100000 in
theorem g_M_alternates (N d : Nat) (x1 : Int32) (x2 : Int32)  : CallF eV y_M_alternates c_M_alternates 5 none (d + 2 + 1) [.ref 44, .int x1, .int x2] (f_M_alternates N x1 x2) := by
  refine call_of (d := d + 2) (n := 2) mi_M_alternates.1 (fun _ => rfl) ?_
  intro Γ μ0 hΓ hT hR
  show Go Γ 5 0 [(0, .ref 44), (1, .int x1), (2, .int x2)] [] μ0 (f_M_alternates N x1 x2 μ0)
  unfold f_M_alternates
  refine go_iconst (v := 0) (pc := 0) hΓ d_M_alternates_0 (by decide) ?_
  refine go_istore_n (i := 3) (lv' := [(3, .int 0), (0, .ref 44), (1, .int x1), (2, .int x2)]) (pc := 1) hΓ d_M_alternates_1 rfl (by decide) rfl ?_
  refine go_sub' (lv' := [(0, .ref 44), (1, .int x1), (2, .int x2), (3, .int 0)]) rfl ?_
  refine glp_M_alternates_2 N d hΓ hT hR x1 x2 _ (fun μ9 => ?_) N 0 μ0
  exact go_vret (pc := 43) hΓ hT d_M_alternates_43
def lp_M_exchanges5_3 (N : Nat) (x1 : Int32) (x2 : Int32) (x3 : Int32) (x4 : Int32) (x5 : Int32)  (K : Mem → Option (Unit × Mem)) : Nat → Int32 → Mem → Option (Unit × Mem)
  | 0, _, _ => none
  | n + 1, a6, μ0 => if a6 < (x2 - x4) then (lt' (fun (μ3 : Mem) => lt' (a6 + 1) fun v4 => lp_M_exchanges5_3 N x1 x2 x3 x4 x5 K n v4 μ3) fun (k2 : Mem → Option (Unit × Mem)) => if (a6 &&& x3) = x5 then (bnd (f_M_comes3 N x1 a6 (a6 + x4) μ0) fun _ μ7 => k2 μ7) else (k2 μ0)) else (K  μ0)
def f_M_exchanges5 (N : Nat) (x1 : Int32) (x2 : Int32) (x3 : Int32) (x4 : Int32) (x5 : Int32) (μ0 : Mem) : Option (Unit × Mem) :=
  lp_M_exchanges5_3 N x1 x2 x3 x4 x5 (fun μ8 => some ((), μ8)) N 0 μ0
set_option maxHeartbeats 4000000 in
set_option maxRecDepth 100000 in
theorem glp_M_exchanges5_3 (N d : Nat) {Γ : Cx Unit} (hΓ : Ok Γ "SortingNetsModel" c_M_exchanges5 7) (hT : Rt Γ eV none) (hR : Rm Γ (d + 2)) (x1 : Int32) (x2 : Int32) (x3 : Int32) (x4 : Int32) (x5 : Int32)    (K : Mem → Option (Unit × Mem)) (hK : ∀  (ν : Mem), Go Γ 7 39 [] [] ν (K  ν)) : ∀ (n : Nat) (a6 : Int32) (μ0 : Mem), Go Γ 7 3 [(0, .ref 44), (1, .int x1), (2, .int x2), (3, .int x3), (4, .int x4), (5, .int x5), (6, .int a6)] [] μ0 (lp_M_exchanges5_3 N x1 x2 x3 x4 x5 K n a6 μ0) := by
  intro n
  induction n with
  | zero => intro a6 μ0; exact go_none
  | succ n ih =>
    intro a6 μ0
    rw [lp_M_exchanges5_3]
    refine go_iload (q := 6) (pc := 3) hΓ d_M_exchanges5_3 rfl ?_
    refine go_iload_n (q := 2) (i := 2) (pc := 5) hΓ d_M_exchanges5_5 rfl rfl ?_
    refine go_iload (q := 4) (pc := 6) hΓ d_M_exchanges5_6 rfl ?_
    refine go_isub (pc := 8) hΓ d_M_exchanges5_8 ?_
    refine go_icmp_ge 39 (pc := 9) hΓ d_M_exchanges5_9 (by decide) (fun h1 => go_eq (if_neg h1) ?_) (fun h1 => go_eq (if_pos h1) ?_)
    · refine go_sub' (lv' := []) rfl ?_
      exact hK  μ0
    · refine go_iload (q := 6) (pc := 12) hΓ d_M_exchanges5_12 rfl ?_
      refine go_iload_n (q := 3) (i := 3) (pc := 14) hΓ d_M_exchanges5_14 rfl rfl ?_
      refine go_iand (pc := 15) hΓ d_M_exchanges5_15 ?_
      refine go_iload (q := 5) (pc := 16) hΓ d_M_exchanges5_16 rfl ?_
      refine go_join (fun (k2 : Mem → Option (Unit × Mem)) => ∀ (μ3 : Mem), Go Γ 7 33 [(0, .ref 44), (1, .int x1), (2, .int x2), (3, .int x3), (4, .int x4), (5, .int x5), (6, .int a6)] [] μ3 (k2 μ3)) ?_ (fun k2 k2h => ?_)
      · intro μ3
        refine go_incI (q := 6) (i := 6) (n := 1) (c := 1) (pc := 33) hΓ d_M_exchanges5_33 rfl (by decide) (by decide) (fun v4 => ?_)
        refine go_sub' (lv' := [(6, .int v4), (0, .ref 44), (1, .int x1), (2, .int x2), (3, .int x3), (4, .int x4), (5, .int x5)]) rfl ?_
        refine go_goto 3 (pc := 36) hΓ d_M_exchanges5_36 (by decide) ?_
        refine go_sub' (lv' := [(0, .ref 44), (1, .int x1), (2, .int x2), (3, .int x3), (4, .int x4), (5, .int x5), (6, .int v4)]) rfl ?_
        exact ih v4 μ3
      · refine go_icmp_ne 33 (pc := 18) hΓ d_M_exchanges5_18 (by decide) (fun h5 => go_eq (if_neg h5) ?_) (fun h5 => go_eq (if_pos h5) ?_)
        · refine go_sub' (lv' := [(0, .ref 44), (1, .int x1), (2, .int x2), (3, .int x3), (4, .int x4), (5, .int x5), (6, .int a6)]) rfl ?_
          exact k2h μ0
        · refine go_aload_n (q := 0) (i := 0) (pc := 21) hΓ d_M_exchanges5_21 rfl rfl ?_
          refine go_iload_n (q := 1) (i := 1) (pc := 22) hΓ d_M_exchanges5_22 rfl rfl ?_
          refine go_iload (q := 6) (pc := 23) hΓ d_M_exchanges5_23 rfl ?_
          refine go_iload (q := 6) (pc := 25) hΓ d_M_exchanges5_25 rfl ?_
          refine go_iload (q := 4) (pc := 27) hΓ d_M_exchanges5_27 rfl ?_
          refine go_iadd (pc := 29) hΓ d_M_exchanges5_29 ?_
          refine go_callV (index := 141) emV hΓ hR (g_M_comes3 N (d + 0) x1 a6 (a6 + x4)) mi_M_comes3 ml_M_141 d_M_exchanges5_30 rfl rfl rfl rfl rfl (fun _ μ7 => ?_)
          show Go Γ 7 33 [(0, .ref 44), (1, .int x1), (2, .int x2), (3, .int x3), (4, .int x4), (5, .int x5), (6, .int a6)] [] μ7 _
          refine go_sub' (lv' := [(0, .ref 44), (1, .int x1), (2, .int x2), (3, .int x3), (4, .int x4), (5, .int x5), (6, .int a6)]) rfl ?_
          exact k2h μ7
set_option maxHeartbeats 4000000 in
set_option maxRecDepth 100000 in
theorem g_M_exchanges5 (N d : Nat) (x1 : Int32) (x2 : Int32) (x3 : Int32) (x4 : Int32) (x5 : Int32)  : CallF eV y_M_exchanges5 c_M_exchanges5 7 none (d + 2 + 1) [.ref 44, .int x1, .int x2, .int x3, .int x4, .int x5] (f_M_exchanges5 N x1 x2 x3 x4 x5) := by
  refine call_of (d := d + 2) (n := 5) mi_M_exchanges5.1 (fun _ => rfl) ?_
  intro Γ μ0 hΓ hT hR
  show Go Γ 7 0 [(0, .ref 44), (1, .int x1), (2, .int x2), (3, .int x3), (4, .int x4), (5, .int x5)] [] μ0 (f_M_exchanges5 N x1 x2 x3 x4 x5 μ0)
  unfold f_M_exchanges5
  refine go_iconst (v := 0) (pc := 0) hΓ d_M_exchanges5_0 (by decide) ?_
  refine go_istore (lv' := [(6, .int 0), (0, .ref 44), (1, .int x1), (2, .int x2), (3, .int x3), (4, .int x4), (5, .int x5)]) (pc := 1) hΓ d_M_exchanges5_1 (by decide) rfl ?_
  refine go_sub' (lv' := [(0, .ref 44), (1, .int x1), (2, .int x2), (3, .int x3), (4, .int x4), (5, .int x5), (6, .int 0)]) rfl ?_
  refine glp_M_exchanges5_3 N d hΓ hT hR x1 x2 x3 x4 x5 _ (fun μ8 => ?_) N 0 μ0
  exact go_vret (pc := 39) hΓ hT d_M_exchanges5_39
def lp_M_mergesAll_2 (N : Nat) (x1 : Int32) (x2 : Int32)  (K : Int32 → Mem → Option (Unit × Mem)) : Nat → Int32 → Mem → Option (Unit × Mem)
  | 0, _, _ => none
  | n + 1, a3, μ0 => if a3 < x2 then (lt' (a3 * 2) fun v2 => lp_M_mergesAll_2 N x1 x2 K n v2 μ0) else (K a3 μ0)
def lp_M_mergesAll_40 (N : Nat) (x1 : Int32) (x2 : Int32) (x3 : Int32) (x4 : Int32)  (K : Mem → Option (Unit × Mem)) : Nat → Int32 → Mem → Option (Unit × Mem)
  | 0, _, _ => none
  | n + 1, a5, μ0 => if a5 = x4 then (K  μ0) else (bnd (f_M_exchanges5 N x1 x2 x4 (a5 - x4) x4 μ0) fun _ μ12 => lt' (a5 / 2) fun v13 => lp_M_mergesAll_40 N x1 x2 x3 x4 K n v13 μ12)
def lp_M_mergesAll_19 (N : Nat) (x1 : Int32) (x2 : Int32) (x3 : Int32)  (K : Mem → Option (Unit × Mem)) : Nat → Int32 → Mem → Option (Unit × Mem)
  | 0, _, _ => none
  | n + 1, a4, μ0 => if 0 < a4 then (bnd (f_M_exchanges5 N x1 x2 a4 a4 0 μ0) fun _ μ8 => lt' (x3 / 2) fun v9 => lp_M_mergesAll_40 N x1 x2 x3 a4 (fun μ14 => lt' (a4 / 2) fun v15 => lp_M_mergesAll_19 N x1 x2 x3 K n v15 μ14) N v9 μ8) else (K  μ0)
def f_M_mergesAll (N : Nat) (x1 : Int32) (x2 : Int32) (μ0 : Mem) : Option (Unit × Mem) :=
  lp_M_mergesAll_2 N x1 x2 (fun v3 μ4 => lt' (v3 / 2) fun v5 => lp_M_mergesAll_19 N x1 x2 v3 (fun μ16 => some ((), μ16)) N v5 μ4) N 1 μ0
set_option maxHeartbeats 4000000 in
set_option maxRecDepth 100000 in
theorem glp_M_mergesAll_2 (N d : Nat) {Γ : Cx Unit} (hΓ : Ok Γ "SortingNetsModel" c_M_mergesAll 6) (hT : Rt Γ eV none) (hR : Rm Γ (d + 3)) (x1 : Int32) (x2 : Int32)    (K : Int32 → Mem → Option (Unit × Mem)) (hK : ∀ (b3 : Int32) (ν : Mem), Go Γ 6 14 [(0, .ref 44), (1, .int x1), (2, .int x2), (3, .int b3)] [] ν (K b3 ν)) : ∀ (n : Nat) (a3 : Int32) (μ0 : Mem), Go Γ 6 2 [(0, .ref 44), (1, .int x1), (2, .int x2), (3, .int a3)] [] μ0 (lp_M_mergesAll_2 N x1 x2 K n a3 μ0) := by
  intro n
  induction n with
  | zero => intro a3 μ0; exact go_none
  | succ n ih =>
    intro a3 μ0
    rw [lp_M_mergesAll_2]
    refine go_iload_n (q := 3) (i := 3) (pc := 2) hΓ d_M_mergesAll_2 rfl rfl ?_
    refine go_iload_n (q := 2) (i := 2) (pc := 3) hΓ d_M_mergesAll_3 rfl rfl ?_
    refine go_icmp_ge 14 (pc := 4) hΓ d_M_mergesAll_4 (by decide) (fun h1 => go_eq (if_neg h1) ?_) (fun h1 => go_eq (if_pos h1) ?_)
    · refine go_sub' (lv' := [(0, .ref 44), (1, .int x1), (2, .int x2), (3, .int a3)]) rfl ?_
      exact hK a3 μ0
    · refine go_iload_n (q := 3) (i := 3) (pc := 7) hΓ d_M_mergesAll_7 rfl rfl ?_
      refine go_iconst (v := 2) (pc := 8) hΓ d_M_mergesAll_8 (by decide) ?_
      refine go_imul (pc := 9) hΓ d_M_mergesAll_9 ?_
      refine go_letI (fun v2 => ?_)
      refine go_istore_n (i := 3) (lv' := [(3, .int v2), (0, .ref 44), (1, .int x1), (2, .int x2)]) (pc := 10) hΓ d_M_mergesAll_10 rfl (by decide) rfl ?_
      refine go_goto 2 (pc := 11) hΓ d_M_mergesAll_11 (by decide) ?_
      refine go_sub' (lv' := [(0, .ref 44), (1, .int x1), (2, .int x2), (3, .int v2)]) rfl ?_
      exact ih v2 μ0
set_option maxHeartbeats 4000000 in
set_option maxRecDepth 100000 in
theorem glp_M_mergesAll_40 (N d : Nat) {Γ : Cx Unit} (hΓ : Ok Γ "SortingNetsModel" c_M_mergesAll 6) (hT : Rt Γ eV none) (hR : Rm Γ (d + 3)) (x1 : Int32) (x2 : Int32) (x3 : Int32) (x4 : Int32)    (K : Mem → Option (Unit × Mem)) (hK : ∀  (ν : Mem), Go Γ 6 71 [(0, .ref 44), (1, .int x1), (2, .int x2), (3, .int x3), (4, .int x4)] [] ν (K  ν)) : ∀ (n : Nat) (a5 : Int32) (μ0 : Mem), Go Γ 6 40 [(0, .ref 44), (1, .int x1), (2, .int x2), (3, .int x3), (4, .int x4), (5, .int a5)] [] μ0 (lp_M_mergesAll_40 N x1 x2 x3 x4 K n a5 μ0) := by
  intro n
  induction n with
  | zero => intro a5 μ0; exact go_none
  | succ n ih =>
    intro a5 μ0
    rw [lp_M_mergesAll_40]
    refine go_iload (q := 5) (pc := 40) hΓ d_M_mergesAll_40 rfl ?_
    refine go_iload (q := 4) (pc := 42) hΓ d_M_mergesAll_42 rfl ?_
    refine go_icmp_eq 71 (pc := 44) hΓ d_M_mergesAll_44 (by decide) (fun h10 => go_eq (if_pos h10) ?_) (fun h10 => go_eq (if_neg h10) ?_)
    · refine go_sub' (lv' := [(0, .ref 44), (1, .int x1), (2, .int x2), (3, .int x3), (4, .int x4)]) rfl ?_
      exact hK  μ0
    · refine go_aload_n (q := 0) (i := 0) (pc := 47) hΓ d_M_mergesAll_47 rfl rfl ?_
      refine go_iload_n (q := 1) (i := 1) (pc := 48) hΓ d_M_mergesAll_48 rfl rfl ?_
      refine go_iload_n (q := 2) (i := 2) (pc := 49) hΓ d_M_mergesAll_49 rfl rfl ?_
      refine go_iload (q := 4) (pc := 50) hΓ d_M_mergesAll_50 rfl ?_
      refine go_iload (q := 5) (pc := 52) hΓ d_M_mergesAll_52 rfl ?_
      refine go_iload (q := 4) (pc := 54) hΓ d_M_mergesAll_54 rfl ?_
      refine go_isub (pc := 56) hΓ d_M_mergesAll_56 ?_
      refine go_iload (q := 4) (pc := 57) hΓ d_M_mergesAll_57 rfl ?_
      refine go_callV (index := 157) emV hΓ hR (g_M_exchanges5 N (d + 0) x1 x2 x4 (a5 - x4) x4) mi_M_exchanges5 ml_M_157 d_M_mergesAll_59 rfl rfl rfl rfl rfl (fun _ μ12 => ?_)
      show Go Γ 6 62 [(0, .ref 44), (1, .int x1), (2, .int x2), (3, .int x3), (4, .int x4), (5, .int a5)] [] μ12 _
      refine go_iload (q := 5) (pc := 62) hΓ d_M_mergesAll_62 rfl ?_
      refine go_iconst (v := 2) (pc := 64) hΓ d_M_mergesAll_64 (by decide) ?_
      refine go_idiv (pc := 65) hΓ d_M_mergesAll_65 (by decide) ?_
      refine go_letI (fun v13 => ?_)
      refine go_istore (lv' := [(5, .int v13), (0, .ref 44), (1, .int x1), (2, .int x2), (3, .int x3), (4, .int x4)]) (pc := 66) hΓ d_M_mergesAll_66 (by decide) rfl ?_
      refine go_goto 40 (pc := 68) hΓ d_M_mergesAll_68 (by decide) ?_
      refine go_sub' (lv' := [(0, .ref 44), (1, .int x1), (2, .int x2), (3, .int x3), (4, .int x4), (5, .int v13)]) rfl ?_
      exact ih v13 μ12
set_option maxHeartbeats 4000000 in
set_option maxRecDepth 100000 in
theorem glp_M_mergesAll_19 (N d : Nat) {Γ : Cx Unit} (hΓ : Ok Γ "SortingNetsModel" c_M_mergesAll 6) (hT : Rt Γ eV none) (hR : Rm Γ (d + 3)) (x1 : Int32) (x2 : Int32) (x3 : Int32)    (K : Mem → Option (Unit × Mem)) (hK : ∀  (ν : Mem), Go Γ 6 80 [] [] ν (K  ν)) : ∀ (n : Nat) (a4 : Int32) (μ0 : Mem), Go Γ 6 19 [(0, .ref 44), (1, .int x1), (2, .int x2), (3, .int x3), (4, .int a4)] [] μ0 (lp_M_mergesAll_19 N x1 x2 x3 K n a4 μ0) := by
  intro n
  induction n with
  | zero => intro a4 μ0; exact go_none
  | succ n ih =>
    intro a4 μ0
    rw [lp_M_mergesAll_19]
    refine go_iload (q := 4) (pc := 19) hΓ d_M_mergesAll_19 rfl ?_
    refine go_if_le 80 (pc := 21) hΓ d_M_mergesAll_21 (by decide) (fun h6 => go_eq (if_neg h6) ?_) (fun h6 => go_eq (if_pos h6) ?_)
    · refine go_sub' (lv' := []) rfl ?_
      exact hK  μ0
    · refine go_aload_n (q := 0) (i := 0) (pc := 24) hΓ d_M_mergesAll_24 rfl rfl ?_
      refine go_iload_n (q := 1) (i := 1) (pc := 25) hΓ d_M_mergesAll_25 rfl rfl ?_
      refine go_iload_n (q := 2) (i := 2) (pc := 26) hΓ d_M_mergesAll_26 rfl rfl ?_
      refine go_iload (q := 4) (pc := 27) hΓ d_M_mergesAll_27 rfl ?_
      refine go_iload (q := 4) (pc := 29) hΓ d_M_mergesAll_29 rfl ?_
      refine go_iconst (v := 0) (pc := 31) hΓ d_M_mergesAll_31 (by decide) ?_
      refine go_callV (index := 157) emV hΓ hR (g_M_exchanges5 N (d + 0) x1 x2 a4 a4 0) mi_M_exchanges5 ml_M_157 d_M_mergesAll_32 rfl rfl rfl rfl rfl (fun _ μ8 => ?_)
      show Go Γ 6 35 [(0, .ref 44), (1, .int x1), (2, .int x2), (3, .int x3), (4, .int a4)] [] μ8 _
      refine go_iload_n (q := 3) (i := 3) (pc := 35) hΓ d_M_mergesAll_35 rfl rfl ?_
      refine go_iconst (v := 2) (pc := 36) hΓ d_M_mergesAll_36 (by decide) ?_
      refine go_idiv (pc := 37) hΓ d_M_mergesAll_37 (by decide) ?_
      refine go_letI (fun v9 => ?_)
      refine go_istore (lv' := [(5, .int v9), (0, .ref 44), (1, .int x1), (2, .int x2), (3, .int x3), (4, .int a4)]) (pc := 38) hΓ d_M_mergesAll_38 (by decide) rfl ?_
      refine go_sub' (lv' := [(0, .ref 44), (1, .int x1), (2, .int x2), (3, .int x3), (4, .int a4), (5, .int v9)]) rfl ?_
      refine glp_M_mergesAll_40 N d hΓ hT hR x1 x2 x3 a4 _ (fun μ14 => ?_) N v9 μ8
      refine go_iload (q := 4) (pc := 71) hΓ d_M_mergesAll_71 rfl ?_
      refine go_iconst (v := 2) (pc := 73) hΓ d_M_mergesAll_73 (by decide) ?_
      refine go_idiv (pc := 74) hΓ d_M_mergesAll_74 (by decide) ?_
      refine go_letI (fun v15 => ?_)
      refine go_istore (lv' := [(4, .int v15), (0, .ref 44), (1, .int x1), (2, .int x2), (3, .int x3)]) (pc := 75) hΓ d_M_mergesAll_75 (by decide) rfl ?_
      refine go_goto 19 (pc := 77) hΓ d_M_mergesAll_77 (by decide) ?_
      refine go_sub' (lv' := [(0, .ref 44), (1, .int x1), (2, .int x2), (3, .int x3), (4, .int v15)]) rfl ?_
      exact ih v15 μ14
set_option maxHeartbeats 4000000 in
set_option maxRecDepth 100000 in
theorem g_M_mergesAll (N d : Nat) (x1 : Int32) (x2 : Int32)  : CallF eV y_M_mergesAll c_M_mergesAll 6 none (d + 3 + 1) [.ref 44, .int x1, .int x2] (f_M_mergesAll N x1 x2) := by
  refine call_of (d := d + 3) (n := 2) mi_M_mergesAll.1 (fun _ => rfl) ?_
  intro Γ μ0 hΓ hT hR
  show Go Γ 6 0 [(0, .ref 44), (1, .int x1), (2, .int x2)] [] μ0 (f_M_mergesAll N x1 x2 μ0)
  unfold f_M_mergesAll
  refine go_iconst (v := 1) (pc := 0) hΓ d_M_mergesAll_0 (by decide) ?_
  refine go_istore_n (i := 3) (lv' := [(3, .int 1), (0, .ref 44), (1, .int x1), (2, .int x2)]) (pc := 1) hΓ d_M_mergesAll_1 rfl (by decide) rfl ?_
  refine go_sub' (lv' := [(0, .ref 44), (1, .int x1), (2, .int x2), (3, .int 1)]) rfl ?_
  refine glp_M_mergesAll_2 N d hΓ hT hR x1 x2 _ (fun v3 μ4 => ?_) N 1 μ0
  refine go_iload_n (q := 3) (i := 3) (pc := 14) hΓ d_M_mergesAll_14 rfl rfl ?_
  refine go_iconst (v := 2) (pc := 15) hΓ d_M_mergesAll_15 (by decide) ?_
  refine go_idiv (pc := 16) hΓ d_M_mergesAll_16 (by decide) ?_
  refine go_letI (fun v5 => ?_)
  refine go_istore (lv' := [(4, .int v5), (0, .ref 44), (1, .int x1), (2, .int x2), (3, .int v3)]) (pc := 17) hΓ d_M_mergesAll_17 (by decide) rfl ?_
  refine go_sub' (lv' := [(0, .ref 44), (1, .int x1), (2, .int x2), (3, .int v3), (4, .int v5)]) rfl ?_
  refine glp_M_mergesAll_19 N d hΓ hT hR x1 x2 v3 _ (fun μ16 => ?_) N v5 μ4
  exact go_vret (pc := 80) hΓ hT d_M_mergesAll_80
def f_M_makes (N : Nat) (x1 : Int32) (x2 : Int32) (x3 : Int32) (μ0 : Mem) : Option (Int32 × Mem) :=
  lt' (sI μ0 44 0 0) fun μ1 => bnd (f_M_isNet N x1 μ1) fun r2 μ3 => if r2 = 0 then (some ((-1), μ3)) else (bnd (f_M_in N (Int32.toInt64 x2) 2 8 μ3) fun r5 μ6 => if r5 = 0 then (some ((-1), μ6)) else (bnd (f_M_in N (Int32.toInt64 x3) 0 4 μ6) fun r8 μ9 => if r8 = 0 then (some ((-1), μ9)) else (bnd (f_M_begins N x1 x2 μ9) fun _ μ12 => if x3 = 0 then (ck (inb x1 4) (some (gI μ12 47 (tn x1), μ12))) else (if x3 = 1 then (bnd (f_M_sinks N x1 x2 μ12) fun _ μ17 => ck (inb x1 4) (some (gI μ17 47 (tn x1), μ17))) else (if x3 = 2 then (bnd (f_M_inserts N x1 x2 μ12) fun _ μ21 => ck (inb x1 4) (some (gI μ21 47 (tn x1), μ21))) else (if x3 = 3 then (bnd (f_M_alternates N x1 x2 μ12) fun _ μ25 => ck (inb x1 4) (some (gI μ25 47 (tn x1), μ25))) else (bnd (f_M_mergesAll N x1 x2 μ12) fun _ μ28 => ck (inb x1 4) (some (gI μ28 47 (tn x1), μ28)))))))))
set_option maxHeartbeats 4000000 in
set_option maxRecDepth 100000 in
theorem g_M_makes (N d : Nat) (x1 : Int32) (x2 : Int32) (x3 : Int32)  : CallF eI y_M_makes c_M_makes 4 (some .int) (d + 4 + 1) [.ref 44, .int x1, .int x2, .int x3] (f_M_makes N x1 x2 x3) := by
  refine call_of (d := d + 4) (n := 3) mi_M_makes.1 (fun _ => rfl) ?_
  intro Γ μ0 hΓ hT hR
  show Go Γ 4 0 [(0, .ref 44), (1, .int x1), (2, .int x2), (3, .int x3)] [] μ0 (f_M_makes N x1 x2 x3 μ0)
  unfold f_M_makes
  refine go_aload_n (q := 0) (i := 0) (pc := 0) hΓ d_M_makes_0 rfl rfl ?_
  refine go_iconst (v := 0) (pc := 1) hΓ d_M_makes_1 (by decide) ?_
  refine go_putI (pc := 2) hΓ fp_M_69 d_M_makes_2 rfl rfl ?_
  refine go_letM (fun μ1 => ?_)
  refine go_iload_n (q := 1) (i := 1) (pc := 5) hΓ d_M_makes_5 rfl rfl ?_
  refine go_callS (index := 151) emI hΓ hR (g_M_isNet N (d + 2) x1) mi_M_isNet ml_M_151 d_M_makes_6 rfl rfl rfl (fun r2 μ3 => ?_)
  show Go Γ 4 9 [(0, .ref 44), (1, .int x1), (2, .int x2), (3, .int x3)] [.int r2] μ3 _
  refine go_if_eq 38 (pc := 9) hΓ d_M_makes_9 (by decide) (fun h4 => go_eq (if_pos h4) ?_) (fun h4 => go_eq (if_neg h4) ?_)
  · refine go_iconst (v := -1) (pc := 38) hΓ d_M_makes_38 (by decide) ?_
    exact go_iret (pc := 39) hΓ hT d_M_makes_39
  · refine go_iload_n (q := 2) (i := 2) (pc := 12) hΓ d_M_makes_12 rfl rfl ?_
    refine go_i2l (pc := 13) hΓ d_M_makes_13 ?_
    refine go_ldc2 (v := 2) (pc := 14) hΓ (tb_5 (List.mem_of_getElem? (i := 14) rfl) rfl) d_M_makes_14 ?_
    refine go_ldc2 (v := 8) (pc := 17) hΓ (tb_5 (List.mem_of_getElem? (i := 15) rfl) rfl) d_M_makes_17 ?_
    refine go_callS (index := 82) emI hΓ hR (g_M_in N (d + 3) (Int32.toInt64 x2) 2 8) mi_M_in ml_M_82 d_M_makes_20 rfl rfl rfl (fun r5 μ6 => ?_)
    show Go Γ 4 23 [(0, .ref 44), (1, .int x1), (2, .int x2), (3, .int x3)] [.int r5] μ6 _
    refine go_if_eq 38 (pc := 23) hΓ d_M_makes_23 (by decide) (fun h7 => go_eq (if_pos h7) ?_) (fun h7 => go_eq (if_neg h7) ?_)
    · refine go_iconst (v := -1) (pc := 38) hΓ d_M_makes_38 (by decide) ?_
      exact go_iret (pc := 39) hΓ hT d_M_makes_39
    · refine go_iload_n (q := 3) (i := 3) (pc := 26) hΓ d_M_makes_26 rfl rfl ?_
      refine go_i2l (pc := 27) hΓ d_M_makes_27 ?_
      refine go_lconst (v := 0) (pc := 28) hΓ d_M_makes_28 (by decide) ?_
      refine go_ldc2 (v := 4) (pc := 29) hΓ (tb_5 (List.mem_of_getElem? (i := 16) rfl) rfl) d_M_makes_29 ?_
      refine go_callS (index := 82) emI hΓ hR (g_M_in N (d + 3) (Int32.toInt64 x3) 0 4) mi_M_in ml_M_82 d_M_makes_32 rfl rfl rfl (fun r8 μ9 => ?_)
      show Go Γ 4 35 [(0, .ref 44), (1, .int x1), (2, .int x2), (3, .int x3)] [.int r8] μ9 _
      refine go_if_ne 40 (pc := 35) hΓ d_M_makes_35 (by decide) (fun h10 => go_eq (if_neg h10) ?_) (fun h10 => go_eq (if_pos h10) ?_)
      · refine go_aload_n (q := 0) (i := 0) (pc := 40) hΓ d_M_makes_40 rfl rfl ?_
        refine go_iload_n (q := 1) (i := 1) (pc := 41) hΓ d_M_makes_41 rfl rfl ?_
        refine go_iload_n (q := 2) (i := 2) (pc := 42) hΓ d_M_makes_42 rfl rfl ?_
        refine go_callV (index := 128) emV hΓ hR (g_M_begins N (d + 3) x1 x2) mi_M_begins ml_M_128 d_M_makes_43 rfl rfl rfl rfl rfl (fun _ μ12 => ?_)
        show Go Γ 4 46 [(0, .ref 44), (1, .int x1), (2, .int x2), (3, .int x3)] [] μ12 _
        refine go_iload_n (q := 3) (i := 3) (pc := 46) hΓ d_M_makes_46 rfl rfl ?_
        by_cases h13 : x3 = 0
        · rw [if_pos h13]
          refine go_tabIn 76 (pc := 47) hΓ d_M_makes_47 (by rw [h13]; decide) (by rw [h13]; decide) (by rw [h13]; rfl) (by decide) ?_
          refine go_goto 112 (pc := 76) hΓ d_M_makes_76 (by decide) ?_
          refine go_aload_n (q := 0) (i := 0) (pc := 112) hΓ d_M_makes_112 rfl rfl ?_
          refine go_getR (q := 47) (pc := 113) hΓ fl_M_17 d_M_makes_113 rfl rfl ?_
          refine go_iload_n (q := 1) (i := 1) (pc := 116) hΓ d_M_makes_116 rfl rfl ?_
          refine go_ck (fun h14 => ?_)
          refine go_iald (pc := 117) hΓ d_M_makes_117 rfl h14 ?_
          exact go_iret (pc := 118) hΓ hT d_M_makes_118
        · rw [if_neg h13]
          by_cases h15 : x3 = 1
          · rw [if_pos h15]
            refine go_tabIn 79 (pc := 47) hΓ d_M_makes_47 (by rw [h15]; decide) (by rw [h15]; decide) (by rw [h15]; rfl) (by decide) ?_
            refine go_aload_n (q := 0) (i := 0) (pc := 79) hΓ d_M_makes_79 rfl rfl ?_
            refine go_iload_n (q := 1) (i := 1) (pc := 80) hΓ d_M_makes_80 rfl rfl ?_
            refine go_iload_n (q := 2) (i := 2) (pc := 81) hΓ d_M_makes_81 rfl rfl ?_
            refine go_callV (index := 167) emV hΓ hR (g_M_sinks N (d + 1) x1 x2) mi_M_sinks ml_M_167 d_M_makes_82 rfl rfl rfl rfl rfl (fun _ μ17 => ?_)
            show Go Γ 4 85 [(0, .ref 44), (1, .int x1), (2, .int x2), (3, .int x3)] [] μ17 _
            refine go_goto 112 (pc := 85) hΓ d_M_makes_85 (by decide) ?_
            refine go_aload_n (q := 0) (i := 0) (pc := 112) hΓ d_M_makes_112 rfl rfl ?_
            refine go_getR (q := 47) (pc := 113) hΓ fl_M_17 d_M_makes_113 rfl rfl ?_
            refine go_iload_n (q := 1) (i := 1) (pc := 116) hΓ d_M_makes_116 rfl rfl ?_
            refine go_ck (fun h18 => ?_)
            refine go_iald (pc := 117) hΓ d_M_makes_117 rfl h18 ?_
            exact go_iret (pc := 118) hΓ hT d_M_makes_118
          · rw [if_neg h15]
            by_cases h19 : x3 = 2
            · rw [if_pos h19]
              refine go_tabIn 88 (pc := 47) hΓ d_M_makes_47 (by rw [h19]; decide) (by rw [h19]; decide) (by rw [h19]; rfl) (by decide) ?_
              refine go_aload_n (q := 0) (i := 0) (pc := 88) hΓ d_M_makes_88 rfl rfl ?_
              refine go_iload_n (q := 1) (i := 1) (pc := 89) hΓ d_M_makes_89 rfl rfl ?_
              refine go_iload_n (q := 2) (i := 2) (pc := 90) hΓ d_M_makes_90 rfl rfl ?_
              refine go_callV (index := 170) emV hΓ hR (g_M_inserts N (d + 1) x1 x2) mi_M_inserts ml_M_170 d_M_makes_91 rfl rfl rfl rfl rfl (fun _ μ21 => ?_)
              show Go Γ 4 94 [(0, .ref 44), (1, .int x1), (2, .int x2), (3, .int x3)] [] μ21 _
              refine go_goto 112 (pc := 94) hΓ d_M_makes_94 (by decide) ?_
              refine go_aload_n (q := 0) (i := 0) (pc := 112) hΓ d_M_makes_112 rfl rfl ?_
              refine go_getR (q := 47) (pc := 113) hΓ fl_M_17 d_M_makes_113 rfl rfl ?_
              refine go_iload_n (q := 1) (i := 1) (pc := 116) hΓ d_M_makes_116 rfl rfl ?_
              refine go_ck (fun h22 => ?_)
              refine go_iald (pc := 117) hΓ d_M_makes_117 rfl h22 ?_
              exact go_iret (pc := 118) hΓ hT d_M_makes_118
            · rw [if_neg h19]
              by_cases h23 : x3 = 3
              · rw [if_pos h23]
                refine go_tabIn 97 (pc := 47) hΓ d_M_makes_47 (by rw [h23]; decide) (by rw [h23]; decide) (by rw [h23]; rfl) (by decide) ?_
                refine go_aload_n (q := 0) (i := 0) (pc := 97) hΓ d_M_makes_97 rfl rfl ?_
                refine go_iload_n (q := 1) (i := 1) (pc := 98) hΓ d_M_makes_98 rfl rfl ?_
                refine go_iload_n (q := 2) (i := 2) (pc := 99) hΓ d_M_makes_99 rfl rfl ?_
                refine go_callV (index := 173) emV hΓ hR (g_M_alternates N (d + 1) x1 x2) mi_M_alternates ml_M_173 d_M_makes_100 rfl rfl rfl rfl rfl (fun _ μ25 => ?_)
                show Go Γ 4 103 [(0, .ref 44), (1, .int x1), (2, .int x2), (3, .int x3)] [] μ25 _
                refine go_goto 112 (pc := 103) hΓ d_M_makes_103 (by decide) ?_
                refine go_aload_n (q := 0) (i := 0) (pc := 112) hΓ d_M_makes_112 rfl rfl ?_
                refine go_getR (q := 47) (pc := 113) hΓ fl_M_17 d_M_makes_113 rfl rfl ?_
                refine go_iload_n (q := 1) (i := 1) (pc := 116) hΓ d_M_makes_116 rfl rfl ?_
                refine go_ck (fun h26 => ?_)
                refine go_iald (pc := 117) hΓ d_M_makes_117 rfl h26 ?_
                exact go_iret (pc := 118) hΓ hT d_M_makes_118
              · rw [if_neg h23]
                refine go_tabOut 106 (pc := 47) hΓ d_M_makes_47 (sw_out 4 (fun k hk => by match k, hk with | 0, _ => exact h13 | 1, _ => exact h15 | 2, _ => exact h19 | 3, _ => exact h23)) (by decide) ?_
                refine go_aload_n (q := 0) (i := 0) (pc := 106) hΓ d_M_makes_106 rfl rfl ?_
                refine go_iload_n (q := 1) (i := 1) (pc := 107) hΓ d_M_makes_107 rfl rfl ?_
                refine go_iload_n (q := 2) (i := 2) (pc := 108) hΓ d_M_makes_108 rfl rfl ?_
                refine go_callV (index := 176) emV hΓ hR (g_M_mergesAll N (d + 0) x1 x2) mi_M_mergesAll ml_M_176 d_M_makes_109 rfl rfl rfl rfl rfl (fun _ μ28 => ?_)
                show Go Γ 4 112 [(0, .ref 44), (1, .int x1), (2, .int x2), (3, .int x3)] [] μ28 _
                refine go_aload_n (q := 0) (i := 0) (pc := 112) hΓ d_M_makes_112 rfl rfl ?_
                refine go_getR (q := 47) (pc := 113) hΓ fl_M_17 d_M_makes_113 rfl rfl ?_
                refine go_iload_n (q := 1) (i := 1) (pc := 116) hΓ d_M_makes_116 rfl rfl ?_
                refine go_ck (fun h29 => ?_)
                refine go_iald (pc := 117) hΓ d_M_makes_117 rfl h29 ?_
                exact go_iret (pc := 118) hΓ hT d_M_makes_118
      · refine go_iconst (v := -1) (pc := 38) hΓ d_M_makes_38 (by decide) ?_
        exact go_iret (pc := 39) hΓ hT d_M_makes_39
def f_M_draw (N : Nat) (x1 : Int32) (μ0 : Mem) : Option (Int32 × Mem) :=
  lt' (sI μ0 44 17 (((gI μ0 44 17) * 1103515245) + 12345)) fun μ1 => ck (decide (¬ x1 = 0)) (some (remI (ushI (gI μ1 44 17) 16) x1, μ1))
set_option maxHeartbeats 4000000 in
set_option maxRecDepth 100000 in
theorem g_M_draw (N d : Nat) (x1 : Int32)  : CallF eI y_M_draw c_M_draw 2 (some .int) (d + 0 + 1) [.ref 44, .int x1] (f_M_draw N x1) := by
  refine call_of (d := d + 0) (n := 1) mi_M_draw.1 (fun _ => rfl) ?_
  intro Γ μ0 hΓ hT hR
  show Go Γ 2 0 [(0, .ref 44), (1, .int x1)] [] μ0 (f_M_draw N x1 μ0)
  unfold f_M_draw
  refine go_aload_n (q := 0) (i := 0) (pc := 0) hΓ d_M_draw_0 rfl rfl ?_
  refine go_aload_n (q := 0) (i := 0) (pc := 1) hΓ d_M_draw_1 rfl rfl ?_
  refine go_getI (pc := 2) hΓ fl_M_179 d_M_draw_2 rfl rfl ?_
  refine go_ldc (v := 1103515245) (pc := 5) hΓ (tb_5 (List.mem_of_getElem? (i := 46) rfl) rfl) d_M_draw_5 ?_
  refine go_imul (pc := 7) hΓ d_M_draw_7 ?_
  refine go_sipush (v := 12345) (pc := 8) hΓ d_M_draw_8 (by decide) ?_
  refine go_iadd (pc := 11) hΓ d_M_draw_11 ?_
  refine go_putI (pc := 12) hΓ fp_M_179 d_M_draw_12 rfl rfl ?_
  refine go_letM (fun μ1 => ?_)
  refine go_aload_n (q := 0) (i := 0) (pc := 15) hΓ d_M_draw_15 rfl rfl ?_
  refine go_getI (pc := 16) hΓ fl_M_179 d_M_draw_16 rfl rfl ?_
  refine go_bipush (v := 16) (pc := 19) hΓ d_M_draw_19 (by decide) ?_
  refine go_iushr (pc := 21) hΓ d_M_draw_21 ?_
  refine go_iload_n (q := 1) (i := 1) (pc := 22) hΓ d_M_draw_22 rfl rfl ?_
  refine go_ck (fun h2 => ?_)
  refine go_irem (pc := 23) hΓ d_M_draw_23 (of_decide_eq_true h2) ?_
  exact go_iret (pc := 24) hΓ hT d_M_draw_24
def f_M_flag (N : Nat) (x0 : Int32) (μ0 : Mem) : Option (Int32 × Mem) :=
  if x0 = 0 then (some (0, μ0)) else (some (1, μ0))
set_option maxHeartbeats 4000000 in
set_option maxRecDepth 100000 in
theorem g_M_flag (N d : Nat) (x0 : Int32)  : CallF eI y_M_flag c_M_flag 1 (some .int) (d + 0 + 1) [.int x0] (f_M_flag N x0) := by
  refine call_of (d := d + 0) (n := 1) mi_M_flag.1 (fun _ => rfl) ?_
  intro Γ μ0 hΓ hT hR
  show Go Γ 1 0 [(0, .int x0)] [] μ0 (f_M_flag N x0 μ0)
  unfold f_M_flag
  refine go_iload_n (q := 0) (i := 0) (pc := 0) hΓ d_M_flag_0 rfl rfl ?_
  refine go_if_eq 8 (pc := 1) hΓ d_M_flag_1 (by decide) (fun h1 => go_eq (if_pos h1) ?_) (fun h1 => go_eq (if_neg h1) ?_)
  · refine go_iconst (v := 0) (pc := 8) hΓ d_M_flag_8 (by decide) ?_
    exact go_iret (pc := 9) hΓ hT d_M_flag_9
  · refine go_iconst (v := 1) (pc := 4) hΓ d_M_flag_4 (by decide) ?_
    refine go_goto 9 (pc := 5) hΓ d_M_flag_5 (by decide) ?_
    exact go_iret (pc := 9) hΓ hT d_M_flag_9
def f_M_all (N : Nat) (x1 : Int32) (μ0 : Mem) : Option (Int32 × Mem) :=
  ck (inb x1 4) (some (shlI 1 (gI μ0 46 (tn x1)), μ0))
set_option maxHeartbeats 4000000 in
set_option maxRecDepth 100000 in
theorem g_M_all (N d : Nat) (x1 : Int32)  : CallF eI y_M_all c_M_all 2 (some .int) (d + 0 + 1) [.ref 44, .int x1] (f_M_all N x1) := by
  refine call_of (d := d + 0) (n := 1) mi_M_all.1 (fun _ => rfl) ?_
  intro Γ μ0 hΓ hT hR
  show Go Γ 2 0 [(0, .ref 44), (1, .int x1)] [] μ0 (f_M_all N x1 μ0)
  unfold f_M_all
  refine go_iconst (v := 1) (pc := 0) hΓ d_M_all_0 (by decide) ?_
  refine go_aload_n (q := 0) (i := 0) (pc := 1) hΓ d_M_all_1 rfl rfl ?_
  refine go_getR (q := 46) (pc := 2) hΓ fl_M_13 d_M_all_2 rfl rfl ?_
  refine go_iload_n (q := 1) (i := 1) (pc := 5) hΓ d_M_all_5 rfl rfl ?_
  refine go_ck (fun h1 => ?_)
  refine go_iald (pc := 6) hΓ d_M_all_6 rfl h1 ?_
  refine go_ishl (pc := 7) hΓ d_M_all_7 ?_
  exact go_iret (pc := 8) hΓ hT d_M_all_8
def f_M_lowOf (N : Nat) (x1 : Int32) (x2 : Int32) (μ0 : Mem) : Option (Int32 × Mem) :=
  ck (inb ((60 * x1) + x2) 240) (some (gI μ0 48 (tn ((60 * x1) + x2)), μ0))
set_option maxHeartbeats 4000000 in
set_option maxRecDepth 100000 in
theorem g_M_lowOf (N d : Nat) (x1 : Int32) (x2 : Int32)  : CallF eI y_M_lowOf c_M_lowOf 3 (some .int) (d + 0 + 1) [.ref 44, .int x1, .int x2] (f_M_lowOf N x1 x2) := by
  refine call_of (d := d + 0) (n := 2) mi_M_lowOf.1 (fun _ => rfl) ?_
  intro Γ μ0 hΓ hT hR
  show Go Γ 3 0 [(0, .ref 44), (1, .int x1), (2, .int x2)] [] μ0 (f_M_lowOf N x1 x2 μ0)
  unfold f_M_lowOf
  refine go_aload_n (q := 0) (i := 0) (pc := 0) hΓ d_M_lowOf_0 rfl rfl ?_
  refine go_getR (q := 48) (pc := 1) hΓ fl_M_20 d_M_lowOf_1 rfl rfl ?_
  refine go_bipush (v := 60) (pc := 4) hΓ d_M_lowOf_4 (by decide) ?_
  refine go_iload_n (q := 1) (i := 1) (pc := 6) hΓ d_M_lowOf_6 rfl rfl ?_
  refine go_imul (pc := 7) hΓ d_M_lowOf_7 ?_
  refine go_iload_n (q := 2) (i := 2) (pc := 8) hΓ d_M_lowOf_8 rfl rfl ?_
  refine go_iadd (pc := 9) hΓ d_M_lowOf_9 ?_
  refine go_ck (fun h1 => ?_)
  refine go_iald (pc := 10) hΓ d_M_lowOf_10 rfl h1 ?_
  exact go_iret (pc := 11) hΓ hT d_M_lowOf_11
def f_M_highOf (N : Nat) (x1 : Int32) (x2 : Int32) (μ0 : Mem) : Option (Int32 × Mem) :=
  ck (inb ((60 * x1) + x2) 240) (some (gI μ0 49 (tn ((60 * x1) + x2)), μ0))
set_option maxHeartbeats 4000000 in
set_option maxRecDepth 100000 in
theorem g_M_highOf (N d : Nat) (x1 : Int32) (x2 : Int32)  : CallF eI y_M_highOf c_M_highOf 3 (some .int) (d + 0 + 1) [.ref 44, .int x1, .int x2] (f_M_highOf N x1 x2) := by
  refine call_of (d := d + 0) (n := 2) mi_M_highOf.1 (fun _ => rfl) ?_
  intro Γ μ0 hΓ hT hR
  show Go Γ 3 0 [(0, .ref 44), (1, .int x1), (2, .int x2)] [] μ0 (f_M_highOf N x1 x2 μ0)
  unfold f_M_highOf
  refine go_aload_n (q := 0) (i := 0) (pc := 0) hΓ d_M_highOf_0 rfl rfl ?_
  refine go_getR (q := 49) (pc := 1) hΓ fl_M_23 d_M_highOf_1 rfl rfl ?_
  refine go_bipush (v := 60) (pc := 4) hΓ d_M_highOf_4 (by decide) ?_
  refine go_iload_n (q := 1) (i := 1) (pc := 6) hΓ d_M_highOf_6 rfl rfl ?_
  refine go_imul (pc := 7) hΓ d_M_highOf_7 ?_
  refine go_iload_n (q := 2) (i := 2) (pc := 8) hΓ d_M_highOf_8 rfl rfl ?_
  refine go_iadd (pc := 9) hΓ d_M_highOf_9 ?_
  refine go_ck (fun h1 => ?_)
  refine go_iald (pc := 10) hΓ d_M_highOf_10 rfl h1 ?_
  exact go_iret (pc := 11) hΓ hT d_M_highOf_11
def lp_M_result_11 (N : Nat) (x1 : Int32) (x3 : Int32) (x4 : Int32)  (K : Int32 → Mem → Option (Int32 × Mem)) : Nat → Int32 → Int32 → Mem → Option (Int32 × Mem)
  | 0, _, _, _ => none
  | n + 1, a5, a6, μ0 => ck (inb x1 4) (if a6 < (gI μ0 47 (tn x1)) then (bnd (f_M_lowOf N x1 a6 μ0) fun r4 μ5 => bnd (f_M_highOf N x1 a6 μ5) fun r6 μ7 => lt' ((shrI a5 r4) &&& 1) fun v8 => lt' ((shrI a5 r6) &&& 1) fun v9 => lt' (if v9 < v8 then (1 : Int32) else (0 : Int32)) fun q11 => lt' (if q11 = 0 then (0 : Int64) else (shlL 1 a6 : Int64)) fun q13 => lt' (sL μ7 44 21 ((gL μ7 44 21) ||| q13)) fun μ14 => lt' (if a6 = x3 then (if x4 = 1 then (if v8 = v9 then (0 : Int32) else (1 : Int32)) else (if x4 = 2 then (if v8 < v9 then (1 : Int32) else (0 : Int32)) else (0 : Int32))) else (q11 : Int32)) fun q20 => lt' (if q20 = 0 then (a5 : Int32) else (a5 ^^^ ((shlI 1 r4) ||| (shlI 1 r6)) : Int32)) fun q22 => lt' (a6 + 1) fun v23 => lp_M_result_11 N x1 x3 x4 K n q22 v23 μ14) else (K a5 μ0))
def f_M_result (N : Nat) (x1 : Int32) (x2 : Int32) (x3 : Int32) (x4 : Int32) (μ0 : Mem) : Option (Int32 × Mem) :=
  lt' (sL μ0 44 21 0) fun μ1 => lp_M_result_11 N x1 x3 x4 (fun v28 μ29 => some (v28, μ29)) N x2 0 μ1
set_option maxHeartbeats 4000000 in
set_option maxRecDepth 100000 in
theorem glp_M_result_11 (N d : Nat) {Γ : Cx Int32} (hΓ : Ok Γ "SortingNetsModel" c_M_result 12) (hT : Rt Γ eI (some .int)) (hR : Rm Γ (d + 1)) (x1 : Int32) (x3 : Int32) (x4 : Int32)    (K : Int32 → Mem → Option (Int32 × Mem)) (hK : ∀ (b5 : Int32) (ν : Mem), Go Γ 12 171 [(5, .int b5)] [] ν (K b5 ν)) : ∀ (n : Nat) (a5 : Int32) (a6 : Int32) (μ0 : Mem), Go Γ 12 11 [(0, .ref 44), (1, .int x1), (3, .int x3), (4, .int x4), (5, .int a5), (6, .int a6)] [] μ0 (lp_M_result_11 N x1 x3 x4 K n a5 a6 μ0) := by
  intro n
  induction n with
  | zero => intro a5 a6 μ0; exact go_none
  | succ n ih =>
    intro a5 a6 μ0
    rw [lp_M_result_11]
    refine go_iload (q := 5) (pc := 11) hΓ d_M_result_11 rfl ?_
    refine go_aload_n (q := 0) (i := 0) (pc := 13) hΓ d_M_result_13 rfl rfl ?_
    refine go_getR (q := 47) (pc := 14) hΓ fl_M_17 d_M_result_14 rfl rfl ?_
    refine go_iload_n (q := 1) (i := 1) (pc := 17) hΓ d_M_result_17 rfl rfl ?_
    refine go_ck (fun h2 => ?_)
    refine go_iald (pc := 18) hΓ d_M_result_18 rfl h2 ?_
    refine go_icmp_ge 171 (pc := 19) hΓ d_M_result_19 (by decide) (fun h3 => go_eq (if_neg h3) ?_) (fun h3 => go_eq (if_pos h3) ?_)
    · refine go_sub' (lv' := [(5, .int a5)]) rfl ?_
      exact hK a5 μ0
    · refine go_aload_n (q := 0) (i := 0) (pc := 22) hΓ d_M_result_22 rfl rfl ?_
      refine go_iload_n (q := 1) (i := 1) (pc := 23) hΓ d_M_result_23 rfl rfl ?_
      refine go_iload (q := 5) (pc := 24) hΓ d_M_result_24 rfl ?_
      refine go_callV (index := 199) emI hΓ hR (g_M_lowOf N (d + 0) x1 a6) mi_M_lowOf ml_M_199 d_M_result_26 rfl rfl rfl rfl rfl (fun r4 μ5 => ?_)
      show Go Γ 12 29 [(0, .ref 44), (1, .int x1), (3, .int x3), (4, .int x4), (5, .int a5), (6, .int a6)] [.int r4] μ5 _
      refine go_istore (lv' := [(7, .int r4), (0, .ref 44), (1, .int x1), (3, .int x3), (4, .int x4), (5, .int a5), (6, .int a6)]) (pc := 29) hΓ d_M_result_29 (by decide) rfl ?_
      refine go_aload_n (q := 1) (i := 0) (pc := 31) hΓ d_M_result_31 rfl rfl ?_
      refine go_iload_n (q := 2) (i := 1) (pc := 32) hΓ d_M_result_32 rfl rfl ?_
      refine go_iload (q := 6) (pc := 33) hΓ d_M_result_33 rfl ?_
      refine go_callV (index := 202) emI hΓ hR (g_M_highOf N (d + 0) x1 a6) mi_M_highOf ml_M_202 d_M_result_35 rfl rfl rfl rfl rfl (fun r6 μ7 => ?_)
      show Go Γ 12 38 [(7, .int r4), (0, .ref 44), (1, .int x1), (3, .int x3), (4, .int x4), (5, .int a5), (6, .int a6)] [.int r6] μ7 _
      refine go_istore (lv' := [(8, .int r6), (7, .int r4), (0, .ref 44), (1, .int x1), (3, .int x3), (4, .int x4), (5, .int a5), (6, .int a6)]) (pc := 38) hΓ d_M_result_38 (by decide) rfl ?_
      refine go_iload (q := 6) (pc := 40) hΓ d_M_result_40 rfl ?_
      refine go_iload (q := 1) (pc := 42) hΓ d_M_result_42 rfl ?_
      refine go_ishr (pc := 44) hΓ d_M_result_44 ?_
      refine go_iconst (v := 1) (pc := 45) hΓ d_M_result_45 (by decide) ?_
      refine go_iand (pc := 46) hΓ d_M_result_46 ?_
      refine go_letI (fun v8 => ?_)
      refine go_istore (lv' := [(9, .int v8), (8, .int r6), (7, .int r4), (0, .ref 44), (1, .int x1), (3, .int x3), (4, .int x4), (5, .int a5), (6, .int a6)]) (pc := 47) hΓ d_M_result_47 (by decide) rfl ?_
      refine go_iload (q := 7) (pc := 49) hΓ d_M_result_49 rfl ?_
      refine go_iload (q := 1) (pc := 51) hΓ d_M_result_51 rfl ?_
      refine go_ishr (pc := 53) hΓ d_M_result_53 ?_
      refine go_iconst (v := 1) (pc := 54) hΓ d_M_result_54 (by decide) ?_
      refine go_iand (pc := 55) hΓ d_M_result_55 ?_
      refine go_letI (fun v9 => ?_)
      refine go_istore (lv' := [(10, .int v9), (9, .int v8), (8, .int r6), (7, .int r4), (0, .ref 44), (1, .int x1), (3, .int x3), (4, .int x4), (5, .int a5), (6, .int a6)]) (pc := 56) hΓ d_M_result_56 (by decide) rfl ?_
      refine go_iload (q := 1) (pc := 58) hΓ d_M_result_58 rfl ?_
      refine go_iload (q := 0) (pc := 60) hΓ d_M_result_60 rfl ?_
      refine go_mg (α := Int32) 70 (fun q11 => [(0, .ref 44), (1, .int x1), (3, .int x3), (4, .int x4), (5, .int a5), (6, .int a6), (7, .int r4), (8, .int r6), (9, .int v8), (10, .int v9)]) (fun q11 => [.int q11]) (fun q11 => ?_) (fun g27 g27h => ?_)
      · refine go_istore (lv' := [(11, .int q11), (0, .ref 44), (1, .int x1), (3, .int x3), (4, .int x4), (5, .int a5), (6, .int a6), (7, .int r4), (8, .int r6), (9, .int v8), (10, .int v9)]) (pc := 70) hΓ d_M_result_70 (by decide) rfl ?_
        refine go_aload_n (q := 1) (i := 0) (pc := 72) hΓ d_M_result_72 rfl rfl ?_
        refine go_dup (pc := 73) hΓ d_M_result_73 rfl ?_
        refine go_getL (pc := 74) hΓ fl_M_224 d_M_result_74 rfl rfl ?_
        refine go_iload (q := 0) (pc := 77) hΓ d_M_result_77 rfl ?_
        refine go_mg (α := Int64) 90 (fun q13 => [(0, .ref 44), (1, .int x1), (3, .int x3), (4, .int x4), (5, .int a5), (6, .int a6), (7, .int r4), (8, .int r6), (9, .int v8), (10, .int v9), (11, .int q11)]) (fun q13 => [.long q13, .long (gL μ7 44 21), .ref 44]) (fun q13 => ?_) (fun g26 g26h => ?_)
        · refine go_lor (pc := 90) hΓ d_M_result_90 ?_
          refine go_putL (pc := 91) hΓ fp_M_224 d_M_result_91 rfl rfl ?_
          refine go_letM (fun μ14 => ?_)
          refine go_iload (q := 5) (pc := 94) hΓ d_M_result_94 rfl ?_
          refine go_iload_n (q := 2) (i := 3) (pc := 96) hΓ d_M_result_96 rfl rfl ?_
          refine go_mg (α := Int32) 141 (fun q20 => [(0, .ref 44), (1, .int x1), (3, .int x3), (4, .int x4), (5, .int a5), (6, .int a6), (7, .int r4), (8, .int r6), (11, .int q20)]) (fun q20 => []) (fun q20 => ?_) (fun g25 g25h => ?_)
          · refine go_iload (q := 8) (pc := 141) hΓ d_M_result_141 rfl ?_
            refine go_mg (α := Int32) 163 (fun q22 => [(0, .ref 44), (1, .int x1), (3, .int x3), (4, .int x4), (6, .int a6)]) (fun q22 => [.int q22]) (fun q22 => ?_) (fun g24 g24h => ?_)
            · refine go_istore (lv' := [(5, .int q22), (0, .ref 44), (1, .int x1), (3, .int x3), (4, .int x4), (6, .int a6)]) (pc := 163) hΓ d_M_result_163 (by decide) rfl ?_
              refine go_incI (q := 5) (i := 6) (n := 1) (c := 1) (pc := 165) hΓ d_M_result_165 rfl (by decide) (by decide) (fun v23 => ?_)
              refine go_sub' (lv' := [(6, .int v23), (5, .int q22), (0, .ref 44), (1, .int x1), (3, .int x3), (4, .int x4)]) rfl ?_
              refine go_goto 11 (pc := 168) hΓ d_M_result_168 (by decide) ?_
              refine go_sub' (lv' := [(0, .ref 44), (1, .int x1), (3, .int x3), (4, .int x4), (5, .int q22), (6, .int v23)]) rfl ?_
              exact ih q22 v23 μ14
            · refine go_if_eq 161 (pc := 143) hΓ d_M_result_143 (by decide) (fun h21 => ?_) (fun h21 => ?_)
              · rw [if_pos h21]
                refine go_iload (q := 4) (pc := 161) hΓ d_M_result_161 rfl ?_
                refine go_sub' (lv' := [(0, .ref 44), (1, .int x1), (3, .int x3), (4, .int x4), (6, .int a6)]) rfl ?_
                exact g24h _
              · rw [if_neg h21]
                refine go_iload (q := 4) (pc := 146) hΓ d_M_result_146 rfl ?_
                refine go_iconst (v := 1) (pc := 148) hΓ d_M_result_148 (by decide) ?_
                refine go_iload (q := 6) (pc := 149) hΓ d_M_result_149 rfl ?_
                refine go_ishl (pc := 151) hΓ d_M_result_151 ?_
                refine go_iconst (v := 1) (pc := 152) hΓ d_M_result_152 (by decide) ?_
                refine go_iload (q := 7) (pc := 153) hΓ d_M_result_153 rfl ?_
                refine go_ishl (pc := 155) hΓ d_M_result_155 ?_
                refine go_ior (pc := 156) hΓ d_M_result_156 ?_
                refine go_ixor (pc := 157) hΓ d_M_result_157 ?_
                refine go_goto 163 (pc := 158) hΓ d_M_result_158 (by decide) ?_
                refine go_sub' (lv' := [(0, .ref 44), (1, .int x1), (3, .int x3), (4, .int x4), (6, .int a6)]) rfl ?_
                exact g24h _
          · refine go_icmp_ne 141 (pc := 97) hΓ d_M_result_97 (by decide) (fun h15 => ?_) (fun h15 => ?_)
            · rw [if_neg h15]
              refine go_sub' (lv' := [(0, .ref 44), (1, .int x1), (3, .int x3), (4, .int x4), (5, .int a5), (6, .int a6), (7, .int r4), (8, .int r6), (11, .int q11)]) rfl ?_
              exact g25h _
            · rw [if_pos h15]
              refine go_iload (q := 3) (pc := 100) hΓ d_M_result_100 rfl ?_
              refine go_iconst (v := 1) (pc := 102) hΓ d_M_result_102 (by decide) ?_
              refine go_icmp_ne 121 (pc := 103) hΓ d_M_result_103 (by decide) (fun h16 => ?_) (fun h16 => ?_)
              · rw [if_neg h16]
                refine go_iload (q := 3) (pc := 121) hΓ d_M_result_121 rfl ?_
                refine go_iconst (v := 2) (pc := 123) hΓ d_M_result_123 (by decide) ?_
                refine go_icmp_ne 138 (pc := 124) hΓ d_M_result_124 (by decide) (fun h17 => ?_) (fun h17 => ?_)
                · rw [if_neg h17]
                  refine go_iconst (v := 0) (pc := 138) hΓ d_M_result_138 (by decide) ?_
                  refine go_istore (lv' := [(11, .int 0), (0, .ref 44), (1, .int x1), (3, .int x3), (4, .int x4), (5, .int a5), (6, .int a6), (7, .int r4), (8, .int r6), (9, .int v8), (10, .int v9)]) (pc := 139) hΓ d_M_result_139 (by decide) rfl ?_
                  refine go_sub' (lv' := [(0, .ref 44), (1, .int x1), (3, .int x3), (4, .int x4), (5, .int a5), (6, .int a6), (7, .int r4), (8, .int r6), (11, .int 0)]) rfl ?_
                  exact g25h _
                · rw [if_pos h17]
                  refine go_iload (q := 8) (pc := 127) hΓ d_M_result_127 rfl ?_
                  refine go_iload (q := 9) (pc := 129) hΓ d_M_result_129 rfl ?_
                  refine go_icmp_ge 138 (pc := 131) hΓ d_M_result_131 (by decide) (fun h18 => ?_) (fun h18 => ?_)
                  · rw [if_neg h18]
                    refine go_iconst (v := 0) (pc := 138) hΓ d_M_result_138 (by decide) ?_
                    refine go_istore (lv' := [(11, .int 0), (0, .ref 44), (1, .int x1), (3, .int x3), (4, .int x4), (5, .int a5), (6, .int a6), (7, .int r4), (8, .int r6), (9, .int v8), (10, .int v9)]) (pc := 139) hΓ d_M_result_139 (by decide) rfl ?_
                    refine go_sub' (lv' := [(0, .ref 44), (1, .int x1), (3, .int x3), (4, .int x4), (5, .int a5), (6, .int a6), (7, .int r4), (8, .int r6), (11, .int 0)]) rfl ?_
                    exact g25h _
                  · rw [if_pos h18]
                    refine go_iconst (v := 1) (pc := 134) hΓ d_M_result_134 (by decide) ?_
                    refine go_goto 139 (pc := 135) hΓ d_M_result_135 (by decide) ?_
                    refine go_istore (lv' := [(11, .int 1), (0, .ref 44), (1, .int x1), (3, .int x3), (4, .int x4), (5, .int a5), (6, .int a6), (7, .int r4), (8, .int r6), (9, .int v8), (10, .int v9)]) (pc := 139) hΓ d_M_result_139 (by decide) rfl ?_
                    refine go_sub' (lv' := [(0, .ref 44), (1, .int x1), (3, .int x3), (4, .int x4), (5, .int a5), (6, .int a6), (7, .int r4), (8, .int r6), (11, .int 1)]) rfl ?_
                    exact g25h _
              · rw [if_pos h16]
                refine go_iload (q := 8) (pc := 106) hΓ d_M_result_106 rfl ?_
                refine go_iload (q := 9) (pc := 108) hΓ d_M_result_108 rfl ?_
                refine go_icmp_eq 117 (pc := 110) hΓ d_M_result_110 (by decide) (fun h19 => ?_) (fun h19 => ?_)
                · rw [if_pos h19]
                  refine go_iconst (v := 0) (pc := 117) hΓ d_M_result_117 (by decide) ?_
                  refine go_goto 139 (pc := 118) hΓ d_M_result_118 (by decide) ?_
                  refine go_istore (lv' := [(11, .int 0), (0, .ref 44), (1, .int x1), (3, .int x3), (4, .int x4), (5, .int a5), (6, .int a6), (7, .int r4), (8, .int r6), (9, .int v8), (10, .int v9)]) (pc := 139) hΓ d_M_result_139 (by decide) rfl ?_
                  refine go_sub' (lv' := [(0, .ref 44), (1, .int x1), (3, .int x3), (4, .int x4), (5, .int a5), (6, .int a6), (7, .int r4), (8, .int r6), (11, .int 0)]) rfl ?_
                  exact g25h _
                · rw [if_neg h19]
                  refine go_iconst (v := 1) (pc := 113) hΓ d_M_result_113 (by decide) ?_
                  refine go_goto 139 (pc := 114) hΓ d_M_result_114 (by decide) ?_
                  refine go_istore (lv' := [(11, .int 1), (0, .ref 44), (1, .int x1), (3, .int x3), (4, .int x4), (5, .int a5), (6, .int a6), (7, .int r4), (8, .int r6), (9, .int v8), (10, .int v9)]) (pc := 139) hΓ d_M_result_139 (by decide) rfl ?_
                  refine go_sub' (lv' := [(0, .ref 44), (1, .int x1), (3, .int x3), (4, .int x4), (5, .int a5), (6, .int a6), (7, .int r4), (8, .int r6), (11, .int 1)]) rfl ?_
                  exact g25h _
        · refine go_if_eq 89 (pc := 79) hΓ d_M_result_79 (by decide) (fun h12 => ?_) (fun h12 => ?_)
          · rw [if_pos h12]
            refine go_lconst (v := 0) (pc := 89) hΓ d_M_result_89 (by decide) ?_
            refine go_sub' (lv' := [(0, .ref 44), (1, .int x1), (3, .int x3), (4, .int x4), (5, .int a5), (6, .int a6), (7, .int r4), (8, .int r6), (9, .int v8), (10, .int v9), (11, .int q11)]) rfl ?_
            exact g26h _
          · rw [if_neg h12]
            refine go_lconst (v := 1) (pc := 82) hΓ d_M_result_82 (by decide) ?_
            refine go_iload (q := 6) (pc := 83) hΓ d_M_result_83 rfl ?_
            refine go_lshl (pc := 85) hΓ d_M_result_85 ?_
            refine go_goto 90 (pc := 86) hΓ d_M_result_86 (by decide) ?_
            refine go_sub' (lv' := [(0, .ref 44), (1, .int x1), (3, .int x3), (4, .int x4), (5, .int a5), (6, .int a6), (7, .int r4), (8, .int r6), (9, .int v8), (10, .int v9), (11, .int q11)]) rfl ?_
            exact g26h _
      · refine go_icmp_le 69 (pc := 62) hΓ d_M_result_62 (by decide) (fun h10 => ?_) (fun h10 => ?_)
        · rw [if_neg h10]
          refine go_iconst (v := 0) (pc := 69) hΓ d_M_result_69 (by decide) ?_
          refine go_sub' (lv' := [(0, .ref 44), (1, .int x1), (3, .int x3), (4, .int x4), (5, .int a5), (6, .int a6), (7, .int r4), (8, .int r6), (9, .int v8), (10, .int v9)]) rfl ?_
          exact g27h _
        · rw [if_pos h10]
          refine go_iconst (v := 1) (pc := 65) hΓ d_M_result_65 (by decide) ?_
          refine go_goto 70 (pc := 66) hΓ d_M_result_66 (by decide) ?_
          refine go_sub' (lv' := [(0, .ref 44), (1, .int x1), (3, .int x3), (4, .int x4), (5, .int a5), (6, .int a6), (7, .int r4), (8, .int r6), (9, .int v8), (10, .int v9)]) rfl ?_
          exact g27h _
set_option maxHeartbeats 4000000 in
set_option maxRecDepth 100000 in
theorem g_M_result (N d : Nat) (x1 : Int32) (x2 : Int32) (x3 : Int32) (x4 : Int32)  : CallF eI y_M_result c_M_result 12 (some .int) (d + 1 + 1) [.ref 44, .int x1, .int x2, .int x3, .int x4] (f_M_result N x1 x2 x3 x4) := by
  refine call_of (d := d + 1) (n := 4) mi_M_result.1 (fun _ => rfl) ?_
  intro Γ μ0 hΓ hT hR
  show Go Γ 12 0 [(0, .ref 44), (1, .int x1), (2, .int x2), (3, .int x3), (4, .int x4)] [] μ0 (f_M_result N x1 x2 x3 x4 μ0)
  unfold f_M_result
  refine go_iload_n (q := 2) (i := 2) (pc := 0) hΓ d_M_result_0 rfl rfl ?_
  refine go_istore (lv' := [(5, .int x2), (0, .ref 44), (1, .int x1), (2, .int x2), (3, .int x3), (4, .int x4)]) (pc := 1) hΓ d_M_result_1 (by decide) rfl ?_
  refine go_aload_n (q := 1) (i := 0) (pc := 3) hΓ d_M_result_3 rfl rfl ?_
  refine go_lconst (v := 0) (pc := 4) hΓ d_M_result_4 (by decide) ?_
  refine go_putL (pc := 5) hΓ fp_M_224 d_M_result_5 rfl rfl ?_
  refine go_letM (fun μ1 => ?_)
  refine go_iconst (v := 0) (pc := 8) hΓ d_M_result_8 (by decide) ?_
  refine go_istore (lv' := [(6, .int 0), (5, .int x2), (0, .ref 44), (1, .int x1), (2, .int x2), (3, .int x3), (4, .int x4)]) (pc := 9) hΓ d_M_result_9 (by decide) rfl ?_
  refine go_sub' (lv' := [(0, .ref 44), (1, .int x1), (3, .int x3), (4, .int x4), (5, .int x2), (6, .int 0)]) rfl ?_
  refine glp_M_result_11 N d hΓ hT hR x1 x3 x4 _ (fun v28 μ29 => ?_) N x2 0 μ1
  refine go_iload (q := 0) (pc := 171) hΓ d_M_result_171 rfl ?_
  exact go_iret (pc := 173) hΓ hT d_M_result_173

def f_M_count (N : Nat) (x1 : Int32) (μ0 : Mem) : Option (Int32 × Mem) :=
  lt' (sI μ0 44 0 0) fun μ1 => if x1 = 0 then (some (gI μ1 44 1, μ1)) else (if x1 = 1 then (some (gI μ1 44 8, μ1)) else (if x1 = 2 then (ck (inb 0 4) (ck (inb 1 4) (ck (inb 2 4) (ck (inb 3 4) (some ((((gI μ1 47 (tn 0)) + (gI μ1 47 (tn 1))) + (gI μ1 47 (tn 2))) + (gI μ1 47 (tn 3)), μ1)))))) else (some ((-1), μ1))))
set_option maxHeartbeats 4000000 in
set_option maxRecDepth 100000 in
theorem g_M_count (N d : Nat) (x1 : Int32)  : CallF eI y_M_count c_M_count 2 (some .int) (d + 0 + 1) [.ref 44, .int x1] (f_M_count N x1) := by
  refine call_of (d := d + 0) (n := 1) mi_M_count.1 (fun _ => rfl) ?_
  intro Γ μ0 hΓ hT hR
  show Go Γ 2 0 [(0, .ref 44), (1, .int x1)] [] μ0 (f_M_count N x1 μ0)
  unfold f_M_count
  refine go_aload_n (q := 0) (i := 0) (pc := 0) hΓ d_M_count_0 rfl rfl ?_
  refine go_iconst (v := 0) (pc := 1) hΓ d_M_count_1 (by decide) ?_
  refine go_putI (pc := 2) hΓ fp_M_69 d_M_count_2 rfl rfl ?_
  refine go_letM (fun μ1 => ?_)
  refine go_iload_n (q := 1) (i := 1) (pc := 5) hΓ d_M_count_5 rfl rfl ?_
  by_cases h2 : x1 = 0
  · rw [if_pos h2]
    refine go_tabIn 32 (pc := 6) hΓ d_M_count_6 (by rw [h2]; decide) (by rw [h2]; decide) (by rw [h2]; rfl) (by decide) ?_
    refine go_aload_n (q := 0) (i := 0) (pc := 32) hΓ d_M_count_32 rfl rfl ?_
    refine go_getI (pc := 33) hΓ fl_M_73 d_M_count_33 rfl rfl ?_
    exact go_iret (pc := 36) hΓ hT d_M_count_36
  · rw [if_neg h2]
    by_cases h3 : x1 = 1
    · rw [if_pos h3]
      refine go_tabIn 37 (pc := 6) hΓ d_M_count_6 (by rw [h3]; decide) (by rw [h3]; decide) (by rw [h3]; rfl) (by decide) ?_
      refine go_aload_n (q := 0) (i := 0) (pc := 37) hΓ d_M_count_37 rfl rfl ?_
      refine go_getI (pc := 38) hΓ fl_M_94 d_M_count_38 rfl rfl ?_
      exact go_iret (pc := 41) hΓ hT d_M_count_41
    · rw [if_neg h3]
      by_cases h4 : x1 = 2
      · rw [if_pos h4]
        refine go_tabIn 42 (pc := 6) hΓ d_M_count_6 (by rw [h4]; decide) (by rw [h4]; decide) (by rw [h4]; rfl) (by decide) ?_
        refine go_aload_n (q := 0) (i := 0) (pc := 42) hΓ d_M_count_42 rfl rfl ?_
        refine go_getR (q := 47) (pc := 43) hΓ fl_M_17 d_M_count_43 rfl rfl ?_
        refine go_iconst (v := 0) (pc := 46) hΓ d_M_count_46 (by decide) ?_
        refine go_ck (fun h5 => ?_)
        refine go_iald (pc := 47) hΓ d_M_count_47 rfl h5 ?_
        refine go_aload_n (q := 0) (i := 0) (pc := 48) hΓ d_M_count_48 rfl rfl ?_
        refine go_getR (q := 47) (pc := 49) hΓ fl_M_17 d_M_count_49 rfl rfl ?_
        refine go_iconst (v := 1) (pc := 52) hΓ d_M_count_52 (by decide) ?_
        refine go_ck (fun h6 => ?_)
        refine go_iald (pc := 53) hΓ d_M_count_53 rfl h6 ?_
        refine go_iadd (pc := 54) hΓ d_M_count_54 ?_
        refine go_aload_n (q := 0) (i := 0) (pc := 55) hΓ d_M_count_55 rfl rfl ?_
        refine go_getR (q := 47) (pc := 56) hΓ fl_M_17 d_M_count_56 rfl rfl ?_
        refine go_iconst (v := 2) (pc := 59) hΓ d_M_count_59 (by decide) ?_
        refine go_ck (fun h7 => ?_)
        refine go_iald (pc := 60) hΓ d_M_count_60 rfl h7 ?_
        refine go_iadd (pc := 61) hΓ d_M_count_61 ?_
        refine go_aload_n (q := 0) (i := 0) (pc := 62) hΓ d_M_count_62 rfl rfl ?_
        refine go_getR (q := 47) (pc := 63) hΓ fl_M_17 d_M_count_63 rfl rfl ?_
        refine go_iconst (v := 3) (pc := 66) hΓ d_M_count_66 (by decide) ?_
        refine go_ck (fun h8 => ?_)
        refine go_iald (pc := 67) hΓ d_M_count_67 rfl h8 ?_
        refine go_iadd (pc := 68) hΓ d_M_count_68 ?_
        exact go_iret (pc := 69) hΓ hT d_M_count_69
      · rw [if_neg h4]
        refine go_tabOut 70 (pc := 6) hΓ d_M_count_6 (sw_out 3 (fun k hk => by match k, hk with | 0, _ => exact h2 | 1, _ => exact h3 | 2, _ => exact h4)) (by decide) ?_
        refine go_iconst (v := -1) (pc := 70) hΓ d_M_count_70 (by decide) ?_
        exact go_iret (pc := 71) hΓ hT d_M_count_71
def f_M_row (N : Nat) (x1 : Int32) (μ0 : Mem) : Option (Int64 × Mem) :=
  bnd (f_M_in N (Int32.toInt64 x1) 0 (Int32.toInt64 ((gI μ0 44 1) - 1)) μ0) fun r1 μ2 => lt' (if r1 = 0 then (1 : Int32) else (0 : Int32)) fun q4 => bnd (f_M_flag N q4 μ2) fun r5 μ6 => lt' (sI μ6 44 0 r5) fun μ7 => if (gI μ7 44 0) = 1 then (some (0, μ7)) else (ck (inb x1 64) (some (gL μ7 45 (tn x1), μ7)))
set_option maxHeartbeats 4000000 in
set_option maxRecDepth 100000 in
theorem g_M_row (N d : Nat) (x1 : Int32)  : CallF eL y_M_row c_M_row 2 (some .long) (d + 1 + 1) [.ref 44, .int x1] (f_M_row N x1) := by
  refine call_of (d := d + 1) (n := 1) mi_M_row.1 (fun _ => rfl) ?_
  intro Γ μ0 hΓ hT hR
  show Go Γ 2 0 [(0, .ref 44), (1, .int x1)] [] μ0 (f_M_row N x1 μ0)
  unfold f_M_row
  refine go_aload_n (q := 0) (i := 0) (pc := 0) hΓ d_M_row_0 rfl rfl ?_
  refine go_iload_n (q := 1) (i := 1) (pc := 1) hΓ d_M_row_1 rfl rfl ?_
  refine go_i2l (pc := 2) hΓ d_M_row_2 ?_
  refine go_lconst (v := 0) (pc := 3) hΓ d_M_row_3 (by decide) ?_
  refine go_aload_n (q := 0) (i := 0) (pc := 4) hΓ d_M_row_4 rfl rfl ?_
  refine go_getI (pc := 5) hΓ fl_M_73 d_M_row_5 rfl rfl ?_
  refine go_iconst (v := 1) (pc := 8) hΓ d_M_row_8 (by decide) ?_
  refine go_isub (pc := 9) hΓ d_M_row_9 ?_
  refine go_i2l (pc := 10) hΓ d_M_row_10 ?_
  refine go_callS (index := 82) emI hΓ hR (g_M_in N (d + 0) (Int32.toInt64 x1) 0 (Int32.toInt64 ((gI μ0 44 1) - 1))) mi_M_in ml_M_82 d_M_row_11 rfl rfl rfl (fun r1 μ2 => ?_)
  show Go Γ 2 14 [(0, .ref 44), (1, .int x1)] [.int r1, .ref 44] μ2 _
  refine go_mg (α := Int32) 22 (fun q4 => [(0, .ref 44), (1, .int x1)]) (fun q4 => [.int q4, .ref 44]) (fun q4 => ?_) (fun g10 g10h => ?_)
  · refine go_callS (index := 188) emI hΓ hR (g_M_flag N (d + 0) q4) mi_M_flag ml_M_188 d_M_row_22 rfl rfl rfl (fun r5 μ6 => ?_)
    show Go Γ 2 25 [(0, .ref 44), (1, .int x1)] [.int r5, .ref 44] μ6 _
    refine go_putI (pc := 25) hΓ fp_M_69 d_M_row_25 rfl rfl ?_
    refine go_letM (fun μ7 => ?_)
    refine go_aload_n (q := 0) (i := 0) (pc := 28) hΓ d_M_row_28 rfl rfl ?_
    refine go_getI (pc := 29) hΓ fl_M_69 d_M_row_29 rfl rfl ?_
    refine go_iconst (v := 1) (pc := 32) hΓ d_M_row_32 (by decide) ?_
    refine go_icmp_ne 40 (pc := 33) hΓ d_M_row_33 (by decide) (fun h8 => go_eq (if_neg h8) ?_) (fun h8 => go_eq (if_pos h8) ?_)
    · refine go_aload_n (q := 0) (i := 0) (pc := 40) hΓ d_M_row_40 rfl rfl ?_
      refine go_getR (q := 45) (pc := 41) hΓ fl_M_7 d_M_row_41 rfl rfl ?_
      refine go_iload_n (q := 1) (i := 1) (pc := 44) hΓ d_M_row_44 rfl rfl ?_
      refine go_ck (fun h9 => ?_)
      refine go_lald (pc := 45) hΓ d_M_row_45 rfl h9 ?_
      exact go_lret (pc := 46) hΓ hT d_M_row_46
    · refine go_lconst (v := 0) (pc := 36) hΓ d_M_row_36 (by decide) ?_
      refine go_goto 46 (pc := 37) hΓ d_M_row_37 (by decide) ?_
      exact go_lret (pc := 46) hΓ hT d_M_row_46
  · refine go_if_ne 21 (pc := 14) hΓ d_M_row_14 (by decide) (fun h3 => ?_) (fun h3 => ?_)
    · rw [if_neg h3]
      refine go_iconst (v := 0) (pc := 21) hΓ d_M_row_21 (by decide) ?_
      refine go_sub' (lv' := [(0, .ref 44), (1, .int x1)]) rfl ?_
      exact g10h _
    · rw [if_pos h3]
      refine go_iconst (v := 1) (pc := 17) hΓ d_M_row_17 (by decide) ?_
      refine go_goto 22 (pc := 18) hΓ d_M_row_18 (by decide) ?_
      refine go_sub' (lv' := [(0, .ref 44), (1, .int x1)]) rfl ?_
      exact g10h _

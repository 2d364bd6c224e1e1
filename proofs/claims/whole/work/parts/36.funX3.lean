def lp_X_findNotices_9 (N : Nat) (p1 : Nat) (x2 : Int32)  (K : Mem → Option (Int64 × Mem)) : Nat → Int32 → Mem → Option (Int64 × Mem)
  | 0, _, _ => none
  | n + 1, a3, μ0 => if a3 < x2 then (ck (inb a3 256) (lt' (sL μ0 34 (tn a3) 0) fun μ4 => lt' (a3 + 1) fun v5 => lp_X_findNotices_9 N p1 x2 K n v5 μ4)) else (K  μ0)
def lp_X_findNotices_51 (N : Nat) (p1 : Nat) (x2 : Int32) (x5 : Int32)  (K : Int64 → Mem → Option (Int64 × Mem)) : Nat → Int64 → Int32 → Mem → Option (Int64 × Mem)
  | 0, _, _, _ => none
  | n + 1, a3, a6, μ0 => if a6 < x2 then (bnd (f_PatternSet_holds N a6 μ0) fun r11 μ12 => lt' (fun (w14 : Int64) (μ15 : Mem) => lt' (a6 + 1) fun v16 => lp_X_findNotices_51 N p1 x2 x5 K n w14 v16 μ15) fun (k13 : Int64 → Mem → Option (Int64 × Mem)) => if r11 = 0 then (k13 a3 μ12) else (ck (inb a6 256) (ck (inb a6 256) (lt' (sL μ12 34 (tn a6) ((gL μ12 34 (tn a6)) ||| (shlL 1 x5))) fun μ20 => lt' (a3 ||| (shlL 1 x5)) fun v21 => k13 v21 μ20)))) else (K a3 μ0)
def lp_X_findNotices_32 (N : Nat) (p1 : Nat) (x2 : Int32)  (K : Int64 → Mem → Option (Int64 × Mem)) : Nat → Int64 → Int32 → Mem → Option (Int64 × Mem)
  | 0, _, _, _ => none
  | n + 1, a3, a5, μ0 => if a5 < (gI μ0 p1 1) then (bnd (f_X_judge N p1 a5 μ0) fun _ μ9 => lp_X_findNotices_51 N p1 x2 a5 (fun v22 μ23 => lt' (a5 + 1) fun v24 => lp_X_findNotices_32 N p1 x2 K n v22 v24 μ23) N a3 0 μ9) else (K a3 μ0)
def f_X_findNotices (N : Nat) (p1 : Nat) (μ0 : Mem) : Option (Int64 × Mem) :=
  lt' (shlI 1 (gI μ0 p1 0)) fun v1 => lp_X_findNotices_9 N p1 v1 (fun μ6 => lp_X_findNotices_32 N p1 v1 (fun v25 μ26 => some (v25, μ26)) N 0 0 μ6) N 0 μ0
set_option maxHeartbeats 4000000 in
set_option maxRecDepth 100000 in
theorem glp_X_findNotices_9 (N d : Nat) {Γ : Cx Int64} (hΓ : Ok Γ "SortingNets" c_X_findNotices 7) (hT : Rt Γ eL (some .long)) (hR : Rm Γ (d + 3)) (p1 : Nat) (x2 : Int32) (hp1 : isN p1)   (K : Mem → Option (Int64 × Mem)) (hK : ∀  (ν : Mem), Go Γ 7 27 [(0, .ref 0), (1, .ref p1), (2, .int x2)] [] ν (K  ν)) : ∀ (n : Nat) (a3 : Int32) (μ0 : Mem), Go Γ 7 9 [(0, .ref 0), (1, .ref p1), (2, .int x2), (3, .int a3)] [] μ0 (lp_X_findNotices_9 N p1 x2 K n a3 μ0) := by
  intro n
  induction n with
  | zero => intro a3 μ0; exact go_none
  | succ n ih =>
    intro a3 μ0
    rw [lp_X_findNotices_9]
    refine go_iload_n (q := 3) (i := 3) (pc := 9) hΓ d_X_findNotices_9 rfl rfl ?_
    refine go_iload_n (q := 2) (i := 2) (pc := 10) hΓ d_X_findNotices_10 rfl rfl ?_
    refine go_icmp_ge 27 (pc := 11) hΓ d_X_findNotices_11 (by decide) (fun h2 => go_eq (if_neg h2) ?_) (fun h2 => go_eq (if_pos h2) ?_)
    · refine go_sub' (lv' := [(0, .ref 0), (1, .ref p1), (2, .int x2)]) rfl ?_
      exact hK  μ0
    · refine go_aload_n (q := 0) (i := 0) (pc := 14) hΓ d_X_findNotices_14 rfl rfl ?_
      refine go_getR (q := 34) (pc := 15) hΓ fl_X_69 d_X_findNotices_15 rfl rfl ?_
      refine go_iload_n (q := 3) (i := 3) (pc := 18) hΓ d_X_findNotices_18 rfl rfl ?_
      refine go_lconst (v := 0) (pc := 19) hΓ d_X_findNotices_19 (by decide) ?_
      refine go_ck (fun h3 => ?_)
      refine go_last (pc := 20) hΓ d_X_findNotices_20 rfl h3 ?_
      refine go_letM (fun μ4 => ?_)
      refine go_incI (q := 3) (i := 3) (n := 1) (c := 1) (pc := 21) hΓ d_X_findNotices_21 rfl (by decide) (by decide) (fun v5 => ?_)
      refine go_sub' (lv' := [(3, .int v5), (0, .ref 0), (1, .ref p1), (2, .int x2)]) rfl ?_
      refine go_goto 9 (pc := 24) hΓ d_X_findNotices_24 (by decide) ?_
      refine go_sub' (lv' := [(0, .ref 0), (1, .ref p1), (2, .int x2), (3, .int v5)]) rfl ?_
      exact ih v5 μ4
set_option maxHeartbeats 4000000 in
set_option maxRecDepth 100000 in
theorem glp_X_findNotices_51 (N d : Nat) {Γ : Cx Int64} (hΓ : Ok Γ "SortingNets" c_X_findNotices 7) (hT : Rt Γ eL (some .long)) (hR : Rm Γ (d + 3)) (p1 : Nat) (x2 : Int32) (x5 : Int32) (hp1 : isN p1)   (K : Int64 → Mem → Option (Int64 × Mem)) (hK : ∀ (b3 : Int64) (ν : Mem), Go Γ 7 96 [(0, .ref 0), (1, .ref p1), (2, .int x2), (3, .long b3), (5, .int x5)] [] ν (K b3 ν)) : ∀ (n : Nat) (a3 : Int64) (a6 : Int32) (μ0 : Mem), Go Γ 7 51 [(0, .ref 0), (1, .ref p1), (2, .int x2), (3, .long a3), (5, .int x5), (6, .int a6)] [] μ0 (lp_X_findNotices_51 N p1 x2 x5 K n a3 a6 μ0) := by
  intro n
  induction n with
  | zero => intro a3 a6 μ0; exact go_none
  | succ n ih =>
    intro a3 a6 μ0
    rw [lp_X_findNotices_51]
    refine go_iload (q := 5) (pc := 51) hΓ d_X_findNotices_51 rfl ?_
    refine go_iload_n (q := 2) (i := 2) (pc := 53) hΓ d_X_findNotices_53 rfl rfl ?_
    refine go_icmp_ge 96 (pc := 54) hΓ d_X_findNotices_54 (by decide) (fun h10 => go_eq (if_neg h10) ?_) (fun h10 => go_eq (if_pos h10) ?_)
    · refine go_sub' (lv' := [(0, .ref 0), (1, .ref p1), (2, .int x2), (3, .long a3), (5, .int x5)]) rfl ?_
      exact hK a3 μ0
    · refine go_aload_n (q := 0) (i := 0) (pc := 57) hΓ d_X_findNotices_57 rfl rfl ?_
      refine go_getR (q := 31) (pc := 58) hΓ fl_X_61 d_X_findNotices_58 rfl rfl ?_
      refine go_iload (q := 5) (pc := 61) hΓ d_X_findNotices_61 rfl ?_
      refine go_callV (index := 246) emI hΓ hR (g_PatternSet_holds N (d + 2) a6) mi_PatternSet_holds ml_X_246 d_X_findNotices_63 rfl rfl rfl rfl rfl (fun r11 μ12 => ?_)
      show Go Γ 7 66 [(0, .ref 0), (1, .ref p1), (2, .int x2), (3, .long a3), (5, .int x5), (6, .int a6)] [.int r11] μ12 _
      refine go_join (fun (k13 : Int64 → Mem → Option (Int64 × Mem)) => ∀ (w14 : Int64) (μ15 : Mem), Go Γ 7 90 [(0, .ref 0), (1, .ref p1), (2, .int x2), (3, .long w14), (5, .int x5), (6, .int a6)] [] μ15 (k13 w14 μ15)) ?_ (fun k13 k13h => ?_)
      · intro w14 μ15
        refine go_incI (q := 5) (i := 6) (n := 1) (c := 1) (pc := 90) hΓ d_X_findNotices_90 rfl (by decide) (by decide) (fun v16 => ?_)
        refine go_sub' (lv' := [(6, .int v16), (0, .ref 0), (1, .ref p1), (2, .int x2), (3, .long w14), (5, .int x5)]) rfl ?_
        refine go_goto 51 (pc := 93) hΓ d_X_findNotices_93 (by decide) ?_
        refine go_sub' (lv' := [(0, .ref 0), (1, .ref p1), (2, .int x2), (3, .long w14), (5, .int x5), (6, .int v16)]) rfl ?_
        exact ih w14 v16 μ15
      · refine go_if_eq 90 (pc := 66) hΓ d_X_findNotices_66 (by decide) (fun h17 => go_eq (if_pos h17) ?_) (fun h17 => go_eq (if_neg h17) ?_)
        · refine go_sub' (lv' := [(0, .ref 0), (1, .ref p1), (2, .int x2), (3, .long a3), (5, .int x5), (6, .int a6)]) rfl ?_
          exact k13h a3 μ12
        · refine go_aload_n (q := 0) (i := 0) (pc := 69) hΓ d_X_findNotices_69 rfl rfl ?_
          refine go_getR (q := 34) (pc := 70) hΓ fl_X_69 d_X_findNotices_70 rfl rfl ?_
          refine go_iload (q := 5) (pc := 73) hΓ d_X_findNotices_73 rfl ?_
          refine go_dup2 (pc := 75) hΓ d_X_findNotices_75 rfl rfl ?_
          refine go_ck (fun h18 => ?_)
          refine go_lald (pc := 76) hΓ d_X_findNotices_76 rfl h18 ?_
          refine go_lconst (v := 1) (pc := 77) hΓ d_X_findNotices_77 (by decide) ?_
          refine go_iload (q := 4) (pc := 78) hΓ d_X_findNotices_78 rfl ?_
          refine go_lshl (pc := 80) hΓ d_X_findNotices_80 ?_
          refine go_lor (pc := 81) hΓ d_X_findNotices_81 ?_
          refine go_ck (fun h19 => ?_)
          refine go_last (pc := 82) hΓ d_X_findNotices_82 rfl h19 ?_
          refine go_letM (fun μ20 => ?_)
          refine go_lload_n (q := 3) (i := 3) (pc := 83) hΓ d_X_findNotices_83 rfl rfl ?_
          refine go_lconst (v := 1) (pc := 84) hΓ d_X_findNotices_84 (by decide) ?_
          refine go_iload (q := 4) (pc := 85) hΓ d_X_findNotices_85 rfl ?_
          refine go_lshl (pc := 87) hΓ d_X_findNotices_87 ?_
          refine go_lor (pc := 88) hΓ d_X_findNotices_88 ?_
          refine go_letL (fun v21 => ?_)
          refine go_lstore_n (i := 3) (lv' := [(3, .long v21), (0, .ref 0), (1, .ref p1), (2, .int x2), (5, .int x5), (6, .int a6)]) (pc := 89) hΓ d_X_findNotices_89 rfl (by decide) rfl ?_
          refine go_sub' (lv' := [(0, .ref 0), (1, .ref p1), (2, .int x2), (3, .long v21), (5, .int x5), (6, .int a6)]) rfl ?_
          exact k13h v21 μ20
set_option maxHeartbeats 4000000 in
set_option maxRecDepth 100000 in
theorem glp_X_findNotices_32 (N d : Nat) {Γ : Cx Int64} (hΓ : Ok Γ "SortingNets" c_X_findNotices 7) (hT : Rt Γ eL (some .long)) (hR : Rm Γ (d + 3)) (p1 : Nat) (x2 : Int32) (hp1 : isN p1)   (K : Int64 → Mem → Option (Int64 × Mem)) (hK : ∀ (b3 : Int64) (ν : Mem), Go Γ 7 102 [(3, .long b3)] [] ν (K b3 ν)) : ∀ (n : Nat) (a3 : Int64) (a5 : Int32) (μ0 : Mem), Go Γ 7 32 [(0, .ref 0), (1, .ref p1), (2, .int x2), (3, .long a3), (5, .int a5)] [] μ0 (lp_X_findNotices_32 N p1 x2 K n a3 a5 μ0) := by
  intro n
  induction n with
  | zero => intro a3 a5 μ0; exact go_none
  | succ n ih =>
    intro a3 a5 μ0
    rw [lp_X_findNotices_32]
    refine go_iload (q := 4) (pc := 32) hΓ d_X_findNotices_32 rfl ?_
    refine go_aload_n (q := 1) (i := 1) (pc := 34) hΓ d_X_findNotices_34 rfl rfl ?_
    refine go_getI (pc := 35) hΓ fl_X_121 d_X_findNotices_35 (isN_sh hp1).1 rfl ?_
    refine go_icmp_ge 102 (pc := 38) hΓ d_X_findNotices_38 (by decide) (fun h7 => go_eq (if_neg h7) ?_) (fun h7 => go_eq (if_pos h7) ?_)
    · refine go_sub' (lv' := [(3, .long a3)]) rfl ?_
      exact hK a3 μ0
    · refine go_aload_n (q := 0) (i := 0) (pc := 41) hΓ d_X_findNotices_41 rfl rfl ?_
      refine go_aload_n (q := 1) (i := 1) (pc := 42) hΓ d_X_findNotices_42 rfl rfl ?_
      refine go_iload (q := 4) (pc := 43) hΓ d_X_findNotices_43 rfl ?_
      refine go_callV (index := 157) emV hΓ hR (g_X_judge N (d + 0) p1 hp1 a5) mi_X_judge ml_X_157 d_X_findNotices_45 rfl rfl rfl rfl rfl (fun _ μ9 => ?_)
      show Go Γ 7 48 [(0, .ref 0), (1, .ref p1), (2, .int x2), (3, .long a3), (5, .int a5)] [] μ9 _
      refine go_iconst (v := 0) (pc := 48) hΓ d_X_findNotices_48 (by decide) ?_
      refine go_istore (lv' := [(6, .int 0), (0, .ref 0), (1, .ref p1), (2, .int x2), (3, .long a3), (5, .int a5)]) (pc := 49) hΓ d_X_findNotices_49 (by decide) rfl ?_
      refine go_sub' (lv' := [(0, .ref 0), (1, .ref p1), (2, .int x2), (3, .long a3), (5, .int a5), (6, .int 0)]) rfl ?_
      refine glp_X_findNotices_51 N d hΓ hT hR p1 x2 a5 hp1 _ (fun v22 μ23 => ?_) N a3 0 μ9
      refine go_incI (q := 4) (i := 5) (n := 1) (c := 1) (pc := 96) hΓ d_X_findNotices_96 rfl (by decide) (by decide) (fun v24 => ?_)
      refine go_sub' (lv' := [(5, .int v24), (0, .ref 0), (1, .ref p1), (2, .int x2), (3, .long v22)]) rfl ?_
      refine go_goto 32 (pc := 99) hΓ d_X_findNotices_99 (by decide) ?_
      refine go_sub' (lv' := [(0, .ref 0), (1, .ref p1), (2, .int x2), (3, .long v22), (5, .int v24)]) rfl ?_
      exact ih v22 v24 μ23
set_option maxHeartbeats 4000000 in
set_option maxRecDepth 100000 in
theorem g_X_findNotices (N d : Nat) (p1 : Nat) (hp1 : isN p1)  : CallF eL y_X_findNotices c_X_findNotices 7 (some .long) (d + 3 + 1) [.ref 0, .ref p1] (f_X_findNotices N p1) := by
  refine call_of (d := d + 3) (n := 1) mi_X_findNotices.1 (fun _ => rfl) ?_
  intro Γ μ0 hΓ hT hR
  show Go Γ 7 0 [(0, .ref 0), (1, .ref p1)] [] μ0 (f_X_findNotices N p1 μ0)
  unfold f_X_findNotices
  refine go_iconst (v := 1) (pc := 0) hΓ d_X_findNotices_0 (by decide) ?_
  refine go_aload_n (q := 1) (i := 1) (pc := 1) hΓ d_X_findNotices_1 rfl rfl ?_
  refine go_getI (pc := 2) hΓ fl_X_111 d_X_findNotices_2 (isN_sh hp1).1 rfl ?_
  refine go_ishl (pc := 5) hΓ d_X_findNotices_5 ?_
  refine go_letI (fun v1 => ?_)
  refine go_istore_n (i := 2) (lv' := [(2, .int v1), (0, .ref 0), (1, .ref p1)]) (pc := 6) hΓ d_X_findNotices_6 rfl (by decide) rfl ?_
  refine go_iconst (v := 0) (pc := 7) hΓ d_X_findNotices_7 (by decide) ?_
  refine go_istore_n (i := 3) (lv' := [(3, .int 0), (2, .int v1), (0, .ref 0), (1, .ref p1)]) (pc := 8) hΓ d_X_findNotices_8 rfl (by decide) rfl ?_
  refine go_sub' (lv' := [(0, .ref 0), (1, .ref p1), (2, .int v1), (3, .int 0)]) rfl ?_
  refine glp_X_findNotices_9 N d hΓ hT hR p1 v1 hp1 _ (fun μ6 => ?_) N 0 μ0
  refine go_lconst (v := 0) (pc := 27) hΓ d_X_findNotices_27 (by decide) ?_
  refine go_lstore_n (i := 3) (lv' := [(3, .long 0), (0, .ref 0), (1, .ref p1), (2, .int v1)]) (pc := 28) hΓ d_X_findNotices_28 rfl (by decide) rfl ?_
  refine go_iconst (v := 0) (pc := 29) hΓ d_X_findNotices_29 (by decide) ?_
  refine go_istore (lv' := [(5, .int 0), (3, .long 0), (0, .ref 0), (1, .ref p1), (2, .int v1)]) (pc := 30) hΓ d_X_findNotices_30 (by decide) rfl ?_
  refine go_sub' (lv' := [(0, .ref 0), (1, .ref p1), (2, .int v1), (3, .long 0), (5, .int 0)]) rfl ?_
  refine glp_X_findNotices_32 N d hΓ hT hR p1 v1 hp1 _ (fun v25 μ26 => ?_) N 0 0 μ6
  refine go_lload_n (q := 0) (i := 3) (pc := 102) hΓ d_X_findNotices_102 rfl rfl ?_
  exact go_lret (pc := 103) hΓ hT d_X_findNotices_103
def lp_X_tests_78 (N : Nat) (x2 : Int32) (x3 : Int64) (x5 : Int32)  (K : Int32 → Mem → Option (Int32 × Mem)) : Nat → Int32 → Int32 → Mem → Option (Int32 × Mem)
  | 0, _, _, _ => none
  | n + 1, a6, a7, μ0 => if a7 < x2 then (ck (inb a7 256) (bnd (f_JLong_bitCount N ((gL μ0 34 (tn a7)) &&& x3) μ0) fun r19 μ20 => ck (inb a6 256) (bnd (f_JLong_bitCount N ((gL μ20 34 (tn a6)) &&& x3) μ20) fun r22 μ23 => lt' (if r22 < r19 then (a7 : Int32) else (a6 : Int32)) fun q25 => lt' (a7 + 1) fun v26 => lp_X_tests_78 N x2 x3 x5 K n q25 v26 μ23))) else (K a6 μ0)
def lp_X_tests_59 (N : Nat) (x2 : Int32)  (K : Mem → Option (Int32 × Mem)) : Nat → Int64 → Int32 → Mem → Option (Int32 × Mem)
  | 0, _, _, _ => none
  | n + 1, a3, a5, μ0 => if (lg_cmp a3 0) = 0 then (K  μ0) else (if a5 < 60 then (lp_X_tests_78 N x2 a3 a5 (fun v28 μ29 => bnd (f_Numbers_append N (Int32.toInt64 v28) μ29) fun _ μ31 => ck (inb v28 256) (lt' (a3 &&& ((gL μ31 34 (tn v28)) ^^^ (-1))) fun v33 => lt' (a5 + 1) fun v34 => lp_X_tests_59 N x2 K n v33 v34 μ31)) N 0 1 μ0) else (K  μ0))
def f_X_tests (N : Nat) (x1 : Int32) (μ0 : Mem) : Option (Int32 × Mem) :=
  bnd (f_X_isNet N x1 μ0) fun r1 μ2 => if r1 = 0 then (some ((-1), μ2)) else (ck (inb x1 4) (bnd (f_X_isSorting N (2 + 3 * tn x1) (-1) μ2) fun r5 μ6 => if r5 = 0 then (some ((-2), μ6)) else (ck (inb x1 4) (lt' (shlI 1 (gI μ6 (2 + 3 * tn x1) 0)) fun v9 => ck (inb x1 4) (bnd (f_X_findNotices N (2 + 3 * tn x1) μ6) fun r11 μ12 => bnd (f_Numbers_clear N  μ12) fun _ μ14 => lp_X_tests_59 N v9 (fun μ35 => some (gI μ35 16 1, μ35)) N r11 0 μ14)))))
set_option maxHeartbeats 4000000 in
set_option maxRecDepth 100000 in
theorem glp_X_tests_78 (N d : Nat) {Γ : Cx Int32} (hΓ : Ok Γ "SortingNets" c_X_tests 8) (hT : Rt Γ eI (some .int)) (hR : Rm Γ (d + 4)) (x2 : Int32) (x3 : Int64) (x5 : Int32)    (K : Int32 → Mem → Option (Int32 × Mem)) (hK : ∀ (b6 : Int32) (ν : Mem), Go Γ 8 121 [(0, .ref 0), (2, .int x2), (3, .long x3), (5, .int x5), (6, .int b6)] [] ν (K b6 ν)) : ∀ (n : Nat) (a6 : Int32) (a7 : Int32) (μ0 : Mem), Go Γ 8 78 [(0, .ref 0), (2, .int x2), (3, .long x3), (5, .int x5), (6, .int a6), (7, .int a7)] [] μ0 (lp_X_tests_78 N x2 x3 x5 K n a6 a7 μ0) := by
  intro n
  induction n with
  | zero => intro a6 a7 μ0; exact go_none
  | succ n ih =>
    intro a6 a7 μ0
    rw [lp_X_tests_78]
    refine go_iload (q := 5) (pc := 78) hΓ d_X_tests_78 rfl ?_
    refine go_iload_n (q := 1) (i := 2) (pc := 80) hΓ d_X_tests_80 rfl rfl ?_
    refine go_icmp_ge 121 (pc := 81) hΓ d_X_tests_81 (by decide) (fun h17 => go_eq (if_neg h17) ?_) (fun h17 => go_eq (if_pos h17) ?_)
    · refine go_sub' (lv' := [(0, .ref 0), (2, .int x2), (3, .long x3), (5, .int x5), (6, .int a6)]) rfl ?_
      exact hK a6 μ0
    · refine go_aload_n (q := 0) (i := 0) (pc := 84) hΓ d_X_tests_84 rfl rfl ?_
      refine go_getR (q := 34) (pc := 85) hΓ fl_X_69 d_X_tests_85 rfl rfl ?_
      refine go_iload (q := 5) (pc := 88) hΓ d_X_tests_88 rfl ?_
      refine go_ck (fun h18 => ?_)
      refine go_lald (pc := 90) hΓ d_X_tests_90 rfl h18 ?_
      refine go_lload_n (q := 2) (i := 3) (pc := 91) hΓ d_X_tests_91 rfl rfl ?_
      refine go_land (pc := 92) hΓ d_X_tests_92 ?_
      refine go_callS (index := 273) emI hΓ hR (g_JLong_bitCount N (d + 3) ((gL μ0 34 (tn a7)) &&& x3)) mi_JLong_bitCount ml_X_273 d_X_tests_93 rfl rfl rfl (fun r19 μ20 => ?_)
      show Go Γ 8 96 [(0, .ref 0), (2, .int x2), (3, .long x3), (5, .int x5), (6, .int a6), (7, .int a7)] [.int r19] μ20 _
      refine go_aload_n (q := 0) (i := 0) (pc := 96) hΓ d_X_tests_96 rfl rfl ?_
      refine go_getR (q := 34) (pc := 97) hΓ fl_X_69 d_X_tests_97 rfl rfl ?_
      refine go_iload (q := 4) (pc := 100) hΓ d_X_tests_100 rfl ?_
      refine go_ck (fun h21 => ?_)
      refine go_lald (pc := 102) hΓ d_X_tests_102 rfl h21 ?_
      refine go_lload_n (q := 2) (i := 3) (pc := 103) hΓ d_X_tests_103 rfl rfl ?_
      refine go_land (pc := 104) hΓ d_X_tests_104 ?_
      refine go_callS (index := 273) emI hΓ hR (g_JLong_bitCount N (d + 3) ((gL μ20 34 (tn a6)) &&& x3)) mi_JLong_bitCount ml_X_273 d_X_tests_105 rfl rfl rfl (fun r22 μ23 => ?_)
      show Go Γ 8 108 [(0, .ref 0), (2, .int x2), (3, .long x3), (5, .int x5), (6, .int a6), (7, .int a7)] [.int r22, .int r19] μ23 _
      refine go_mg (α := Int32) 115 (fun q25 => [(0, .ref 0), (2, .int x2), (3, .long x3), (5, .int x5), (6, .int q25), (7, .int a7)]) (fun q25 => []) (fun q25 => ?_) (fun g27 g27h => ?_)
      · refine go_incI (q := 5) (i := 7) (n := 1) (c := 1) (pc := 115) hΓ d_X_tests_115 rfl (by decide) (by decide) (fun v26 => ?_)
        refine go_sub' (lv' := [(7, .int v26), (0, .ref 0), (2, .int x2), (3, .long x3), (5, .int x5), (6, .int q25)]) rfl ?_
        refine go_goto 78 (pc := 118) hΓ d_X_tests_118 (by decide) ?_
        refine go_sub' (lv' := [(0, .ref 0), (2, .int x2), (3, .long x3), (5, .int x5), (6, .int q25), (7, .int v26)]) rfl ?_
        exact ih q25 v26 μ23
      · refine go_icmp_le 115 (pc := 108) hΓ d_X_tests_108 (by decide) (fun h24 => ?_) (fun h24 => ?_)
        · rw [if_neg h24]
          refine go_sub' (lv' := [(0, .ref 0), (2, .int x2), (3, .long x3), (5, .int x5), (6, .int a6), (7, .int a7)]) rfl ?_
          exact g27h _
        · rw [if_pos h24]
          refine go_iload (q := 5) (pc := 111) hΓ d_X_tests_111 rfl ?_
          refine go_istore (lv' := [(6, .int a7), (0, .ref 0), (2, .int x2), (3, .long x3), (5, .int x5), (7, .int a7)]) (pc := 113) hΓ d_X_tests_113 (by decide) rfl ?_
          refine go_sub' (lv' := [(0, .ref 0), (2, .int x2), (3, .long x3), (5, .int x5), (6, .int a7), (7, .int a7)]) rfl ?_
          exact g27h _
set_option maxHeartbeats 4000000 in
set_option maxRecDepth 100000 in
theorem glp_X_tests_59 (N d : Nat) {Γ : Cx Int32} (hΓ : Ok Γ "SortingNets" c_X_tests 8) (hT : Rt Γ eI (some .int)) (hR : Rm Γ (d + 4)) (x2 : Int32)    (K : Mem → Option (Int32 × Mem)) (hK : ∀  (ν : Mem), Go Γ 8 151 [(0, .ref 0)] [] ν (K  ν)) : ∀ (n : Nat) (a3 : Int64) (a5 : Int32) (μ0 : Mem), Go Γ 8 59 [(0, .ref 0), (2, .int x2), (3, .long a3), (5, .int a5)] [] μ0 (lp_X_tests_59 N x2 K n a3 a5 μ0) := by
  intro n
  induction n with
  | zero => intro a3 a5 μ0; exact go_none
  | succ n ih =>
    intro a3 a5 μ0
    rw [lp_X_tests_59]
    refine go_lload_n (q := 2) (i := 3) (pc := 59) hΓ d_X_tests_59 rfl rfl ?_
    refine go_lconst (v := 0) (pc := 60) hΓ d_X_tests_60 (by decide) ?_
    refine go_lcmp (pc := 61) hΓ d_X_tests_61 ?_
    refine go_if_eq 151 (pc := 62) hΓ d_X_tests_62 (by decide) (fun h15 => go_eq (if_pos h15) ?_) (fun h15 => go_eq (if_neg h15) ?_)
    · refine go_sub' (lv' := [(0, .ref 0)]) rfl ?_
      exact hK  μ0
    · refine go_iload (q := 3) (pc := 65) hΓ d_X_tests_65 rfl ?_
      refine go_bipush (v := 60) (pc := 67) hΓ d_X_tests_67 (by decide) ?_
      refine go_icmp_ge 151 (pc := 69) hΓ d_X_tests_69 (by decide) (fun h16 => go_eq (if_neg h16) ?_) (fun h16 => go_eq (if_pos h16) ?_)
      · refine go_sub' (lv' := [(0, .ref 0)]) rfl ?_
        exact hK  μ0
      · refine go_iconst (v := 0) (pc := 72) hΓ d_X_tests_72 (by decide) ?_
        refine go_istore (lv' := [(6, .int 0), (0, .ref 0), (2, .int x2), (3, .long a3), (5, .int a5)]) (pc := 73) hΓ d_X_tests_73 (by decide) rfl ?_
        refine go_iconst (v := 1) (pc := 75) hΓ d_X_tests_75 (by decide) ?_
        refine go_istore (lv' := [(7, .int 1), (6, .int 0), (0, .ref 0), (2, .int x2), (3, .long a3), (5, .int a5)]) (pc := 76) hΓ d_X_tests_76 (by decide) rfl ?_
        refine go_sub' (lv' := [(0, .ref 0), (2, .int x2), (3, .long a3), (5, .int a5), (6, .int 0), (7, .int 1)]) rfl ?_
        refine glp_X_tests_78 N d hΓ hT hR x2 a3 a5 _ (fun v28 μ29 => ?_) N 0 1 μ0
        refine go_aload_n (q := 0) (i := 0) (pc := 121) hΓ d_X_tests_121 rfl rfl ?_
        refine go_getR (q := 16) (pc := 122) hΓ fl_X_37 d_X_tests_122 rfl rfl ?_
        refine go_iload (q := 4) (pc := 125) hΓ d_X_tests_125 rfl ?_
        refine go_i2l (pc := 127) hΓ d_X_tests_127 ?_
        refine go_callV (index := 118) emV hΓ hR (g_Numbers_append N (d + 3) (Int32.toInt64 v28)) mi_Numbers_append ml_X_118 d_X_tests_128 rfl rfl rfl rfl rfl (fun _ μ31 => ?_)
        show Go Γ 8 131 [(0, .ref 0), (2, .int x2), (3, .long a3), (5, .int a5), (6, .int v28)] [] μ31 _
        refine go_lload_n (q := 2) (i := 3) (pc := 131) hΓ d_X_tests_131 rfl rfl ?_
        refine go_aload_n (q := 0) (i := 0) (pc := 132) hΓ d_X_tests_132 rfl rfl ?_
        refine go_getR (q := 34) (pc := 133) hΓ fl_X_69 d_X_tests_133 rfl rfl ?_
        refine go_iload (q := 4) (pc := 136) hΓ d_X_tests_136 rfl ?_
        refine go_ck (fun h32 => ?_)
        refine go_lald (pc := 138) hΓ d_X_tests_138 rfl h32 ?_
        refine go_ldc2 (v := -1) (pc := 139) hΓ (tb_3 (List.mem_of_getElem? (i := 106) rfl) rfl) d_X_tests_139 ?_
        refine go_lxor (pc := 142) hΓ d_X_tests_142 ?_
        refine go_land (pc := 143) hΓ d_X_tests_143 ?_
        refine go_letL (fun v33 => ?_)
        refine go_lstore_n (i := 3) (lv' := [(3, .long v33), (0, .ref 0), (2, .int x2), (5, .int a5), (6, .int v28)]) (pc := 144) hΓ d_X_tests_144 rfl (by decide) rfl ?_
        refine go_incI (q := 3) (i := 5) (n := 1) (c := 1) (pc := 145) hΓ d_X_tests_145 rfl (by decide) (by decide) (fun v34 => ?_)
        refine go_sub' (lv' := [(5, .int v34), (3, .long v33), (0, .ref 0), (2, .int x2), (6, .int v28)]) rfl ?_
        refine go_goto 59 (pc := 148) hΓ d_X_tests_148 (by decide) ?_
        refine go_sub' (lv' := [(0, .ref 0), (2, .int x2), (3, .long v33), (5, .int v34)]) rfl ?_
        exact ih v33 v34 μ31
set_option maxHeartbeats 4000000 in
set_option maxRecDepth 100000 in
theorem g_X_tests (N d : Nat) (x1 : Int32)  : CallF eI y_X_tests c_X_tests 8 (some .int) (d + 4 + 1) [.ref 0, .int x1] (f_X_tests N x1) := by
  refine call_of (d := d + 4) (n := 1) mi_X_tests.1 (fun _ => rfl) ?_
  intro Γ μ0 hΓ hT hR
  show Go Γ 8 0 [(0, .ref 0), (1, .int x1)] [] μ0 (f_X_tests N x1 μ0)
  unfold f_X_tests
  refine go_iload_n (q := 1) (i := 1) (pc := 0) hΓ d_X_tests_0 rfl rfl ?_
  refine go_callS (index := 101) emI hΓ hR (g_X_isNet N (d + 3) x1) mi_X_isNet ml_X_101 d_X_tests_1 rfl rfl rfl (fun r1 μ2 => ?_)
  show Go Γ 8 4 [(0, .ref 0), (1, .int x1)] [.int r1] μ2 _
  refine go_if_ne 9 (pc := 4) hΓ d_X_tests_4 (by decide) (fun h3 => go_eq (if_neg h3) ?_) (fun h3 => go_eq (if_pos h3) ?_)
  · refine go_aload_n (q := 0) (i := 0) (pc := 9) hΓ d_X_tests_9 rfl rfl ?_
    refine go_aload_n (q := 0) (i := 0) (pc := 10) hΓ d_X_tests_10 rfl rfl ?_
    refine go_getR (q := 1) (pc := 11) hΓ fl_X_11 d_X_tests_11 rfl rfl ?_
    refine go_iload_n (q := 1) (i := 1) (pc := 14) hΓ d_X_tests_14 rfl rfl ?_
    refine go_ck (fun h4 => ?_)
    refine go_aald (pc := 15) hΓ d_X_tests_15 h4 ?_
    refine go_iconst (v := -1) (pc := 16) hΓ d_X_tests_16 (by decide) ?_
    refine go_callV (index := 279) emI hΓ hR (g_X_isSorting N (d + 0) (2 + 3 * tn x1) (isN_in h4) (-1)) mi_X_isSorting ml_X_279 d_X_tests_17 rfl rfl rfl rfl rfl (fun r5 μ6 => ?_)
    show Go Γ 8 20 [(0, .ref 0), (1, .int x1)] [.int r5] μ6 _
    refine go_if_ne 26 (pc := 20) hΓ d_X_tests_20 (by decide) (fun h7 => go_eq (if_neg h7) ?_) (fun h7 => go_eq (if_pos h7) ?_)
    · refine go_iconst (v := 1) (pc := 26) hΓ d_X_tests_26 (by decide) ?_
      refine go_aload_n (q := 0) (i := 0) (pc := 27) hΓ d_X_tests_27 rfl rfl ?_
      refine go_getR (q := 1) (pc := 28) hΓ fl_X_11 d_X_tests_28 rfl rfl ?_
      refine go_iload_n (q := 1) (i := 1) (pc := 31) hΓ d_X_tests_31 rfl rfl ?_
      refine go_ck (fun h8 => ?_)
      refine go_aald (pc := 32) hΓ d_X_tests_32 h8 ?_
      refine go_getI (pc := 33) hΓ fl_X_111 d_X_tests_33 (isN_sh (isN_in h8)).1 rfl ?_
      refine go_ishl (pc := 36) hΓ d_X_tests_36 ?_
      refine go_letI (fun v9 => ?_)
      refine go_istore_n (i := 2) (lv' := [(2, .int v9), (0, .ref 0), (1, .int x1)]) (pc := 37) hΓ d_X_tests_37 rfl (by decide) rfl ?_
      refine go_aload_n (q := 1) (i := 0) (pc := 38) hΓ d_X_tests_38 rfl rfl ?_
      refine go_aload_n (q := 1) (i := 0) (pc := 39) hΓ d_X_tests_39 rfl rfl ?_
      refine go_getR (q := 1) (pc := 40) hΓ fl_X_11 d_X_tests_40 rfl rfl ?_
      refine go_iload_n (q := 2) (i := 1) (pc := 43) hΓ d_X_tests_43 rfl rfl ?_
      refine go_ck (fun h10 => ?_)
      refine go_aald (pc := 44) hΓ d_X_tests_44 h10 ?_
      refine go_callV (index := 296) emL hΓ hR (g_X_findNotices N (d + 0) (2 + 3 * tn x1) (isN_in h10)) mi_X_findNotices ml_X_296 d_X_tests_45 rfl rfl rfl rfl rfl (fun r11 μ12 => ?_)
      show Go Γ 8 48 [(2, .int v9), (0, .ref 0), (1, .int x1)] [.long r11] μ12 _
      refine go_lstore_n (i := 3) (lv' := [(3, .long r11), (2, .int v9), (0, .ref 0), (1, .int x1)]) (pc := 48) hΓ d_X_tests_48 rfl (by decide) rfl ?_
      refine go_aload_n (q := 2) (i := 0) (pc := 49) hΓ d_X_tests_49 rfl rfl ?_
      refine go_getR (q := 16) (pc := 50) hΓ fl_X_37 d_X_tests_50 rfl rfl ?_
      refine go_callV (index := 108) emV hΓ hR (g_Numbers_clear N (d + 3) ) mi_Numbers_clear ml_X_108 d_X_tests_53 rfl rfl rfl rfl rfl (fun _ μ14 => ?_)
      show Go Γ 8 56 [(3, .long r11), (2, .int v9), (0, .ref 0), (1, .int x1)] [] μ14 _
      refine go_iconst (v := 0) (pc := 56) hΓ d_X_tests_56 (by decide) ?_
      refine go_istore (lv' := [(5, .int 0), (3, .long r11), (2, .int v9), (0, .ref 0), (1, .int x1)]) (pc := 57) hΓ d_X_tests_57 (by decide) rfl ?_
      refine go_sub' (lv' := [(0, .ref 0), (2, .int v9), (3, .long r11), (5, .int 0)]) rfl ?_
      refine glp_X_tests_59 N d hΓ hT hR v9 _ (fun μ35 => ?_) N r11 0 μ14
      refine go_aload_n (q := 0) (i := 0) (pc := 151) hΓ d_X_tests_151 rfl rfl ?_
      refine go_getR (q := 16) (pc := 152) hΓ fl_X_37 d_X_tests_152 rfl rfl ?_
      refine go_getI (pc := 155) hΓ fl_X_300 d_X_tests_155 rfl rfl ?_
      exact go_iret (pc := 158) hΓ hT d_X_tests_158
    · refine go_bipush (v := -2) (pc := 23) hΓ d_X_tests_23 (by decide) ?_
      exact go_iret (pc := 25) hΓ hT d_X_tests_25
  · refine go_iconst (v := -1) (pc := 7) hΓ d_X_tests_7 (by decide) ?_
    exact go_iret (pc := 8) hΓ hT d_X_tests_8
def lp_X_helps_74 (N : Nat) (x2 : Int32) (x5 : Int32)  (K : Int32 → Int32 → Mem → Option (Int32 × Mem)) : Nat → Int32 → Int32 → Int32 → Mem → Option (Int32 × Mem)
  | 0, _, _, _, _ => none
  | n + 1, a3, a4, a6, μ0 => if a6 < x2 then (bnd (f_Trial_take N 27 29 μ0) fun _ μ16 => bnd (f_Trial_compare N 27 x5 a6 μ16) fun _ μ18 => bnd (f_Trial_findUnsorted N 27 μ18) fun _ μ20 => bnd (f_PatternSet_size N  μ20) fun r21 μ22 => lt' (fun (w24 : Int32) (w25 : Int32) (μ26 : Mem) => lt' (a6 + 1) fun v27 => lp_X_helps_74 N x2 x5 K n w24 w25 v27 μ26) fun (k23 : Int32 → Int32 → Mem → Option (Int32 × Mem)) => if r21 < a4 then (bnd (f_X_code N x5 a6 μ22) fun r29 μ30 => k23 r29 r21 μ30) else (k23 a3 a4 μ22)) else (K a3 a4 μ0)
def lp_X_helps_60 (N : Nat) (x2 : Int32)  (K : Int32 → Int32 → Mem → Option (Int32 × Mem)) : Nat → Int32 → Int32 → Int32 → Mem → Option (Int32 × Mem)
  | 0, _, _, _, _ => none
  | n + 1, a3, a4, a5, μ0 => if a5 < (x2 - 1) then (lt' (a5 + 1) fun v13 => lp_X_helps_74 N x2 a5 (fun v31 v32 μ33 => lt' (a5 + 1) fun v34 => lp_X_helps_60 N x2 K n v31 v32 v34 μ33) N a3 a4 v13 μ0) else (K a3 a4 μ0)
def f_X_helps (N : Nat) (x1 : Int32) (μ0 : Mem) : Option (Int32 × Mem) :=
  bnd (f_X_isNet N x1 μ0) fun r1 μ2 => if r1 = 0 then (some ((-1), μ2)) else (ck (inb x1 4) (lt' (gI μ2 (2 + 3 * tn x1) 0) fun v5 => bnd (f_Trial_start N 29 v5 μ2) fun _ μ7 => ck (inb x1 4) (ck (inb x1 4) (bnd (f_Trial_runPart N 29 (2 + 3 * tn x1) 0 (gI μ7 (2 + 3 * tn x1) 1) μ7) fun _ μ11 => lp_X_helps_60 N v5 (fun v35 v36 μ37 => bnd (f_Numbers_clear N  μ37) fun _ μ39 => bnd (f_Numbers_append N (Int32.toInt64 v36) μ39) fun _ μ41 => some (v35, μ41)) N (-1) 256 0 μ11))))
set_option maxHeartbeats 4000000 in
set_option maxRecDepth 100000 in
theorem glp_X_helps_74 (N d : Nat) {Γ : Cx Int32} (hΓ : Ok Γ "SortingNets" c_X_helps 8) (hT : Rt Γ eI (some .int)) (hR : Rm Γ (d + 2)) (x2 : Int32) (x5 : Int32)    (K : Int32 → Int32 → Mem → Option (Int32 × Mem)) (hK : ∀ (b3 : Int32) (b4 : Int32) (ν : Mem), Go Γ 8 147 [(0, .ref 0), (2, .int x2), (3, .int b3), (4, .int b4), (5, .int x5)] [] ν (K b3 b4 ν)) : ∀ (n : Nat) (a3 : Int32) (a4 : Int32) (a6 : Int32) (μ0 : Mem), Go Γ 8 74 [(0, .ref 0), (2, .int x2), (3, .int a3), (4, .int a4), (5, .int x5), (6, .int a6)] [] μ0 (lp_X_helps_74 N x2 x5 K n a3 a4 a6 μ0) := by
  intro n
  induction n with
  | zero => intro a3 a4 a6 μ0; exact go_none
  | succ n ih =>
    intro a3 a4 a6 μ0
    rw [lp_X_helps_74]
    refine go_iload (q := 5) (pc := 74) hΓ d_X_helps_74 rfl ?_
    refine go_iload_n (q := 1) (i := 2) (pc := 76) hΓ d_X_helps_76 rfl rfl ?_
    refine go_icmp_ge 147 (pc := 77) hΓ d_X_helps_77 (by decide) (fun h14 => go_eq (if_neg h14) ?_) (fun h14 => go_eq (if_pos h14) ?_)
    · refine go_sub' (lv' := [(0, .ref 0), (2, .int x2), (3, .int a3), (4, .int a4), (5, .int x5)]) rfl ?_
      exact hK a3 a4 μ0
    · refine go_aload_n (q := 0) (i := 0) (pc := 80) hΓ d_X_helps_80 rfl rfl ?_
      refine go_getR (q := 27) (pc := 81) hΓ fl_X_51 d_X_helps_81 rfl rfl ?_
      refine go_aload_n (q := 0) (i := 0) (pc := 84) hΓ d_X_helps_84 rfl rfl ?_
      refine go_getR (q := 29) (pc := 85) hΓ fl_X_55 d_X_helps_85 rfl rfl ?_
      refine go_callV (index := 301) emV hΓ hR (g_Trial_take N (d + 1) 27 isT_27 29 isT_29) mi_Trial_take ml_X_301 d_X_helps_88 rfl rfl rfl rfl rfl (fun _ μ16 => ?_)
      show Go Γ 8 91 [(0, .ref 0), (2, .int x2), (3, .int a3), (4, .int a4), (5, .int x5), (6, .int a6)] [] μ16 _
      refine go_aload_n (q := 0) (i := 0) (pc := 91) hΓ d_X_helps_91 rfl rfl ?_
      refine go_getR (q := 27) (pc := 92) hΓ fl_X_51 d_X_helps_92 rfl rfl ?_
      refine go_iload (q := 4) (pc := 95) hΓ d_X_helps_95 rfl ?_
      refine go_iload (q := 5) (pc := 97) hΓ d_X_helps_97 rfl ?_
      refine go_callV (index := 270) emV hΓ hR (g_Trial_compare N (d + 1) 27 isT_27 x5 a6) mi_Trial_compare ml_X_270 d_X_helps_99 rfl rfl rfl rfl rfl (fun _ μ18 => ?_)
      show Go Γ 8 102 [(0, .ref 0), (2, .int x2), (3, .int a3), (4, .int a4), (5, .int x5), (6, .int a6)] [] μ18 _
      refine go_aload_n (q := 0) (i := 0) (pc := 102) hΓ d_X_helps_102 rfl rfl ?_
      refine go_getR (q := 27) (pc := 103) hΓ fl_X_51 d_X_helps_103 rfl rfl ?_
      refine go_aload_n (q := 0) (i := 0) (pc := 106) hΓ d_X_helps_106 rfl rfl ?_
      refine go_getR (q := 31) (pc := 107) hΓ fl_X_61 d_X_helps_107 rfl rfl ?_
      refine go_callV (index := 292) emV hΓ hR (g_Trial_findUnsorted N (d + 0) 27 isT_27) mi_Trial_findUnsorted ml_X_292 d_X_helps_110 rfl rfl rfl rfl rfl (fun _ μ20 => ?_)
      show Go Γ 8 113 [(0, .ref 0), (2, .int x2), (3, .int a3), (4, .int a4), (5, .int x5), (6, .int a6)] [] μ20 _
      refine go_aload_n (q := 0) (i := 0) (pc := 113) hΓ d_X_helps_113 rfl rfl ?_
      refine go_getR (q := 31) (pc := 114) hΓ fl_X_61 d_X_helps_114 rfl rfl ?_
      refine go_callV (index := 161) emI hΓ hR (g_PatternSet_size N (d + 0) ) mi_PatternSet_size ml_X_161 d_X_helps_117 rfl rfl rfl rfl rfl (fun r21 μ22 => ?_)
      show Go Γ 8 120 [(0, .ref 0), (2, .int x2), (3, .int a3), (4, .int a4), (5, .int x5), (6, .int a6)] [.int r21] μ22 _
      refine go_istore (lv' := [(7, .int r21), (0, .ref 0), (2, .int x2), (3, .int a3), (4, .int a4), (5, .int x5), (6, .int a6)]) (pc := 120) hΓ d_X_helps_120 (by decide) rfl ?_
      refine go_iload (q := 0) (pc := 122) hΓ d_X_helps_122 rfl ?_
      refine go_iload (q := 4) (pc := 124) hΓ d_X_helps_124 rfl ?_
      refine go_join (fun (k23 : Int32 → Int32 → Mem → Option (Int32 × Mem)) => ∀ (w24 : Int32) (w25 : Int32) (μ26 : Mem), Go Γ 8 141 [(0, .ref 0), (2, .int x2), (3, .int w24), (4, .int w25), (5, .int x5), (6, .int a6)] [] μ26 (k23 w24 w25 μ26)) ?_ (fun k23 k23h => ?_)
      · intro w24 w25 μ26
        refine go_incI (q := 5) (i := 6) (n := 1) (c := 1) (pc := 141) hΓ d_X_helps_141 rfl (by decide) (by decide) (fun v27 => ?_)
        refine go_sub' (lv' := [(6, .int v27), (0, .ref 0), (2, .int x2), (3, .int w24), (4, .int w25), (5, .int x5)]) rfl ?_
        refine go_goto 74 (pc := 144) hΓ d_X_helps_144 (by decide) ?_
        refine go_sub' (lv' := [(0, .ref 0), (2, .int x2), (3, .int w24), (4, .int w25), (5, .int x5), (6, .int v27)]) rfl ?_
        exact ih w24 w25 v27 μ26
      · refine go_icmp_ge 141 (pc := 126) hΓ d_X_helps_126 (by decide) (fun h28 => go_eq (if_neg h28) ?_) (fun h28 => go_eq (if_pos h28) ?_)
        · refine go_sub' (lv' := [(0, .ref 0), (2, .int x2), (3, .int a3), (4, .int a4), (5, .int x5), (6, .int a6)]) rfl ?_
          exact k23h a3 a4 μ22
        · refine go_iload (q := 0) (pc := 129) hΓ d_X_helps_129 rfl ?_
          refine go_istore (lv' := [(4, .int r21), (7, .int r21), (0, .ref 0), (2, .int x2), (3, .int a3), (5, .int x5), (6, .int a6)]) (pc := 131) hΓ d_X_helps_131 (by decide) rfl ?_
          refine go_iload (q := 5) (pc := 133) hΓ d_X_helps_133 rfl ?_
          refine go_iload (q := 6) (pc := 135) hΓ d_X_helps_135 rfl ?_
          refine go_callS (index := 214) emI hΓ hR (g_X_code N (d + 1) x5 a6) mi_X_code ml_X_214 d_X_helps_137 rfl rfl rfl (fun r29 μ30 => ?_)
          show Go Γ 8 140 [(4, .int r21), (7, .int r21), (0, .ref 0), (2, .int x2), (3, .int a3), (5, .int x5), (6, .int a6)] [.int r29] μ30 _
          refine go_istore_n (i := 3) (lv' := [(3, .int r29), (4, .int r21), (7, .int r21), (0, .ref 0), (2, .int x2), (5, .int x5), (6, .int a6)]) (pc := 140) hΓ d_X_helps_140 rfl (by decide) rfl ?_
          refine go_sub' (lv' := [(0, .ref 0), (2, .int x2), (3, .int r29), (4, .int r21), (5, .int x5), (6, .int a6)]) rfl ?_
          exact k23h r29 r21 μ30
set_option maxHeartbeats 4000000 in
set_option maxRecDepth 100000 in
theorem glp_X_helps_60 (N d : Nat) {Γ : Cx Int32} (hΓ : Ok Γ "SortingNets" c_X_helps 8) (hT : Rt Γ eI (some .int)) (hR : Rm Γ (d + 2)) (x2 : Int32)    (K : Int32 → Int32 → Mem → Option (Int32 × Mem)) (hK : ∀ (b3 : Int32) (b4 : Int32) (ν : Mem), Go Γ 8 153 [(0, .ref 0), (3, .int b3), (4, .int b4)] [] ν (K b3 b4 ν)) : ∀ (n : Nat) (a3 : Int32) (a4 : Int32) (a5 : Int32) (μ0 : Mem), Go Γ 8 60 [(0, .ref 0), (2, .int x2), (3, .int a3), (4, .int a4), (5, .int a5)] [] μ0 (lp_X_helps_60 N x2 K n a3 a4 a5 μ0) := by
  intro n
  induction n with
  | zero => intro a3 a4 a5 μ0; exact go_none
  | succ n ih =>
    intro a3 a4 a5 μ0
    rw [lp_X_helps_60]
    refine go_iload (q := 4) (pc := 60) hΓ d_X_helps_60 rfl ?_
    refine go_iload_n (q := 1) (i := 2) (pc := 62) hΓ d_X_helps_62 rfl rfl ?_
    refine go_iconst (v := 1) (pc := 63) hΓ d_X_helps_63 (by decide) ?_
    refine go_isub (pc := 64) hΓ d_X_helps_64 ?_
    refine go_icmp_ge 153 (pc := 65) hΓ d_X_helps_65 (by decide) (fun h12 => go_eq (if_neg h12) ?_) (fun h12 => go_eq (if_pos h12) ?_)
    · refine go_sub' (lv' := [(0, .ref 0), (3, .int a3), (4, .int a4)]) rfl ?_
      exact hK a3 a4 μ0
    · refine go_iload (q := 4) (pc := 68) hΓ d_X_helps_68 rfl ?_
      refine go_iconst (v := 1) (pc := 70) hΓ d_X_helps_70 (by decide) ?_
      refine go_iadd (pc := 71) hΓ d_X_helps_71 ?_
      refine go_letI (fun v13 => ?_)
      refine go_istore (lv' := [(6, .int v13), (0, .ref 0), (2, .int x2), (3, .int a3), (4, .int a4), (5, .int a5)]) (pc := 72) hΓ d_X_helps_72 (by decide) rfl ?_
      refine go_sub' (lv' := [(0, .ref 0), (2, .int x2), (3, .int a3), (4, .int a4), (5, .int a5), (6, .int v13)]) rfl ?_
      refine glp_X_helps_74 N d hΓ hT hR x2 a5 _ (fun v31 v32 μ33 => ?_) N a3 a4 v13 μ0
      refine go_incI (q := 4) (i := 5) (n := 1) (c := 1) (pc := 147) hΓ d_X_helps_147 rfl (by decide) (by decide) (fun v34 => ?_)
      refine go_sub' (lv' := [(5, .int v34), (0, .ref 0), (2, .int x2), (3, .int v31), (4, .int v32)]) rfl ?_
      refine go_goto 60 (pc := 150) hΓ d_X_helps_150 (by decide) ?_
      refine go_sub' (lv' := [(0, .ref 0), (2, .int x2), (3, .int v31), (4, .int v32), (5, .int v34)]) rfl ?_
      exact ih v31 v32 v34 μ33
set_option maxHeartbeats 4000000 in
set_option maxRecDepth 100000 in
theorem g_X_helps (N d : Nat) (x1 : Int32)  : CallF eI y_X_helps c_X_helps 8 (some .int) (d + 2 + 1) [.ref 0, .int x1] (f_X_helps N x1) := by
  refine call_of (d := d + 2) (n := 1) mi_X_helps.1 (fun _ => rfl) ?_
  intro Γ μ0 hΓ hT hR
  show Go Γ 8 0 [(0, .ref 0), (1, .int x1)] [] μ0 (f_X_helps N x1 μ0)
  unfold f_X_helps
  refine go_iload_n (q := 1) (i := 1) (pc := 0) hΓ d_X_helps_0 rfl rfl ?_
  refine go_callS (index := 101) emI hΓ hR (g_X_isNet N (d + 1) x1) mi_X_isNet ml_X_101 d_X_helps_1 rfl rfl rfl (fun r1 μ2 => ?_)
  show Go Γ 8 4 [(0, .ref 0), (1, .int x1)] [.int r1] μ2 _
  refine go_if_ne 9 (pc := 4) hΓ d_X_helps_4 (by decide) (fun h3 => go_eq (if_neg h3) ?_) (fun h3 => go_eq (if_pos h3) ?_)
  · refine go_aload_n (q := 0) (i := 0) (pc := 9) hΓ d_X_helps_9 rfl rfl ?_
    refine go_getR (q := 1) (pc := 10) hΓ fl_X_11 d_X_helps_10 rfl rfl ?_
    refine go_iload_n (q := 1) (i := 1) (pc := 13) hΓ d_X_helps_13 rfl rfl ?_
    refine go_ck (fun h4 => ?_)
    refine go_aald (pc := 14) hΓ d_X_helps_14 h4 ?_
    refine go_getI (pc := 15) hΓ fl_X_111 d_X_helps_15 (isN_sh (isN_in h4)).1 rfl ?_
    refine go_letI (fun v5 => ?_)
    refine go_istore_n (i := 2) (lv' := [(2, .int v5), (0, .ref 0), (1, .int x1)]) (pc := 18) hΓ d_X_helps_18 rfl (by decide) rfl ?_
    refine go_aload_n (q := 1) (i := 0) (pc := 19) hΓ d_X_helps_19 rfl rfl ?_
    refine go_getR (q := 29) (pc := 20) hΓ fl_X_55 d_X_helps_20 rfl rfl ?_
    refine go_iload_n (q := 0) (i := 2) (pc := 23) hΓ d_X_helps_23 rfl rfl ?_
    refine go_callV (index := 266) emV hΓ hR (g_Trial_start N (d + 0) 29 isT_29 v5) mi_Trial_start ml_X_266 d_X_helps_24 rfl rfl rfl rfl rfl (fun _ μ7 => ?_)
    show Go Γ 8 27 [(2, .int v5), (0, .ref 0), (1, .int x1)] [] μ7 _
    refine go_aload_n (q := 1) (i := 0) (pc := 27) hΓ d_X_helps_27 rfl rfl ?_
    refine go_getR (q := 29) (pc := 28) hΓ fl_X_55 d_X_helps_28 rfl rfl ?_
    refine go_aload_n (q := 1) (i := 0) (pc := 31) hΓ d_X_helps_31 rfl rfl ?_
    refine go_getR (q := 1) (pc := 32) hΓ fl_X_11 d_X_helps_32 rfl rfl ?_
    refine go_iload_n (q := 2) (i := 1) (pc := 35) hΓ d_X_helps_35 rfl rfl ?_
    refine go_ck (fun h8 => ?_)
    refine go_aald (pc := 36) hΓ d_X_helps_36 h8 ?_
    refine go_iconst (v := 0) (pc := 37) hΓ d_X_helps_37 (by decide) ?_
    refine go_aload_n (q := 1) (i := 0) (pc := 38) hΓ d_X_helps_38 rfl rfl ?_
    refine go_getR (q := 1) (pc := 39) hΓ fl_X_11 d_X_helps_39 rfl rfl ?_
    refine go_iload_n (q := 2) (i := 1) (pc := 42) hΓ d_X_helps_42 rfl rfl ?_
    refine go_ck (fun h9 => ?_)
    refine go_aald (pc := 43) hΓ d_X_helps_43 h9 ?_
    refine go_getI (pc := 44) hΓ fl_X_121 d_X_helps_44 (isN_sh (isN_in h9)).1 rfl ?_
    refine go_callV (index := 285) emV hΓ hR (g_Trial_runPart N (d + 0) 29 isT_29 (2 + 3 * tn x1) (isN_in h8) 0 (gI μ7 (2 + 3 * tn x1) 1)) mi_Trial_runPart ml_X_285 d_X_helps_47 rfl rfl rfl rfl rfl (fun _ μ11 => ?_)
    show Go Γ 8 50 [(2, .int v5), (0, .ref 0), (1, .int x1)] [] μ11 _
    refine go_iconst (v := -1) (pc := 50) hΓ d_X_helps_50 (by decide) ?_
    refine go_istore_n (i := 3) (lv' := [(3, .int (-1)), (2, .int v5), (0, .ref 0), (1, .int x1)]) (pc := 51) hΓ d_X_helps_51 rfl (by decide) rfl ?_
    refine go_sipush (v := 256) (pc := 52) hΓ d_X_helps_52 (by decide) ?_
    refine go_istore (lv' := [(4, .int 256), (3, .int (-1)), (2, .int v5), (0, .ref 0), (1, .int x1)]) (pc := 55) hΓ d_X_helps_55 (by decide) rfl ?_
    refine go_iconst (v := 0) (pc := 57) hΓ d_X_helps_57 (by decide) ?_
    refine go_istore (lv' := [(5, .int 0), (4, .int 256), (3, .int (-1)), (2, .int v5), (0, .ref 0), (1, .int x1)]) (pc := 58) hΓ d_X_helps_58 (by decide) rfl ?_
    refine go_sub' (lv' := [(0, .ref 0), (2, .int v5), (3, .int (-1)), (4, .int 256), (5, .int 0)]) rfl ?_
    refine glp_X_helps_60 N d hΓ hT hR v5 _ (fun v35 v36 μ37 => ?_) N (-1) 256 0 μ11
    refine go_aload_n (q := 0) (i := 0) (pc := 153) hΓ d_X_helps_153 rfl rfl ?_
    refine go_getR (q := 16) (pc := 154) hΓ fl_X_37 d_X_helps_154 rfl rfl ?_
    refine go_callV (index := 108) emV hΓ hR (g_Numbers_clear N (d + 1) ) mi_Numbers_clear ml_X_108 d_X_helps_157 rfl rfl rfl rfl rfl (fun _ μ39 => ?_)
    show Go Γ 8 160 [(0, .ref 0), (3, .int v35), (4, .int v36)] [] μ39 _
    refine go_aload_n (q := 0) (i := 0) (pc := 160) hΓ d_X_helps_160 rfl rfl ?_
    refine go_getR (q := 16) (pc := 161) hΓ fl_X_37 d_X_helps_161 rfl rfl ?_
    refine go_iload (q := 2) (pc := 164) hΓ d_X_helps_164 rfl ?_
    refine go_i2l (pc := 166) hΓ d_X_helps_166 ?_
    refine go_callV (index := 118) emV hΓ hR (g_Numbers_append N (d + 1) (Int32.toInt64 v36)) mi_Numbers_append ml_X_118 d_X_helps_167 rfl rfl rfl rfl rfl (fun _ μ41 => ?_)
    show Go Γ 8 170 [(0, .ref 0), (3, .int v35), (4, .int v36)] [] μ41 _
    refine go_iload_n (q := 1) (i := 3) (pc := 170) hΓ d_X_helps_170 rfl rfl ?_
    exact go_iret (pc := 171) hΓ hT d_X_helps_171
  · refine go_iconst (v := -1) (pc := 7) hΓ d_X_helps_7 (by decide) ?_
    exact go_iret (pc := 8) hΓ hT d_X_helps_8
def f_X_same (N : Nat) (x1 : Int32) (x2 : Int32) (μ0 : Mem) : Option (Int32 × Mem) :=
  bnd (f_X_isNet N x1 μ0) fun r1 μ2 => if r1 = 0 then (some ((-1), μ2)) else (bnd (f_X_isNet N x2 μ2) fun r4 μ5 => if r4 = 0 then (some ((-1), μ5)) else (ck (inb x1 4) (ck (inb x2 4) (if (gI μ5 (2 + 3 * tn x1) 0) = (gI μ5 (2 + 3 * tn x2) 0) then (ck (inb x1 4) (bnd (f_Trial_start N 27 (gI μ5 (2 + 3 * tn x1) 0) μ5) fun _ μ12 => ck (inb x1 4) (ck (inb x1 4) (bnd (f_Trial_runPart N 27 (2 + 3 * tn x1) 0 (gI μ12 (2 + 3 * tn x1) 1) μ12) fun _ μ16 => ck (inb x2 4) (bnd (f_Trial_start N 29 (gI μ16 (2 + 3 * tn x2) 0) μ16) fun _ μ19 => ck (inb x2 4) (ck (inb x2 4) (bnd (f_Trial_runPart N 29 (2 + 3 * tn x2) 0 (gI μ19 (2 + 3 * tn x2) 1) μ19) fun _ μ23 => bnd (f_Trial_findUnlike N 27 29 μ23) fun _ μ25 => bnd (f_Numbers_clear N  μ25) fun _ μ27 => bnd (f_PatternSet_size N  μ27) fun r28 μ29 => bnd (f_Numbers_append N (Int32.toInt64 r28) μ29) fun _ μ31 => bnd (f_PatternSet_first N  μ31) fun r32 μ33 => bnd (f_Numbers_append N (Int32.toInt64 r32) μ33) fun _ μ35 => bnd (f_PatternSet_isEmpty N  μ35) fun r36 μ37 => if r36 = 0 then (some (0, μ37)) else (some (1, μ37))))))))) else (some ((-2), μ5))))))
set_option maxHeartbeats 4000000 in
set_option maxRecDepth 100000 in
theorem g_X_same (N d : Nat) (x1 : Int32) (x2 : Int32)  : CallF eI y_X_same c_X_same 3 (some .int) (d + 3 + 1) [.ref 0, .int x1, .int x2] (f_X_same N x1 x2) := by
  refine call_of (d := d + 3) (n := 2) mi_X_same.1 (fun _ => rfl) ?_
  intro Γ μ0 hΓ hT hR
  show Go Γ 3 0 [(0, .ref 0), (1, .int x1), (2, .int x2)] [] μ0 (f_X_same N x1 x2 μ0)
  unfold f_X_same
  refine go_iload_n (q := 1) (i := 1) (pc := 0) hΓ d_X_same_0 rfl rfl ?_
  refine go_callS (index := 101) emI hΓ hR (g_X_isNet N (d + 2) x1) mi_X_isNet ml_X_101 d_X_same_1 rfl rfl rfl (fun r1 μ2 => ?_)
  show Go Γ 3 4 [(0, .ref 0), (1, .int x1), (2, .int x2)] [.int r1] μ2 _
  refine go_if_eq 14 (pc := 4) hΓ d_X_same_4 (by decide) (fun h3 => go_eq (if_pos h3) ?_) (fun h3 => go_eq (if_neg h3) ?_)
  · refine go_iconst (v := -1) (pc := 14) hΓ d_X_same_14 (by decide) ?_
    exact go_iret (pc := 15) hΓ hT d_X_same_15
  · refine go_iload_n (q := 2) (i := 2) (pc := 7) hΓ d_X_same_7 rfl rfl ?_
    refine go_callS (index := 101) emI hΓ hR (g_X_isNet N (d + 2) x2) mi_X_isNet ml_X_101 d_X_same_8 rfl rfl rfl (fun r4 μ5 => ?_)
    show Go Γ 3 11 [(0, .ref 0), (1, .int x1), (2, .int x2)] [.int r4] μ5 _
    refine go_if_ne 16 (pc := 11) hΓ d_X_same_11 (by decide) (fun h6 => go_eq (if_neg h6) ?_) (fun h6 => go_eq (if_pos h6) ?_)
    · refine go_aload_n (q := 0) (i := 0) (pc := 16) hΓ d_X_same_16 rfl rfl ?_
      refine go_getR (q := 1) (pc := 17) hΓ fl_X_11 d_X_same_17 rfl rfl ?_
      refine go_iload_n (q := 1) (i := 1) (pc := 20) hΓ d_X_same_20 rfl rfl ?_
      refine go_ck (fun h7 => ?_)
      refine go_aald (pc := 21) hΓ d_X_same_21 h7 ?_
      refine go_getI (pc := 22) hΓ fl_X_111 d_X_same_22 (isN_sh (isN_in h7)).1 rfl ?_
      refine go_aload_n (q := 0) (i := 0) (pc := 25) hΓ d_X_same_25 rfl rfl ?_
      refine go_getR (q := 1) (pc := 26) hΓ fl_X_11 d_X_same_26 rfl rfl ?_
      refine go_iload_n (q := 2) (i := 2) (pc := 29) hΓ d_X_same_29 rfl rfl ?_
      refine go_ck (fun h8 => ?_)
      refine go_aald (pc := 30) hΓ d_X_same_30 h8 ?_
      refine go_getI (pc := 31) hΓ fl_X_111 d_X_same_31 (isN_sh (isN_in h8)).1 rfl ?_
      refine go_icmp_eq 40 (pc := 34) hΓ d_X_same_34 (by decide) (fun h9 => go_eq (if_pos h9) ?_) (fun h9 => go_eq (if_neg h9) ?_)
      · refine go_aload_n (q := 0) (i := 0) (pc := 40) hΓ d_X_same_40 rfl rfl ?_
        refine go_getR (q := 27) (pc := 41) hΓ fl_X_51 d_X_same_41 rfl rfl ?_
        refine go_aload_n (q := 0) (i := 0) (pc := 44) hΓ d_X_same_44 rfl rfl ?_
        refine go_getR (q := 1) (pc := 45) hΓ fl_X_11 d_X_same_45 rfl rfl ?_
        refine go_iload_n (q := 1) (i := 1) (pc := 48) hΓ d_X_same_48 rfl rfl ?_
        refine go_ck (fun h10 => ?_)
        refine go_aald (pc := 49) hΓ d_X_same_49 h10 ?_
        refine go_getI (pc := 50) hΓ fl_X_111 d_X_same_50 (isN_sh (isN_in h10)).1 rfl ?_
        refine go_callV (index := 266) emV hΓ hR (g_Trial_start N (d + 1) 27 isT_27 (gI μ5 (2 + 3 * tn x1) 0)) mi_Trial_start ml_X_266 d_X_same_53 rfl rfl rfl rfl rfl (fun _ μ12 => ?_)
        show Go Γ 3 56 [(0, .ref 0), (1, .int x1), (2, .int x2)] [] μ12 _
        refine go_aload_n (q := 0) (i := 0) (pc := 56) hΓ d_X_same_56 rfl rfl ?_
        refine go_getR (q := 27) (pc := 57) hΓ fl_X_51 d_X_same_57 rfl rfl ?_
        refine go_aload_n (q := 0) (i := 0) (pc := 60) hΓ d_X_same_60 rfl rfl ?_
        refine go_getR (q := 1) (pc := 61) hΓ fl_X_11 d_X_same_61 rfl rfl ?_
        refine go_iload_n (q := 1) (i := 1) (pc := 64) hΓ d_X_same_64 rfl rfl ?_
        refine go_ck (fun h13 => ?_)
        refine go_aald (pc := 65) hΓ d_X_same_65 h13 ?_
        refine go_iconst (v := 0) (pc := 66) hΓ d_X_same_66 (by decide) ?_
        refine go_aload_n (q := 0) (i := 0) (pc := 67) hΓ d_X_same_67 rfl rfl ?_
        refine go_getR (q := 1) (pc := 68) hΓ fl_X_11 d_X_same_68 rfl rfl ?_
        refine go_iload_n (q := 1) (i := 1) (pc := 71) hΓ d_X_same_71 rfl rfl ?_
        refine go_ck (fun h14 => ?_)
        refine go_aald (pc := 72) hΓ d_X_same_72 h14 ?_
        refine go_getI (pc := 73) hΓ fl_X_121 d_X_same_73 (isN_sh (isN_in h14)).1 rfl ?_
        refine go_callV (index := 285) emV hΓ hR (g_Trial_runPart N (d + 1) 27 isT_27 (2 + 3 * tn x1) (isN_in h13) 0 (gI μ12 (2 + 3 * tn x1) 1)) mi_Trial_runPart ml_X_285 d_X_same_76 rfl rfl rfl rfl rfl (fun _ μ16 => ?_)
        show Go Γ 3 79 [(0, .ref 0), (1, .int x1), (2, .int x2)] [] μ16 _
        refine go_aload_n (q := 0) (i := 0) (pc := 79) hΓ d_X_same_79 rfl rfl ?_
        refine go_getR (q := 29) (pc := 80) hΓ fl_X_55 d_X_same_80 rfl rfl ?_
        refine go_aload_n (q := 0) (i := 0) (pc := 83) hΓ d_X_same_83 rfl rfl ?_
        refine go_getR (q := 1) (pc := 84) hΓ fl_X_11 d_X_same_84 rfl rfl ?_
        refine go_iload_n (q := 2) (i := 2) (pc := 87) hΓ d_X_same_87 rfl rfl ?_
        refine go_ck (fun h17 => ?_)
        refine go_aald (pc := 88) hΓ d_X_same_88 h17 ?_
        refine go_getI (pc := 89) hΓ fl_X_111 d_X_same_89 (isN_sh (isN_in h17)).1 rfl ?_
        refine go_callV (index := 266) emV hΓ hR (g_Trial_start N (d + 1) 29 isT_29 (gI μ16 (2 + 3 * tn x2) 0)) mi_Trial_start ml_X_266 d_X_same_92 rfl rfl rfl rfl rfl (fun _ μ19 => ?_)
        show Go Γ 3 95 [(0, .ref 0), (1, .int x1), (2, .int x2)] [] μ19 _
        refine go_aload_n (q := 0) (i := 0) (pc := 95) hΓ d_X_same_95 rfl rfl ?_
        refine go_getR (q := 29) (pc := 96) hΓ fl_X_55 d_X_same_96 rfl rfl ?_
        refine go_aload_n (q := 0) (i := 0) (pc := 99) hΓ d_X_same_99 rfl rfl ?_
        refine go_getR (q := 1) (pc := 100) hΓ fl_X_11 d_X_same_100 rfl rfl ?_
        refine go_iload_n (q := 2) (i := 2) (pc := 103) hΓ d_X_same_103 rfl rfl ?_
        refine go_ck (fun h20 => ?_)
        refine go_aald (pc := 104) hΓ d_X_same_104 h20 ?_
        refine go_iconst (v := 0) (pc := 105) hΓ d_X_same_105 (by decide) ?_
        refine go_aload_n (q := 0) (i := 0) (pc := 106) hΓ d_X_same_106 rfl rfl ?_
        refine go_getR (q := 1) (pc := 107) hΓ fl_X_11 d_X_same_107 rfl rfl ?_
        refine go_iload_n (q := 2) (i := 2) (pc := 110) hΓ d_X_same_110 rfl rfl ?_
        refine go_ck (fun h21 => ?_)
        refine go_aald (pc := 111) hΓ d_X_same_111 h21 ?_
        refine go_getI (pc := 112) hΓ fl_X_121 d_X_same_112 (isN_sh (isN_in h21)).1 rfl ?_
        refine go_callV (index := 285) emV hΓ hR (g_Trial_runPart N (d + 1) 29 isT_29 (2 + 3 * tn x2) (isN_in h20) 0 (gI μ19 (2 + 3 * tn x2) 1)) mi_Trial_runPart ml_X_285 d_X_same_115 rfl rfl rfl rfl rfl (fun _ μ23 => ?_)
        show Go Γ 3 118 [(0, .ref 0), (1, .int x1), (2, .int x2)] [] μ23 _
        refine go_aload_n (q := 0) (i := 0) (pc := 118) hΓ d_X_same_118 rfl rfl ?_
        refine go_getR (q := 27) (pc := 119) hΓ fl_X_51 d_X_same_119 rfl rfl ?_
        refine go_aload_n (q := 0) (i := 0) (pc := 122) hΓ d_X_same_122 rfl rfl ?_
        refine go_getR (q := 29) (pc := 123) hΓ fl_X_55 d_X_same_123 rfl rfl ?_
        refine go_aload_n (q := 0) (i := 0) (pc := 126) hΓ d_X_same_126 rfl rfl ?_
        refine go_getR (q := 31) (pc := 127) hΓ fl_X_61 d_X_same_127 rfl rfl ?_
        refine go_callV (index := 304) emV hΓ hR (g_Trial_findUnlike N (d + 1) 27 isT_27 29 isT_29) mi_Trial_findUnlike ml_X_304 d_X_same_130 rfl rfl rfl rfl rfl (fun _ μ25 => ?_)
        show Go Γ 3 133 [(0, .ref 0), (1, .int x1), (2, .int x2)] [] μ25 _
        refine go_aload_n (q := 0) (i := 0) (pc := 133) hΓ d_X_same_133 rfl rfl ?_
        refine go_getR (q := 16) (pc := 134) hΓ fl_X_37 d_X_same_134 rfl rfl ?_
        refine go_callV (index := 108) emV hΓ hR (g_Numbers_clear N (d + 2) ) mi_Numbers_clear ml_X_108 d_X_same_137 rfl rfl rfl rfl rfl (fun _ μ27 => ?_)
        show Go Γ 3 140 [(0, .ref 0), (1, .int x1), (2, .int x2)] [] μ27 _
        refine go_aload_n (q := 0) (i := 0) (pc := 140) hΓ d_X_same_140 rfl rfl ?_
        refine go_getR (q := 16) (pc := 141) hΓ fl_X_37 d_X_same_141 rfl rfl ?_
        refine go_aload_n (q := 0) (i := 0) (pc := 144) hΓ d_X_same_144 rfl rfl ?_
        refine go_getR (q := 31) (pc := 145) hΓ fl_X_61 d_X_same_145 rfl rfl ?_
        refine go_callV (index := 161) emI hΓ hR (g_PatternSet_size N (d + 1) ) mi_PatternSet_size ml_X_161 d_X_same_148 rfl rfl rfl rfl rfl (fun r28 μ29 => ?_)
        show Go Γ 3 151 [(0, .ref 0), (1, .int x1), (2, .int x2)] [.int r28, .ref 16] μ29 _
        refine go_i2l (pc := 151) hΓ d_X_same_151 ?_
        refine go_callV (index := 118) emV hΓ hR (g_Numbers_append N (d + 2) (Int32.toInt64 r28)) mi_Numbers_append ml_X_118 d_X_same_152 rfl rfl rfl rfl rfl (fun _ μ31 => ?_)
        show Go Γ 3 155 [(0, .ref 0), (1, .int x1), (2, .int x2)] [] μ31 _
        refine go_aload_n (q := 0) (i := 0) (pc := 155) hΓ d_X_same_155 rfl rfl ?_
        refine go_getR (q := 16) (pc := 156) hΓ fl_X_37 d_X_same_156 rfl rfl ?_
        refine go_aload_n (q := 0) (i := 0) (pc := 159) hΓ d_X_same_159 rfl rfl ?_
        refine go_getR (q := 31) (pc := 160) hΓ fl_X_61 d_X_same_160 rfl rfl ?_
        refine go_callV (index := 233) emI hΓ hR (g_PatternSet_first N (d + 1) ) mi_PatternSet_first ml_X_233 d_X_same_163 rfl rfl rfl rfl rfl (fun r32 μ33 => ?_)
        show Go Γ 3 166 [(0, .ref 0), (1, .int x1), (2, .int x2)] [.int r32, .ref 16] μ33 _
        refine go_i2l (pc := 166) hΓ d_X_same_166 ?_
        refine go_callV (index := 118) emV hΓ hR (g_Numbers_append N (d + 2) (Int32.toInt64 r32)) mi_Numbers_append ml_X_118 d_X_same_167 rfl rfl rfl rfl rfl (fun _ μ35 => ?_)
        show Go Γ 3 170 [(0, .ref 0), (1, .int x1), (2, .int x2)] [] μ35 _
        refine go_aload_n (q := 0) (i := 0) (pc := 170) hΓ d_X_same_170 rfl rfl ?_
        refine go_getR (q := 31) (pc := 171) hΓ fl_X_61 d_X_same_171 rfl rfl ?_
        refine go_callV (index := 236) emI hΓ hR (g_PatternSet_isEmpty N (d + 0) ) mi_PatternSet_isEmpty ml_X_236 d_X_same_174 rfl rfl rfl rfl rfl (fun r36 μ37 => ?_)
        show Go Γ 3 177 [(0, .ref 0), (1, .int x1), (2, .int x2)] [.int r36] μ37 _
        refine go_if_eq 184 (pc := 177) hΓ d_X_same_177 (by decide) (fun h38 => go_eq (if_pos h38) ?_) (fun h38 => go_eq (if_neg h38) ?_)
        · refine go_iconst (v := 0) (pc := 184) hΓ d_X_same_184 (by decide) ?_
          exact go_iret (pc := 185) hΓ hT d_X_same_185
        · refine go_iconst (v := 1) (pc := 180) hΓ d_X_same_180 (by decide) ?_
          refine go_goto 185 (pc := 181) hΓ d_X_same_181 (by decide) ?_
          exact go_iret (pc := 185) hΓ hT d_X_same_185
      · refine go_bipush (v := -2) (pc := 37) hΓ d_X_same_37 (by decide) ?_
        exact go_iret (pc := 39) hΓ hT d_X_same_39
    · refine go_iconst (v := -1) (pc := 14) hΓ d_X_same_14 (by decide) ?_
      exact go_iret (pc := 15) hΓ hT d_X_same_15
def f_X_smallImage (N : Nat) (p1 : Nat) (μ0 : Mem) : Option (Int64 × Mem) :=
  bnd (f_X_takeImage N p1 μ0) fun _ μ2 => ck (inb 0 4) (some (gL μ2 32 (tn 0), μ2))
set_option maxHeartbeats 4000000 in
set_option maxRecDepth 100000 in
theorem g_X_smallImage (N d : Nat) (p1 : Nat) (hp1 : isN p1)  : CallF eL y_X_smallImage c_X_smallImage 2 (some .long) (d + 4 + 1) [.ref 0, .ref p1] (f_X_smallImage N p1) := by
  refine call_of (d := d + 4) (n := 1) mi_X_smallImage.1 (fun _ => rfl) ?_
  intro Γ μ0 hΓ hT hR
  show Go Γ 2 0 [(0, .ref 0), (1, .ref p1)] [] μ0 (f_X_smallImage N p1 μ0)
  unfold f_X_smallImage
  refine go_aload_n (q := 0) (i := 0) (pc := 0) hΓ d_X_smallImage_0 rfl rfl ?_
  refine go_aload_n (q := 1) (i := 1) (pc := 1) hΓ d_X_smallImage_1 rfl rfl ?_
  refine go_callV (index := 240) emV hΓ hR (g_X_takeImage N (d + 0) p1 hp1) mi_X_takeImage ml_X_240 d_X_smallImage_2 rfl rfl rfl rfl rfl (fun _ μ2 => ?_)
  show Go Γ 2 5 [(0, .ref 0), (1, .ref p1)] [] μ2 _
  refine go_aload_n (q := 0) (i := 0) (pc := 5) hΓ d_X_smallImage_5 rfl rfl ?_
  refine go_getR (q := 31) (pc := 6) hΓ fl_X_61 d_X_smallImage_6 rfl rfl ?_
  refine go_getR (q := 32) (pc := 9) hΓ fl_X_361 d_X_smallImage_9 rfl rfl ?_
  refine go_iconst (v := 0) (pc := 12) hΓ d_X_smallImage_12 (by decide) ?_
  refine go_ck (fun h3 => ?_)
  refine go_lald (pc := 13) hΓ d_X_smallImage_13 rfl h3 ?_
  exact go_lret (pc := 14) hΓ hT d_X_smallImage_14
def f_X_within (N : Nat) (x1 : Int32) (x2 : Int32) (μ0 : Mem) : Option (Int32 × Mem) :=
  bnd (f_X_isNet N x1 μ0) fun r1 μ2 => if r1 = 0 then (some ((-1), μ2)) else (bnd (f_X_isNet N x2 μ2) fun r4 μ5 => if r4 = 0 then (some ((-1), μ5)) else (ck (inb x1 4) (lt' (gI μ5 (2 + 3 * tn x1) 0) fun v8 => ck (inb x2 4) (if v8 = (gI μ5 (2 + 3 * tn x2) 0) then (if 6 < v8 then (some ((-3), μ5)) else (ck (inb x1 4) (bnd (f_X_smallImage N (2 + 3 * tn x1) μ5) fun r13 μ14 => ck (inb x2 4) (bnd (f_X_smallImage N (2 + 3 * tn x2) μ14) fun r16 μ17 => bnd (f_Sets_waysWithin N 12 r13 r16 v8 0 720 μ17) fun r18 μ19 => bnd (f_Numbers_clear N  μ19) fun _ μ21 => bnd (f_Numbers_append N (Int32.toInt64 r18) μ21) fun _ μ23 => if 0 < r18 then (some (1, μ23)) else (some (0, μ23)))))) else (some ((-2), μ5))))))
set_option maxHeartbeats 4000000 in
set_option maxRecDepth 100000 in
theorem g_X_within (N d : Nat) (x1 : Int32) (x2 : Int32)  : CallF eI y_X_within c_X_within 5 (some .int) (d + 15 + 1) [.ref 0, .int x1, .int x2] (f_X_within N x1 x2) := by
  refine call_of (d := d + 15) (n := 2) mi_X_within.1 (fun _ => rfl) ?_
  intro Γ μ0 hΓ hT hR
  show Go Γ 5 0 [(0, .ref 0), (1, .int x1), (2, .int x2)] [] μ0 (f_X_within N x1 x2 μ0)
  unfold f_X_within
  refine go_iload_n (q := 1) (i := 1) (pc := 0) hΓ d_X_within_0 rfl rfl ?_
  refine go_callS (index := 101) emI hΓ hR (g_X_isNet N (d + 14) x1) mi_X_isNet ml_X_101 d_X_within_1 rfl rfl rfl (fun r1 μ2 => ?_)
  show Go Γ 5 4 [(0, .ref 0), (1, .int x1), (2, .int x2)] [.int r1] μ2 _
  refine go_if_eq 14 (pc := 4) hΓ d_X_within_4 (by decide) (fun h3 => go_eq (if_pos h3) ?_) (fun h3 => go_eq (if_neg h3) ?_)
  · refine go_iconst (v := -1) (pc := 14) hΓ d_X_within_14 (by decide) ?_
    exact go_iret (pc := 15) hΓ hT d_X_within_15
  · refine go_iload_n (q := 2) (i := 2) (pc := 7) hΓ d_X_within_7 rfl rfl ?_
    refine go_callS (index := 101) emI hΓ hR (g_X_isNet N (d + 14) x2) mi_X_isNet ml_X_101 d_X_within_8 rfl rfl rfl (fun r4 μ5 => ?_)
    show Go Γ 5 11 [(0, .ref 0), (1, .int x1), (2, .int x2)] [.int r4] μ5 _
    refine go_if_ne 16 (pc := 11) hΓ d_X_within_11 (by decide) (fun h6 => go_eq (if_neg h6) ?_) (fun h6 => go_eq (if_pos h6) ?_)
    · refine go_aload_n (q := 0) (i := 0) (pc := 16) hΓ d_X_within_16 rfl rfl ?_
      refine go_getR (q := 1) (pc := 17) hΓ fl_X_11 d_X_within_17 rfl rfl ?_
      refine go_iload_n (q := 1) (i := 1) (pc := 20) hΓ d_X_within_20 rfl rfl ?_
      refine go_ck (fun h7 => ?_)
      refine go_aald (pc := 21) hΓ d_X_within_21 h7 ?_
      refine go_getI (pc := 22) hΓ fl_X_111 d_X_within_22 (isN_sh (isN_in h7)).1 rfl ?_
      refine go_letI (fun v8 => ?_)
      refine go_istore_n (i := 3) (lv' := [(3, .int v8), (0, .ref 0), (1, .int x1), (2, .int x2)]) (pc := 25) hΓ d_X_within_25 rfl (by decide) rfl ?_
      refine go_iload_n (q := 0) (i := 3) (pc := 26) hΓ d_X_within_26 rfl rfl ?_
      refine go_aload_n (q := 1) (i := 0) (pc := 27) hΓ d_X_within_27 rfl rfl ?_
      refine go_getR (q := 1) (pc := 28) hΓ fl_X_11 d_X_within_28 rfl rfl ?_
      refine go_iload_n (q := 3) (i := 2) (pc := 31) hΓ d_X_within_31 rfl rfl ?_
      refine go_ck (fun h9 => ?_)
      refine go_aald (pc := 32) hΓ d_X_within_32 h9 ?_
      refine go_getI (pc := 33) hΓ fl_X_111 d_X_within_33 (isN_sh (isN_in h9)).1 rfl ?_
      refine go_icmp_eq 42 (pc := 36) hΓ d_X_within_36 (by decide) (fun h10 => go_eq (if_pos h10) ?_) (fun h10 => go_eq (if_neg h10) ?_)
      · refine go_iload_n (q := 0) (i := 3) (pc := 42) hΓ d_X_within_42 rfl rfl ?_
        refine go_bipush (v := 6) (pc := 43) hΓ d_X_within_43 (by decide) ?_
        refine go_icmp_le 51 (pc := 45) hΓ d_X_within_45 (by decide) (fun h11 => go_eq (if_neg h11) ?_) (fun h11 => go_eq (if_pos h11) ?_)
        · refine go_aload_n (q := 1) (i := 0) (pc := 51) hΓ d_X_within_51 rfl rfl ?_
          refine go_aload_n (q := 1) (i := 0) (pc := 52) hΓ d_X_within_52 rfl rfl ?_
          refine go_getR (q := 1) (pc := 53) hΓ fl_X_11 d_X_within_53 rfl rfl ?_
          refine go_iload_n (q := 2) (i := 1) (pc := 56) hΓ d_X_within_56 rfl rfl ?_
          refine go_ck (fun h12 => ?_)
          refine go_aald (pc := 57) hΓ d_X_within_57 h12 ?_
          refine go_callV (index := 308) emL hΓ hR (g_X_smallImage N (d + 10) (2 + 3 * tn x1) (isN_in h12)) mi_X_smallImage ml_X_308 d_X_within_58 rfl rfl rfl rfl rfl (fun r13 μ14 => ?_)
          show Go Γ 5 61 [(3, .int v8), (0, .ref 0), (1, .int x1), (2, .int x2)] [.long r13] μ14 _
          refine go_aload_n (q := 1) (i := 0) (pc := 61) hΓ d_X_within_61 rfl rfl ?_
          refine go_aload_n (q := 1) (i := 0) (pc := 62) hΓ d_X_within_62 rfl rfl ?_
          refine go_getR (q := 1) (pc := 63) hΓ fl_X_11 d_X_within_63 rfl rfl ?_
          refine go_iload_n (q := 3) (i := 2) (pc := 66) hΓ d_X_within_66 rfl rfl ?_
          refine go_ck (fun h15 => ?_)
          refine go_aald (pc := 67) hΓ d_X_within_67 h15 ?_
          refine go_callV (index := 308) emL hΓ hR (g_X_smallImage N (d + 10) (2 + 3 * tn x2) (isN_in h15)) mi_X_smallImage ml_X_308 d_X_within_68 rfl rfl rfl rfl rfl (fun r16 μ17 => ?_)
          show Go Γ 5 71 [(3, .int v8), (0, .ref 0), (1, .int x1), (2, .int x2)] [.long r16, .long r13] μ17 _
          refine go_iload_n (q := 0) (i := 3) (pc := 71) hΓ d_X_within_71 rfl rfl ?_
          refine go_iconst (v := 0) (pc := 72) hΓ d_X_within_72 (by decide) ?_
          refine go_sipush (v := 720) (pc := 73) hΓ d_X_within_73 (by decide) ?_
          refine go_callW emI hΓ hR (g_Sets_waysWithin N 12 (d + 1) r13 r16 v8 0 720) mi_Sets_waysWithin d_X_within_76 rfl rfl rfl (fun r18 μ19 => ?_)
          show Go Γ 5 79 [(3, .int v8), (0, .ref 0), (1, .int x1), (2, .int x2)] [.int r18] μ19 _
          refine go_istore (lv' := [(4, .int r18), (3, .int v8), (0, .ref 0), (1, .int x1), (2, .int x2)]) (pc := 79) hΓ d_X_within_79 (by decide) rfl ?_
          refine go_aload_n (q := 2) (i := 0) (pc := 81) hΓ d_X_within_81 rfl rfl ?_
          refine go_getR (q := 16) (pc := 82) hΓ fl_X_37 d_X_within_82 rfl rfl ?_
          refine go_callV (index := 108) emV hΓ hR (g_Numbers_clear N (d + 14) ) mi_Numbers_clear ml_X_108 d_X_within_85 rfl rfl rfl rfl rfl (fun _ μ21 => ?_)
          show Go Γ 5 88 [(4, .int r18), (3, .int v8), (0, .ref 0), (1, .int x1), (2, .int x2)] [] μ21 _
          refine go_aload_n (q := 2) (i := 0) (pc := 88) hΓ d_X_within_88 rfl rfl ?_
          refine go_getR (q := 16) (pc := 89) hΓ fl_X_37 d_X_within_89 rfl rfl ?_
          refine go_iload (q := 0) (pc := 92) hΓ d_X_within_92 rfl ?_
          refine go_i2l (pc := 94) hΓ d_X_within_94 ?_
          refine go_callV (index := 118) emV hΓ hR (g_Numbers_append N (d + 14) (Int32.toInt64 r18)) mi_Numbers_append ml_X_118 d_X_within_95 rfl rfl rfl rfl rfl (fun _ μ23 => ?_)
          show Go Γ 5 98 [(4, .int r18), (3, .int v8), (0, .ref 0), (1, .int x1), (2, .int x2)] [] μ23 _
          refine go_iload (q := 0) (pc := 98) hΓ d_X_within_98 rfl ?_
          refine go_if_le 107 (pc := 100) hΓ d_X_within_100 (by decide) (fun h24 => go_eq (if_neg h24) ?_) (fun h24 => go_eq (if_pos h24) ?_)
          · refine go_iconst (v := 0) (pc := 107) hΓ d_X_within_107 (by decide) ?_
            exact go_iret (pc := 108) hΓ hT d_X_within_108
          · refine go_iconst (v := 1) (pc := 103) hΓ d_X_within_103 (by decide) ?_
            refine go_goto 108 (pc := 104) hΓ d_X_within_104 (by decide) ?_
            exact go_iret (pc := 108) hΓ hT d_X_within_108
        · refine go_bipush (v := -3) (pc := 48) hΓ d_X_within_48 (by decide) ?_
          exact go_iret (pc := 50) hΓ hT d_X_within_50
      · refine go_bipush (v := -2) (pc := 39) hΓ d_X_within_39 (by decide) ?_
        exact go_iret (pc := 41) hΓ hT d_X_within_41
    · refine go_iconst (v := -1) (pc := 14) hΓ d_X_within_14 (by decide) ?_
      exact go_iret (pc := 15) hΓ hT d_X_within_15
def f_X_least (N : Nat) (x1 : Int32) (μ0 : Mem) : Option (Int32 × Mem) :=
  if x1 < 1 then (some ((-1), μ0)) else (if 5 < x1 then (some ((-1), μ0)) else (bnd (f_Search_tellSteps N x1 0 μ0) fun r3 μ4 => some (r3, μ4)))
set_option maxHeartbeats 4000000 in
set_option maxRecDepth 100000 in
theorem g_X_least (N d : Nat) (x1 : Int32)  : CallF eI y_X_least c_X_least 2 (some .int) (d + 19 + 1) [.ref 0, .int x1] (f_X_least N x1) := by
  refine call_of (d := d + 19) (n := 1) mi_X_least.1 (fun _ => rfl) ?_
  intro Γ μ0 hΓ hT hR
  show Go Γ 2 0 [(0, .ref 0), (1, .int x1)] [] μ0 (f_X_least N x1 μ0)
  unfold f_X_least
  refine go_iload_n (q := 1) (i := 1) (pc := 0) hΓ d_X_least_0 rfl rfl ?_
  refine go_iconst (v := 1) (pc := 1) hΓ d_X_least_1 (by decide) ?_
  refine go_icmp_lt 10 (pc := 2) hΓ d_X_least_2 (by decide) (fun h1 => go_eq (if_pos h1) ?_) (fun h1 => go_eq (if_neg h1) ?_)
  · refine go_iconst (v := -1) (pc := 10) hΓ d_X_least_10 (by decide) ?_
    exact go_iret (pc := 11) hΓ hT d_X_least_11
  · refine go_iload_n (q := 1) (i := 1) (pc := 5) hΓ d_X_least_5 rfl rfl ?_
    refine go_iconst (v := 5) (pc := 6) hΓ d_X_least_6 (by decide) ?_
    refine go_icmp_le 12 (pc := 7) hΓ d_X_least_7 (by decide) (fun h2 => go_eq (if_neg h2) ?_) (fun h2 => go_eq (if_pos h2) ?_)
    · refine go_aload_n (q := 0) (i := 0) (pc := 12) hΓ d_X_least_12 rfl rfl ?_
      refine go_getR (q := 38) (pc := 13) hΓ fl_X_85 d_X_least_13 rfl rfl ?_
      refine go_iload_n (q := 1) (i := 1) (pc := 16) hΓ d_X_least_16 rfl rfl ?_
      refine go_iconst (v := 0) (pc := 17) hΓ d_X_least_17 (by decide) ?_
      refine go_aload_n (q := 0) (i := 0) (pc := 18) hΓ d_X_least_18 rfl rfl ?_
      refine go_getR (q := 16) (pc := 19) hΓ fl_X_37 d_X_least_19 rfl rfl ?_
      refine go_callV (index := 317) emI hΓ hR (g_Search_tellSteps N (d + 0) x1 0) mi_Search_tellSteps ml_X_317 d_X_least_22 rfl rfl rfl rfl rfl (fun r3 μ4 => ?_)
      show Go Γ 2 25 [(0, .ref 0), (1, .int x1)] [.int r3] μ4 _
      exact go_iret (pc := 25) hΓ hT d_X_least_25
    · refine go_iconst (v := -1) (pc := 10) hΓ d_X_least_10 (by decide) ?_
      exact go_iret (pc := 11) hΓ hT d_X_least_11
def f_X_shallow (N : Nat) (x1 : Int32) (μ0 : Mem) : Option (Int32 × Mem) :=
  if x1 < 1 then (some ((-1), μ0)) else (if 5 < x1 then (some ((-1), μ0)) else (bnd (f_Search_tellSteps N x1 1 μ0) fun r3 μ4 => some (r3, μ4)))
set_option maxHeartbeats 4000000 in
set_option maxRecDepth 100000 in
theorem g_X_shallow (N d : Nat) (x1 : Int32)  : CallF eI y_X_shallow c_X_shallow 2 (some .int) (d + 19 + 1) [.ref 0, .int x1] (f_X_shallow N x1) := by
  refine call_of (d := d + 19) (n := 1) mi_X_shallow.1 (fun _ => rfl) ?_
  intro Γ μ0 hΓ hT hR
  show Go Γ 2 0 [(0, .ref 0), (1, .int x1)] [] μ0 (f_X_shallow N x1 μ0)
  unfold f_X_shallow
  refine go_iload_n (q := 1) (i := 1) (pc := 0) hΓ d_X_shallow_0 rfl rfl ?_
  refine go_iconst (v := 1) (pc := 1) hΓ d_X_shallow_1 (by decide) ?_
  refine go_icmp_lt 10 (pc := 2) hΓ d_X_shallow_2 (by decide) (fun h1 => go_eq (if_pos h1) ?_) (fun h1 => go_eq (if_neg h1) ?_)
  · refine go_iconst (v := -1) (pc := 10) hΓ d_X_shallow_10 (by decide) ?_
    exact go_iret (pc := 11) hΓ hT d_X_shallow_11
  · refine go_iload_n (q := 1) (i := 1) (pc := 5) hΓ d_X_shallow_5 rfl rfl ?_
    refine go_iconst (v := 5) (pc := 6) hΓ d_X_shallow_6 (by decide) ?_
    refine go_icmp_le 12 (pc := 7) hΓ d_X_shallow_7 (by decide) (fun h2 => go_eq (if_neg h2) ?_) (fun h2 => go_eq (if_pos h2) ?_)
    · refine go_aload_n (q := 0) (i := 0) (pc := 12) hΓ d_X_shallow_12 rfl rfl ?_
      refine go_getR (q := 38) (pc := 13) hΓ fl_X_85 d_X_shallow_13 rfl rfl ?_
      refine go_iload_n (q := 1) (i := 1) (pc := 16) hΓ d_X_shallow_16 rfl rfl ?_
      refine go_iconst (v := 1) (pc := 17) hΓ d_X_shallow_17 (by decide) ?_
      refine go_aload_n (q := 0) (i := 0) (pc := 18) hΓ d_X_shallow_18 rfl rfl ?_
      refine go_getR (q := 16) (pc := 19) hΓ fl_X_37 d_X_shallow_19 rfl rfl ?_
      refine go_callV (index := 317) emI hΓ hR (g_Search_tellSteps N (d + 0) x1 1) mi_Search_tellSteps ml_X_317 d_X_shallow_22 rfl rfl rfl rfl rfl (fun r3 μ4 => ?_)
      show Go Γ 2 25 [(0, .ref 0), (1, .int x1)] [.int r3] μ4 _
      exact go_iret (pc := 25) hΓ hT d_X_shallow_25
    · refine go_iconst (v := -1) (pc := 10) hΓ d_X_shallow_10 (by decide) ?_
      exact go_iret (pc := 11) hΓ hT d_X_shallow_11
def lp_X_isFinishedBy_46 (N : Nat) (x0 : Int64) (x2 : Int32) (x3 : Int32) (x4 : Int32) (x6 : Int32) (F : Int64 → Int32 → Int32 → Int32 → Mem → Option (Int32 × Mem)) (K : Mem → Option (Int32 × Mem)) : Nat → Int32 → Mem → Option (Int32 × Mem)
  | 0, _, _ => none
  | n + 1, a7, μ0 => if a7 < x2 then (bnd (f_X_code N x6 a7 μ0) fun r10 μ11 => ck (inb x3 6) (lt' (sI μ11 37 (tn x3) r10) fun μ13 => bnd (f_Sets_compared N x0 x6 a7 μ13) fun r14 μ15 => bnd (F r14 x2 (x3 + 1) x4 μ15) fun r16 μ17 => if r16 = 0 then (lt' (a7 + 1) fun v19 => lp_X_isFinishedBy_46 N x0 x2 x3 x4 x6 F K n v19 μ17) else (some (1, μ17)))) else (K  μ0)
def lp_X_isFinishedBy_32 (N : Nat) (x0 : Int64) (x2 : Int32) (x3 : Int32) (x4 : Int32) (F : Int64 → Int32 → Int32 → Int32 → Mem → Option (Int32 × Mem)) (K : Mem → Option (Int32 × Mem)) : Nat → Int32 → Mem → Option (Int32 × Mem)
  | 0, _, _ => none
  | n + 1, a6, μ0 => if a6 < (x2 - 1) then (lt' (a6 + 1) fun v8 => lp_X_isFinishedBy_46 N x0 x2 x3 x4 a6 F (fun μ20 => lt' (a6 + 1) fun v21 => lp_X_isFinishedBy_32 N x0 x2 x3 x4 F K n v21 μ20) N v8 μ0) else (K  μ0)
def f_X_isFinishedBy (N : Nat) : Nat → Int64 → Int32 → Int32 → Int32 → Mem → Option (Int32 × Mem)
  | 0, _, _, _, _, _ => none
  | D + 1, x0, x2, x3, x4, μ0 => lt' (fun (_ : Unit) => bnd (f_JLong_bitCount N x0 μ0) fun r2 μ3 => if r2 = (x2 + 1) then (some (1, μ3)) else (some (0, μ3))) fun (k1 : Unit → Option (Int32 × Mem)) => if x3 < x4 then (if x3 < (Int32.ofNat 6) then (lp_X_isFinishedBy_32 N x0 x2 x3 x4 (f_X_isFinishedBy N D) (fun μ22 => some (0, μ22)) N 0 μ0) else (k1 ())) else (k1 ())
set_option maxHeartbeats 4000000 in
set_option maxRecDepth 100000 in
theorem glp_X_isFinishedBy_46 (N d D : Nat) {Γ : Cx Int32} (hΓ : Ok Γ "SortingNets" c_X_isFinishedBy 8) (hT : Rt Γ eI (some .boolean)) (hR : Rm Γ (d + D + 1)) (x0 : Int64) (x2 : Int32) (x3 : Int32) (x4 : Int32) (x6 : Int32)  (F : Int64 → Int32 → Int32 → Int32 → Mem → Option (Int32 × Mem)) (hF : ∀ (x0 : Int64) (x2 : Int32) (x3 : Int32) (x4 : Int32), CallF eI y_X_isFinishedBy c_X_isFinishedBy 8 (some .boolean) (d + D + 1) [.long x0, .int x2, .int x3, .int x4, .ref 37] (F x0 x2 x3 x4)) (K : Mem → Option (Int32 × Mem)) (hK : ∀  (ν : Mem), Go Γ 8 93 [(0, .long x0), (2, .int x2), (3, .int x3), (4, .int x4), (5, .ref 37), (6, .int x6)] [] ν (K  ν)) : ∀ (n : Nat) (a7 : Int32) (μ0 : Mem), Go Γ 8 46 [(0, .long x0), (2, .int x2), (3, .int x3), (4, .int x4), (5, .ref 37), (6, .int x6), (7, .int a7)] [] μ0 (lp_X_isFinishedBy_46 N x0 x2 x3 x4 x6 F K n a7 μ0) := by
  intro n
  induction n with
  | zero => intro a7 μ0; exact go_none
  | succ n ih =>
    intro a7 μ0
    rw [lp_X_isFinishedBy_46]
    refine go_iload (q := 6) (pc := 46) hΓ d_X_isFinishedBy_46 rfl ?_
    refine go_iload_n (q := 1) (i := 2) (pc := 48) hΓ d_X_isFinishedBy_48 rfl rfl ?_
    refine go_icmp_ge 93 (pc := 49) hΓ d_X_isFinishedBy_49 (by decide) (fun h9 => go_eq (if_neg h9) ?_) (fun h9 => go_eq (if_pos h9) ?_)
    · refine go_sub' (lv' := [(0, .long x0), (2, .int x2), (3, .int x3), (4, .int x4), (5, .ref 37), (6, .int x6)]) rfl ?_
      exact hK  μ0
    · refine go_aload (q := 4) (pc := 52) hΓ d_X_isFinishedBy_52 rfl ?_
      refine go_iload_n (q := 2) (i := 3) (pc := 54) hΓ d_X_isFinishedBy_54 rfl rfl ?_
      refine go_iload (q := 5) (pc := 55) hΓ d_X_isFinishedBy_55 rfl ?_
      refine go_iload (q := 6) (pc := 57) hΓ d_X_isFinishedBy_57 rfl ?_
      refine go_callS (index := 214) emI hΓ hR (g_X_code N (d + D + 0) x6 a7) mi_X_code ml_X_214 d_X_isFinishedBy_59 rfl rfl rfl (fun r10 μ11 => ?_)
      show Go Γ 8 62 [(0, .long x0), (2, .int x2), (3, .int x3), (4, .int x4), (5, .ref 37), (6, .int x6), (7, .int a7)] [.int r10, .int x3, .ref 37] μ11 _
      refine go_ck (fun h12 => ?_)
      refine go_iast (pc := 62) hΓ d_X_isFinishedBy_62 rfl h12 ?_
      refine go_letM (fun μ13 => ?_)
      refine go_lload_n (q := 0) (i := 0) (pc := 63) hΓ d_X_isFinishedBy_63 rfl rfl ?_
      refine go_iload (q := 5) (pc := 64) hΓ d_X_isFinishedBy_64 rfl ?_
      refine go_iload (q := 6) (pc := 66) hΓ d_X_isFinishedBy_66 rfl ?_
      refine go_callS (index := 367) emL hΓ hR (g_Sets_compared N (d + D + 0) x0 x6 a7) mi_Sets_compared ml_X_367 d_X_isFinishedBy_68 rfl rfl rfl (fun r14 μ15 => ?_)
      show Go Γ 8 71 [(0, .long x0), (2, .int x2), (3, .int x3), (4, .int x4), (5, .ref 37), (6, .int x6), (7, .int a7)] [.long r14] μ15 _
      refine go_iload_n (q := 1) (i := 2) (pc := 71) hΓ d_X_isFinishedBy_71 rfl rfl ?_
      refine go_iload_n (q := 2) (i := 3) (pc := 72) hΓ d_X_isFinishedBy_72 rfl rfl ?_
      refine go_iconst (v := 1) (pc := 73) hΓ d_X_isFinishedBy_73 (by decide) ?_
      refine go_iadd (pc := 74) hΓ d_X_isFinishedBy_74 ?_
      refine go_iload (q := 3) (pc := 75) hΓ d_X_isFinishedBy_75 rfl ?_
      refine go_aload (q := 4) (pc := 77) hΓ d_X_isFinishedBy_77 rfl ?_
      refine go_callS (index := 321) emI hΓ hR (hF r14 x2 (x3 + 1) x4) mi_X_isFinishedBy ml_X_321 d_X_isFinishedBy_79 rfl rfl rfl (fun r16 μ17 => ?_)
      show Go Γ 8 82 [(0, .long x0), (2, .int x2), (3, .int x3), (4, .int x4), (5, .ref 37), (6, .int x6), (7, .int a7)] [.int r16] μ17 _
      refine go_if_eq 87 (pc := 82) hΓ d_X_isFinishedBy_82 (by decide) (fun h18 => go_eq (if_pos h18) ?_) (fun h18 => go_eq (if_neg h18) ?_)
      · refine go_incI (q := 6) (i := 7) (n := 1) (c := 1) (pc := 87) hΓ d_X_isFinishedBy_87 rfl (by decide) (by decide) (fun v19 => ?_)
        refine go_sub' (lv' := [(7, .int v19), (0, .long x0), (2, .int x2), (3, .int x3), (4, .int x4), (5, .ref 37), (6, .int x6)]) rfl ?_
        refine go_goto 46 (pc := 90) hΓ d_X_isFinishedBy_90 (by decide) ?_
        refine go_sub' (lv' := [(0, .long x0), (2, .int x2), (3, .int x3), (4, .int x4), (5, .ref 37), (6, .int x6), (7, .int v19)]) rfl ?_
        exact ih v19 μ17
      · refine go_iconst (v := 1) (pc := 85) hΓ d_X_isFinishedBy_85 (by decide) ?_
        exact go_zret (pc := 86) hΓ hT d_X_isFinishedBy_86 rfl
set_option maxHeartbeats 4000000 in
set_option maxRecDepth 100000 in
theorem glp_X_isFinishedBy_32 (N d D : Nat) {Γ : Cx Int32} (hΓ : Ok Γ "SortingNets" c_X_isFinishedBy 8) (hT : Rt Γ eI (some .boolean)) (hR : Rm Γ (d + D + 1)) (x0 : Int64) (x2 : Int32) (x3 : Int32) (x4 : Int32)  (F : Int64 → Int32 → Int32 → Int32 → Mem → Option (Int32 × Mem)) (hF : ∀ (x0 : Int64) (x2 : Int32) (x3 : Int32) (x4 : Int32), CallF eI y_X_isFinishedBy c_X_isFinishedBy 8 (some .boolean) (d + D + 1) [.long x0, .int x2, .int x3, .int x4, .ref 37] (F x0 x2 x3 x4)) (K : Mem → Option (Int32 × Mem)) (hK : ∀  (ν : Mem), Go Γ 8 99 [] [] ν (K  ν)) : ∀ (n : Nat) (a6 : Int32) (μ0 : Mem), Go Γ 8 32 [(0, .long x0), (2, .int x2), (3, .int x3), (4, .int x4), (5, .ref 37), (6, .int a6)] [] μ0 (lp_X_isFinishedBy_32 N x0 x2 x3 x4 F K n a6 μ0) := by
  intro n
  induction n with
  | zero => intro a6 μ0; exact go_none
  | succ n ih =>
    intro a6 μ0
    rw [lp_X_isFinishedBy_32]
    refine go_iload (q := 5) (pc := 32) hΓ d_X_isFinishedBy_32 rfl ?_
    refine go_iload_n (q := 1) (i := 2) (pc := 34) hΓ d_X_isFinishedBy_34 rfl rfl ?_
    refine go_iconst (v := 1) (pc := 35) hΓ d_X_isFinishedBy_35 (by decide) ?_
    refine go_isub (pc := 36) hΓ d_X_isFinishedBy_36 ?_
    refine go_icmp_ge 99 (pc := 37) hΓ d_X_isFinishedBy_37 (by decide) (fun h7 => go_eq (if_neg h7) ?_) (fun h7 => go_eq (if_pos h7) ?_)
    · refine go_sub' (lv' := []) rfl ?_
      exact hK  μ0
    · refine go_iload (q := 5) (pc := 40) hΓ d_X_isFinishedBy_40 rfl ?_
      refine go_iconst (v := 1) (pc := 42) hΓ d_X_isFinishedBy_42 (by decide) ?_
      refine go_iadd (pc := 43) hΓ d_X_isFinishedBy_43 ?_
      refine go_letI (fun v8 => ?_)
      refine go_istore (lv' := [(7, .int v8), (0, .long x0), (2, .int x2), (3, .int x3), (4, .int x4), (5, .ref 37), (6, .int a6)]) (pc := 44) hΓ d_X_isFinishedBy_44 (by decide) rfl ?_
      refine go_sub' (lv' := [(0, .long x0), (2, .int x2), (3, .int x3), (4, .int x4), (5, .ref 37), (6, .int a6), (7, .int v8)]) rfl ?_
      refine glp_X_isFinishedBy_46 N d D hΓ hT hR x0 x2 x3 x4 a6 _ hF _ (fun μ20 => ?_) N v8 μ0
      refine go_incI (q := 5) (i := 6) (n := 1) (c := 1) (pc := 93) hΓ d_X_isFinishedBy_93 rfl (by decide) (by decide) (fun v21 => ?_)
      refine go_sub' (lv' := [(6, .int v21), (0, .long x0), (2, .int x2), (3, .int x3), (4, .int x4), (5, .ref 37)]) rfl ?_
      refine go_goto 32 (pc := 96) hΓ d_X_isFinishedBy_96 (by decide) ?_
      refine go_sub' (lv' := [(0, .long x0), (2, .int x2), (3, .int x3), (4, .int x4), (5, .ref 37), (6, .int v21)]) rfl ?_
      exact ih v21 μ20
set_option maxHeartbeats 4000000 in
set_option maxRecDepth 100000 in
theorem g_X_isFinishedBy (N : Nat) : ∀ (D d : Nat) (x0 : Int64) (x2 : Int32) (x3 : Int32) (x4 : Int32), CallF eI y_X_isFinishedBy c_X_isFinishedBy 8 (some .boolean) (d + D + 1) [.long x0, .int x2, .int x3, .int x4, .ref 37] (f_X_isFinishedBy N D x0 x2 x3 x4) := by
  intro D
  induction D with
  | zero => intro d x0 x2 x3 x4 l D ad kA μ r μ' h; cases h
  | succ D ih =>
    intro d x0 x2 x3 x4
    refine call_of (d := d + D + 1) (n := 5) mi_X_isFinishedBy.1 (fun _ => rfl) ?_
    intro Γ μ0 hΓ hT hR
    show Go Γ 8 0 [(0, .long x0), (2, .int x2), (3, .int x3), (4, .int x4), (5, .ref 37)] [] μ0 (f_X_isFinishedBy N (D + 1) x0 x2 x3 x4 μ0)
    have hF := ih d
    rw [f_X_isFinishedBy]
    refine go_iload_n (q := 2) (i := 3) (pc := 0) hΓ d_X_isFinishedBy_0 rfl rfl ?_
    refine go_iload (q := 3) (pc := 1) hΓ d_X_isFinishedBy_1 rfl ?_
    refine go_join (fun (k1 : Unit → Option (Int32 × Mem)) => ∀ (_ : Unit), Go Γ 8 13 [(0, .long x0), (2, .int x2)] [] μ0 (k1 ())) ?_ (fun k1 k1h => ?_)
    · intro _
      refine go_lload_n (q := 0) (i := 0) (pc := 13) hΓ d_X_isFinishedBy_13 rfl rfl ?_
      refine go_callS (index := 273) emI hΓ hR (g_JLong_bitCount N (d + D + 0) x0) mi_JLong_bitCount ml_X_273 d_X_isFinishedBy_14 rfl rfl rfl (fun r2 μ3 => ?_)
      show Go Γ 8 17 [(0, .long x0), (2, .int x2)] [.int r2] μ3 _
      refine go_iload_n (q := 1) (i := 2) (pc := 17) hΓ d_X_isFinishedBy_17 rfl rfl ?_
      refine go_iconst (v := 1) (pc := 18) hΓ d_X_isFinishedBy_18 (by decide) ?_
      refine go_iadd (pc := 19) hΓ d_X_isFinishedBy_19 ?_
      refine go_icmp_ne 27 (pc := 20) hΓ d_X_isFinishedBy_20 (by decide) (fun h4 => go_eq (if_neg h4) ?_) (fun h4 => go_eq (if_pos h4) ?_)
      · refine go_iconst (v := 0) (pc := 27) hΓ d_X_isFinishedBy_27 (by decide) ?_
        exact go_zret (pc := 28) hΓ hT d_X_isFinishedBy_28 rfl
      · refine go_iconst (v := 1) (pc := 23) hΓ d_X_isFinishedBy_23 (by decide) ?_
        refine go_goto 28 (pc := 24) hΓ d_X_isFinishedBy_24 (by decide) ?_
        exact go_zret (pc := 28) hΓ hT d_X_isFinishedBy_28 rfl
    · refine go_icmp_ge 13 (pc := 3) hΓ d_X_isFinishedBy_3 (by decide) (fun h5 => go_eq (if_neg h5) ?_) (fun h5 => go_eq (if_pos h5) ?_)
      · refine go_sub' (lv' := [(0, .long x0), (2, .int x2)]) rfl ?_
        exact k1h ()
      · refine go_iload_n (q := 2) (i := 3) (pc := 6) hΓ d_X_isFinishedBy_6 rfl rfl ?_
        refine go_aload (q := 4) (pc := 7) hΓ d_X_isFinishedBy_7 rfl ?_
        refine go_alen (pc := 9) hΓ d_X_isFinishedBy_9 rfl (by decide) ?_
        refine go_icmp_lt 29 (pc := 10) hΓ d_X_isFinishedBy_10 (by decide) (fun h6 => go_eq (if_pos h6) ?_) (fun h6 => go_eq (if_neg h6) ?_)
        · refine go_iconst (v := 0) (pc := 29) hΓ d_X_isFinishedBy_29 (by decide) ?_
          refine go_istore (lv' := [(6, .int 0), (0, .long x0), (2, .int x2), (3, .int x3), (4, .int x4), (5, .ref 37)]) (pc := 30) hΓ d_X_isFinishedBy_30 (by decide) rfl ?_
          refine go_sub' (lv' := [(0, .long x0), (2, .int x2), (3, .int x3), (4, .int x4), (5, .ref 37), (6, .int 0)]) rfl ?_
          refine glp_X_isFinishedBy_32 N d D hΓ hT hR x0 x2 x3 x4 _ hF _ (fun μ22 => ?_) N 0 μ0
          refine go_iconst (v := 0) (pc := 99) hΓ d_X_isFinishedBy_99 (by decide) ?_
          exact go_zret (pc := 100) hΓ hT d_X_isFinishedBy_100 rfl
        · refine go_sub' (lv' := [(0, .long x0), (2, .int x2)]) rfl ?_
          exact k1h ()
def lp_X_rest_41 (N : Nat) (x2 : Int32) (x3 : Int64)  (K : Int32 → Mem → Option (Int32 × Mem)) : Nat → Int32 → Mem → Option (Int32 × Mem)
  | 0, _, _ => none
  | n + 1, a5, μ0 => if a5 < 6 then (bnd (f_X_isFinishedBy N 12 x3 x2 0 a5 μ0) fun r11 μ12 => if r11 = 0 then (lt' (a5 + 1) fun v14 => lp_X_rest_41 N x2 x3 K n v14 μ12) else (K a5 μ12)) else (K a5 μ0)
def f_X_rest (N : Nat) (x1 : Int32) (μ0 : Mem) : Option (Int32 × Mem) :=
  bnd (f_X_isNet N x1 μ0) fun r1 μ2 => if r1 = 0 then (some ((-1), μ2)) else (ck (inb x1 4) (lt' (gI μ2 (2 + 3 * tn x1) 0) fun v5 => if 4 < v5 then (some ((-2), μ2)) else (ck (inb x1 4) (bnd (f_X_smallImage N (2 + 3 * tn x1) μ2) fun r8 μ9 => lp_X_rest_41 N v5 r8 (fun v15 μ16 => bnd (f_X_tellFirst N 37 6 v15 μ16) fun _ μ18 => some (v15, μ18)) N 0 μ9))))
set_option maxHeartbeats 4000000 in
set_option maxRecDepth 100000 in
theorem glp_X_rest_41 (N d : Nat) {Γ : Cx Int32} (hΓ : Ok Γ "SortingNets" c_X_rest 6) (hT : Rt Γ eI (some .int)) (hR : Rm Γ (d + 14)) (x2 : Int32) (x3 : Int64)    (K : Int32 → Mem → Option (Int32 × Mem)) (hK : ∀ (b5 : Int32) (ν : Mem), Go Γ 6 69 [(0, .ref 0), (5, .int b5)] [] ν (K b5 ν)) : ∀ (n : Nat) (a5 : Int32) (μ0 : Mem), Go Γ 6 41 [(0, .ref 0), (2, .int x2), (3, .long x3), (5, .int a5)] [] μ0 (lp_X_rest_41 N x2 x3 K n a5 μ0) := by
  intro n
  induction n with
  | zero => intro a5 μ0; exact go_none
  | succ n ih =>
    intro a5 μ0
    rw [lp_X_rest_41]
    refine go_iload (q := 3) (pc := 41) hΓ d_X_rest_41 rfl ?_
    refine go_bipush (v := 6) (pc := 43) hΓ d_X_rest_43 (by decide) ?_
    refine go_icmp_ge 69 (pc := 45) hΓ d_X_rest_45 (by decide) (fun h10 => go_eq (if_neg h10) ?_) (fun h10 => go_eq (if_pos h10) ?_)
    · refine go_sub' (lv' := [(0, .ref 0), (5, .int a5)]) rfl ?_
      exact hK a5 μ0
    · refine go_lload_n (q := 2) (i := 3) (pc := 48) hΓ d_X_rest_48 rfl rfl ?_
      refine go_iload_n (q := 1) (i := 2) (pc := 49) hΓ d_X_rest_49 rfl rfl ?_
      refine go_iconst (v := 0) (pc := 50) hΓ d_X_rest_50 (by decide) ?_
      refine go_iload (q := 3) (pc := 51) hΓ d_X_rest_51 rfl ?_
      refine go_aload_n (q := 0) (i := 0) (pc := 53) hΓ d_X_rest_53 rfl rfl ?_
      refine go_getR (q := 37) (pc := 54) hΓ fl_X_79 d_X_rest_54 rfl rfl ?_
      refine go_callS (index := 321) emI hΓ hR (g_X_isFinishedBy N 12 (d + 1) x3 x2 0 a5) mi_X_isFinishedBy ml_X_321 d_X_rest_57 rfl rfl rfl (fun r11 μ12 => ?_)
      show Go Γ 6 60 [(0, .ref 0), (2, .int x2), (3, .long x3), (5, .int a5)] [.int r11] μ12 _
      refine go_if_ne 69 (pc := 60) hΓ d_X_rest_60 (by decide) (fun h13 => go_eq (if_neg h13) ?_) (fun h13 => go_eq (if_pos h13) ?_)
      · refine go_sub' (lv' := [(0, .ref 0), (5, .int a5)]) rfl ?_
        exact hK a5 μ12
      · refine go_incI (q := 3) (i := 5) (n := 1) (c := 1) (pc := 63) hΓ d_X_rest_63 rfl (by decide) (by decide) (fun v14 => ?_)
        refine go_sub' (lv' := [(5, .int v14), (0, .ref 0), (2, .int x2), (3, .long x3)]) rfl ?_
        refine go_goto 41 (pc := 66) hΓ d_X_rest_66 (by decide) ?_
        refine go_sub' (lv' := [(0, .ref 0), (2, .int x2), (3, .long x3), (5, .int v14)]) rfl ?_
        exact ih v14 μ12
set_option maxHeartbeats 4000000 in
set_option maxRecDepth 100000 in
theorem g_X_rest (N d : Nat) (x1 : Int32)  : CallF eI y_X_rest c_X_rest 6 (some .int) (d + 14 + 1) [.ref 0, .int x1] (f_X_rest N x1) := by
  refine call_of (d := d + 14) (n := 1) mi_X_rest.1 (fun _ => rfl) ?_
  intro Γ μ0 hΓ hT hR
  show Go Γ 6 0 [(0, .ref 0), (1, .int x1)] [] μ0 (f_X_rest N x1 μ0)
  unfold f_X_rest
  refine go_iload_n (q := 1) (i := 1) (pc := 0) hΓ d_X_rest_0 rfl rfl ?_
  refine go_callS (index := 101) emI hΓ hR (g_X_isNet N (d + 13) x1) mi_X_isNet ml_X_101 d_X_rest_1 rfl rfl rfl (fun r1 μ2 => ?_)
  show Go Γ 6 4 [(0, .ref 0), (1, .int x1)] [.int r1] μ2 _
  refine go_if_ne 9 (pc := 4) hΓ d_X_rest_4 (by decide) (fun h3 => go_eq (if_neg h3) ?_) (fun h3 => go_eq (if_pos h3) ?_)
  · refine go_aload_n (q := 0) (i := 0) (pc := 9) hΓ d_X_rest_9 rfl rfl ?_
    refine go_getR (q := 1) (pc := 10) hΓ fl_X_11 d_X_rest_10 rfl rfl ?_
    refine go_iload_n (q := 1) (i := 1) (pc := 13) hΓ d_X_rest_13 rfl rfl ?_
    refine go_ck (fun h4 => ?_)
    refine go_aald (pc := 14) hΓ d_X_rest_14 h4 ?_
    refine go_getI (pc := 15) hΓ fl_X_111 d_X_rest_15 (isN_sh (isN_in h4)).1 rfl ?_
    refine go_letI (fun v5 => ?_)
    refine go_istore_n (i := 2) (lv' := [(2, .int v5), (0, .ref 0), (1, .int x1)]) (pc := 18) hΓ d_X_rest_18 rfl (by decide) rfl ?_
    refine go_iload_n (q := 0) (i := 2) (pc := 19) hΓ d_X_rest_19 rfl rfl ?_
    refine go_iconst (v := 4) (pc := 20) hΓ d_X_rest_20 (by decide) ?_
    refine go_icmp_le 27 (pc := 21) hΓ d_X_rest_21 (by decide) (fun h6 => go_eq (if_neg h6) ?_) (fun h6 => go_eq (if_pos h6) ?_)
    · refine go_aload_n (q := 1) (i := 0) (pc := 27) hΓ d_X_rest_27 rfl rfl ?_
      refine go_aload_n (q := 1) (i := 0) (pc := 28) hΓ d_X_rest_28 rfl rfl ?_
      refine go_getR (q := 1) (pc := 29) hΓ fl_X_11 d_X_rest_29 rfl rfl ?_
      refine go_iload_n (q := 2) (i := 1) (pc := 32) hΓ d_X_rest_32 rfl rfl ?_
      refine go_ck (fun h7 => ?_)
      refine go_aald (pc := 33) hΓ d_X_rest_33 h7 ?_
      refine go_callV (index := 308) emL hΓ hR (g_X_smallImage N (d + 9) (2 + 3 * tn x1) (isN_in h7)) mi_X_smallImage ml_X_308 d_X_rest_34 rfl rfl rfl rfl rfl (fun r8 μ9 => ?_)
      show Go Γ 6 37 [(2, .int v5), (0, .ref 0), (1, .int x1)] [.long r8] μ9 _
      refine go_lstore_n (i := 3) (lv' := [(3, .long r8), (2, .int v5), (0, .ref 0), (1, .int x1)]) (pc := 37) hΓ d_X_rest_37 rfl (by decide) rfl ?_
      refine go_iconst (v := 0) (pc := 38) hΓ d_X_rest_38 (by decide) ?_
      refine go_istore (lv' := [(5, .int 0), (3, .long r8), (2, .int v5), (0, .ref 0), (1, .int x1)]) (pc := 39) hΓ d_X_rest_39 (by decide) rfl ?_
      refine go_sub' (lv' := [(0, .ref 0), (2, .int v5), (3, .long r8), (5, .int 0)]) rfl ?_
      refine glp_X_rest_41 N d hΓ hT hR v5 r8 _ (fun v15 μ16 => ?_) N 0 μ9
      refine go_aload_n (q := 0) (i := 0) (pc := 69) hΓ d_X_rest_69 rfl rfl ?_
      refine go_aload_n (q := 0) (i := 0) (pc := 70) hΓ d_X_rest_70 rfl rfl ?_
      refine go_getR (q := 37) (pc := 71) hΓ fl_X_79 d_X_rest_71 rfl rfl ?_
      refine go_iload (q := 1) (pc := 74) hΓ d_X_rest_74 rfl ?_
      refine go_callV (index := 229) emV hΓ hR (g_X_tellFirst N (d + 12) 37 6 rfl v15) mi_X_tellFirst ml_X_229 d_X_rest_76 rfl rfl rfl rfl rfl (fun _ μ18 => ?_)
      show Go Γ 6 79 [(0, .ref 0), (5, .int v15)] [] μ18 _
      refine go_iload (q := 1) (pc := 79) hΓ d_X_rest_79 rfl ?_
      exact go_iret (pc := 81) hΓ hT d_X_rest_81
    · refine go_bipush (v := -2) (pc := 24) hΓ d_X_rest_24 (by decide) ?_
      exact go_iret (pc := 26) hΓ hT d_X_rest_26
  · refine go_iconst (v := -1) (pc := 7) hΓ d_X_rest_7 (by decide) ?_
    exact go_iret (pc := 8) hΓ hT d_X_rest_8
def f_X_has (N : Nat) (x1 : Int32) (x2 : Int32) (μ0 : Mem) : Option (Int32 × Mem) :=
  bnd (f_X_isNet N x1 μ0) fun r1 μ2 => if r1 = 0 then (some ((-1), μ2)) else (if x2 < 0 then (some ((-1), μ2)) else (if 1 < x2 then (some ((-1), μ2)) else (if x2 = 0 then (ck (inb x1 4) (some (gI μ2 (2 + 3 * tn x1) 0, μ2))) else (ck (inb x1 4) (some (gI μ2 (2 + 3 * tn x1) 1, μ2))))))
set_option maxHeartbeats 4000000 in
set_option maxRecDepth 100000 in
theorem g_X_has (N d : Nat) (x1 : Int32) (x2 : Int32)  : CallF eI y_X_has c_X_has 3 (some .int) (d + 1 + 1) [.ref 0, .int x1, .int x2] (f_X_has N x1 x2) := by
  refine call_of (d := d + 1) (n := 2) mi_X_has.1 (fun _ => rfl) ?_
  intro Γ μ0 hΓ hT hR
  show Go Γ 3 0 [(0, .ref 0), (1, .int x1), (2, .int x2)] [] μ0 (f_X_has N x1 x2 μ0)
  unfold f_X_has
  refine go_iload_n (q := 1) (i := 1) (pc := 0) hΓ d_X_has_0 rfl rfl ?_
  refine go_callS (index := 101) emI hΓ hR (g_X_isNet N (d + 0) x1) mi_X_isNet ml_X_101 d_X_has_1 rfl rfl rfl (fun r1 μ2 => ?_)
  show Go Γ 3 4 [(0, .ref 0), (1, .int x1), (2, .int x2)] [.int r1] μ2 _
  refine go_if_eq 16 (pc := 4) hΓ d_X_has_4 (by decide) (fun h3 => go_eq (if_pos h3) ?_) (fun h3 => go_eq (if_neg h3) ?_)
  · refine go_iconst (v := -1) (pc := 16) hΓ d_X_has_16 (by decide) ?_
    exact go_iret (pc := 17) hΓ hT d_X_has_17
  · refine go_iload_n (q := 2) (i := 2) (pc := 7) hΓ d_X_has_7 rfl rfl ?_
    refine go_if_lt 16 (pc := 8) hΓ d_X_has_8 (by decide) (fun h4 => go_eq (if_pos h4) ?_) (fun h4 => go_eq (if_neg h4) ?_)
    · refine go_iconst (v := -1) (pc := 16) hΓ d_X_has_16 (by decide) ?_
      exact go_iret (pc := 17) hΓ hT d_X_has_17
    · refine go_iload_n (q := 2) (i := 2) (pc := 11) hΓ d_X_has_11 rfl rfl ?_
      refine go_iconst (v := 1) (pc := 12) hΓ d_X_has_12 (by decide) ?_
      refine go_icmp_le 18 (pc := 13) hΓ d_X_has_13 (by decide) (fun h5 => go_eq (if_neg h5) ?_) (fun h5 => go_eq (if_pos h5) ?_)
      · refine go_iload_n (q := 2) (i := 2) (pc := 18) hΓ d_X_has_18 rfl rfl ?_
        refine go_if_ne 34 (pc := 19) hΓ d_X_has_19 (by decide) (fun h6 => go_eq (if_neg h6) ?_) (fun h6 => go_eq (if_pos h6) ?_)
        · refine go_aload_n (q := 0) (i := 0) (pc := 34) hΓ d_X_has_34 rfl rfl ?_
          refine go_getR (q := 1) (pc := 35) hΓ fl_X_11 d_X_has_35 rfl rfl ?_
          refine go_iload_n (q := 1) (i := 1) (pc := 38) hΓ d_X_has_38 rfl rfl ?_
          refine go_ck (fun h7 => ?_)
          refine go_aald (pc := 39) hΓ d_X_has_39 h7 ?_
          refine go_getI (pc := 40) hΓ fl_X_121 d_X_has_40 (isN_sh (isN_in h7)).1 rfl ?_
          exact go_iret (pc := 43) hΓ hT d_X_has_43
        · refine go_aload_n (q := 0) (i := 0) (pc := 22) hΓ d_X_has_22 rfl rfl ?_
          refine go_getR (q := 1) (pc := 23) hΓ fl_X_11 d_X_has_23 rfl rfl ?_
          refine go_iload_n (q := 1) (i := 1) (pc := 26) hΓ d_X_has_26 rfl rfl ?_
          refine go_ck (fun h8 => ?_)
          refine go_aald (pc := 27) hΓ d_X_has_27 h8 ?_
          refine go_getI (pc := 28) hΓ fl_X_111 d_X_has_28 (isN_sh (isN_in h8)).1 rfl ?_
          refine go_goto 43 (pc := 31) hΓ d_X_has_31 (by decide) ?_
          exact go_iret (pc := 43) hΓ hT d_X_has_43
      · refine go_iconst (v := -1) (pc := 16) hΓ d_X_has_16 (by decide) ?_
        exact go_iret (pc := 17) hΓ hT d_X_has_17
def lp_X_allComparers_4 (N : Nat)   (K : Int32 → Mem → Option (Int32 × Mem)) : Nat → Int32 → Int32 → Mem → Option (Int32 × Mem)
  | 0, _, _, _ => none
  | n + 1, a1, a2, μ0 => if a2 < 4 then (ck (inb a2 4) (lt' (a1 + (gI μ0 (2 + 3 * tn a2) 1)) fun v3 => lt' (a2 + 1) fun v4 => lp_X_allComparers_4 N K n v3 v4 μ0)) else (K a1 μ0)
def f_X_allComparers (N : Nat)  (μ0 : Mem) : Option (Int32 × Mem) :=
  lp_X_allComparers_4 N  (fun v5 μ6 => some (v5, μ6)) N 0 0 μ0
set_option maxHeartbeats 4000000 in
set_option maxRecDepth 100000 in
theorem glp_X_allComparers_4 (N d : Nat) {Γ : Cx Int32} (hΓ : Ok Γ "SortingNets" c_X_allComparers 3) (hT : Rt Γ eI (some .int)) (hR : Rm Γ (d + 0))     (K : Int32 → Mem → Option (Int32 × Mem)) (hK : ∀ (b1 : Int32) (ν : Mem), Go Γ 3 27 [(1, .int b1)] [] ν (K b1 ν)) : ∀ (n : Nat) (a1 : Int32) (a2 : Int32) (μ0 : Mem), Go Γ 3 4 [(0, .ref 0), (1, .int a1), (2, .int a2)] [] μ0 (lp_X_allComparers_4 N K n a1 a2 μ0) := by
  intro n
  induction n with
  | zero => intro a1 a2 μ0; exact go_none
  | succ n ih =>
    intro a1 a2 μ0
    rw [lp_X_allComparers_4]
    refine go_iload_n (q := 2) (i := 2) (pc := 4) hΓ d_X_allComparers_4 rfl rfl ?_
    refine go_iconst (v := 4) (pc := 5) hΓ d_X_allComparers_5 (by decide) ?_
    refine go_icmp_ge 27 (pc := 6) hΓ d_X_allComparers_6 (by decide) (fun h1 => go_eq (if_neg h1) ?_) (fun h1 => go_eq (if_pos h1) ?_)
    · refine go_sub' (lv' := [(1, .int a1)]) rfl ?_
      exact hK a1 μ0
    · refine go_iload_n (q := 1) (i := 1) (pc := 9) hΓ d_X_allComparers_9 rfl rfl ?_
      refine go_aload_n (q := 0) (i := 0) (pc := 10) hΓ d_X_allComparers_10 rfl rfl ?_
      refine go_getR (q := 1) (pc := 11) hΓ fl_X_11 d_X_allComparers_11 rfl rfl ?_
      refine go_iload_n (q := 2) (i := 2) (pc := 14) hΓ d_X_allComparers_14 rfl rfl ?_
      refine go_ck (fun h2 => ?_)
      refine go_aald (pc := 15) hΓ d_X_allComparers_15 h2 ?_
      refine go_getI (pc := 16) hΓ fl_X_121 d_X_allComparers_16 (isN_sh (isN_in h2)).1 rfl ?_
      refine go_iadd (pc := 19) hΓ d_X_allComparers_19 ?_
      refine go_letI (fun v3 => ?_)
      refine go_istore_n (i := 1) (lv' := [(1, .int v3), (0, .ref 0), (2, .int a2)]) (pc := 20) hΓ d_X_allComparers_20 rfl (by decide) rfl ?_
      refine go_incI (q := 2) (i := 2) (n := 1) (c := 1) (pc := 21) hΓ d_X_allComparers_21 rfl (by decide) (by decide) (fun v4 => ?_)
      refine go_sub' (lv' := [(2, .int v4), (1, .int v3), (0, .ref 0)]) rfl ?_
      refine go_goto 4 (pc := 24) hΓ d_X_allComparers_24 (by decide) ?_
      refine go_sub' (lv' := [(0, .ref 0), (1, .int v3), (2, .int v4)]) rfl ?_
      exact ih v3 v4 μ0
set_option maxHeartbeats 4000000 in
set_option maxRecDepth 100000 in
theorem g_X_allComparers (N d : Nat)   : CallF eI y_X_allComparers c_X_allComparers 3 (some .int) (d + 0 + 1) [.ref 0] (f_X_allComparers N ) := by
  refine call_of (d := d + 0) (n := 0) mi_X_allComparers.1 (fun _ => rfl) ?_
  intro Γ μ0 hΓ hT hR
  show Go Γ 3 0 [(0, .ref 0)] [] μ0 (f_X_allComparers N  μ0)
  unfold f_X_allComparers
  refine go_iconst (v := 0) (pc := 0) hΓ d_X_allComparers_0 (by decide) ?_
  refine go_istore_n (i := 1) (lv' := [(1, .int 0), (0, .ref 0)]) (pc := 1) hΓ d_X_allComparers_1 rfl (by decide) rfl ?_
  refine go_iconst (v := 0) (pc := 2) hΓ d_X_allComparers_2 (by decide) ?_
  refine go_istore_n (i := 2) (lv' := [(2, .int 0), (1, .int 0), (0, .ref 0)]) (pc := 3) hΓ d_X_allComparers_3 rfl (by decide) rfl ?_
  refine go_sub' (lv' := [(0, .ref 0), (1, .int 0), (2, .int 0)]) rfl ?_
  refine glp_X_allComparers_4 N d hΓ hT hR  _ (fun v5 μ6 => ?_) N 0 0 μ0
  refine go_iload_n (q := 0) (i := 1) (pc := 27) hΓ d_X_allComparers_27 rfl rfl ?_
  exact go_iret (pc := 28) hΓ hT d_X_allComparers_28
def f_X_count (N : Nat) (x1 : Int32) (μ0 : Mem) : Option (Int32 × Mem) :=
  if x1 = 0 then (some (gI μ0 16 1, μ0)) else (if x1 = 1 then (some (gI μ0 14 1, μ0)) else (if x1 = 2 then (bnd (f_X_allComparers N  μ0) fun r4 μ5 => some (r4, μ5)) else (some ((-1), μ0))))
set_option maxHeartbeats 4000000 in
set_option maxRecDepth 100000 in
theorem g_X_count (N d : Nat) (x1 : Int32)  : CallF eI y_X_count c_X_count 2 (some .int) (d + 1 + 1) [.ref 0, .int x1] (f_X_count N x1) := by
  refine call_of (d := d + 1) (n := 1) mi_X_count.1 (fun _ => rfl) ?_
  intro Γ μ0 hΓ hT hR
  show Go Γ 2 0 [(0, .ref 0), (1, .int x1)] [] μ0 (f_X_count N x1 μ0)
  unfold f_X_count
  refine go_iload_n (q := 1) (i := 1) (pc := 0) hΓ d_X_count_0 rfl rfl ?_
  by_cases h1 : x1 = 0
  · rw [if_pos h1]
    refine go_tabIn 28 (pc := 1) hΓ d_X_count_1 (by rw [h1]; decide) (by rw [h1]; decide) (by rw [h1]; rfl) (by decide) ?_
    refine go_aload_n (q := 0) (i := 0) (pc := 28) hΓ d_X_count_28 rfl rfl ?_
    refine go_getR (q := 16) (pc := 29) hΓ fl_X_37 d_X_count_29 rfl rfl ?_
    refine go_getI (pc := 32) hΓ fl_X_300 d_X_count_32 rfl rfl ?_
    exact go_iret (pc := 35) hΓ hT d_X_count_35
  · rw [if_neg h1]
    by_cases h2 : x1 = 1
    · rw [if_pos h2]
      refine go_tabIn 36 (pc := 1) hΓ d_X_count_1 (by rw [h2]; decide) (by rw [h2]; decide) (by rw [h2]; rfl) (by decide) ?_
      refine go_aload_n (q := 0) (i := 0) (pc := 36) hΓ d_X_count_36 rfl rfl ?_
      refine go_getR (q := 14) (pc := 37) hΓ fl_X_30 d_X_count_37 rfl rfl ?_
      refine go_getI (pc := 40) hΓ fl_X_93 d_X_count_40 rfl rfl ?_
      exact go_iret (pc := 43) hΓ hT d_X_count_43
    · rw [if_neg h2]
      by_cases h3 : x1 = 2
      · rw [if_pos h3]
        refine go_tabIn 44 (pc := 1) hΓ d_X_count_1 (by rw [h3]; decide) (by rw [h3]; decide) (by rw [h3]; rfl) (by decide) ?_
        refine go_aload_n (q := 0) (i := 0) (pc := 44) hΓ d_X_count_44 rfl rfl ?_
        refine go_callV (index := 325) emI hΓ hR (g_X_allComparers N (d + 0) ) mi_X_allComparers ml_X_325 d_X_count_45 rfl rfl rfl rfl rfl (fun r4 μ5 => ?_)
        show Go Γ 2 48 [(0, .ref 0), (1, .int x1)] [.int r4] μ5 _
        exact go_iret (pc := 48) hΓ hT d_X_count_48
      · rw [if_neg h3]
        refine go_tabOut 49 (pc := 1) hΓ d_X_count_1 (sw_out 3 (fun k hk => by match k, hk with | 0, _ => exact h1 | 1, _ => exact h2 | 2, _ => exact h3)) (by decide) ?_
        refine go_iconst (v := -1) (pc := 49) hΓ d_X_count_49 (by decide) ?_
        exact go_iret (pc := 50) hΓ hT d_X_count_50

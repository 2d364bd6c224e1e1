def lp_X_comes_41 (N : Nat) (x2 : Int32)  (K : Int32 → Int32 → Mem → Option (Int32 × Mem)) : Nat → Int32 → Int32 → Int32 → Mem → Option (Int32 × Mem)
  | 0, _, _, _, _ => none
  | n + 1, a3, a4, a5, μ0 => if a5 < 0 then (K a3 a4 μ0) else (ck (inb a5 256) (lt' (if (gI μ0 33 (tn a5)) = x2 then ((a5 : Int32), (a4 + 1 : Int32)) else ((a3 : Int32), (a4 : Int32))) fun q12 => lt' (a5 + (-1)) fun v13 => lp_X_comes_41 N x2 K n q12.1 q12.2 v13 μ0))
def f_X_comes (N : Nat) (x1 : Int32) (x2 : Int32) (μ0 : Mem) : Option (Int32 × Mem) :=
  bnd (f_X_isPattern N x1 x2 μ0) fun r1 μ2 => if r1 = 0 then (some ((-1), μ2)) else (ck (inb x1 4) (bnd (f_X_findResults N (2 + 3 * tn x1) μ2) fun _ μ6 => ck (inb x1 4) (lt' ((shlI 1 (gI μ6 (2 + 3 * tn x1) 0)) - 1) fun v8 => lp_X_comes_41 N x2 (fun v15 v16 μ17 => bnd (f_Numbers_clear N  μ17) fun _ μ19 => bnd (f_Numbers_append N (Int32.toInt64 v15) μ19) fun _ μ21 => some (v16, μ21)) N (-1) 0 v8 μ6)))
set_option maxHeartbeats 4000000 in
set_option maxRecDepth 100000 in
theorem glp_X_comes_41 (N d : Nat) {Γ : Cx Int32} (hΓ : Ok Γ "SortingNets" c_X_comes 6) (hT : Rt Γ eI (some .int)) (hR : Rm Γ (d + 3)) (x2 : Int32)    (K : Int32 → Int32 → Mem → Option (Int32 × Mem)) (hK : ∀ (b3 : Int32) (b4 : Int32) (ν : Mem), Go Γ 6 69 [(0, .ref 0), (3, .int b3), (4, .int b4)] [] ν (K b3 b4 ν)) : ∀ (n : Nat) (a3 : Int32) (a4 : Int32) (a5 : Int32) (μ0 : Mem), Go Γ 6 41 [(0, .ref 0), (2, .int x2), (3, .int a3), (4, .int a4), (5, .int a5)] [] μ0 (lp_X_comes_41 N x2 K n a3 a4 a5 μ0) := by
  intro n
  induction n with
  | zero => intro a3 a4 a5 μ0; exact go_none
  | succ n ih =>
    intro a3 a4 a5 μ0
    rw [lp_X_comes_41]
    refine go_iload (q := 4) (pc := 41) hΓ d_X_comes_41 rfl ?_
    refine go_if_lt 69 (pc := 43) hΓ d_X_comes_43 (by decide) (fun h9 => go_eq (if_pos h9) ?_) (fun h9 => go_eq (if_neg h9) ?_)
    · refine go_sub' (lv' := [(0, .ref 0), (3, .int a3), (4, .int a4)]) rfl ?_
      exact hK a3 a4 μ0
    · refine go_aload_n (q := 0) (i := 0) (pc := 46) hΓ d_X_comes_46 rfl rfl ?_
      refine go_getR (q := 33) (pc := 47) hΓ fl_X_65 d_X_comes_47 rfl rfl ?_
      refine go_iload (q := 4) (pc := 50) hΓ d_X_comes_50 rfl ?_
      refine go_ck (fun h10 => ?_)
      refine go_iald (pc := 52) hΓ d_X_comes_52 rfl h10 ?_
      refine go_iload_n (q := 1) (i := 2) (pc := 53) hΓ d_X_comes_53 rfl rfl ?_
      refine go_mg (α := Int32 × Int32) 63 (fun q12 => [(0, .ref 0), (2, .int x2), (3, .int q12.1), (4, .int q12.2), (5, .int a5)]) (fun q12 => []) (fun q12 => ?_) (fun g14 g14h => ?_)
      · refine go_incI (q := 4) (i := 5) (n := -1) (c := -1) (pc := 63) hΓ d_X_comes_63 rfl (by decide) (by decide) (fun v13 => ?_)
        refine go_sub' (lv' := [(5, .int v13), (0, .ref 0), (2, .int x2), (3, .int q12.1), (4, .int q12.2)]) rfl ?_
        refine go_goto 41 (pc := 66) hΓ d_X_comes_66 (by decide) ?_
        refine go_sub' (lv' := [(0, .ref 0), (2, .int x2), (3, .int q12.1), (4, .int q12.2), (5, .int v13)]) rfl ?_
        exact ih q12.1 q12.2 v13 μ0
      · refine go_icmp_ne 63 (pc := 54) hΓ d_X_comes_54 (by decide) (fun h11 => ?_) (fun h11 => ?_)
        · rw [if_neg h11]
          refine go_sub' (lv' := [(0, .ref 0), (2, .int x2), (3, .int a3), (4, .int a4), (5, .int a5)]) rfl ?_
          exact g14h _
        · rw [if_pos h11]
          refine go_iload (q := 4) (pc := 57) hΓ d_X_comes_57 rfl ?_
          refine go_istore_n (i := 3) (lv' := [(3, .int a5), (0, .ref 0), (2, .int x2), (4, .int a4), (5, .int a5)]) (pc := 59) hΓ d_X_comes_59 rfl (by decide) rfl ?_
          refine go_iinc (q := 3) (i := 4) (n := 1) (v := a4 + 1) (lv' := [(4, .int (a4 + 1)), (3, .int a5), (0, .ref 0), (2, .int x2), (5, .int a5)]) (pc := 60) hΓ d_X_comes_60 rfl rfl (by decide) rfl ?_
          refine go_sub' (lv' := [(0, .ref 0), (2, .int x2), (3, .int a5), (4, .int (a4 + 1)), (5, .int a5)]) rfl ?_
          exact g14h _
set_option maxHeartbeats 4000000 in
set_option maxRecDepth 100000 in
theorem g_X_comes (N d : Nat) (x1 : Int32) (x2 : Int32)  : CallF eI y_X_comes c_X_comes 6 (some .int) (d + 3 + 1) [.ref 0, .int x1, .int x2] (f_X_comes N x1 x2) := by
  refine call_of (d := d + 3) (n := 2) mi_X_comes.1 (fun _ => rfl) ?_
  intro Γ μ0 hΓ hT hR
  show Go Γ 6 0 [(0, .ref 0), (1, .int x1), (2, .int x2)] [] μ0 (f_X_comes N x1 x2 μ0)
  unfold f_X_comes
  refine go_aload_n (q := 0) (i := 0) (pc := 0) hΓ d_X_comes_0 rfl rfl ?_
  refine go_iload_n (q := 1) (i := 1) (pc := 1) hΓ d_X_comes_1 rfl rfl ?_
  refine go_iload_n (q := 2) (i := 2) (pc := 2) hΓ d_X_comes_2 rfl rfl ?_
  refine go_callV (index := 220) emI hΓ hR (g_X_isPattern N (d + 1) x1 x2) mi_X_isPattern ml_X_220 d_X_comes_3 rfl rfl rfl rfl rfl (fun r1 μ2 => ?_)
  show Go Γ 6 6 [(0, .ref 0), (1, .int x1), (2, .int x2)] [.int r1] μ2 _
  refine go_if_ne 11 (pc := 6) hΓ d_X_comes_6 (by decide) (fun h3 => go_eq (if_neg h3) ?_) (fun h3 => go_eq (if_pos h3) ?_)
  · refine go_aload_n (q := 0) (i := 0) (pc := 11) hΓ d_X_comes_11 rfl rfl ?_
    refine go_aload_n (q := 0) (i := 0) (pc := 12) hΓ d_X_comes_12 rfl rfl ?_
    refine go_getR (q := 1) (pc := 13) hΓ fl_X_11 d_X_comes_13 rfl rfl ?_
    refine go_iload_n (q := 1) (i := 1) (pc := 16) hΓ d_X_comes_16 rfl rfl ?_
    refine go_ck (fun h4 => ?_)
    refine go_aald (pc := 17) hΓ d_X_comes_17 h4 ?_
    refine go_callV (index := 249) emV hΓ hR (g_X_findResults N (d + 0) (2 + 3 * tn x1) (isN_in h4)) mi_X_findResults ml_X_249 d_X_comes_18 rfl rfl rfl rfl rfl (fun _ μ6 => ?_)
    show Go Γ 6 21 [(0, .ref 0), (1, .int x1), (2, .int x2)] [] μ6 _
    refine go_iconst (v := -1) (pc := 21) hΓ d_X_comes_21 (by decide) ?_
    refine go_istore_n (i := 3) (lv' := [(3, .int (-1)), (0, .ref 0), (1, .int x1), (2, .int x2)]) (pc := 22) hΓ d_X_comes_22 rfl (by decide) rfl ?_
    refine go_iconst (v := 0) (pc := 23) hΓ d_X_comes_23 (by decide) ?_
    refine go_istore (lv' := [(4, .int 0), (3, .int (-1)), (0, .ref 0), (1, .int x1), (2, .int x2)]) (pc := 24) hΓ d_X_comes_24 (by decide) rfl ?_
    refine go_iconst (v := 1) (pc := 26) hΓ d_X_comes_26 (by decide) ?_
    refine go_aload_n (q := 2) (i := 0) (pc := 27) hΓ d_X_comes_27 rfl rfl ?_
    refine go_getR (q := 1) (pc := 28) hΓ fl_X_11 d_X_comes_28 rfl rfl ?_
    refine go_iload_n (q := 3) (i := 1) (pc := 31) hΓ d_X_comes_31 rfl rfl ?_
    refine go_ck (fun h7 => ?_)
    refine go_aald (pc := 32) hΓ d_X_comes_32 h7 ?_
    refine go_getI (pc := 33) hΓ fl_X_111 d_X_comes_33 (isN_sh (isN_in h7)).1 rfl ?_
    refine go_ishl (pc := 36) hΓ d_X_comes_36 ?_
    refine go_iconst (v := 1) (pc := 37) hΓ d_X_comes_37 (by decide) ?_
    refine go_isub (pc := 38) hΓ d_X_comes_38 ?_
    refine go_letI (fun v8 => ?_)
    refine go_istore (lv' := [(5, .int v8), (4, .int 0), (3, .int (-1)), (0, .ref 0), (1, .int x1), (2, .int x2)]) (pc := 39) hΓ d_X_comes_39 (by decide) rfl ?_
    refine go_sub' (lv' := [(0, .ref 0), (2, .int x2), (3, .int (-1)), (4, .int 0), (5, .int v8)]) rfl ?_
    refine glp_X_comes_41 N d hΓ hT hR x2 _ (fun v15 v16 μ17 => ?_) N (-1) 0 v8 μ6
    refine go_aload_n (q := 0) (i := 0) (pc := 69) hΓ d_X_comes_69 rfl rfl ?_
    refine go_getR (q := 16) (pc := 70) hΓ fl_X_37 d_X_comes_70 rfl rfl ?_
    refine go_callV (index := 108) emV hΓ hR (g_Numbers_clear N (d + 2) ) mi_Numbers_clear ml_X_108 d_X_comes_73 rfl rfl rfl rfl rfl (fun _ μ19 => ?_)
    show Go Γ 6 76 [(0, .ref 0), (3, .int v15), (4, .int v16)] [] μ19 _
    refine go_aload_n (q := 0) (i := 0) (pc := 76) hΓ d_X_comes_76 rfl rfl ?_
    refine go_getR (q := 16) (pc := 77) hΓ fl_X_37 d_X_comes_77 rfl rfl ?_
    refine go_iload_n (q := 1) (i := 3) (pc := 80) hΓ d_X_comes_80 rfl rfl ?_
    refine go_i2l (pc := 81) hΓ d_X_comes_81 ?_
    refine go_callV (index := 118) emV hΓ hR (g_Numbers_append N (d + 2) (Int32.toInt64 v15)) mi_Numbers_append ml_X_118 d_X_comes_82 rfl rfl rfl rfl rfl (fun _ μ21 => ?_)
    show Go Γ 6 85 [(0, .ref 0), (3, .int v15), (4, .int v16)] [] μ21 _
    refine go_iload (q := 2) (pc := 85) hΓ d_X_comes_85 rfl ?_
    exact go_iret (pc := 87) hΓ hT d_X_comes_87
  · refine go_iconst (v := -1) (pc := 9) hΓ d_X_comes_9 (by decide) ?_
    exact go_iret (pc := 10) hΓ hT d_X_comes_10
def lp_X_findReach_12 (N : Nat) (x2 : Int32)  (K : Mem → Option (Unit × Mem)) : Nat → Int32 → Mem → Option (Unit × Mem)
  | 0, _, _ => none
  | n + 1, a3, μ0 => if a3 < x2 then (ck (inb a3 8) (lt' (sI μ0 35 (tn a3) 0) fun μ6 => lt' (a3 + 1) fun v7 => lp_X_findReach_12 N x2 K n v7 μ6)) else (K  μ0)
def lp_X_findReach_50 (N : Nat) (x2 : Int32) (x3 : Int32) (x4 : Int32)  (K : Mem → Option (Unit × Mem)) : Nat → Int32 → Mem → Option (Unit × Mem)
  | 0, _, _ => none
  | n + 1, a5, μ0 => if a5 < x2 then (lt' (fun (μ15 : Mem) => lt' (a5 + 1) fun v16 => lp_X_findReach_50 N x2 x3 x4 K n v16 μ15) fun (k14 : Mem → Option (Unit × Mem)) => if ((shrI x3 a5) &&& 1) = 1 then (ck (inb x4 8) (ck (inb x3 256) (ck (inb (x3 ^^^ (shlI 1 a5)) 256) (ck (inb x4 8) (lt' (sI μ0 35 (tn x4) ((gI μ0 35 (tn x4)) ||| ((gI μ0 33 (tn x3)) ^^^ (gI μ0 33 (tn (x3 ^^^ (shlI 1 a5))))))) fun μ22 => k14 μ22))))) else (k14 μ0)) else (K  μ0)
def lp_X_findReach_32 (N : Nat) (x2 : Int32)  (K : Mem → Option (Unit × Mem)) : Nat → Int32 → Mem → Option (Unit × Mem)
  | 0, _, _ => none
  | n + 1, a3, μ0 => if a3 < (shlI 1 x2) then (bnd (f_JInt_bitCount N a3 μ0) fun r10 μ11 => lt' (x2 - r10) fun v12 => lp_X_findReach_50 N x2 a3 v12 (fun μ23 => lt' (a3 + 1) fun v24 => lp_X_findReach_32 N x2 K n v24 μ23) N 0 μ11) else (K  μ0)
def f_X_findReach (N : Nat) (p1 : Nat) (μ0 : Mem) : Option (Unit × Mem) :=
  lt' (gI μ0 p1 0) fun v1 => bnd (f_X_findResults N p1 μ0) fun _ μ3 => lp_X_findReach_12 N v1 (fun μ8 => lp_X_findReach_32 N v1 (fun μ25 => some ((), μ25)) N 1 μ8) N 0 μ3
set_option maxHeartbeats 4000000 in
set_option maxRecDepth 100000 in
theorem glp_X_findReach_12 (N d : Nat) {Γ : Cx Unit} (hΓ : Ok Γ "SortingNets" c_X_findReach 6) (hT : Rt Γ eV none) (hR : Rm Γ (d + 3)) (x2 : Int32)    (K : Mem → Option (Unit × Mem)) (hK : ∀  (ν : Mem), Go Γ 6 30 [(0, .ref 0), (2, .int x2)] [] ν (K  ν)) : ∀ (n : Nat) (a3 : Int32) (μ0 : Mem), Go Γ 6 12 [(0, .ref 0), (2, .int x2), (3, .int a3)] [] μ0 (lp_X_findReach_12 N x2 K n a3 μ0) := by
  intro n
  induction n with
  | zero => intro a3 μ0; exact go_none
  | succ n ih =>
    intro a3 μ0
    rw [lp_X_findReach_12]
    refine go_iload_n (q := 2) (i := 3) (pc := 12) hΓ d_X_findReach_12 rfl rfl ?_
    refine go_iload_n (q := 1) (i := 2) (pc := 13) hΓ d_X_findReach_13 rfl rfl ?_
    refine go_icmp_ge 30 (pc := 14) hΓ d_X_findReach_14 (by decide) (fun h4 => go_eq (if_neg h4) ?_) (fun h4 => go_eq (if_pos h4) ?_)
    · refine go_sub' (lv' := [(0, .ref 0), (2, .int x2)]) rfl ?_
      exact hK  μ0
    · refine go_aload_n (q := 0) (i := 0) (pc := 17) hΓ d_X_findReach_17 rfl rfl ?_
      refine go_getR (q := 35) (pc := 18) hΓ fl_X_73 d_X_findReach_18 rfl rfl ?_
      refine go_iload_n (q := 2) (i := 3) (pc := 21) hΓ d_X_findReach_21 rfl rfl ?_
      refine go_iconst (v := 0) (pc := 22) hΓ d_X_findReach_22 (by decide) ?_
      refine go_ck (fun h5 => ?_)
      refine go_iast (pc := 23) hΓ d_X_findReach_23 rfl h5 ?_
      refine go_letM (fun μ6 => ?_)
      refine go_incI (q := 2) (i := 3) (n := 1) (c := 1) (pc := 24) hΓ d_X_findReach_24 rfl (by decide) (by decide) (fun v7 => ?_)
      refine go_sub' (lv' := [(3, .int v7), (0, .ref 0), (2, .int x2)]) rfl ?_
      refine go_goto 12 (pc := 27) hΓ d_X_findReach_27 (by decide) ?_
      refine go_sub' (lv' := [(0, .ref 0), (2, .int x2), (3, .int v7)]) rfl ?_
      exact ih v7 μ6
set_option maxHeartbeats 4000000 in
set_option maxRecDepth 100000 in
theorem glp_X_findReach_50 (N d : Nat) {Γ : Cx Unit} (hΓ : Ok Γ "SortingNets" c_X_findReach 6) (hT : Rt Γ eV none) (hR : Rm Γ (d + 3)) (x2 : Int32) (x3 : Int32) (x4 : Int32)    (K : Mem → Option (Unit × Mem)) (hK : ∀  (ν : Mem), Go Γ 6 100 [(0, .ref 0), (2, .int x2), (3, .int x3)] [] ν (K  ν)) : ∀ (n : Nat) (a5 : Int32) (μ0 : Mem), Go Γ 6 50 [(0, .ref 0), (2, .int x2), (3, .int x3), (4, .int x4), (5, .int a5)] [] μ0 (lp_X_findReach_50 N x2 x3 x4 K n a5 μ0) := by
  intro n
  induction n with
  | zero => intro a5 μ0; exact go_none
  | succ n ih =>
    intro a5 μ0
    rw [lp_X_findReach_50]
    refine go_iload (q := 4) (pc := 50) hΓ d_X_findReach_50 rfl ?_
    refine go_iload_n (q := 1) (i := 2) (pc := 52) hΓ d_X_findReach_52 rfl rfl ?_
    refine go_icmp_ge 100 (pc := 53) hΓ d_X_findReach_53 (by decide) (fun h13 => go_eq (if_neg h13) ?_) (fun h13 => go_eq (if_pos h13) ?_)
    · refine go_sub' (lv' := [(0, .ref 0), (2, .int x2), (3, .int x3)]) rfl ?_
      exact hK  μ0
    · refine go_iload_n (q := 2) (i := 3) (pc := 56) hΓ d_X_findReach_56 rfl rfl ?_
      refine go_iload (q := 4) (pc := 57) hΓ d_X_findReach_57 rfl ?_
      refine go_ishr (pc := 59) hΓ d_X_findReach_59 ?_
      refine go_iconst (v := 1) (pc := 60) hΓ d_X_findReach_60 (by decide) ?_
      refine go_iand (pc := 61) hΓ d_X_findReach_61 ?_
      refine go_iconst (v := 1) (pc := 62) hΓ d_X_findReach_62 (by decide) ?_
      refine go_join (fun (k14 : Mem → Option (Unit × Mem)) => ∀ (μ15 : Mem), Go Γ 6 94 [(0, .ref 0), (2, .int x2), (3, .int x3), (4, .int x4), (5, .int a5)] [] μ15 (k14 μ15)) ?_ (fun k14 k14h => ?_)
      · intro μ15
        refine go_incI (q := 4) (i := 5) (n := 1) (c := 1) (pc := 94) hΓ d_X_findReach_94 rfl (by decide) (by decide) (fun v16 => ?_)
        refine go_sub' (lv' := [(5, .int v16), (0, .ref 0), (2, .int x2), (3, .int x3), (4, .int x4)]) rfl ?_
        refine go_goto 50 (pc := 97) hΓ d_X_findReach_97 (by decide) ?_
        refine go_sub' (lv' := [(0, .ref 0), (2, .int x2), (3, .int x3), (4, .int x4), (5, .int v16)]) rfl ?_
        exact ih v16 μ15
      · refine go_icmp_ne 94 (pc := 63) hΓ d_X_findReach_63 (by decide) (fun h17 => go_eq (if_neg h17) ?_) (fun h17 => go_eq (if_pos h17) ?_)
        · refine go_sub' (lv' := [(0, .ref 0), (2, .int x2), (3, .int x3), (4, .int x4), (5, .int a5)]) rfl ?_
          exact k14h μ0
        · refine go_aload_n (q := 0) (i := 0) (pc := 66) hΓ d_X_findReach_66 rfl rfl ?_
          refine go_getR (q := 35) (pc := 67) hΓ fl_X_73 d_X_findReach_67 rfl rfl ?_
          refine go_iload (q := 3) (pc := 70) hΓ d_X_findReach_70 rfl ?_
          refine go_dup2 (pc := 72) hΓ d_X_findReach_72 rfl rfl ?_
          refine go_ck (fun h18 => ?_)
          refine go_iald (pc := 73) hΓ d_X_findReach_73 rfl h18 ?_
          refine go_aload_n (q := 0) (i := 0) (pc := 74) hΓ d_X_findReach_74 rfl rfl ?_
          refine go_getR (q := 33) (pc := 75) hΓ fl_X_65 d_X_findReach_75 rfl rfl ?_
          refine go_iload_n (q := 2) (i := 3) (pc := 78) hΓ d_X_findReach_78 rfl rfl ?_
          refine go_ck (fun h19 => ?_)
          refine go_iald (pc := 79) hΓ d_X_findReach_79 rfl h19 ?_
          refine go_aload_n (q := 0) (i := 0) (pc := 80) hΓ d_X_findReach_80 rfl rfl ?_
          refine go_getR (q := 33) (pc := 81) hΓ fl_X_65 d_X_findReach_81 rfl rfl ?_
          refine go_iload_n (q := 2) (i := 3) (pc := 84) hΓ d_X_findReach_84 rfl rfl ?_
          refine go_iconst (v := 1) (pc := 85) hΓ d_X_findReach_85 (by decide) ?_
          refine go_iload (q := 4) (pc := 86) hΓ d_X_findReach_86 rfl ?_
          refine go_ishl (pc := 88) hΓ d_X_findReach_88 ?_
          refine go_ixor (pc := 89) hΓ d_X_findReach_89 ?_
          refine go_ck (fun h20 => ?_)
          refine go_iald (pc := 90) hΓ d_X_findReach_90 rfl h20 ?_
          refine go_ixor (pc := 91) hΓ d_X_findReach_91 ?_
          refine go_ior (pc := 92) hΓ d_X_findReach_92 ?_
          refine go_ck (fun h21 => ?_)
          refine go_iast (pc := 93) hΓ d_X_findReach_93 rfl h21 ?_
          refine go_letM (fun μ22 => ?_)
          refine go_sub' (lv' := [(0, .ref 0), (2, .int x2), (3, .int x3), (4, .int x4), (5, .int a5)]) rfl ?_
          exact k14h μ22
set_option maxHeartbeats 4000000 in
set_option maxRecDepth 100000 in
theorem glp_X_findReach_32 (N d : Nat) {Γ : Cx Unit} (hΓ : Ok Γ "SortingNets" c_X_findReach 6) (hT : Rt Γ eV none) (hR : Rm Γ (d + 3)) (x2 : Int32)    (K : Mem → Option (Unit × Mem)) (hK : ∀  (ν : Mem), Go Γ 6 106 [] [] ν (K  ν)) : ∀ (n : Nat) (a3 : Int32) (μ0 : Mem), Go Γ 6 32 [(0, .ref 0), (2, .int x2), (3, .int a3)] [] μ0 (lp_X_findReach_32 N x2 K n a3 μ0) := by
  intro n
  induction n with
  | zero => intro a3 μ0; exact go_none
  | succ n ih =>
    intro a3 μ0
    rw [lp_X_findReach_32]
    refine go_iload_n (q := 2) (i := 3) (pc := 32) hΓ d_X_findReach_32 rfl rfl ?_
    refine go_iconst (v := 1) (pc := 33) hΓ d_X_findReach_33 (by decide) ?_
    refine go_iload_n (q := 1) (i := 2) (pc := 34) hΓ d_X_findReach_34 rfl rfl ?_
    refine go_ishl (pc := 35) hΓ d_X_findReach_35 ?_
    refine go_icmp_ge 106 (pc := 36) hΓ d_X_findReach_36 (by decide) (fun h9 => go_eq (if_neg h9) ?_) (fun h9 => go_eq (if_pos h9) ?_)
    · refine go_sub' (lv' := []) rfl ?_
      exact hK  μ0
    · refine go_iload_n (q := 1) (i := 2) (pc := 39) hΓ d_X_findReach_39 rfl rfl ?_
      refine go_iload_n (q := 2) (i := 3) (pc := 40) hΓ d_X_findReach_40 rfl rfl ?_
      refine go_callS (index := 334) emI hΓ hR (g_JInt_bitCount N (d + 2) a3) mi_JInt_bitCount ml_X_334 d_X_findReach_41 rfl rfl rfl (fun r10 μ11 => ?_)
      show Go Γ 6 44 [(0, .ref 0), (2, .int x2), (3, .int a3)] [.int r10, .int x2] μ11 _
      refine go_isub (pc := 44) hΓ d_X_findReach_44 ?_
      refine go_letI (fun v12 => ?_)
      refine go_istore (lv' := [(4, .int v12), (0, .ref 0), (2, .int x2), (3, .int a3)]) (pc := 45) hΓ d_X_findReach_45 (by decide) rfl ?_
      refine go_iconst (v := 0) (pc := 47) hΓ d_X_findReach_47 (by decide) ?_
      refine go_istore (lv' := [(5, .int 0), (4, .int v12), (0, .ref 0), (2, .int x2), (3, .int a3)]) (pc := 48) hΓ d_X_findReach_48 (by decide) rfl ?_
      refine go_sub' (lv' := [(0, .ref 0), (2, .int x2), (3, .int a3), (4, .int v12), (5, .int 0)]) rfl ?_
      refine glp_X_findReach_50 N d hΓ hT hR x2 a3 v12 _ (fun μ23 => ?_) N 0 μ11
      refine go_incI (q := 2) (i := 3) (n := 1) (c := 1) (pc := 100) hΓ d_X_findReach_100 rfl (by decide) (by decide) (fun v24 => ?_)
      refine go_sub' (lv' := [(3, .int v24), (0, .ref 0), (2, .int x2)]) rfl ?_
      refine go_goto 32 (pc := 103) hΓ d_X_findReach_103 (by decide) ?_
      refine go_sub' (lv' := [(0, .ref 0), (2, .int x2), (3, .int v24)]) rfl ?_
      exact ih v24 μ23
set_option maxHeartbeats 4000000 in
set_option maxRecDepth 100000 in
theorem g_X_findReach (N d : Nat) (p1 : Nat) (hp1 : isN p1)  : CallF eV y_X_findReach c_X_findReach 6 none (d + 3 + 1) [.ref 0, .ref p1] (f_X_findReach N p1) := by
  refine call_of (d := d + 3) (n := 1) mi_X_findReach.1 (fun _ => rfl) ?_
  intro Γ μ0 hΓ hT hR
  show Go Γ 6 0 [(0, .ref 0), (1, .ref p1)] [] μ0 (f_X_findReach N p1 μ0)
  unfold f_X_findReach
  refine go_aload_n (q := 1) (i := 1) (pc := 0) hΓ d_X_findReach_0 rfl rfl ?_
  refine go_getI (pc := 1) hΓ fl_X_111 d_X_findReach_1 (isN_sh hp1).1 rfl ?_
  refine go_letI (fun v1 => ?_)
  refine go_istore_n (i := 2) (lv' := [(2, .int v1), (0, .ref 0), (1, .ref p1)]) (pc := 4) hΓ d_X_findReach_4 rfl (by decide) rfl ?_
  refine go_aload_n (q := 1) (i := 0) (pc := 5) hΓ d_X_findReach_5 rfl rfl ?_
  refine go_aload_n (q := 2) (i := 1) (pc := 6) hΓ d_X_findReach_6 rfl rfl ?_
  refine go_callV (index := 249) emV hΓ hR (g_X_findResults N (d + 0) p1 hp1) mi_X_findResults ml_X_249 d_X_findReach_7 rfl rfl rfl rfl rfl (fun _ μ3 => ?_)
  show Go Γ 6 10 [(2, .int v1), (0, .ref 0), (1, .ref p1)] [] μ3 _
  refine go_iconst (v := 0) (pc := 10) hΓ d_X_findReach_10 (by decide) ?_
  refine go_istore_n (i := 3) (lv' := [(3, .int 0), (2, .int v1), (0, .ref 0), (1, .ref p1)]) (pc := 11) hΓ d_X_findReach_11 rfl (by decide) rfl ?_
  refine go_sub' (lv' := [(0, .ref 0), (2, .int v1), (3, .int 0)]) rfl ?_
  refine glp_X_findReach_12 N d hΓ hT hR v1 _ (fun μ8 => ?_) N 0 μ3
  refine go_iconst (v := 1) (pc := 30) hΓ d_X_findReach_30 (by decide) ?_
  refine go_istore_n (i := 3) (lv' := [(3, .int 1), (0, .ref 0), (2, .int v1)]) (pc := 31) hΓ d_X_findReach_31 rfl (by decide) rfl ?_
  refine go_sub' (lv' := [(0, .ref 0), (2, .int v1), (3, .int 1)]) rfl ?_
  refine glp_X_findReach_32 N d hΓ hT hR v1 _ (fun μ25 => ?_) N 1 μ8
  exact go_vret (pc := 106) hΓ hT d_X_findReach_106
def f_X_tellBits (N : Nat) (x1 : Int32) (μ0 : Mem) : Option (Int32 × Mem) :=
  bnd (f_Numbers_clear N  μ0) fun _ μ2 => bnd (f_JInt_bitCount N x1 μ2) fun r3 μ4 => bnd (f_Numbers_append N (Int32.toInt64 r3) μ4) fun _ μ6 => some (x1, μ6)
set_option maxHeartbeats 4000000 in
set_option maxRecDepth 100000 in
theorem g_X_tellBits (N d : Nat) (x1 : Int32)  : CallF eI y_X_tellBits c_X_tellBits 2 (some .int) (d + 1 + 1) [.ref 0, .int x1] (f_X_tellBits N x1) := by
  refine call_of (d := d + 1) (n := 1) mi_X_tellBits.1 (fun _ => rfl) ?_
  intro Γ μ0 hΓ hT hR
  show Go Γ 2 0 [(0, .ref 0), (1, .int x1)] [] μ0 (f_X_tellBits N x1 μ0)
  unfold f_X_tellBits
  refine go_aload_n (q := 0) (i := 0) (pc := 0) hΓ d_X_tellBits_0 rfl rfl ?_
  refine go_getR (q := 16) (pc := 1) hΓ fl_X_37 d_X_tellBits_1 rfl rfl ?_
  refine go_callV (index := 108) emV hΓ hR (g_Numbers_clear N (d + 0) ) mi_Numbers_clear ml_X_108 d_X_tellBits_4 rfl rfl rfl rfl rfl (fun _ μ2 => ?_)
  show Go Γ 2 7 [(0, .ref 0), (1, .int x1)] [] μ2 _
  refine go_aload_n (q := 0) (i := 0) (pc := 7) hΓ d_X_tellBits_7 rfl rfl ?_
  refine go_getR (q := 16) (pc := 8) hΓ fl_X_37 d_X_tellBits_8 rfl rfl ?_
  refine go_iload_n (q := 1) (i := 1) (pc := 11) hΓ d_X_tellBits_11 rfl rfl ?_
  refine go_callS (index := 334) emI hΓ hR (g_JInt_bitCount N (d + 0) x1) mi_JInt_bitCount ml_X_334 d_X_tellBits_12 rfl rfl rfl (fun r3 μ4 => ?_)
  show Go Γ 2 15 [(0, .ref 0), (1, .int x1)] [.int r3, .ref 16] μ4 _
  refine go_i2l (pc := 15) hΓ d_X_tellBits_15 ?_
  refine go_callV (index := 118) emV hΓ hR (g_Numbers_append N (d + 0) (Int32.toInt64 r3)) mi_Numbers_append ml_X_118 d_X_tellBits_16 rfl rfl rfl rfl rfl (fun _ μ6 => ?_)
  show Go Γ 2 19 [(0, .ref 0), (1, .int x1)] [] μ6 _
  refine go_iload_n (q := 1) (i := 1) (pc := 19) hΓ d_X_tellBits_19 rfl rfl ?_
  exact go_iret (pc := 20) hΓ hT d_X_tellBits_20
def f_X_ranks (N : Nat) (x1 : Int32) (x2 : Int32) (μ0 : Mem) : Option (Int32 × Mem) :=
  bnd (f_X_isNet N x1 μ0) fun r1 μ2 => if r1 = 0 then (some ((-1), μ2)) else (ck (inb x1 4) (bnd (f_Net_isWire N (2 + 3 * tn x1) x2 μ2) fun r5 μ6 => if r5 = 0 then (some ((-1), μ6)) else (ck (inb x1 4) (bnd (f_X_findReach N (2 + 3 * tn x1) μ6) fun _ μ10 => ck (inb x2 8) (bnd (f_X_tellBits N (gI μ10 35 (tn x2)) μ10) fun r12 μ13 => some (r12, μ13))))))
set_option maxHeartbeats 4000000 in
set_option maxRecDepth 100000 in
theorem g_X_ranks (N d : Nat) (x1 : Int32) (x2 : Int32)  : CallF eI y_X_ranks c_X_ranks 3 (some .int) (d + 4 + 1) [.ref 0, .int x1, .int x2] (f_X_ranks N x1 x2) := by
  refine call_of (d := d + 4) (n := 2) mi_X_ranks.1 (fun _ => rfl) ?_
  intro Γ μ0 hΓ hT hR
  show Go Γ 3 0 [(0, .ref 0), (1, .int x1), (2, .int x2)] [] μ0 (f_X_ranks N x1 x2 μ0)
  unfold f_X_ranks
  refine go_iload_n (q := 1) (i := 1) (pc := 0) hΓ d_X_ranks_0 rfl rfl ?_
  refine go_callS (index := 101) emI hΓ hR (g_X_isNet N (d + 3) x1) mi_X_isNet ml_X_101 d_X_ranks_1 rfl rfl rfl (fun r1 μ2 => ?_)
  show Go Γ 3 4 [(0, .ref 0), (1, .int x1), (2, .int x2)] [.int r1] μ2 _
  refine go_if_eq 20 (pc := 4) hΓ d_X_ranks_4 (by decide) (fun h3 => go_eq (if_pos h3) ?_) (fun h3 => go_eq (if_neg h3) ?_)
  · refine go_iconst (v := -1) (pc := 20) hΓ d_X_ranks_20 (by decide) ?_
    exact go_iret (pc := 21) hΓ hT d_X_ranks_21
  · refine go_aload_n (q := 0) (i := 0) (pc := 7) hΓ d_X_ranks_7 rfl rfl ?_
    refine go_getR (q := 1) (pc := 8) hΓ fl_X_11 d_X_ranks_8 rfl rfl ?_
    refine go_iload_n (q := 1) (i := 1) (pc := 11) hΓ d_X_ranks_11 rfl rfl ?_
    refine go_ck (fun h4 => ?_)
    refine go_aald (pc := 12) hΓ d_X_ranks_12 h4 ?_
    refine go_iload_n (q := 2) (i := 2) (pc := 13) hΓ d_X_ranks_13 rfl rfl ?_
    refine go_callV (index := 163) emI hΓ hR (g_Net_isWire N (d + 3) (2 + 3 * tn x1) (isN_in h4) x2) mi_Net_isWire ml_X_163 d_X_ranks_14 rfl (isN_sh (isN_in h4)).1 rfl rfl rfl (fun r5 μ6 => ?_)
    show Go Γ 3 17 [(0, .ref 0), (1, .int x1), (2, .int x2)] [.int r5] μ6 _
    refine go_if_ne 22 (pc := 17) hΓ d_X_ranks_17 (by decide) (fun h7 => go_eq (if_neg h7) ?_) (fun h7 => go_eq (if_pos h7) ?_)
    · refine go_aload_n (q := 0) (i := 0) (pc := 22) hΓ d_X_ranks_22 rfl rfl ?_
      refine go_aload_n (q := 0) (i := 0) (pc := 23) hΓ d_X_ranks_23 rfl rfl ?_
      refine go_getR (q := 1) (pc := 24) hΓ fl_X_11 d_X_ranks_24 rfl rfl ?_
      refine go_iload_n (q := 1) (i := 1) (pc := 27) hΓ d_X_ranks_27 rfl rfl ?_
      refine go_ck (fun h8 => ?_)
      refine go_aald (pc := 28) hΓ d_X_ranks_28 h8 ?_
      refine go_callV (index := 252) emV hΓ hR (g_X_findReach N (d + 0) (2 + 3 * tn x1) (isN_in h8)) mi_X_findReach ml_X_252 d_X_ranks_29 rfl rfl rfl rfl rfl (fun _ μ10 => ?_)
      show Go Γ 3 32 [(0, .ref 0), (1, .int x1), (2, .int x2)] [] μ10 _
      refine go_aload_n (q := 0) (i := 0) (pc := 32) hΓ d_X_ranks_32 rfl rfl ?_
      refine go_aload_n (q := 0) (i := 0) (pc := 33) hΓ d_X_ranks_33 rfl rfl ?_
      refine go_getR (q := 35) (pc := 34) hΓ fl_X_73 d_X_ranks_34 rfl rfl ?_
      refine go_iload_n (q := 2) (i := 2) (pc := 37) hΓ d_X_ranks_37 rfl rfl ?_
      refine go_ck (fun h11 => ?_)
      refine go_iald (pc := 38) hΓ d_X_ranks_38 rfl h11 ?_
      refine go_callV (index := 255) emI hΓ hR (g_X_tellBits N (d + 2) (gI μ10 35 (tn x2))) mi_X_tellBits ml_X_255 d_X_ranks_39 rfl rfl rfl rfl rfl (fun r12 μ13 => ?_)
      show Go Γ 3 42 [(0, .ref 0), (1, .int x1), (2, .int x2)] [.int r12] μ13 _
      exact go_iret (pc := 42) hΓ hT d_X_ranks_42
    · refine go_iconst (v := -1) (pc := 20) hΓ d_X_ranks_20 (by decide) ?_
      exact go_iret (pc := 21) hΓ hT d_X_ranks_21
def lp_X_leaves_37 (N : Nat) (x1 : Int32) (x2 : Int32)  (K : Int32 → Mem → Option (Int32 × Mem)) : Nat → Int32 → Int32 → Mem → Option (Int32 × Mem)
  | 0, _, _, _ => none
  | n + 1, a3, a4, μ0 => ck (inb x1 4) (if a4 < (gI μ0 (2 + 3 * tn x1) 0) then (ck (inb a4 8) (lt' (a3 ||| (shlI ((shrI (gI μ0 35 (tn a4)) x2) &&& 1) a4)) fun v14 => lt' (a4 + 1) fun v15 => lp_X_leaves_37 N x1 x2 K n v14 v15 μ0)) else (K a3 μ0))
def f_X_leaves (N : Nat) (x1 : Int32) (x2 : Int32) (μ0 : Mem) : Option (Int32 × Mem) :=
  bnd (f_X_isNet N x1 μ0) fun r1 μ2 => if r1 = 0 then (some ((-1), μ2)) else (ck (inb x1 4) (bnd (f_Net_isWire N (2 + 3 * tn x1) x2 μ2) fun r5 μ6 => if r5 = 0 then (some ((-1), μ6)) else (ck (inb x1 4) (bnd (f_X_findReach N (2 + 3 * tn x1) μ6) fun _ μ10 => lp_X_leaves_37 N x1 x2 (fun v16 μ17 => bnd (f_X_tellBits N v16 μ17) fun r18 μ19 => some (r18, μ19)) N 0 0 μ10))))
set_option maxHeartbeats 4000000 in
set_option maxRecDepth 100000 in
theorem glp_X_leaves_37 (N d : Nat) {Γ : Cx Int32} (hΓ : Ok Γ "SortingNets" c_X_leaves 5) (hT : Rt Γ eI (some .int)) (hR : Rm Γ (d + 4)) (x1 : Int32) (x2 : Int32)    (K : Int32 → Mem → Option (Int32 × Mem)) (hK : ∀ (b3 : Int32) (ν : Mem), Go Γ 5 74 [(0, .ref 0), (3, .int b3)] [] ν (K b3 ν)) : ∀ (n : Nat) (a3 : Int32) (a4 : Int32) (μ0 : Mem), Go Γ 5 37 [(0, .ref 0), (1, .int x1), (2, .int x2), (3, .int a3), (4, .int a4)] [] μ0 (lp_X_leaves_37 N x1 x2 K n a3 a4 μ0) := by
  intro n
  induction n with
  | zero => intro a3 a4 μ0; exact go_none
  | succ n ih =>
    intro a3 a4 μ0
    rw [lp_X_leaves_37]
    refine go_iload (q := 4) (pc := 37) hΓ d_X_leaves_37 rfl ?_
    refine go_aload_n (q := 0) (i := 0) (pc := 39) hΓ d_X_leaves_39 rfl rfl ?_
    refine go_getR (q := 1) (pc := 40) hΓ fl_X_11 d_X_leaves_40 rfl rfl ?_
    refine go_iload_n (q := 1) (i := 1) (pc := 43) hΓ d_X_leaves_43 rfl rfl ?_
    refine go_ck (fun h11 => ?_)
    refine go_aald (pc := 44) hΓ d_X_leaves_44 h11 ?_
    refine go_getI (pc := 45) hΓ fl_X_111 d_X_leaves_45 (isN_sh (isN_in h11)).1 rfl ?_
    refine go_icmp_ge 74 (pc := 48) hΓ d_X_leaves_48 (by decide) (fun h12 => go_eq (if_neg h12) ?_) (fun h12 => go_eq (if_pos h12) ?_)
    · refine go_sub' (lv' := [(0, .ref 0), (3, .int a3)]) rfl ?_
      exact hK a3 μ0
    · refine go_iload_n (q := 3) (i := 3) (pc := 51) hΓ d_X_leaves_51 rfl rfl ?_
      refine go_aload_n (q := 0) (i := 0) (pc := 52) hΓ d_X_leaves_52 rfl rfl ?_
      refine go_getR (q := 35) (pc := 53) hΓ fl_X_73 d_X_leaves_53 rfl rfl ?_
      refine go_iload (q := 4) (pc := 56) hΓ d_X_leaves_56 rfl ?_
      refine go_ck (fun h13 => ?_)
      refine go_iald (pc := 58) hΓ d_X_leaves_58 rfl h13 ?_
      refine go_iload_n (q := 2) (i := 2) (pc := 59) hΓ d_X_leaves_59 rfl rfl ?_
      refine go_ishr (pc := 60) hΓ d_X_leaves_60 ?_
      refine go_iconst (v := 1) (pc := 61) hΓ d_X_leaves_61 (by decide) ?_
      refine go_iand (pc := 62) hΓ d_X_leaves_62 ?_
      refine go_iload (q := 4) (pc := 63) hΓ d_X_leaves_63 rfl ?_
      refine go_ishl (pc := 65) hΓ d_X_leaves_65 ?_
      refine go_ior (pc := 66) hΓ d_X_leaves_66 ?_
      refine go_letI (fun v14 => ?_)
      refine go_istore_n (i := 3) (lv' := [(3, .int v14), (0, .ref 0), (1, .int x1), (2, .int x2), (4, .int a4)]) (pc := 67) hΓ d_X_leaves_67 rfl (by decide) rfl ?_
      refine go_incI (q := 4) (i := 4) (n := 1) (c := 1) (pc := 68) hΓ d_X_leaves_68 rfl (by decide) (by decide) (fun v15 => ?_)
      refine go_sub' (lv' := [(4, .int v15), (3, .int v14), (0, .ref 0), (1, .int x1), (2, .int x2)]) rfl ?_
      refine go_goto 37 (pc := 71) hΓ d_X_leaves_71 (by decide) ?_
      refine go_sub' (lv' := [(0, .ref 0), (1, .int x1), (2, .int x2), (3, .int v14), (4, .int v15)]) rfl ?_
      exact ih v14 v15 μ0
set_option maxHeartbeats 4000000 in
set_option maxRecDepth 100000 in
theorem g_X_leaves (N d : Nat) (x1 : Int32) (x2 : Int32)  : CallF eI y_X_leaves c_X_leaves 5 (some .int) (d + 4 + 1) [.ref 0, .int x1, .int x2] (f_X_leaves N x1 x2) := by
  refine call_of (d := d + 4) (n := 2) mi_X_leaves.1 (fun _ => rfl) ?_
  intro Γ μ0 hΓ hT hR
  show Go Γ 5 0 [(0, .ref 0), (1, .int x1), (2, .int x2)] [] μ0 (f_X_leaves N x1 x2 μ0)
  unfold f_X_leaves
  refine go_iload_n (q := 1) (i := 1) (pc := 0) hΓ d_X_leaves_0 rfl rfl ?_
  refine go_callS (index := 101) emI hΓ hR (g_X_isNet N (d + 3) x1) mi_X_isNet ml_X_101 d_X_leaves_1 rfl rfl rfl (fun r1 μ2 => ?_)
  show Go Γ 5 4 [(0, .ref 0), (1, .int x1), (2, .int x2)] [.int r1] μ2 _
  refine go_if_eq 20 (pc := 4) hΓ d_X_leaves_4 (by decide) (fun h3 => go_eq (if_pos h3) ?_) (fun h3 => go_eq (if_neg h3) ?_)
  · refine go_iconst (v := -1) (pc := 20) hΓ d_X_leaves_20 (by decide) ?_
    exact go_iret (pc := 21) hΓ hT d_X_leaves_21
  · refine go_aload_n (q := 0) (i := 0) (pc := 7) hΓ d_X_leaves_7 rfl rfl ?_
    refine go_getR (q := 1) (pc := 8) hΓ fl_X_11 d_X_leaves_8 rfl rfl ?_
    refine go_iload_n (q := 1) (i := 1) (pc := 11) hΓ d_X_leaves_11 rfl rfl ?_
    refine go_ck (fun h4 => ?_)
    refine go_aald (pc := 12) hΓ d_X_leaves_12 h4 ?_
    refine go_iload_n (q := 2) (i := 2) (pc := 13) hΓ d_X_leaves_13 rfl rfl ?_
    refine go_callV (index := 163) emI hΓ hR (g_Net_isWire N (d + 3) (2 + 3 * tn x1) (isN_in h4) x2) mi_Net_isWire ml_X_163 d_X_leaves_14 rfl (isN_sh (isN_in h4)).1 rfl rfl rfl (fun r5 μ6 => ?_)
    show Go Γ 5 17 [(0, .ref 0), (1, .int x1), (2, .int x2)] [.int r5] μ6 _
    refine go_if_ne 22 (pc := 17) hΓ d_X_leaves_17 (by decide) (fun h7 => go_eq (if_neg h7) ?_) (fun h7 => go_eq (if_pos h7) ?_)
    · refine go_aload_n (q := 0) (i := 0) (pc := 22) hΓ d_X_leaves_22 rfl rfl ?_
      refine go_aload_n (q := 0) (i := 0) (pc := 23) hΓ d_X_leaves_23 rfl rfl ?_
      refine go_getR (q := 1) (pc := 24) hΓ fl_X_11 d_X_leaves_24 rfl rfl ?_
      refine go_iload_n (q := 1) (i := 1) (pc := 27) hΓ d_X_leaves_27 rfl rfl ?_
      refine go_ck (fun h8 => ?_)
      refine go_aald (pc := 28) hΓ d_X_leaves_28 h8 ?_
      refine go_callV (index := 252) emV hΓ hR (g_X_findReach N (d + 0) (2 + 3 * tn x1) (isN_in h8)) mi_X_findReach ml_X_252 d_X_leaves_29 rfl rfl rfl rfl rfl (fun _ μ10 => ?_)
      show Go Γ 5 32 [(0, .ref 0), (1, .int x1), (2, .int x2)] [] μ10 _
      refine go_iconst (v := 0) (pc := 32) hΓ d_X_leaves_32 (by decide) ?_
      refine go_istore_n (i := 3) (lv' := [(3, .int 0), (0, .ref 0), (1, .int x1), (2, .int x2)]) (pc := 33) hΓ d_X_leaves_33 rfl (by decide) rfl ?_
      refine go_iconst (v := 0) (pc := 34) hΓ d_X_leaves_34 (by decide) ?_
      refine go_istore (lv' := [(4, .int 0), (3, .int 0), (0, .ref 0), (1, .int x1), (2, .int x2)]) (pc := 35) hΓ d_X_leaves_35 (by decide) rfl ?_
      refine go_sub' (lv' := [(0, .ref 0), (1, .int x1), (2, .int x2), (3, .int 0), (4, .int 0)]) rfl ?_
      refine glp_X_leaves_37 N d hΓ hT hR x1 x2 _ (fun v16 μ17 => ?_) N 0 0 μ10
      refine go_aload_n (q := 0) (i := 0) (pc := 74) hΓ d_X_leaves_74 rfl rfl ?_
      refine go_iload_n (q := 1) (i := 3) (pc := 75) hΓ d_X_leaves_75 rfl rfl ?_
      refine go_callV (index := 255) emI hΓ hR (g_X_tellBits N (d + 2) v16) mi_X_tellBits ml_X_255 d_X_leaves_76 rfl rfl rfl rfl rfl (fun r18 μ19 => ?_)
      show Go Γ 5 79 [(0, .ref 0), (3, .int v16)] [.int r18] μ19 _
      exact go_iret (pc := 79) hΓ hT d_X_leaves_79
    · refine go_iconst (v := -1) (pc := 20) hΓ d_X_leaves_20 (by decide) ?_
      exact go_iret (pc := 21) hΓ hT d_X_leaves_21
def lp_X_leavesUnsorted_2 (N : Nat) (x1 : Int32)  (K : Mem → Option (Int32 × Mem)) : Nat → Int32 → Mem → Option (Int32 × Mem)
  | 0, _, _ => none
  | n + 1, a2, μ0 => if a2 < x1 then (ck (inb a2 8) (ck (inb (gI μ0 35 (tn a2)) 8) (lt' (sI μ0 36 (tn (gI μ0 35 (tn a2))) a2) fun μ4 => lt' (a2 + 1) fun v5 => lp_X_leavesUnsorted_2 N x1 K n v5 μ4))) else (K  μ0)
def lp_X_leavesUnsorted_31 (N : Nat)   (K : Mem → Option (Int32 × Mem)) : Nat → Int32 → Int32 → Mem → Option (Int32 × Mem)
  | 0, _, _, _ => none
  | n + 1, a2, a3, μ0 => if 0 < a3 then (ck (inb a3 8) (lt' (a2 ||| (shlI 1 (gI μ0 36 (tn a3)))) fun v10 => bnd (f_PatternSet_holds N v10 μ0) fun r11 μ12 => if r11 = 0 then (lt' (a3 + (-1)) fun v14 => lp_X_leavesUnsorted_31 N K n v10 v14 μ12) else (some (1, μ12)))) else (K  μ0)
def f_X_leavesUnsorted (N : Nat) (x1 : Int32) (μ0 : Mem) : Option (Int32 × Mem) :=
  lp_X_leavesUnsorted_2 N x1 (fun μ6 => lt' (x1 - 1) fun v7 => lp_X_leavesUnsorted_31 N  (fun μ15 => some (0, μ15)) N 0 v7 μ6) N 0 μ0
set_option maxHeartbeats 4000000 in
set_option maxRecDepth 100000 in
theorem glp_X_leavesUnsorted_2 (N d : Nat) {Γ : Cx Int32} (hΓ : Ok Γ "SortingNets" c_X_leavesUnsorted 4) (hT : Rt Γ eI (some .boolean)) (hR : Rm Γ (d + 1)) (x1 : Int32)    (K : Mem → Option (Int32 × Mem)) (hK : ∀  (ν : Mem), Go Γ 4 25 [(0, .ref 0), (1, .int x1)] [] ν (K  ν)) : ∀ (n : Nat) (a2 : Int32) (μ0 : Mem), Go Γ 4 2 [(0, .ref 0), (1, .int x1), (2, .int a2)] [] μ0 (lp_X_leavesUnsorted_2 N x1 K n a2 μ0) := by
  intro n
  induction n with
  | zero => intro a2 μ0; exact go_none
  | succ n ih =>
    intro a2 μ0
    rw [lp_X_leavesUnsorted_2]
    refine go_iload_n (q := 2) (i := 2) (pc := 2) hΓ d_X_leavesUnsorted_2 rfl rfl ?_
    refine go_iload_n (q := 1) (i := 1) (pc := 3) hΓ d_X_leavesUnsorted_3 rfl rfl ?_
    refine go_icmp_ge 25 (pc := 4) hΓ d_X_leavesUnsorted_4 (by decide) (fun h1 => go_eq (if_neg h1) ?_) (fun h1 => go_eq (if_pos h1) ?_)
    · refine go_sub' (lv' := [(0, .ref 0), (1, .int x1)]) rfl ?_
      exact hK  μ0
    · refine go_aload_n (q := 0) (i := 0) (pc := 7) hΓ d_X_leavesUnsorted_7 rfl rfl ?_
      refine go_getR (q := 36) (pc := 8) hΓ fl_X_76 d_X_leavesUnsorted_8 rfl rfl ?_
      refine go_aload_n (q := 0) (i := 0) (pc := 11) hΓ d_X_leavesUnsorted_11 rfl rfl ?_
      refine go_getR (q := 35) (pc := 12) hΓ fl_X_73 d_X_leavesUnsorted_12 rfl rfl ?_
      refine go_iload_n (q := 2) (i := 2) (pc := 15) hΓ d_X_leavesUnsorted_15 rfl rfl ?_
      refine go_ck (fun h2 => ?_)
      refine go_iald (pc := 16) hΓ d_X_leavesUnsorted_16 rfl h2 ?_
      refine go_iload_n (q := 2) (i := 2) (pc := 17) hΓ d_X_leavesUnsorted_17 rfl rfl ?_
      refine go_ck (fun h3 => ?_)
      refine go_iast (pc := 18) hΓ d_X_leavesUnsorted_18 rfl h3 ?_
      refine go_letM (fun μ4 => ?_)
      refine go_incI (q := 2) (i := 2) (n := 1) (c := 1) (pc := 19) hΓ d_X_leavesUnsorted_19 rfl (by decide) (by decide) (fun v5 => ?_)
      refine go_sub' (lv' := [(2, .int v5), (0, .ref 0), (1, .int x1)]) rfl ?_
      refine go_goto 2 (pc := 22) hΓ d_X_leavesUnsorted_22 (by decide) ?_
      refine go_sub' (lv' := [(0, .ref 0), (1, .int x1), (2, .int v5)]) rfl ?_
      exact ih v5 μ4
set_option maxHeartbeats 4000000 in
set_option maxRecDepth 100000 in
theorem glp_X_leavesUnsorted_31 (N d : Nat) {Γ : Cx Int32} (hΓ : Ok Γ "SortingNets" c_X_leavesUnsorted 4) (hT : Rt Γ eI (some .boolean)) (hR : Rm Γ (d + 1))     (K : Mem → Option (Int32 × Mem)) (hK : ∀  (ν : Mem), Go Γ 4 65 [] [] ν (K  ν)) : ∀ (n : Nat) (a2 : Int32) (a3 : Int32) (μ0 : Mem), Go Γ 4 31 [(0, .ref 0), (2, .int a2), (3, .int a3)] [] μ0 (lp_X_leavesUnsorted_31 N K n a2 a3 μ0) := by
  intro n
  induction n with
  | zero => intro a2 a3 μ0; exact go_none
  | succ n ih =>
    intro a2 a3 μ0
    rw [lp_X_leavesUnsorted_31]
    refine go_iload_n (q := 2) (i := 3) (pc := 31) hΓ d_X_leavesUnsorted_31 rfl rfl ?_
    refine go_if_le 65 (pc := 32) hΓ d_X_leavesUnsorted_32 (by decide) (fun h8 => go_eq (if_neg h8) ?_) (fun h8 => go_eq (if_pos h8) ?_)
    · refine go_sub' (lv' := []) rfl ?_
      exact hK  μ0
    · refine go_iload_n (q := 1) (i := 2) (pc := 35) hΓ d_X_leavesUnsorted_35 rfl rfl ?_
      refine go_iconst (v := 1) (pc := 36) hΓ d_X_leavesUnsorted_36 (by decide) ?_
      refine go_aload_n (q := 0) (i := 0) (pc := 37) hΓ d_X_leavesUnsorted_37 rfl rfl ?_
      refine go_getR (q := 36) (pc := 38) hΓ fl_X_76 d_X_leavesUnsorted_38 rfl rfl ?_
      refine go_iload_n (q := 2) (i := 3) (pc := 41) hΓ d_X_leavesUnsorted_41 rfl rfl ?_
      refine go_ck (fun h9 => ?_)
      refine go_iald (pc := 42) hΓ d_X_leavesUnsorted_42 rfl h9 ?_
      refine go_ishl (pc := 43) hΓ d_X_leavesUnsorted_43 ?_
      refine go_ior (pc := 44) hΓ d_X_leavesUnsorted_44 ?_
      refine go_letI (fun v10 => ?_)
      refine go_istore_n (i := 2) (lv' := [(2, .int v10), (0, .ref 0), (3, .int a3)]) (pc := 45) hΓ d_X_leavesUnsorted_45 rfl (by decide) rfl ?_
      refine go_aload_n (q := 1) (i := 0) (pc := 46) hΓ d_X_leavesUnsorted_46 rfl rfl ?_
      refine go_getR (q := 31) (pc := 47) hΓ fl_X_61 d_X_leavesUnsorted_47 rfl rfl ?_
      refine go_iload_n (q := 0) (i := 2) (pc := 50) hΓ d_X_leavesUnsorted_50 rfl rfl ?_
      refine go_callV (index := 246) emI hΓ hR (g_PatternSet_holds N (d + 0) v10) mi_PatternSet_holds ml_X_246 d_X_leavesUnsorted_51 rfl rfl rfl rfl rfl (fun r11 μ12 => ?_)
      show Go Γ 4 54 [(2, .int v10), (0, .ref 0), (3, .int a3)] [.int r11] μ12 _
      refine go_if_eq 59 (pc := 54) hΓ d_X_leavesUnsorted_54 (by decide) (fun h13 => go_eq (if_pos h13) ?_) (fun h13 => go_eq (if_neg h13) ?_)
      · refine go_incI (q := 2) (i := 3) (n := -1) (c := -1) (pc := 59) hΓ d_X_leavesUnsorted_59 rfl (by decide) (by decide) (fun v14 => ?_)
        refine go_sub' (lv' := [(3, .int v14), (2, .int v10), (0, .ref 0)]) rfl ?_
        refine go_goto 31 (pc := 62) hΓ d_X_leavesUnsorted_62 (by decide) ?_
        refine go_sub' (lv' := [(0, .ref 0), (2, .int v10), (3, .int v14)]) rfl ?_
        exact ih v10 v14 μ12
      · refine go_iconst (v := 1) (pc := 57) hΓ d_X_leavesUnsorted_57 (by decide) ?_
        exact go_zret (pc := 58) hΓ hT d_X_leavesUnsorted_58 rfl
set_option maxHeartbeats 4000000 in
set_option maxRecDepth 100000 in
theorem g_X_leavesUnsorted (N d : Nat) (x1 : Int32)  : CallF eI y_X_leavesUnsorted c_X_leavesUnsorted 4 (some .boolean) (d + 1 + 1) [.ref 0, .int x1] (f_X_leavesUnsorted N x1) := by
  refine call_of (d := d + 1) (n := 1) mi_X_leavesUnsorted.1 (fun _ => rfl) ?_
  intro Γ μ0 hΓ hT hR
  show Go Γ 4 0 [(0, .ref 0), (1, .int x1)] [] μ0 (f_X_leavesUnsorted N x1 μ0)
  unfold f_X_leavesUnsorted
  refine go_iconst (v := 0) (pc := 0) hΓ d_X_leavesUnsorted_0 (by decide) ?_
  refine go_istore_n (i := 2) (lv' := [(2, .int 0), (0, .ref 0), (1, .int x1)]) (pc := 1) hΓ d_X_leavesUnsorted_1 rfl (by decide) rfl ?_
  refine go_sub' (lv' := [(0, .ref 0), (1, .int x1), (2, .int 0)]) rfl ?_
  refine glp_X_leavesUnsorted_2 N d hΓ hT hR x1 _ (fun μ6 => ?_) N 0 μ0
  refine go_iconst (v := 0) (pc := 25) hΓ d_X_leavesUnsorted_25 (by decide) ?_
  refine go_istore_n (i := 2) (lv' := [(2, .int 0), (0, .ref 0), (1, .int x1)]) (pc := 26) hΓ d_X_leavesUnsorted_26 rfl (by decide) rfl ?_
  refine go_iload_n (q := 2) (i := 1) (pc := 27) hΓ d_X_leavesUnsorted_27 rfl rfl ?_
  refine go_iconst (v := 1) (pc := 28) hΓ d_X_leavesUnsorted_28 (by decide) ?_
  refine go_isub (pc := 29) hΓ d_X_leavesUnsorted_29 ?_
  refine go_letI (fun v7 => ?_)
  refine go_istore_n (i := 3) (lv' := [(3, .int v7), (2, .int 0), (0, .ref 0), (1, .int x1)]) (pc := 30) hΓ d_X_leavesUnsorted_30 rfl (by decide) rfl ?_
  refine go_sub' (lv' := [(0, .ref 0), (2, .int 0), (3, .int v7)]) rfl ?_
  refine glp_X_leavesUnsorted_31 N d hΓ hT hR  _ (fun μ15 => ?_) N 0 v7 μ6
  refine go_iconst (v := 0) (pc := 65) hΓ d_X_leavesUnsorted_65 (by decide) ?_
  exact go_zret (pc := 66) hΓ hT d_X_leavesUnsorted_66 rfl
def f_X_exchangeValues (N : Nat) (x1 : Int32) (x2 : Int32) (μ0 : Mem) : Option (Unit × Mem) :=
  ck (inb x1 8) (lt' (gI μ0 35 (tn x1)) fun v2 => ck (inb x2 8) (ck (inb x1 8) (lt' (sI μ0 35 (tn x1) (gI μ0 35 (tn x2))) fun μ5 => ck (inb x2 8) (lt' (sI μ5 35 (tn x2) v2) fun μ7 => some ((), μ7)))))
set_option maxHeartbeats 4000000 in
set_option maxRecDepth 100000 in
theorem g_X_exchangeValues (N d : Nat) (x1 : Int32) (x2 : Int32)  : CallF eV y_X_exchangeValues c_X_exchangeValues 4 none (d + 0 + 1) [.ref 0, .int x1, .int x2] (f_X_exchangeValues N x1 x2) := by
  refine call_of (d := d + 0) (n := 2) mi_X_exchangeValues.1 (fun _ => rfl) ?_
  intro Γ μ0 hΓ hT hR
  show Go Γ 4 0 [(0, .ref 0), (1, .int x1), (2, .int x2)] [] μ0 (f_X_exchangeValues N x1 x2 μ0)
  unfold f_X_exchangeValues
  refine go_aload_n (q := 0) (i := 0) (pc := 0) hΓ d_X_exchangeValues_0 rfl rfl ?_
  refine go_getR (q := 35) (pc := 1) hΓ fl_X_73 d_X_exchangeValues_1 rfl rfl ?_
  refine go_iload_n (q := 1) (i := 1) (pc := 4) hΓ d_X_exchangeValues_4 rfl rfl ?_
  refine go_ck (fun h1 => ?_)
  refine go_iald (pc := 5) hΓ d_X_exchangeValues_5 rfl h1 ?_
  refine go_letI (fun v2 => ?_)
  refine go_istore_n (i := 3) (lv' := [(3, .int v2), (0, .ref 0), (1, .int x1), (2, .int x2)]) (pc := 6) hΓ d_X_exchangeValues_6 rfl (by decide) rfl ?_
  refine go_aload_n (q := 1) (i := 0) (pc := 7) hΓ d_X_exchangeValues_7 rfl rfl ?_
  refine go_getR (q := 35) (pc := 8) hΓ fl_X_73 d_X_exchangeValues_8 rfl rfl ?_
  refine go_iload_n (q := 2) (i := 1) (pc := 11) hΓ d_X_exchangeValues_11 rfl rfl ?_
  refine go_aload_n (q := 1) (i := 0) (pc := 12) hΓ d_X_exchangeValues_12 rfl rfl ?_
  refine go_getR (q := 35) (pc := 13) hΓ fl_X_73 d_X_exchangeValues_13 rfl rfl ?_
  refine go_iload_n (q := 3) (i := 2) (pc := 16) hΓ d_X_exchangeValues_16 rfl rfl ?_
  refine go_ck (fun h3 => ?_)
  refine go_iald (pc := 17) hΓ d_X_exchangeValues_17 rfl h3 ?_
  refine go_ck (fun h4 => ?_)
  refine go_iast (pc := 18) hΓ d_X_exchangeValues_18 rfl h4 ?_
  refine go_letM (fun μ5 => ?_)
  refine go_aload_n (q := 1) (i := 0) (pc := 19) hΓ d_X_exchangeValues_19 rfl rfl ?_
  refine go_getR (q := 35) (pc := 20) hΓ fl_X_73 d_X_exchangeValues_20 rfl rfl ?_
  refine go_iload_n (q := 3) (i := 2) (pc := 23) hΓ d_X_exchangeValues_23 rfl rfl ?_
  refine go_iload_n (q := 0) (i := 3) (pc := 24) hΓ d_X_exchangeValues_24 rfl rfl ?_
  refine go_ck (fun h6 => ?_)
  refine go_iast (pc := 25) hΓ d_X_exchangeValues_25 rfl h6 ?_
  refine go_letM (fun μ7 => ?_)
  exact go_vret (pc := 26) hΓ hT d_X_exchangeValues_26
def lp_X_nextOrder_4 (N : Nat) (x1 : Int32)  (K : Int32 → Mem → Option (Int32 × Mem)) : Nat → Int32 → Mem → Option (Int32 × Mem)
  | 0, _, _ => none
  | n + 1, a2, μ0 => if a2 < 0 then (K a2 μ0) else (ck (inb a2 8) (ck (inb (a2 + 1) 8) (if (gI μ0 35 (tn (a2 + 1))) < (gI μ0 35 (tn a2)) then (lt' (a2 + (-1)) fun v6 => lp_X_nextOrder_4 N x1 K n v6 μ0) else (K a2 μ0))))
def lp_X_nextOrder_41 (N : Nat) (x1 : Int32) (x2 : Int32)  (K : Int32 → Mem → Option (Int32 × Mem)) : Nat → Int32 → Mem → Option (Int32 × Mem)
  | 0, _, _ => none
  | n + 1, a3, μ0 => if (x2 + 1) < a3 then (ck (inb a3 8) (ck (inb x2 8) (if (gI μ0 35 (tn a3)) < (gI μ0 35 (tn x2)) then (lt' (a3 + (-1)) fun v15 => lp_X_nextOrder_41 N x1 x2 K n v15 μ0) else (K a3 μ0)))) else (K a3 μ0)
def lp_X_nextOrder_85 (N : Nat)   (K : Mem → Option (Int32 × Mem)) : Nat → Int32 → Int32 → Mem → Option (Int32 × Mem)
  | 0, _, _, _ => none
  | n + 1, a4, a5, μ0 => if a4 < a5 then (bnd (f_X_exchangeValues N a4 a5 μ0) fun _ μ24 => lt' (a4 + 1) fun v25 => lt' (a5 + (-1)) fun v26 => lp_X_nextOrder_85 N K n v25 v26 μ24) else (K  μ0)
def f_X_nextOrder (N : Nat) (x1 : Int32) (μ0 : Mem) : Option (Int32 × Mem) :=
  lt' (x1 - 2) fun v1 => lp_X_nextOrder_4 N x1 (fun v7 μ8 => if v7 < 0 then (some (0, μ8)) else (lt' (x1 - 1) fun v10 => lp_X_nextOrder_41 N x1 v7 (fun v16 μ17 => bnd (f_X_exchangeValues N v7 v16 μ17) fun _ μ19 => lt' (v7 + 1) fun v20 => lt' (x1 - 1) fun v21 => lp_X_nextOrder_85 N  (fun μ27 => some (1, μ27)) N v20 v21 μ19) N v10 μ8)) N v1 μ0
set_option maxHeartbeats 4000000 in
set_option maxRecDepth 100000 in
theorem glp_X_nextOrder_4 (N d : Nat) {Γ : Cx Int32} (hΓ : Ok Γ "SortingNets" c_X_nextOrder 6) (hT : Rt Γ eI (some .boolean)) (hR : Rm Γ (d + 1)) (x1 : Int32)    (K : Int32 → Mem → Option (Int32 × Mem)) (hK : ∀ (b2 : Int32) (ν : Mem), Go Γ 6 31 [(0, .ref 0), (1, .int x1), (2, .int b2)] [] ν (K b2 ν)) : ∀ (n : Nat) (a2 : Int32) (μ0 : Mem), Go Γ 6 4 [(0, .ref 0), (1, .int x1), (2, .int a2)] [] μ0 (lp_X_nextOrder_4 N x1 K n a2 μ0) := by
  intro n
  induction n with
  | zero => intro a2 μ0; exact go_none
  | succ n ih =>
    intro a2 μ0
    rw [lp_X_nextOrder_4]
    refine go_iload_n (q := 2) (i := 2) (pc := 4) hΓ d_X_nextOrder_4 rfl rfl ?_
    refine go_if_lt 31 (pc := 5) hΓ d_X_nextOrder_5 (by decide) (fun h2 => go_eq (if_pos h2) ?_) (fun h2 => go_eq (if_neg h2) ?_)
    · refine go_sub' (lv' := [(0, .ref 0), (1, .int x1), (2, .int a2)]) rfl ?_
      exact hK a2 μ0
    · refine go_aload_n (q := 0) (i := 0) (pc := 8) hΓ d_X_nextOrder_8 rfl rfl ?_
      refine go_getR (q := 35) (pc := 9) hΓ fl_X_73 d_X_nextOrder_9 rfl rfl ?_
      refine go_iload_n (q := 2) (i := 2) (pc := 12) hΓ d_X_nextOrder_12 rfl rfl ?_
      refine go_ck (fun h3 => ?_)
      refine go_iald (pc := 13) hΓ d_X_nextOrder_13 rfl h3 ?_
      refine go_aload_n (q := 0) (i := 0) (pc := 14) hΓ d_X_nextOrder_14 rfl rfl ?_
      refine go_getR (q := 35) (pc := 15) hΓ fl_X_73 d_X_nextOrder_15 rfl rfl ?_
      refine go_iload_n (q := 2) (i := 2) (pc := 18) hΓ d_X_nextOrder_18 rfl rfl ?_
      refine go_iconst (v := 1) (pc := 19) hΓ d_X_nextOrder_19 (by decide) ?_
      refine go_iadd (pc := 20) hΓ d_X_nextOrder_20 ?_
      refine go_ck (fun h4 => ?_)
      refine go_iald (pc := 21) hΓ d_X_nextOrder_21 rfl h4 ?_
      refine go_icmp_le 31 (pc := 22) hΓ d_X_nextOrder_22 (by decide) (fun h5 => go_eq (if_neg h5) ?_) (fun h5 => go_eq (if_pos h5) ?_)
      · refine go_sub' (lv' := [(0, .ref 0), (1, .int x1), (2, .int a2)]) rfl ?_
        exact hK a2 μ0
      · refine go_incI (q := 2) (i := 2) (n := -1) (c := -1) (pc := 25) hΓ d_X_nextOrder_25 rfl (by decide) (by decide) (fun v6 => ?_)
        refine go_sub' (lv' := [(2, .int v6), (0, .ref 0), (1, .int x1)]) rfl ?_
        refine go_goto 4 (pc := 28) hΓ d_X_nextOrder_28 (by decide) ?_
        refine go_sub' (lv' := [(0, .ref 0), (1, .int x1), (2, .int v6)]) rfl ?_
        exact ih v6 μ0
set_option maxHeartbeats 4000000 in
set_option maxRecDepth 100000 in
theorem glp_X_nextOrder_41 (N d : Nat) {Γ : Cx Int32} (hΓ : Ok Γ "SortingNets" c_X_nextOrder 6) (hT : Rt Γ eI (some .boolean)) (hR : Rm Γ (d + 1)) (x1 : Int32) (x2 : Int32)    (K : Int32 → Mem → Option (Int32 × Mem)) (hK : ∀ (b3 : Int32) (ν : Mem), Go Γ 6 69 [(0, .ref 0), (1, .int x1), (2, .int x2), (3, .int b3)] [] ν (K b3 ν)) : ∀ (n : Nat) (a3 : Int32) (μ0 : Mem), Go Γ 6 41 [(0, .ref 0), (1, .int x1), (2, .int x2), (3, .int a3)] [] μ0 (lp_X_nextOrder_41 N x1 x2 K n a3 μ0) := by
  intro n
  induction n with
  | zero => intro a3 μ0; exact go_none
  | succ n ih =>
    intro a3 μ0
    rw [lp_X_nextOrder_41]
    refine go_iload_n (q := 3) (i := 3) (pc := 41) hΓ d_X_nextOrder_41 rfl rfl ?_
    refine go_iload_n (q := 2) (i := 2) (pc := 42) hΓ d_X_nextOrder_42 rfl rfl ?_
    refine go_iconst (v := 1) (pc := 43) hΓ d_X_nextOrder_43 (by decide) ?_
    refine go_iadd (pc := 44) hΓ d_X_nextOrder_44 ?_
    refine go_icmp_le 69 (pc := 45) hΓ d_X_nextOrder_45 (by decide) (fun h11 => go_eq (if_neg h11) ?_) (fun h11 => go_eq (if_pos h11) ?_)
    · refine go_sub' (lv' := [(0, .ref 0), (1, .int x1), (2, .int x2), (3, .int a3)]) rfl ?_
      exact hK a3 μ0
    · refine go_aload_n (q := 0) (i := 0) (pc := 48) hΓ d_X_nextOrder_48 rfl rfl ?_
      refine go_getR (q := 35) (pc := 49) hΓ fl_X_73 d_X_nextOrder_49 rfl rfl ?_
      refine go_iload_n (q := 3) (i := 3) (pc := 52) hΓ d_X_nextOrder_52 rfl rfl ?_
      refine go_ck (fun h12 => ?_)
      refine go_iald (pc := 53) hΓ d_X_nextOrder_53 rfl h12 ?_
      refine go_aload_n (q := 0) (i := 0) (pc := 54) hΓ d_X_nextOrder_54 rfl rfl ?_
      refine go_getR (q := 35) (pc := 55) hΓ fl_X_73 d_X_nextOrder_55 rfl rfl ?_
      refine go_iload_n (q := 2) (i := 2) (pc := 58) hΓ d_X_nextOrder_58 rfl rfl ?_
      refine go_ck (fun h13 => ?_)
      refine go_iald (pc := 59) hΓ d_X_nextOrder_59 rfl h13 ?_
      refine go_icmp_ge 69 (pc := 60) hΓ d_X_nextOrder_60 (by decide) (fun h14 => go_eq (if_neg h14) ?_) (fun h14 => go_eq (if_pos h14) ?_)
      · refine go_sub' (lv' := [(0, .ref 0), (1, .int x1), (2, .int x2), (3, .int a3)]) rfl ?_
        exact hK a3 μ0
      · refine go_incI (q := 3) (i := 3) (n := -1) (c := -1) (pc := 63) hΓ d_X_nextOrder_63 rfl (by decide) (by decide) (fun v15 => ?_)
        refine go_sub' (lv' := [(3, .int v15), (0, .ref 0), (1, .int x1), (2, .int x2)]) rfl ?_
        refine go_goto 41 (pc := 66) hΓ d_X_nextOrder_66 (by decide) ?_
        refine go_sub' (lv' := [(0, .ref 0), (1, .int x1), (2, .int x2), (3, .int v15)]) rfl ?_
        exact ih v15 μ0
set_option maxHeartbeats 4000000 in
set_option maxRecDepth 100000 in
theorem glp_X_nextOrder_85 (N d : Nat) {Γ : Cx Int32} (hΓ : Ok Γ "SortingNets" c_X_nextOrder 6) (hT : Rt Γ eI (some .boolean)) (hR : Rm Γ (d + 1))     (K : Mem → Option (Int32 × Mem)) (hK : ∀  (ν : Mem), Go Γ 6 109 [] [] ν (K  ν)) : ∀ (n : Nat) (a4 : Int32) (a5 : Int32) (μ0 : Mem), Go Γ 6 85 [(0, .ref 0), (4, .int a4), (5, .int a5)] [] μ0 (lp_X_nextOrder_85 N K n a4 a5 μ0) := by
  intro n
  induction n with
  | zero => intro a4 a5 μ0; exact go_none
  | succ n ih =>
    intro a4 a5 μ0
    rw [lp_X_nextOrder_85]
    refine go_iload (q := 1) (pc := 85) hΓ d_X_nextOrder_85 rfl ?_
    refine go_iload (q := 2) (pc := 87) hΓ d_X_nextOrder_87 rfl ?_
    refine go_icmp_ge 109 (pc := 89) hΓ d_X_nextOrder_89 (by decide) (fun h22 => go_eq (if_neg h22) ?_) (fun h22 => go_eq (if_pos h22) ?_)
    · refine go_sub' (lv' := []) rfl ?_
      exact hK  μ0
    · refine go_aload_n (q := 0) (i := 0) (pc := 92) hΓ d_X_nextOrder_92 rfl rfl ?_
      refine go_iload (q := 1) (pc := 93) hΓ d_X_nextOrder_93 rfl ?_
      refine go_iload (q := 2) (pc := 95) hΓ d_X_nextOrder_95 rfl ?_
      refine go_callV (index := 364) emV hΓ hR (g_X_exchangeValues N (d + 0) a4 a5) mi_X_exchangeValues ml_X_364 d_X_nextOrder_97 rfl rfl rfl rfl rfl (fun _ μ24 => ?_)
      show Go Γ 6 100 [(0, .ref 0), (4, .int a4), (5, .int a5)] [] μ24 _
      refine go_incI (q := 1) (i := 4) (n := 1) (c := 1) (pc := 100) hΓ d_X_nextOrder_100 rfl (by decide) (by decide) (fun v25 => ?_)
      refine go_sub' (lv' := [(4, .int v25), (0, .ref 0), (5, .int a5)]) rfl ?_
      refine go_incI (q := 2) (i := 5) (n := -1) (c := -1) (pc := 103) hΓ d_X_nextOrder_103 rfl (by decide) (by decide) (fun v26 => ?_)
      refine go_sub' (lv' := [(5, .int v26), (4, .int v25), (0, .ref 0)]) rfl ?_
      refine go_goto 85 (pc := 106) hΓ d_X_nextOrder_106 (by decide) ?_
      refine go_sub' (lv' := [(0, .ref 0), (4, .int v25), (5, .int v26)]) rfl ?_
      exact ih v25 v26 μ24
set_option maxHeartbeats 4000000 in
set_option maxRecDepth 100000 in
theorem g_X_nextOrder (N d : Nat) (x1 : Int32)  : CallF eI y_X_nextOrder c_X_nextOrder 6 (some .boolean) (d + 1 + 1) [.ref 0, .int x1] (f_X_nextOrder N x1) := by
  refine call_of (d := d + 1) (n := 1) mi_X_nextOrder.1 (fun _ => rfl) ?_
  intro Γ μ0 hΓ hT hR
  show Go Γ 6 0 [(0, .ref 0), (1, .int x1)] [] μ0 (f_X_nextOrder N x1 μ0)
  unfold f_X_nextOrder
  refine go_iload_n (q := 1) (i := 1) (pc := 0) hΓ d_X_nextOrder_0 rfl rfl ?_
  refine go_iconst (v := 2) (pc := 1) hΓ d_X_nextOrder_1 (by decide) ?_
  refine go_isub (pc := 2) hΓ d_X_nextOrder_2 ?_
  refine go_letI (fun v1 => ?_)
  refine go_istore_n (i := 2) (lv' := [(2, .int v1), (0, .ref 0), (1, .int x1)]) (pc := 3) hΓ d_X_nextOrder_3 rfl (by decide) rfl ?_
  refine go_sub' (lv' := [(0, .ref 0), (1, .int x1), (2, .int v1)]) rfl ?_
  refine glp_X_nextOrder_4 N d hΓ hT hR x1 _ (fun v7 μ8 => ?_) N v1 μ0
  refine go_iload_n (q := 2) (i := 2) (pc := 31) hΓ d_X_nextOrder_31 rfl rfl ?_
  refine go_if_ge 37 (pc := 32) hΓ d_X_nextOrder_32 (by decide) (fun h9 => go_eq (if_neg h9) ?_) (fun h9 => go_eq (if_pos h9) ?_)
  · refine go_iload_n (q := 1) (i := 1) (pc := 37) hΓ d_X_nextOrder_37 rfl rfl ?_
    refine go_iconst (v := 1) (pc := 38) hΓ d_X_nextOrder_38 (by decide) ?_
    refine go_isub (pc := 39) hΓ d_X_nextOrder_39 ?_
    refine go_letI (fun v10 => ?_)
    refine go_istore_n (i := 3) (lv' := [(3, .int v10), (0, .ref 0), (1, .int x1), (2, .int v7)]) (pc := 40) hΓ d_X_nextOrder_40 rfl (by decide) rfl ?_
    refine go_sub' (lv' := [(0, .ref 0), (1, .int x1), (2, .int v7), (3, .int v10)]) rfl ?_
    refine glp_X_nextOrder_41 N d hΓ hT hR x1 v7 _ (fun v16 μ17 => ?_) N v10 μ8
    refine go_aload_n (q := 0) (i := 0) (pc := 69) hΓ d_X_nextOrder_69 rfl rfl ?_
    refine go_iload_n (q := 2) (i := 2) (pc := 70) hΓ d_X_nextOrder_70 rfl rfl ?_
    refine go_iload_n (q := 3) (i := 3) (pc := 71) hΓ d_X_nextOrder_71 rfl rfl ?_
    refine go_callV (index := 364) emV hΓ hR (g_X_exchangeValues N (d + 0) v7 v16) mi_X_exchangeValues ml_X_364 d_X_nextOrder_72 rfl rfl rfl rfl rfl (fun _ μ19 => ?_)
    show Go Γ 6 75 [(0, .ref 0), (1, .int x1), (2, .int v7), (3, .int v16)] [] μ19 _
    refine go_iload_n (q := 2) (i := 2) (pc := 75) hΓ d_X_nextOrder_75 rfl rfl ?_
    refine go_iconst (v := 1) (pc := 76) hΓ d_X_nextOrder_76 (by decide) ?_
    refine go_iadd (pc := 77) hΓ d_X_nextOrder_77 ?_
    refine go_letI (fun v20 => ?_)
    refine go_istore (lv' := [(4, .int v20), (0, .ref 0), (1, .int x1), (2, .int v7), (3, .int v16)]) (pc := 78) hΓ d_X_nextOrder_78 (by decide) rfl ?_
    refine go_iload_n (q := 2) (i := 1) (pc := 80) hΓ d_X_nextOrder_80 rfl rfl ?_
    refine go_iconst (v := 1) (pc := 81) hΓ d_X_nextOrder_81 (by decide) ?_
    refine go_isub (pc := 82) hΓ d_X_nextOrder_82 ?_
    refine go_letI (fun v21 => ?_)
    refine go_istore (lv' := [(5, .int v21), (4, .int v20), (0, .ref 0), (1, .int x1), (2, .int v7), (3, .int v16)]) (pc := 83) hΓ d_X_nextOrder_83 (by decide) rfl ?_
    refine go_sub' (lv' := [(0, .ref 0), (4, .int v20), (5, .int v21)]) rfl ?_
    refine glp_X_nextOrder_85 N d hΓ hT hR  _ (fun μ27 => ?_) N v20 v21 μ19
    refine go_iconst (v := 1) (pc := 109) hΓ d_X_nextOrder_109 (by decide) ?_
    exact go_zret (pc := 110) hΓ hT d_X_nextOrder_110 rfl
  · refine go_iconst (v := 0) (pc := 35) hΓ d_X_nextOrder_35 (by decide) ?_
    exact go_zret (pc := 36) hΓ hT d_X_nextOrder_36 rfl
def lp_X_orders_41 (N : Nat) (x2 : Int32)  (K : Mem → Option (Int32 × Mem)) : Nat → Int32 → Mem → Option (Int32 × Mem)
  | 0, _, _ => none
  | n + 1, a3, μ0 => if a3 < x2 then (ck (inb a3 8) (lt' (sI μ0 35 (tn a3) a3) fun μ12 => lt' (a3 + 1) fun v13 => lp_X_orders_41 N x2 K n v13 μ12)) else (K  μ0)
def lp_X_orders_71 (N : Nat) (x2 : Int32)  (K : Int32 → Mem → Option (Int32 × Mem)) : Nat → Int32 → Int32 → Mem → Option (Int32 × Mem)
  | 0, _, _, _ => none
  | n + 1, a3, a4, μ0 => if a4 < 5040 then (bnd (f_X_leavesUnsorted N x2 μ0) fun r18 μ19 => lt' (fun (w21 : Int32) (μ22 : Mem) => bnd (f_X_nextOrder N x2 μ22) fun r23 μ24 => if r23 = 0 then (K w21 μ24) else (lt' (a4 + 1) fun v26 => lp_X_orders_71 N x2 K n w21 v26 μ24)) fun (k20 : Int32 → Mem → Option (Int32 × Mem)) => if r18 = 0 then (k20 a3 μ19) else (lt' (fun (μ29 : Mem) => lt' (a3 + 1) fun v30 => k20 v30 μ29) fun (k28 : Mem → Option (Int32 × Mem)) => if a3 = 0 then (bnd (f_X_tellFirst N 35 8 x2 μ19) fun _ μ33 => k28 μ33) else (k28 μ19))) else (K a3 μ0)
def f_X_orders (N : Nat) (x1 : Int32) (μ0 : Mem) : Option (Int32 × Mem) :=
  bnd (f_X_isNet N x1 μ0) fun r1 μ2 => if r1 = 0 then (some ((-1), μ2)) else (ck (inb x1 4) (lt' (gI μ2 (2 + 3 * tn x1) 0) fun v5 => if 7 < v5 then (some ((-2), μ2)) else (ck (inb x1 4) (bnd (f_X_judge N (2 + 3 * tn x1) (-1) μ2) fun _ μ9 => lp_X_orders_41 N v5 (fun μ14 => bnd (f_Numbers_clear N  μ14) fun _ μ16 => lp_X_orders_71 N v5 (fun v34 μ35 => some (v34, μ35)) N 0 0 μ16) N 0 μ9))))
set_option maxHeartbeats 4000000 in
set_option maxRecDepth 100000 in
theorem glp_X_orders_41 (N d : Nat) {Γ : Cx Int32} (hΓ : Ok Γ "SortingNets" c_X_orders 5) (hT : Rt Γ eI (some .int)) (hR : Rm Γ (d + 3)) (x2 : Int32)    (K : Mem → Option (Int32 × Mem)) (hK : ∀  (ν : Mem), Go Γ 5 59 [(0, .ref 0), (2, .int x2)] [] ν (K  ν)) : ∀ (n : Nat) (a3 : Int32) (μ0 : Mem), Go Γ 5 41 [(0, .ref 0), (2, .int x2), (3, .int a3)] [] μ0 (lp_X_orders_41 N x2 K n a3 μ0) := by
  intro n
  induction n with
  | zero => intro a3 μ0; exact go_none
  | succ n ih =>
    intro a3 μ0
    rw [lp_X_orders_41]
    refine go_iload_n (q := 2) (i := 3) (pc := 41) hΓ d_X_orders_41 rfl rfl ?_
    refine go_iload_n (q := 1) (i := 2) (pc := 42) hΓ d_X_orders_42 rfl rfl ?_
    refine go_icmp_ge 59 (pc := 43) hΓ d_X_orders_43 (by decide) (fun h10 => go_eq (if_neg h10) ?_) (fun h10 => go_eq (if_pos h10) ?_)
    · refine go_sub' (lv' := [(0, .ref 0), (2, .int x2)]) rfl ?_
      exact hK  μ0
    · refine go_aload_n (q := 0) (i := 0) (pc := 46) hΓ d_X_orders_46 rfl rfl ?_
      refine go_getR (q := 35) (pc := 47) hΓ fl_X_73 d_X_orders_47 rfl rfl ?_
      refine go_iload_n (q := 2) (i := 3) (pc := 50) hΓ d_X_orders_50 rfl rfl ?_
      refine go_iload_n (q := 2) (i := 3) (pc := 51) hΓ d_X_orders_51 rfl rfl ?_
      refine go_ck (fun h11 => ?_)
      refine go_iast (pc := 52) hΓ d_X_orders_52 rfl h11 ?_
      refine go_letM (fun μ12 => ?_)
      refine go_incI (q := 2) (i := 3) (n := 1) (c := 1) (pc := 53) hΓ d_X_orders_53 rfl (by decide) (by decide) (fun v13 => ?_)
      refine go_sub' (lv' := [(3, .int v13), (0, .ref 0), (2, .int x2)]) rfl ?_
      refine go_goto 41 (pc := 56) hΓ d_X_orders_56 (by decide) ?_
      refine go_sub' (lv' := [(0, .ref 0), (2, .int x2), (3, .int v13)]) rfl ?_
      exact ih v13 μ12
set_option maxHeartbeats 4000000 in
set_option maxRecDepth 100000 in
theorem glp_X_orders_71 (N d : Nat) {Γ : Cx Int32} (hΓ : Ok Γ "SortingNets" c_X_orders 5) (hT : Rt Γ eI (some .int)) (hR : Rm Γ (d + 3)) (x2 : Int32)    (K : Int32 → Mem → Option (Int32 × Mem)) (hK : ∀ (b3 : Int32) (ν : Mem), Go Γ 5 120 [(3, .int b3)] [] ν (K b3 ν)) : ∀ (n : Nat) (a3 : Int32) (a4 : Int32) (μ0 : Mem), Go Γ 5 71 [(0, .ref 0), (2, .int x2), (3, .int a3), (4, .int a4)] [] μ0 (lp_X_orders_71 N x2 K n a3 a4 μ0) := by
  intro n
  induction n with
  | zero => intro a3 a4 μ0; exact go_none
  | succ n ih =>
    intro a3 a4 μ0
    rw [lp_X_orders_71]
    refine go_iload (q := 3) (pc := 71) hΓ d_X_orders_71 rfl ?_
    refine go_sipush (v := 5040) (pc := 73) hΓ d_X_orders_73 (by decide) ?_
    refine go_icmp_ge 120 (pc := 76) hΓ d_X_orders_76 (by decide) (fun h17 => go_eq (if_neg h17) ?_) (fun h17 => go_eq (if_pos h17) ?_)
    · refine go_sub' (lv' := [(3, .int a3)]) rfl ?_
      exact hK a3 μ0
    · refine go_aload_n (q := 0) (i := 0) (pc := 79) hΓ d_X_orders_79 rfl rfl ?_
      refine go_iload_n (q := 1) (i := 2) (pc := 80) hΓ d_X_orders_80 rfl rfl ?_
      refine go_callV (index := 258) emI hΓ hR (g_X_leavesUnsorted N (d + 1) x2) mi_X_leavesUnsorted ml_X_258 d_X_orders_81 rfl rfl rfl rfl rfl (fun r18 μ19 => ?_)
      show Go Γ 5 84 [(0, .ref 0), (2, .int x2), (3, .int a3), (4, .int a4)] [.int r18] μ19 _
      refine go_join (fun (k20 : Int32 → Mem → Option (Int32 × Mem)) => ∀ (w21 : Int32) (μ22 : Mem), Go Γ 5 103 [(0, .ref 0), (2, .int x2), (3, .int w21), (4, .int a4)] [] μ22 (k20 w21 μ22)) ?_ (fun k20 k20h => ?_)
      · intro w21 μ22
        refine go_aload_n (q := 0) (i := 0) (pc := 103) hΓ d_X_orders_103 rfl rfl ?_
        refine go_iload_n (q := 1) (i := 2) (pc := 104) hΓ d_X_orders_104 rfl rfl ?_
        refine go_callV (index := 261) emI hΓ hR (g_X_nextOrder N (d + 1) x2) mi_X_nextOrder ml_X_261 d_X_orders_105 rfl rfl rfl rfl rfl (fun r23 μ24 => ?_)
        show Go Γ 5 108 [(0, .ref 0), (2, .int x2), (3, .int w21), (4, .int a4)] [.int r23] μ24 _
        refine go_if_ne 114 (pc := 108) hΓ d_X_orders_108 (by decide) (fun h25 => go_eq (if_neg h25) ?_) (fun h25 => go_eq (if_pos h25) ?_)
        · refine go_incI (q := 3) (i := 4) (n := 1) (c := 1) (pc := 114) hΓ d_X_orders_114 rfl (by decide) (by decide) (fun v26 => ?_)
          refine go_sub' (lv' := [(4, .int v26), (0, .ref 0), (2, .int x2), (3, .int w21)]) rfl ?_
          refine go_goto 71 (pc := 117) hΓ d_X_orders_117 (by decide) ?_
          refine go_sub' (lv' := [(0, .ref 0), (2, .int x2), (3, .int w21), (4, .int v26)]) rfl ?_
          exact ih w21 v26 μ24
        · refine go_goto 120 (pc := 111) hΓ d_X_orders_111 (by decide) ?_
          refine go_sub' (lv' := [(3, .int w21)]) rfl ?_
          exact hK w21 μ24
      · refine go_if_eq 103 (pc := 84) hΓ d_X_orders_84 (by decide) (fun h27 => go_eq (if_pos h27) ?_) (fun h27 => go_eq (if_neg h27) ?_)
        · refine go_sub' (lv' := [(0, .ref 0), (2, .int x2), (3, .int a3), (4, .int a4)]) rfl ?_
          exact k20h a3 μ19
        · refine go_iload_n (q := 2) (i := 3) (pc := 87) hΓ d_X_orders_87 rfl rfl ?_
          refine go_join (fun (k28 : Mem → Option (Int32 × Mem)) => ∀ (μ29 : Mem), Go Γ 5 100 [(0, .ref 0), (2, .int x2), (3, .int a3), (4, .int a4)] [] μ29 (k28 μ29)) ?_ (fun k28 k28h => ?_)
          · intro μ29
            refine go_incI (q := 2) (i := 3) (n := 1) (c := 1) (pc := 100) hΓ d_X_orders_100 rfl (by decide) (by decide) (fun v30 => ?_)
            refine go_sub' (lv' := [(3, .int v30), (0, .ref 0), (2, .int x2), (4, .int a4)]) rfl ?_
            refine go_sub' (lv' := [(0, .ref 0), (2, .int x2), (3, .int v30), (4, .int a4)]) rfl ?_
            exact k20h v30 μ29
          · refine go_if_ne 100 (pc := 88) hΓ d_X_orders_88 (by decide) (fun h31 => go_eq (if_neg h31) ?_) (fun h31 => go_eq (if_pos h31) ?_)
            · refine go_sub' (lv' := [(0, .ref 0), (2, .int x2), (3, .int a3), (4, .int a4)]) rfl ?_
              exact k28h μ19
            · refine go_aload_n (q := 0) (i := 0) (pc := 91) hΓ d_X_orders_91 rfl rfl ?_
              refine go_aload_n (q := 0) (i := 0) (pc := 92) hΓ d_X_orders_92 rfl rfl ?_
              refine go_getR (q := 35) (pc := 93) hΓ fl_X_73 d_X_orders_93 rfl rfl ?_
              refine go_iload_n (q := 1) (i := 2) (pc := 96) hΓ d_X_orders_96 rfl rfl ?_
              refine go_callV (index := 229) emV hΓ hR (g_X_tellFirst N (d + 1) 35 8 rfl x2) mi_X_tellFirst ml_X_229 d_X_orders_97 rfl rfl rfl rfl rfl (fun _ μ33 => ?_)
              show Go Γ 5 100 [(0, .ref 0), (2, .int x2), (3, .int a3), (4, .int a4)] [] μ33 _
              refine go_sub' (lv' := [(0, .ref 0), (2, .int x2), (3, .int a3), (4, .int a4)]) rfl ?_
              exact k28h μ33
set_option maxHeartbeats 4000000 in
set_option maxRecDepth 100000 in
theorem g_X_orders (N d : Nat) (x1 : Int32)  : CallF eI y_X_orders c_X_orders 5 (some .int) (d + 3 + 1) [.ref 0, .int x1] (f_X_orders N x1) := by
  refine call_of (d := d + 3) (n := 1) mi_X_orders.1 (fun _ => rfl) ?_
  intro Γ μ0 hΓ hT hR
  show Go Γ 5 0 [(0, .ref 0), (1, .int x1)] [] μ0 (f_X_orders N x1 μ0)
  unfold f_X_orders
  refine go_iload_n (q := 1) (i := 1) (pc := 0) hΓ d_X_orders_0 rfl rfl ?_
  refine go_callS (index := 101) emI hΓ hR (g_X_isNet N (d + 2) x1) mi_X_isNet ml_X_101 d_X_orders_1 rfl rfl rfl (fun r1 μ2 => ?_)
  show Go Γ 5 4 [(0, .ref 0), (1, .int x1)] [.int r1] μ2 _
  refine go_if_ne 9 (pc := 4) hΓ d_X_orders_4 (by decide) (fun h3 => go_eq (if_neg h3) ?_) (fun h3 => go_eq (if_pos h3) ?_)
  · refine go_aload_n (q := 0) (i := 0) (pc := 9) hΓ d_X_orders_9 rfl rfl ?_
    refine go_getR (q := 1) (pc := 10) hΓ fl_X_11 d_X_orders_10 rfl rfl ?_
    refine go_iload_n (q := 1) (i := 1) (pc := 13) hΓ d_X_orders_13 rfl rfl ?_
    refine go_ck (fun h4 => ?_)
    refine go_aald (pc := 14) hΓ d_X_orders_14 h4 ?_
    refine go_getI (pc := 15) hΓ fl_X_111 d_X_orders_15 (isN_sh (isN_in h4)).1 rfl ?_
    refine go_letI (fun v5 => ?_)
    refine go_istore_n (i := 2) (lv' := [(2, .int v5), (0, .ref 0), (1, .int x1)]) (pc := 18) hΓ d_X_orders_18 rfl (by decide) rfl ?_
    refine go_iload_n (q := 0) (i := 2) (pc := 19) hΓ d_X_orders_19 rfl rfl ?_
    refine go_bipush (v := 7) (pc := 20) hΓ d_X_orders_20 (by decide) ?_
    refine go_icmp_le 28 (pc := 22) hΓ d_X_orders_22 (by decide) (fun h6 => go_eq (if_neg h6) ?_) (fun h6 => go_eq (if_pos h6) ?_)
    · refine go_aload_n (q := 1) (i := 0) (pc := 28) hΓ d_X_orders_28 rfl rfl ?_
      refine go_aload_n (q := 1) (i := 0) (pc := 29) hΓ d_X_orders_29 rfl rfl ?_
      refine go_getR (q := 1) (pc := 30) hΓ fl_X_11 d_X_orders_30 rfl rfl ?_
      refine go_iload_n (q := 2) (i := 1) (pc := 33) hΓ d_X_orders_33 rfl rfl ?_
      refine go_ck (fun h7 => ?_)
      refine go_aald (pc := 34) hΓ d_X_orders_34 h7 ?_
      refine go_iconst (v := -1) (pc := 35) hΓ d_X_orders_35 (by decide) ?_
      refine go_callV (index := 157) emV hΓ hR (g_X_judge N (d + 0) (2 + 3 * tn x1) (isN_in h7) (-1)) mi_X_judge ml_X_157 d_X_orders_36 rfl rfl rfl rfl rfl (fun _ μ9 => ?_)
      show Go Γ 5 39 [(2, .int v5), (0, .ref 0), (1, .int x1)] [] μ9 _
      refine go_iconst (v := 0) (pc := 39) hΓ d_X_orders_39 (by decide) ?_
      refine go_istore_n (i := 3) (lv' := [(3, .int 0), (2, .int v5), (0, .ref 0), (1, .int x1)]) (pc := 40) hΓ d_X_orders_40 rfl (by decide) rfl ?_
      refine go_sub' (lv' := [(0, .ref 0), (2, .int v5), (3, .int 0)]) rfl ?_
      refine glp_X_orders_41 N d hΓ hT hR v5 _ (fun μ14 => ?_) N 0 μ9
      refine go_aload_n (q := 0) (i := 0) (pc := 59) hΓ d_X_orders_59 rfl rfl ?_
      refine go_getR (q := 16) (pc := 60) hΓ fl_X_37 d_X_orders_60 rfl rfl ?_
      refine go_callV (index := 108) emV hΓ hR (g_Numbers_clear N (d + 2) ) mi_Numbers_clear ml_X_108 d_X_orders_63 rfl rfl rfl rfl rfl (fun _ μ16 => ?_)
      show Go Γ 5 66 [(0, .ref 0), (2, .int v5)] [] μ16 _
      refine go_iconst (v := 0) (pc := 66) hΓ d_X_orders_66 (by decide) ?_
      refine go_istore_n (i := 3) (lv' := [(3, .int 0), (0, .ref 0), (2, .int v5)]) (pc := 67) hΓ d_X_orders_67 rfl (by decide) rfl ?_
      refine go_iconst (v := 0) (pc := 68) hΓ d_X_orders_68 (by decide) ?_
      refine go_istore (lv' := [(4, .int 0), (3, .int 0), (0, .ref 0), (2, .int v5)]) (pc := 69) hΓ d_X_orders_69 (by decide) rfl ?_
      refine go_sub' (lv' := [(0, .ref 0), (2, .int v5), (3, .int 0), (4, .int 0)]) rfl ?_
      refine glp_X_orders_71 N d hΓ hT hR v5 _ (fun v34 μ35 => ?_) N 0 0 μ16
      refine go_iload_n (q := 0) (i := 3) (pc := 120) hΓ d_X_orders_120 rfl rfl ?_
      exact go_iret (pc := 121) hΓ hT d_X_orders_121
    · refine go_bipush (v := -2) (pc := 25) hΓ d_X_orders_25 (by decide) ?_
      exact go_iret (pc := 27) hΓ hT d_X_orders_27
  · refine go_iconst (v := -1) (pc := 7) hΓ d_X_orders_7 (by decide) ?_
    exact go_iret (pc := 8) hΓ hT d_X_orders_8
def lp_X_merges_65 (N : Nat) (x2 : Int32) (x3 : Int32) (x6 : Int32)  (K : Int32 → Int32 → Mem → Option (Int32 × Mem)) : Nat → Int32 → Int32 → Int32 → Mem → Option (Int32 × Mem)
  | 0, _, _, _, _ => none
  | n + 1, a4, a5, a7, μ0 => if (x3 - x2) < a7 then (K a4 a5 μ0) else (lt' (a4 + 1) fun v16 => bnd (f_X_topOnes N x2 x6 μ0) fun r17 μ18 => bnd (f_X_topOnes N x3 a7 μ18) fun r19 μ20 => bnd (f_PatternSet_holds N (r17 ||| r19) μ20) fun r21 μ22 => lt' (if r21 = 0 then (a5 : Int32) else (a5 + 1 : Int32)) fun q24 => lt' (a7 + 1) fun v25 => lp_X_merges_65 N x2 x3 x6 K n v16 q24 v25 μ22)
def lp_X_merges_56 (N : Nat) (x2 : Int32) (x3 : Int32)  (K : Int32 → Int32 → Mem → Option (Int32 × Mem)) : Nat → Int32 → Int32 → Int32 → Mem → Option (Int32 × Mem)
  | 0, _, _, _, _ => none
  | n + 1, a4, a5, a6, μ0 => if x2 < a6 then (K a4 a5 μ0) else (lp_X_merges_65 N x2 x3 a6 (fun v27 v28 μ29 => lt' (a6 + 1) fun v30 => lp_X_merges_56 N x2 x3 K n v27 v28 v30 μ29) N a4 a5 0 μ0)
def f_X_merges (N : Nat) (x1 : Int32) (x2 : Int32) (μ0 : Mem) : Option (Int32 × Mem) :=
  bnd (f_X_isNet N x1 μ0) fun r1 μ2 => if r1 = 0 then (some ((-1), μ2)) else (ck (inb x1 4) (bnd (f_Net_isWire N (2 + 3 * tn x1) x2 μ2) fun r5 μ6 => if r5 = 0 then (some ((-1), μ6)) else (if x2 = 0 then (some ((-1), μ6)) else (ck (inb x1 4) (lt' (gI μ6 (2 + 3 * tn x1) 0) fun v10 => ck (inb x1 4) (bnd (f_X_judge N (2 + 3 * tn x1) (-1) μ6) fun _ μ13 => lp_X_merges_56 N x2 v10 (fun v31 v32 μ33 => bnd (f_Numbers_clear N  μ33) fun _ μ35 => bnd (f_Numbers_append N (Int32.toInt64 v31) μ35) fun _ μ37 => some (v32, μ37)) N 0 0 0 μ13))))))
set_option maxHeartbeats 4000000 in
set_option maxRecDepth 100000 in
theorem glp_X_merges_65 (N d : Nat) {Γ : Cx Int32} (hΓ : Ok Γ "SortingNets" c_X_merges 8) (hT : Rt Γ eI (some .int)) (hR : Rm Γ (d + 3)) (x2 : Int32) (x3 : Int32) (x6 : Int32)    (K : Int32 → Int32 → Mem → Option (Int32 × Mem)) (hK : ∀ (b4 : Int32) (b5 : Int32) (ν : Mem), Go Γ 8 108 [(0, .ref 0), (2, .int x2), (3, .int x3), (4, .int b4), (5, .int b5), (6, .int x6)] [] ν (K b4 b5 ν)) : ∀ (n : Nat) (a4 : Int32) (a5 : Int32) (a7 : Int32) (μ0 : Mem), Go Γ 8 65 [(0, .ref 0), (2, .int x2), (3, .int x3), (4, .int a4), (5, .int a5), (6, .int x6), (7, .int a7)] [] μ0 (lp_X_merges_65 N x2 x3 x6 K n a4 a5 a7 μ0) := by
  intro n
  induction n with
  | zero => intro a4 a5 a7 μ0; exact go_none
  | succ n ih =>
    intro a4 a5 a7 μ0
    rw [lp_X_merges_65]
    refine go_iload (q := 6) (pc := 65) hΓ d_X_merges_65 rfl ?_
    refine go_iload_n (q := 2) (i := 3) (pc := 67) hΓ d_X_merges_67 rfl rfl ?_
    refine go_iload_n (q := 1) (i := 2) (pc := 68) hΓ d_X_merges_68 rfl rfl ?_
    refine go_isub (pc := 69) hΓ d_X_merges_69 ?_
    refine go_icmp_gt 108 (pc := 70) hΓ d_X_merges_70 (by decide) (fun h15 => go_eq (if_pos h15) ?_) (fun h15 => go_eq (if_neg h15) ?_)
    · refine go_sub' (lv' := [(0, .ref 0), (2, .int x2), (3, .int x3), (4, .int a4), (5, .int a5), (6, .int x6)]) rfl ?_
      exact hK a4 a5 μ0
    · refine go_incI (q := 3) (i := 4) (n := 1) (c := 1) (pc := 73) hΓ d_X_merges_73 rfl (by decide) (by decide) (fun v16 => ?_)
      refine go_sub' (lv' := [(4, .int v16), (0, .ref 0), (2, .int x2), (3, .int x3), (5, .int a5), (6, .int x6), (7, .int a7)]) rfl ?_
      refine go_aload_n (q := 1) (i := 0) (pc := 76) hΓ d_X_merges_76 rfl rfl ?_
      refine go_getR (q := 31) (pc := 77) hΓ fl_X_61 d_X_merges_77 rfl rfl ?_
      refine go_iload_n (q := 2) (i := 2) (pc := 80) hΓ d_X_merges_80 rfl rfl ?_
      refine go_iload (q := 5) (pc := 81) hΓ d_X_merges_81 rfl ?_
      refine go_callS (index := 243) emI hΓ hR (g_X_topOnes N (d + 2) x2 x6) mi_X_topOnes ml_X_243 d_X_merges_83 rfl rfl rfl (fun r17 μ18 => ?_)
      show Go Γ 8 86 [(4, .int v16), (0, .ref 0), (2, .int x2), (3, .int x3), (5, .int a5), (6, .int x6), (7, .int a7)] [.int r17, .ref 31] μ18 _
      refine go_iload_n (q := 3) (i := 3) (pc := 86) hΓ d_X_merges_86 rfl rfl ?_
      refine go_iload (q := 6) (pc := 87) hΓ d_X_merges_87 rfl ?_
      refine go_callS (index := 243) emI hΓ hR (g_X_topOnes N (d + 2) x3 a7) mi_X_topOnes ml_X_243 d_X_merges_89 rfl rfl rfl (fun r19 μ20 => ?_)
      show Go Γ 8 92 [(4, .int v16), (0, .ref 0), (2, .int x2), (3, .int x3), (5, .int a5), (6, .int x6), (7, .int a7)] [.int r19, .int r17, .ref 31] μ20 _
      refine go_ior (pc := 92) hΓ d_X_merges_92 ?_
      refine go_callV (index := 246) emI hΓ hR (g_PatternSet_holds N (d + 2) (r17 ||| r19)) mi_PatternSet_holds ml_X_246 d_X_merges_93 rfl rfl rfl rfl rfl (fun r21 μ22 => ?_)
      show Go Γ 8 96 [(4, .int v16), (0, .ref 0), (2, .int x2), (3, .int x3), (5, .int a5), (6, .int x6), (7, .int a7)] [.int r21] μ22 _
      refine go_mg (α := Int32) 102 (fun q24 => [(0, .ref 0), (2, .int x2), (3, .int x3), (4, .int v16), (5, .int q24), (6, .int x6), (7, .int a7)]) (fun q24 => []) (fun q24 => ?_) (fun g26 g26h => ?_)
      · refine go_incI (q := 6) (i := 7) (n := 1) (c := 1) (pc := 102) hΓ d_X_merges_102 rfl (by decide) (by decide) (fun v25 => ?_)
        refine go_sub' (lv' := [(7, .int v25), (0, .ref 0), (2, .int x2), (3, .int x3), (4, .int v16), (5, .int q24), (6, .int x6)]) rfl ?_
        refine go_goto 65 (pc := 105) hΓ d_X_merges_105 (by decide) ?_
        refine go_sub' (lv' := [(0, .ref 0), (2, .int x2), (3, .int x3), (4, .int v16), (5, .int q24), (6, .int x6), (7, .int v25)]) rfl ?_
        exact ih v16 q24 v25 μ22
      · refine go_if_eq 102 (pc := 96) hΓ d_X_merges_96 (by decide) (fun h23 => ?_) (fun h23 => ?_)
        · rw [if_pos h23]
          refine go_sub' (lv' := [(0, .ref 0), (2, .int x2), (3, .int x3), (4, .int v16), (5, .int a5), (6, .int x6), (7, .int a7)]) rfl ?_
          exact g26h _
        · rw [if_neg h23]
          refine go_iinc (q := 4) (i := 5) (n := 1) (v := a5 + 1) (lv' := [(5, .int (a5 + 1)), (4, .int v16), (0, .ref 0), (2, .int x2), (3, .int x3), (6, .int x6), (7, .int a7)]) (pc := 99) hΓ d_X_merges_99 rfl rfl (by decide) rfl ?_
          refine go_sub' (lv' := [(0, .ref 0), (2, .int x2), (3, .int x3), (4, .int v16), (5, .int (a5 + 1)), (6, .int x6), (7, .int a7)]) rfl ?_
          exact g26h _
set_option maxHeartbeats 4000000 in
set_option maxRecDepth 100000 in
theorem glp_X_merges_56 (N d : Nat) {Γ : Cx Int32} (hΓ : Ok Γ "SortingNets" c_X_merges 8) (hT : Rt Γ eI (some .int)) (hR : Rm Γ (d + 3)) (x2 : Int32) (x3 : Int32)    (K : Int32 → Int32 → Mem → Option (Int32 × Mem)) (hK : ∀ (b4 : Int32) (b5 : Int32) (ν : Mem), Go Γ 8 114 [(0, .ref 0), (4, .int b4), (5, .int b5)] [] ν (K b4 b5 ν)) : ∀ (n : Nat) (a4 : Int32) (a5 : Int32) (a6 : Int32) (μ0 : Mem), Go Γ 8 56 [(0, .ref 0), (2, .int x2), (3, .int x3), (4, .int a4), (5, .int a5), (6, .int a6)] [] μ0 (lp_X_merges_56 N x2 x3 K n a4 a5 a6 μ0) := by
  intro n
  induction n with
  | zero => intro a4 a5 a6 μ0; exact go_none
  | succ n ih =>
    intro a4 a5 a6 μ0
    rw [lp_X_merges_56]
    refine go_iload (q := 5) (pc := 56) hΓ d_X_merges_56 rfl ?_
    refine go_iload_n (q := 1) (i := 2) (pc := 58) hΓ d_X_merges_58 rfl rfl ?_
    refine go_icmp_gt 114 (pc := 59) hΓ d_X_merges_59 (by decide) (fun h14 => go_eq (if_pos h14) ?_) (fun h14 => go_eq (if_neg h14) ?_)
    · refine go_sub' (lv' := [(0, .ref 0), (4, .int a4), (5, .int a5)]) rfl ?_
      exact hK a4 a5 μ0
    · refine go_iconst (v := 0) (pc := 62) hΓ d_X_merges_62 (by decide) ?_
      refine go_istore (lv' := [(7, .int 0), (0, .ref 0), (2, .int x2), (3, .int x3), (4, .int a4), (5, .int a5), (6, .int a6)]) (pc := 63) hΓ d_X_merges_63 (by decide) rfl ?_
      refine go_sub' (lv' := [(0, .ref 0), (2, .int x2), (3, .int x3), (4, .int a4), (5, .int a5), (6, .int a6), (7, .int 0)]) rfl ?_
      refine glp_X_merges_65 N d hΓ hT hR x2 x3 a6 _ (fun v27 v28 μ29 => ?_) N a4 a5 0 μ0
      refine go_incI (q := 5) (i := 6) (n := 1) (c := 1) (pc := 108) hΓ d_X_merges_108 rfl (by decide) (by decide) (fun v30 => ?_)
      refine go_sub' (lv' := [(6, .int v30), (0, .ref 0), (2, .int x2), (3, .int x3), (4, .int v27), (5, .int v28)]) rfl ?_
      refine go_goto 56 (pc := 111) hΓ d_X_merges_111 (by decide) ?_
      refine go_sub' (lv' := [(0, .ref 0), (2, .int x2), (3, .int x3), (4, .int v27), (5, .int v28), (6, .int v30)]) rfl ?_
      exact ih v27 v28 v30 μ29
set_option maxHeartbeats 4000000 in
set_option maxRecDepth 100000 in
theorem g_X_merges (N d : Nat) (x1 : Int32) (x2 : Int32)  : CallF eI y_X_merges c_X_merges 8 (some .int) (d + 3 + 1) [.ref 0, .int x1, .int x2] (f_X_merges N x1 x2) := by
  refine call_of (d := d + 3) (n := 2) mi_X_merges.1 (fun _ => rfl) ?_
  intro Γ μ0 hΓ hT hR
  show Go Γ 8 0 [(0, .ref 0), (1, .int x1), (2, .int x2)] [] μ0 (f_X_merges N x1 x2 μ0)
  unfold f_X_merges
  refine go_iload_n (q := 1) (i := 1) (pc := 0) hΓ d_X_merges_0 rfl rfl ?_
  refine go_callS (index := 101) emI hΓ hR (g_X_isNet N (d + 2) x1) mi_X_isNet ml_X_101 d_X_merges_1 rfl rfl rfl (fun r1 μ2 => ?_)
  show Go Γ 8 4 [(0, .ref 0), (1, .int x1), (2, .int x2)] [.int r1] μ2 _
  refine go_if_eq 24 (pc := 4) hΓ d_X_merges_4 (by decide) (fun h3 => go_eq (if_pos h3) ?_) (fun h3 => go_eq (if_neg h3) ?_)
  · refine go_iconst (v := -1) (pc := 24) hΓ d_X_merges_24 (by decide) ?_
    exact go_iret (pc := 25) hΓ hT d_X_merges_25
  · refine go_aload_n (q := 0) (i := 0) (pc := 7) hΓ d_X_merges_7 rfl rfl ?_
    refine go_getR (q := 1) (pc := 8) hΓ fl_X_11 d_X_merges_8 rfl rfl ?_
    refine go_iload_n (q := 1) (i := 1) (pc := 11) hΓ d_X_merges_11 rfl rfl ?_
    refine go_ck (fun h4 => ?_)
    refine go_aald (pc := 12) hΓ d_X_merges_12 h4 ?_
    refine go_iload_n (q := 2) (i := 2) (pc := 13) hΓ d_X_merges_13 rfl rfl ?_
    refine go_callV (index := 163) emI hΓ hR (g_Net_isWire N (d + 2) (2 + 3 * tn x1) (isN_in h4) x2) mi_Net_isWire ml_X_163 d_X_merges_14 rfl (isN_sh (isN_in h4)).1 rfl rfl rfl (fun r5 μ6 => ?_)
    show Go Γ 8 17 [(0, .ref 0), (1, .int x1), (2, .int x2)] [.int r5] μ6 _
    refine go_if_eq 24 (pc := 17) hΓ d_X_merges_17 (by decide) (fun h7 => go_eq (if_pos h7) ?_) (fun h7 => go_eq (if_neg h7) ?_)
    · refine go_iconst (v := -1) (pc := 24) hΓ d_X_merges_24 (by decide) ?_
      exact go_iret (pc := 25) hΓ hT d_X_merges_25
    · refine go_iload_n (q := 2) (i := 2) (pc := 20) hΓ d_X_merges_20 rfl rfl ?_
      refine go_if_ne 26 (pc := 21) hΓ d_X_merges_21 (by decide) (fun h8 => go_eq (if_neg h8) ?_) (fun h8 => go_eq (if_pos h8) ?_)
      · refine go_aload_n (q := 0) (i := 0) (pc := 26) hΓ d_X_merges_26 rfl rfl ?_
        refine go_getR (q := 1) (pc := 27) hΓ fl_X_11 d_X_merges_27 rfl rfl ?_
        refine go_iload_n (q := 1) (i := 1) (pc := 30) hΓ d_X_merges_30 rfl rfl ?_
        refine go_ck (fun h9 => ?_)
        refine go_aald (pc := 31) hΓ d_X_merges_31 h9 ?_
        refine go_getI (pc := 32) hΓ fl_X_111 d_X_merges_32 (isN_sh (isN_in h9)).1 rfl ?_
        refine go_letI (fun v10 => ?_)
        refine go_istore_n (i := 3) (lv' := [(3, .int v10), (0, .ref 0), (1, .int x1), (2, .int x2)]) (pc := 35) hΓ d_X_merges_35 rfl (by decide) rfl ?_
        refine go_aload_n (q := 1) (i := 0) (pc := 36) hΓ d_X_merges_36 rfl rfl ?_
        refine go_aload_n (q := 1) (i := 0) (pc := 37) hΓ d_X_merges_37 rfl rfl ?_
        refine go_getR (q := 1) (pc := 38) hΓ fl_X_11 d_X_merges_38 rfl rfl ?_
        refine go_iload_n (q := 2) (i := 1) (pc := 41) hΓ d_X_merges_41 rfl rfl ?_
        refine go_ck (fun h11 => ?_)
        refine go_aald (pc := 42) hΓ d_X_merges_42 h11 ?_
        refine go_iconst (v := -1) (pc := 43) hΓ d_X_merges_43 (by decide) ?_
        refine go_callV (index := 157) emV hΓ hR (g_X_judge N (d + 0) (2 + 3 * tn x1) (isN_in h11) (-1)) mi_X_judge ml_X_157 d_X_merges_44 rfl rfl rfl rfl rfl (fun _ μ13 => ?_)
        show Go Γ 8 47 [(3, .int v10), (0, .ref 0), (1, .int x1), (2, .int x2)] [] μ13 _
        refine go_iconst (v := 0) (pc := 47) hΓ d_X_merges_47 (by decide) ?_
        refine go_istore (lv' := [(4, .int 0), (3, .int v10), (0, .ref 0), (1, .int x1), (2, .int x2)]) (pc := 48) hΓ d_X_merges_48 (by decide) rfl ?_
        refine go_iconst (v := 0) (pc := 50) hΓ d_X_merges_50 (by decide) ?_
        refine go_istore (lv' := [(5, .int 0), (4, .int 0), (3, .int v10), (0, .ref 0), (1, .int x1), (2, .int x2)]) (pc := 51) hΓ d_X_merges_51 (by decide) rfl ?_
        refine go_iconst (v := 0) (pc := 53) hΓ d_X_merges_53 (by decide) ?_
        refine go_istore (lv' := [(6, .int 0), (5, .int 0), (4, .int 0), (3, .int v10), (0, .ref 0), (1, .int x1), (2, .int x2)]) (pc := 54) hΓ d_X_merges_54 (by decide) rfl ?_
        refine go_sub' (lv' := [(0, .ref 0), (2, .int x2), (3, .int v10), (4, .int 0), (5, .int 0), (6, .int 0)]) rfl ?_
        refine glp_X_merges_56 N d hΓ hT hR x2 v10 _ (fun v31 v32 μ33 => ?_) N 0 0 0 μ13
        refine go_aload_n (q := 0) (i := 0) (pc := 114) hΓ d_X_merges_114 rfl rfl ?_
        refine go_getR (q := 16) (pc := 115) hΓ fl_X_37 d_X_merges_115 rfl rfl ?_
        refine go_callV (index := 108) emV hΓ hR (g_Numbers_clear N (d + 2) ) mi_Numbers_clear ml_X_108 d_X_merges_118 rfl rfl rfl rfl rfl (fun _ μ35 => ?_)
        show Go Γ 8 121 [(0, .ref 0), (4, .int v31), (5, .int v32)] [] μ35 _
        refine go_aload_n (q := 0) (i := 0) (pc := 121) hΓ d_X_merges_121 rfl rfl ?_
        refine go_getR (q := 16) (pc := 122) hΓ fl_X_37 d_X_merges_122 rfl rfl ?_
        refine go_iload (q := 1) (pc := 125) hΓ d_X_merges_125 rfl ?_
        refine go_i2l (pc := 127) hΓ d_X_merges_127 ?_
        refine go_callV (index := 118) emV hΓ hR (g_Numbers_append N (d + 2) (Int32.toInt64 v31)) mi_Numbers_append ml_X_118 d_X_merges_128 rfl rfl rfl rfl rfl (fun _ μ37 => ?_)
        show Go Γ 8 131 [(0, .ref 0), (4, .int v31), (5, .int v32)] [] μ37 _
        refine go_iload (q := 2) (pc := 131) hΓ d_X_merges_131 rfl ?_
        exact go_iret (pc := 133) hΓ hT d_X_merges_133
      · refine go_iconst (v := -1) (pc := 24) hΓ d_X_merges_24 (by decide) ?_
        exact go_iret (pc := 25) hΓ hT d_X_merges_25
def lp_X_idle_34 (N : Nat) (p2 : Nat)  (K : Int64 → Mem → Option (Int64 × Mem)) : Nat → Int64 → Int32 → Mem → Option (Int64 × Mem)
  | 0, _, _, _ => none
  | n + 1, a3, a5, μ0 => if a5 < (gI μ0 p2 1) then (ck (inb a5 60) (ck (inb a5 60) (bnd (f_Trial_isBusy N 27 (gI μ0 (p2 + 1) (tn a5)) (gI μ0 (p2 + 2) (tn a5)) μ0) fun r10 μ11 => lt' (if r10 = 0 then (a3 ||| (shlL 1 a5) : Int64) else (a3 : Int64)) fun q13 => ck (inb a5 60) (ck (inb a5 60) (bnd (f_Trial_compare N 27 (gI μ11 (p2 + 1) (tn a5)) (gI μ11 (p2 + 2) (tn a5)) μ11) fun _ μ17 => lt' (a5 + 1) fun v18 => lp_X_idle_34 N p2 K n q13 v18 μ17))))) else (K a3 μ0)
def f_X_idle (N : Nat) (x1 : Int32) (μ0 : Mem) : Option (Int64 × Mem) :=
  bnd (f_X_isNet N x1 μ0) fun r1 μ2 => if r1 = 0 then (some ((-1), μ2)) else (ck (inb x1 4) (bnd (f_Trial_start N 27 (gI μ2 (2 + 3 * tn x1) 0) μ2) fun _ μ6 => lp_X_idle_34 N (2 + 3 * tn x1) (fun v20 μ21 => bnd (f_Numbers_clear N  μ21) fun _ μ23 => bnd (f_JLong_bitCount N v20 μ23) fun r24 μ25 => bnd (f_Numbers_append N (Int32.toInt64 r24) μ25) fun _ μ27 => some (v20, μ27)) N 0 0 μ6))
set_option maxHeartbeats 4000000 in
set_option maxRecDepth 100000 in
theorem glp_X_idle_34 (N d : Nat) {Γ : Cx Int64} (hΓ : Ok Γ "SortingNets" c_X_idle 6) (hT : Rt Γ eL (some .long)) (hR : Rm Γ (d + 2)) (p2 : Nat) (hp2 : isN p2)   (K : Int64 → Mem → Option (Int64 × Mem)) (hK : ∀ (b3 : Int64) (ν : Mem), Go Γ 6 101 [(0, .ref 0), (3, .long b3)] [] ν (K b3 ν)) : ∀ (n : Nat) (a3 : Int64) (a5 : Int32) (μ0 : Mem), Go Γ 6 34 [(0, .ref 0), (2, .ref p2), (3, .long a3), (5, .int a5)] [] μ0 (lp_X_idle_34 N p2 K n a3 a5 μ0) := by
  intro n
  induction n with
  | zero => intro a3 a5 μ0; exact go_none
  | succ n ih =>
    intro a3 a5 μ0
    rw [lp_X_idle_34]
    refine go_iload (q := 3) (pc := 34) hΓ d_X_idle_34 rfl ?_
    refine go_aload_n (q := 1) (i := 2) (pc := 36) hΓ d_X_idle_36 rfl rfl ?_
    refine go_getI (pc := 37) hΓ fl_X_121 d_X_idle_37 (isN_sh hp2).1 rfl ?_
    refine go_icmp_ge 101 (pc := 40) hΓ d_X_idle_40 (by decide) (fun h7 => go_eq (if_neg h7) ?_) (fun h7 => go_eq (if_pos h7) ?_)
    · refine go_sub' (lv' := [(0, .ref 0), (3, .long a3)]) rfl ?_
      exact hK a3 μ0
    · refine go_aload_n (q := 0) (i := 0) (pc := 43) hΓ d_X_idle_43 rfl rfl ?_
      refine go_getR (q := 27) (pc := 44) hΓ fl_X_51 d_X_idle_44 rfl rfl ?_
      refine go_aload_n (q := 1) (i := 2) (pc := 47) hΓ d_X_idle_47 rfl rfl ?_
      refine go_getR (q := p2 + 1) (pc := 48) hΓ fl_X_175 d_X_idle_48 (isN_sh hp2).1 rfl ?_
      refine go_iload (q := 3) (pc := 51) hΓ d_X_idle_51 rfl ?_
      refine go_ck (fun h8 => ?_)
      refine go_iald (pc := 53) hΓ d_X_idle_53 (isN_sh hp2).2.1 h8 ?_
      refine go_aload_n (q := 1) (i := 2) (pc := 54) hΓ d_X_idle_54 rfl rfl ?_
      refine go_getR (q := p2 + 2) (pc := 55) hΓ fl_X_178 d_X_idle_55 (isN_sh hp2).1 rfl ?_
      refine go_iload (q := 3) (pc := 58) hΓ d_X_idle_58 rfl ?_
      refine go_ck (fun h9 => ?_)
      refine go_iald (pc := 60) hΓ d_X_idle_60 (isN_sh hp2).2.2 h9 ?_
      refine go_callV (index := 267) emI hΓ hR (g_Trial_isBusy N (d + 1) 27 isT_27 (gI μ0 (p2 + 1) (tn a5)) (gI μ0 (p2 + 2) (tn a5))) mi_Trial_isBusy ml_X_267 d_X_idle_61 rfl rfl rfl rfl rfl (fun r10 μ11 => ?_)
      show Go Γ 6 64 [(0, .ref 0), (2, .ref p2), (3, .long a3), (5, .int a5)] [.int r10] μ11 _
      refine go_mg (α := Int64) 74 (fun q13 => [(0, .ref 0), (2, .ref p2), (3, .long q13), (5, .int a5)]) (fun q13 => []) (fun q13 => ?_) (fun g19 g19h => ?_)
      · refine go_aload_n (q := 0) (i := 0) (pc := 74) hΓ d_X_idle_74 rfl rfl ?_
        refine go_getR (q := 27) (pc := 75) hΓ fl_X_51 d_X_idle_75 rfl rfl ?_
        refine go_aload_n (q := 1) (i := 2) (pc := 78) hΓ d_X_idle_78 rfl rfl ?_
        refine go_getR (q := p2 + 1) (pc := 79) hΓ fl_X_175 d_X_idle_79 (isN_sh hp2).1 rfl ?_
        refine go_iload (q := 3) (pc := 82) hΓ d_X_idle_82 rfl ?_
        refine go_ck (fun h14 => ?_)
        refine go_iald (pc := 84) hΓ d_X_idle_84 (isN_sh hp2).2.1 h14 ?_
        refine go_aload_n (q := 1) (i := 2) (pc := 85) hΓ d_X_idle_85 rfl rfl ?_
        refine go_getR (q := p2 + 2) (pc := 86) hΓ fl_X_178 d_X_idle_86 (isN_sh hp2).1 rfl ?_
        refine go_iload (q := 3) (pc := 89) hΓ d_X_idle_89 rfl ?_
        refine go_ck (fun h15 => ?_)
        refine go_iald (pc := 91) hΓ d_X_idle_91 (isN_sh hp2).2.2 h15 ?_
        refine go_callV (index := 270) emV hΓ hR (g_Trial_compare N (d + 1) 27 isT_27 (gI μ11 (p2 + 1) (tn a5)) (gI μ11 (p2 + 2) (tn a5))) mi_Trial_compare ml_X_270 d_X_idle_92 rfl rfl rfl rfl rfl (fun _ μ17 => ?_)
        show Go Γ 6 95 [(0, .ref 0), (2, .ref p2), (3, .long q13), (5, .int a5)] [] μ17 _
        refine go_incI (q := 3) (i := 5) (n := 1) (c := 1) (pc := 95) hΓ d_X_idle_95 rfl (by decide) (by decide) (fun v18 => ?_)
        refine go_sub' (lv' := [(5, .int v18), (0, .ref 0), (2, .ref p2), (3, .long q13)]) rfl ?_
        refine go_goto 34 (pc := 98) hΓ d_X_idle_98 (by decide) ?_
        refine go_sub' (lv' := [(0, .ref 0), (2, .ref p2), (3, .long q13), (5, .int v18)]) rfl ?_
        exact ih q13 v18 μ17
      · refine go_if_ne 74 (pc := 64) hΓ d_X_idle_64 (by decide) (fun h12 => ?_) (fun h12 => ?_)
        · rw [if_neg h12]
          refine go_sub' (lv' := [(0, .ref 0), (2, .ref p2), (3, .long a3), (5, .int a5)]) rfl ?_
          exact g19h _
        · rw [if_pos h12]
          refine go_lload_n (q := 2) (i := 3) (pc := 67) hΓ d_X_idle_67 rfl rfl ?_
          refine go_lconst (v := 1) (pc := 68) hΓ d_X_idle_68 (by decide) ?_
          refine go_iload (q := 3) (pc := 69) hΓ d_X_idle_69 rfl ?_
          refine go_lshl (pc := 71) hΓ d_X_idle_71 ?_
          refine go_lor (pc := 72) hΓ d_X_idle_72 ?_
          refine go_lstore_n (i := 3) (lv' := [(3, .long (a3 ||| (shlL 1 a5))), (0, .ref 0), (2, .ref p2), (5, .int a5)]) (pc := 73) hΓ d_X_idle_73 rfl (by decide) rfl ?_
          refine go_sub' (lv' := [(0, .ref 0), (2, .ref p2), (3, .long (a3 ||| (shlL 1 a5))), (5, .int a5)]) rfl ?_
          exact g19h _
set_option maxHeartbeats 4000000 in
set_option maxRecDepth 100000 in
theorem g_X_idle (N d : Nat) (x1 : Int32)  : CallF eL y_X_idle c_X_idle 6 (some .long) (d + 2 + 1) [.ref 0, .int x1] (f_X_idle N x1) := by
  refine call_of (d := d + 2) (n := 1) mi_X_idle.1 (fun _ => rfl) ?_
  intro Γ μ0 hΓ hT hR
  show Go Γ 6 0 [(0, .ref 0), (1, .int x1)] [] μ0 (f_X_idle N x1 μ0)
  unfold f_X_idle
  refine go_iload_n (q := 1) (i := 1) (pc := 0) hΓ d_X_idle_0 rfl rfl ?_
  refine go_callS (index := 101) emI hΓ hR (g_X_isNet N (d + 1) x1) mi_X_isNet ml_X_101 d_X_idle_1 rfl rfl rfl (fun r1 μ2 => ?_)
  show Go Γ 6 4 [(0, .ref 0), (1, .int x1)] [.int r1] μ2 _
  refine go_if_ne 11 (pc := 4) hΓ d_X_idle_4 (by decide) (fun h3 => go_eq (if_neg h3) ?_) (fun h3 => go_eq (if_pos h3) ?_)
  · refine go_aload_n (q := 0) (i := 0) (pc := 11) hΓ d_X_idle_11 rfl rfl ?_
    refine go_getR (q := 1) (pc := 12) hΓ fl_X_11 d_X_idle_12 rfl rfl ?_
    refine go_iload_n (q := 1) (i := 1) (pc := 15) hΓ d_X_idle_15 rfl rfl ?_
    refine go_ck (fun h4 => ?_)
    refine go_aald (pc := 16) hΓ d_X_idle_16 h4 ?_
    refine go_astore_n (i := 2) (lv' := [(2, .ref (2 + 3 * tn x1)), (0, .ref 0), (1, .int x1)]) (pc := 17) hΓ d_X_idle_17 rfl (by decide) rfl ?_
    refine go_aload_n (q := 1) (i := 0) (pc := 18) hΓ d_X_idle_18 rfl rfl ?_
    refine go_getR (q := 27) (pc := 19) hΓ fl_X_51 d_X_idle_19 rfl rfl ?_
    refine go_aload_n (q := 0) (i := 2) (pc := 22) hΓ d_X_idle_22 rfl rfl ?_
    refine go_getI (pc := 23) hΓ fl_X_111 d_X_idle_23 (isN_sh (isN_in h4)).1 rfl ?_
    refine go_callV (index := 266) emV hΓ hR (g_Trial_start N (d + 0) 27 isT_27 (gI μ2 (2 + 3 * tn x1) 0)) mi_Trial_start ml_X_266 d_X_idle_26 rfl rfl rfl rfl rfl (fun _ μ6 => ?_)
    show Go Γ 6 29 [(2, .ref (2 + 3 * tn x1)), (0, .ref 0), (1, .int x1)] [] μ6 _
    refine go_lconst (v := 0) (pc := 29) hΓ d_X_idle_29 (by decide) ?_
    refine go_lstore_n (i := 3) (lv' := [(3, .long 0), (2, .ref (2 + 3 * tn x1)), (0, .ref 0), (1, .int x1)]) (pc := 30) hΓ d_X_idle_30 rfl (by decide) rfl ?_
    refine go_iconst (v := 0) (pc := 31) hΓ d_X_idle_31 (by decide) ?_
    refine go_istore (lv' := [(5, .int 0), (3, .long 0), (2, .ref (2 + 3 * tn x1)), (0, .ref 0), (1, .int x1)]) (pc := 32) hΓ d_X_idle_32 (by decide) rfl ?_
    refine go_sub' (lv' := [(0, .ref 0), (2, .ref (2 + 3 * tn x1)), (3, .long 0), (5, .int 0)]) rfl ?_
    refine glp_X_idle_34 N d hΓ hT hR (2 + 3 * tn x1) (isN_in h4) _ (fun v20 μ21 => ?_) N 0 0 μ6
    refine go_aload_n (q := 0) (i := 0) (pc := 101) hΓ d_X_idle_101 rfl rfl ?_
    refine go_getR (q := 16) (pc := 102) hΓ fl_X_37 d_X_idle_102 rfl rfl ?_
    refine go_callV (index := 108) emV hΓ hR (g_Numbers_clear N (d + 1) ) mi_Numbers_clear ml_X_108 d_X_idle_105 rfl rfl rfl rfl rfl (fun _ μ23 => ?_)
    show Go Γ 6 108 [(0, .ref 0), (3, .long v20)] [] μ23 _
    refine go_aload_n (q := 0) (i := 0) (pc := 108) hΓ d_X_idle_108 rfl rfl ?_
    refine go_getR (q := 16) (pc := 109) hΓ fl_X_37 d_X_idle_109 rfl rfl ?_
    refine go_lload_n (q := 1) (i := 3) (pc := 112) hΓ d_X_idle_112 rfl rfl ?_
    refine go_callS (index := 273) emI hΓ hR (g_JLong_bitCount N (d + 1) v20) mi_JLong_bitCount ml_X_273 d_X_idle_113 rfl rfl rfl (fun r24 μ25 => ?_)
    show Go Γ 6 116 [(0, .ref 0), (3, .long v20)] [.int r24, .ref 16] μ25 _
    refine go_i2l (pc := 116) hΓ d_X_idle_116 ?_
    refine go_callV (index := 118) emV hΓ hR (g_Numbers_append N (d + 1) (Int32.toInt64 r24)) mi_Numbers_append ml_X_118 d_X_idle_117 rfl rfl rfl rfl rfl (fun _ μ27 => ?_)
    show Go Γ 6 120 [(0, .ref 0), (3, .long v20)] [] μ27 _
    refine go_lload_n (q := 1) (i := 3) (pc := 120) hΓ d_X_idle_120 rfl rfl ?_
    exact go_lret (pc := 121) hΓ hT d_X_idle_121
  · refine go_ldc2 (v := -1) (pc := 7) hΓ (tb_3 (List.mem_of_getElem? (i := 106) rfl) rfl) d_X_idle_7 ?_
    exact go_lret (pc := 10) hΓ hT d_X_idle_10
def f_X_isSorting (N : Nat) (p1 : Nat) (x2 : Int32) (μ0 : Mem) : Option (Int32 × Mem) :=
  bnd (f_X_judge N p1 x2 μ0) fun _ μ2 => bnd (f_PatternSet_isEmpty N  μ2) fun r3 μ4 => ck (isb r3) (some (r3, μ4))
set_option maxHeartbeats 4000000 in
set_option maxRecDepth 100000 in
theorem g_X_isSorting (N d : Nat) (p1 : Nat) (hp1 : isN p1) (x2 : Int32)  : CallF eI y_X_isSorting c_X_isSorting 3 (some .boolean) (d + 3 + 1) [.ref 0, .ref p1, .int x2] (f_X_isSorting N p1 x2) := by
  refine call_of (d := d + 3) (n := 2) mi_X_isSorting.1 (fun _ => rfl) ?_
  intro Γ μ0 hΓ hT hR
  show Go Γ 3 0 [(0, .ref 0), (1, .ref p1), (2, .int x2)] [] μ0 (f_X_isSorting N p1 x2 μ0)
  unfold f_X_isSorting
  refine go_aload_n (q := 0) (i := 0) (pc := 0) hΓ d_X_isSorting_0 rfl rfl ?_
  refine go_aload_n (q := 1) (i := 1) (pc := 1) hΓ d_X_isSorting_1 rfl rfl ?_
  refine go_iload_n (q := 2) (i := 2) (pc := 2) hΓ d_X_isSorting_2 rfl rfl ?_
  refine go_callV (index := 157) emV hΓ hR (g_X_judge N (d + 0) p1 hp1 x2) mi_X_judge ml_X_157 d_X_isSorting_3 rfl rfl rfl rfl rfl (fun _ μ2 => ?_)
  show Go Γ 3 6 [(0, .ref 0), (1, .ref p1), (2, .int x2)] [] μ2 _
  refine go_aload_n (q := 0) (i := 0) (pc := 6) hΓ d_X_isSorting_6 rfl rfl ?_
  refine go_getR (q := 31) (pc := 7) hΓ fl_X_61 d_X_isSorting_7 rfl rfl ?_
  refine go_callV (index := 236) emI hΓ hR (g_PatternSet_isEmpty N (d + 0) ) mi_PatternSet_isEmpty ml_X_236 d_X_isSorting_10 rfl rfl rfl rfl rfl (fun r3 μ4 => ?_)
  show Go Γ 3 13 [(0, .ref 0), (1, .ref p1), (2, .int x2)] [.int r3] μ4 _
  refine go_ck (fun h5 => ?_)
  exact go_zret (pc := 13) hΓ hT d_X_isSorting_13 h5
def lp_X_spare_34 (N : Nat) (x1 : Int32)  (K : Int64 → Mem → Option (Int64 × Mem)) : Nat → Int64 → Int32 → Mem → Option (Int64 × Mem)
  | 0, _, _, _ => none
  | n + 1, a2, a4, μ0 => ck (inb x1 4) (if a4 < (gI μ0 (2 + 3 * tn x1) 1) then (ck (inb x1 4) (bnd (f_X_isSorting N (2 + 3 * tn x1) a4 μ0) fun r11 μ12 => lt' (if r11 = 0 then (a2 : Int64) else (a2 ||| (shlL 1 a4) : Int64)) fun q14 => lt' (a4 + 1) fun v15 => lp_X_spare_34 N x1 K n q14 v15 μ12)) else (K a2 μ0))
def f_X_spare (N : Nat) (x1 : Int32) (μ0 : Mem) : Option (Int64 × Mem) :=
  bnd (f_X_isNet N x1 μ0) fun r1 μ2 => if r1 = 0 then (some ((-1), μ2)) else (ck (inb x1 4) (bnd (f_X_isSorting N (2 + 3 * tn x1) (-1) μ2) fun r5 μ6 => if r5 = 0 then (some ((-2), μ6)) else (lp_X_spare_34 N x1 (fun v17 μ18 => bnd (f_Numbers_clear N  μ18) fun _ μ20 => bnd (f_JLong_bitCount N v17 μ20) fun r21 μ22 => bnd (f_Numbers_append N (Int32.toInt64 r21) μ22) fun _ μ24 => some (v17, μ24)) N 0 0 μ6)))
set_option maxHeartbeats 4000000 in
set_option maxRecDepth 100000 in
theorem glp_X_spare_34 (N d : Nat) {Γ : Cx Int64} (hΓ : Ok Γ "SortingNets" c_X_spare 5) (hT : Rt Γ eL (some .long)) (hR : Rm Γ (d + 4)) (x1 : Int32)    (K : Int64 → Mem → Option (Int64 × Mem)) (hK : ∀ (b2 : Int64) (ν : Mem), Go Γ 5 76 [(0, .ref 0), (2, .long b2)] [] ν (K b2 ν)) : ∀ (n : Nat) (a2 : Int64) (a4 : Int32) (μ0 : Mem), Go Γ 5 34 [(0, .ref 0), (1, .int x1), (2, .long a2), (4, .int a4)] [] μ0 (lp_X_spare_34 N x1 K n a2 a4 μ0) := by
  intro n
  induction n with
  | zero => intro a2 a4 μ0; exact go_none
  | succ n ih =>
    intro a2 a4 μ0
    rw [lp_X_spare_34]
    refine go_iload (q := 3) (pc := 34) hΓ d_X_spare_34 rfl ?_
    refine go_aload_n (q := 0) (i := 0) (pc := 36) hΓ d_X_spare_36 rfl rfl ?_
    refine go_getR (q := 1) (pc := 37) hΓ fl_X_11 d_X_spare_37 rfl rfl ?_
    refine go_iload_n (q := 1) (i := 1) (pc := 40) hΓ d_X_spare_40 rfl rfl ?_
    refine go_ck (fun h8 => ?_)
    refine go_aald (pc := 41) hΓ d_X_spare_41 h8 ?_
    refine go_getI (pc := 42) hΓ fl_X_121 d_X_spare_42 (isN_sh (isN_in h8)).1 rfl ?_
    refine go_icmp_ge 76 (pc := 45) hΓ d_X_spare_45 (by decide) (fun h9 => go_eq (if_neg h9) ?_) (fun h9 => go_eq (if_pos h9) ?_)
    · refine go_sub' (lv' := [(0, .ref 0), (2, .long a2)]) rfl ?_
      exact hK a2 μ0
    · refine go_aload_n (q := 0) (i := 0) (pc := 48) hΓ d_X_spare_48 rfl rfl ?_
      refine go_aload_n (q := 0) (i := 0) (pc := 49) hΓ d_X_spare_49 rfl rfl ?_
      refine go_getR (q := 1) (pc := 50) hΓ fl_X_11 d_X_spare_50 rfl rfl ?_
      refine go_iload_n (q := 1) (i := 1) (pc := 53) hΓ d_X_spare_53 rfl rfl ?_
      refine go_ck (fun h10 => ?_)
      refine go_aald (pc := 54) hΓ d_X_spare_54 h10 ?_
      refine go_iload (q := 3) (pc := 55) hΓ d_X_spare_55 rfl ?_
      refine go_callV (index := 279) emI hΓ hR (g_X_isSorting N (d + 0) (2 + 3 * tn x1) (isN_in h10) a4) mi_X_isSorting ml_X_279 d_X_spare_57 rfl rfl rfl rfl rfl (fun r11 μ12 => ?_)
      show Go Γ 5 60 [(0, .ref 0), (1, .int x1), (2, .long a2), (4, .int a4)] [.int r11] μ12 _
      refine go_mg (α := Int64) 70 (fun q14 => [(0, .ref 0), (1, .int x1), (2, .long q14), (4, .int a4)]) (fun q14 => []) (fun q14 => ?_) (fun g16 g16h => ?_)
      · refine go_incI (q := 3) (i := 4) (n := 1) (c := 1) (pc := 70) hΓ d_X_spare_70 rfl (by decide) (by decide) (fun v15 => ?_)
        refine go_sub' (lv' := [(4, .int v15), (0, .ref 0), (1, .int x1), (2, .long q14)]) rfl ?_
        refine go_goto 34 (pc := 73) hΓ d_X_spare_73 (by decide) ?_
        refine go_sub' (lv' := [(0, .ref 0), (1, .int x1), (2, .long q14), (4, .int v15)]) rfl ?_
        exact ih q14 v15 μ12
      · refine go_if_eq 70 (pc := 60) hΓ d_X_spare_60 (by decide) (fun h13 => ?_) (fun h13 => ?_)
        · rw [if_pos h13]
          refine go_sub' (lv' := [(0, .ref 0), (1, .int x1), (2, .long a2), (4, .int a4)]) rfl ?_
          exact g16h _
        · rw [if_neg h13]
          refine go_lload_n (q := 2) (i := 2) (pc := 63) hΓ d_X_spare_63 rfl rfl ?_
          refine go_lconst (v := 1) (pc := 64) hΓ d_X_spare_64 (by decide) ?_
          refine go_iload (q := 3) (pc := 65) hΓ d_X_spare_65 rfl ?_
          refine go_lshl (pc := 67) hΓ d_X_spare_67 ?_
          refine go_lor (pc := 68) hΓ d_X_spare_68 ?_
          refine go_lstore_n (i := 2) (lv' := [(2, .long (a2 ||| (shlL 1 a4))), (0, .ref 0), (1, .int x1), (4, .int a4)]) (pc := 69) hΓ d_X_spare_69 rfl (by decide) rfl ?_
          refine go_sub' (lv' := [(0, .ref 0), (1, .int x1), (2, .long (a2 ||| (shlL 1 a4))), (4, .int a4)]) rfl ?_
          exact g16h _
set_option maxHeartbeats 4000000 in
set_option maxRecDepth 100000 in
theorem g_X_spare (N d : Nat) (x1 : Int32)  : CallF eL y_X_spare c_X_spare 5 (some .long) (d + 4 + 1) [.ref 0, .int x1] (f_X_spare N x1) := by
  refine call_of (d := d + 4) (n := 1) mi_X_spare.1 (fun _ => rfl) ?_
  intro Γ μ0 hΓ hT hR
  show Go Γ 5 0 [(0, .ref 0), (1, .int x1)] [] μ0 (f_X_spare N x1 μ0)
  unfold f_X_spare
  refine go_iload_n (q := 1) (i := 1) (pc := 0) hΓ d_X_spare_0 rfl rfl ?_
  refine go_callS (index := 101) emI hΓ hR (g_X_isNet N (d + 3) x1) mi_X_isNet ml_X_101 d_X_spare_1 rfl rfl rfl (fun r1 μ2 => ?_)
  show Go Γ 5 4 [(0, .ref 0), (1, .int x1)] [.int r1] μ2 _
  refine go_if_ne 11 (pc := 4) hΓ d_X_spare_4 (by decide) (fun h3 => go_eq (if_neg h3) ?_) (fun h3 => go_eq (if_pos h3) ?_)
  · refine go_aload_n (q := 0) (i := 0) (pc := 11) hΓ d_X_spare_11 rfl rfl ?_
    refine go_aload_n (q := 0) (i := 0) (pc := 12) hΓ d_X_spare_12 rfl rfl ?_
    refine go_getR (q := 1) (pc := 13) hΓ fl_X_11 d_X_spare_13 rfl rfl ?_
    refine go_iload_n (q := 1) (i := 1) (pc := 16) hΓ d_X_spare_16 rfl rfl ?_
    refine go_ck (fun h4 => ?_)
    refine go_aald (pc := 17) hΓ d_X_spare_17 h4 ?_
    refine go_iconst (v := -1) (pc := 18) hΓ d_X_spare_18 (by decide) ?_
    refine go_callV (index := 279) emI hΓ hR (g_X_isSorting N (d + 0) (2 + 3 * tn x1) (isN_in h4) (-1)) mi_X_isSorting ml_X_279 d_X_spare_19 rfl rfl rfl rfl rfl (fun r5 μ6 => ?_)
    show Go Γ 5 22 [(0, .ref 0), (1, .int x1)] [.int r5] μ6 _
    refine go_if_ne 29 (pc := 22) hΓ d_X_spare_22 (by decide) (fun h7 => go_eq (if_neg h7) ?_) (fun h7 => go_eq (if_pos h7) ?_)
    · refine go_lconst (v := 0) (pc := 29) hΓ d_X_spare_29 (by decide) ?_
      refine go_lstore_n (i := 2) (lv' := [(2, .long 0), (0, .ref 0), (1, .int x1)]) (pc := 30) hΓ d_X_spare_30 rfl (by decide) rfl ?_
      refine go_iconst (v := 0) (pc := 31) hΓ d_X_spare_31 (by decide) ?_
      refine go_istore (lv' := [(4, .int 0), (2, .long 0), (0, .ref 0), (1, .int x1)]) (pc := 32) hΓ d_X_spare_32 (by decide) rfl ?_
      refine go_sub' (lv' := [(0, .ref 0), (1, .int x1), (2, .long 0), (4, .int 0)]) rfl ?_
      refine glp_X_spare_34 N d hΓ hT hR x1 _ (fun v17 μ18 => ?_) N 0 0 μ6
      refine go_aload_n (q := 0) (i := 0) (pc := 76) hΓ d_X_spare_76 rfl rfl ?_
      refine go_getR (q := 16) (pc := 77) hΓ fl_X_37 d_X_spare_77 rfl rfl ?_
      refine go_callV (index := 108) emV hΓ hR (g_Numbers_clear N (d + 3) ) mi_Numbers_clear ml_X_108 d_X_spare_80 rfl rfl rfl rfl rfl (fun _ μ20 => ?_)
      show Go Γ 5 83 [(0, .ref 0), (2, .long v17)] [] μ20 _
      refine go_aload_n (q := 0) (i := 0) (pc := 83) hΓ d_X_spare_83 rfl rfl ?_
      refine go_getR (q := 16) (pc := 84) hΓ fl_X_37 d_X_spare_84 rfl rfl ?_
      refine go_lload_n (q := 1) (i := 2) (pc := 87) hΓ d_X_spare_87 rfl rfl ?_
      refine go_callS (index := 273) emI hΓ hR (g_JLong_bitCount N (d + 3) v17) mi_JLong_bitCount ml_X_273 d_X_spare_88 rfl rfl rfl (fun r21 μ22 => ?_)
      show Go Γ 5 91 [(0, .ref 0), (2, .long v17)] [.int r21, .ref 16] μ22 _
      refine go_i2l (pc := 91) hΓ d_X_spare_91 ?_
      refine go_callV (index := 118) emV hΓ hR (g_Numbers_append N (d + 3) (Int32.toInt64 r21)) mi_Numbers_append ml_X_118 d_X_spare_92 rfl rfl rfl rfl rfl (fun _ μ24 => ?_)
      show Go Γ 5 95 [(0, .ref 0), (2, .long v17)] [] μ24 _
      refine go_lload_n (q := 1) (i := 2) (pc := 95) hΓ d_X_spare_95 rfl rfl ?_
      exact go_lret (pc := 96) hΓ hT d_X_spare_96
    · refine go_ldc2 (v := -2) (pc := 25) hΓ (tb_3 (List.mem_of_getElem? (i := 121) rfl) rfl) d_X_spare_25 ?_
      exact go_lret (pc := 28) hΓ hT d_X_spare_28
  · refine go_ldc2 (v := -1) (pc := 7) hΓ (tb_3 (List.mem_of_getElem? (i := 106) rfl) rfl) d_X_spare_7 ?_
    exact go_lret (pc := 10) hΓ hT d_X_spare_10
def lp_X_thins_38 (N : Nat) (p2 : Nat) (x3 : Int32)  (K : Mem → Option (Int32 × Mem)) : Nat → Int32 → Mem → Option (Int32 × Mem)
  | 0, _, _ => none
  | n + 1, a4, μ0 => if a4 < 0 then (K  μ0) else (bnd (f_X_isSorting N p2 a4 μ0) fun r11 μ12 => lt' (fun (μ14 : Mem) => lt' (a4 + (-1)) fun v15 => lp_X_thins_38 N p2 x3 K n v15 μ14) fun (k13 : Mem → Option (Int32 × Mem)) => if r11 = 0 then (k13 μ12) else (bnd (f_Net_remove N p2 a4 μ12) fun _ μ18 => k13 μ18))
def f_X_thins (N : Nat) (x1 : Int32) (μ0 : Mem) : Option (Int32 × Mem) :=
  bnd (f_X_isNet N x1 μ0) fun r1 μ2 => if r1 = 0 then (some ((-1), μ2)) else (ck (inb x1 4) (bnd (f_X_isSorting N (2 + 3 * tn x1) (-1) μ2) fun r5 μ6 => if r5 = 0 then (some ((-2), μ6)) else (lt' (gI μ6 (2 + 3 * tn x1) 1) fun v8 => lt' (v8 - 1) fun v9 => lp_X_thins_38 N (2 + 3 * tn x1) v8 (fun μ19 => some (v8 - (gI μ19 (2 + 3 * tn x1) 1), μ19)) N v9 μ6)))
set_option maxHeartbeats 4000000 in
set_option maxRecDepth 100000 in
theorem glp_X_thins_38 (N d : Nat) {Γ : Cx Int32} (hΓ : Ok Γ "SortingNets" c_X_thins 5) (hT : Rt Γ eI (some .int)) (hR : Rm Γ (d + 4)) (p2 : Nat) (x3 : Int32) (hp2 : isN p2)   (K : Mem → Option (Int32 × Mem)) (hK : ∀  (ν : Mem), Go Γ 5 65 [(2, .ref p2), (3, .int x3)] [] ν (K  ν)) : ∀ (n : Nat) (a4 : Int32) (μ0 : Mem), Go Γ 5 38 [(0, .ref 0), (2, .ref p2), (3, .int x3), (4, .int a4)] [] μ0 (lp_X_thins_38 N p2 x3 K n a4 μ0) := by
  intro n
  induction n with
  | zero => intro a4 μ0; exact go_none
  | succ n ih =>
    intro a4 μ0
    rw [lp_X_thins_38]
    refine go_iload (q := 3) (pc := 38) hΓ d_X_thins_38 rfl ?_
    refine go_if_lt 65 (pc := 40) hΓ d_X_thins_40 (by decide) (fun h10 => go_eq (if_pos h10) ?_) (fun h10 => go_eq (if_neg h10) ?_)
    · refine go_sub' (lv' := [(2, .ref p2), (3, .int x3)]) rfl ?_
      exact hK  μ0
    · refine go_aload_n (q := 0) (i := 0) (pc := 43) hΓ d_X_thins_43 rfl rfl ?_
      refine go_aload_n (q := 1) (i := 2) (pc := 44) hΓ d_X_thins_44 rfl rfl ?_
      refine go_iload (q := 3) (pc := 45) hΓ d_X_thins_45 rfl ?_
      refine go_callV (index := 279) emI hΓ hR (g_X_isSorting N (d + 0) p2 hp2 a4) mi_X_isSorting ml_X_279 d_X_thins_47 rfl rfl rfl rfl rfl (fun r11 μ12 => ?_)
      show Go Γ 5 50 [(0, .ref 0), (2, .ref p2), (3, .int x3), (4, .int a4)] [.int r11] μ12 _
      refine go_join (fun (k13 : Mem → Option (Int32 × Mem)) => ∀ (μ14 : Mem), Go Γ 5 59 [(0, .ref 0), (2, .ref p2), (3, .int x3), (4, .int a4)] [] μ14 (k13 μ14)) ?_ (fun k13 k13h => ?_)
      · intro μ14
        refine go_incI (q := 3) (i := 4) (n := -1) (c := -1) (pc := 59) hΓ d_X_thins_59 rfl (by decide) (by decide) (fun v15 => ?_)
        refine go_sub' (lv' := [(4, .int v15), (0, .ref 0), (2, .ref p2), (3, .int x3)]) rfl ?_
        refine go_goto 38 (pc := 62) hΓ d_X_thins_62 (by decide) ?_
        refine go_sub' (lv' := [(0, .ref 0), (2, .ref p2), (3, .int x3), (4, .int v15)]) rfl ?_
        exact ih v15 μ14
      · refine go_if_eq 59 (pc := 50) hΓ d_X_thins_50 (by decide) (fun h16 => go_eq (if_pos h16) ?_) (fun h16 => go_eq (if_neg h16) ?_)
        · refine go_sub' (lv' := [(0, .ref 0), (2, .ref p2), (3, .int x3), (4, .int a4)]) rfl ?_
          exact k13h μ12
        · refine go_aload_n (q := 1) (i := 2) (pc := 53) hΓ d_X_thins_53 rfl rfl ?_
          refine go_iload (q := 3) (pc := 54) hΓ d_X_thins_54 rfl ?_
          refine go_callV (index := 169) emV hΓ hR (g_Net_remove N (d + 3) p2 hp2 a4) mi_Net_remove ml_X_169 d_X_thins_56 rfl (isN_sh hp2).1 rfl rfl rfl (fun _ μ18 => ?_)
          show Go Γ 5 59 [(0, .ref 0), (2, .ref p2), (3, .int x3), (4, .int a4)] [] μ18 _
          refine go_sub' (lv' := [(0, .ref 0), (2, .ref p2), (3, .int x3), (4, .int a4)]) rfl ?_
          exact k13h μ18
set_option maxHeartbeats 4000000 in
set_option maxRecDepth 100000 in
theorem g_X_thins (N d : Nat) (x1 : Int32)  : CallF eI y_X_thins c_X_thins 5 (some .int) (d + 4 + 1) [.ref 0, .int x1] (f_X_thins N x1) := by
  refine call_of (d := d + 4) (n := 1) mi_X_thins.1 (fun _ => rfl) ?_
  intro Γ μ0 hΓ hT hR
  show Go Γ 5 0 [(0, .ref 0), (1, .int x1)] [] μ0 (f_X_thins N x1 μ0)
  unfold f_X_thins
  refine go_iload_n (q := 1) (i := 1) (pc := 0) hΓ d_X_thins_0 rfl rfl ?_
  refine go_callS (index := 101) emI hΓ hR (g_X_isNet N (d + 3) x1) mi_X_isNet ml_X_101 d_X_thins_1 rfl rfl rfl (fun r1 μ2 => ?_)
  show Go Γ 5 4 [(0, .ref 0), (1, .int x1)] [.int r1] μ2 _
  refine go_if_ne 9 (pc := 4) hΓ d_X_thins_4 (by decide) (fun h3 => go_eq (if_neg h3) ?_) (fun h3 => go_eq (if_pos h3) ?_)
  · refine go_aload_n (q := 0) (i := 0) (pc := 9) hΓ d_X_thins_9 rfl rfl ?_
    refine go_getR (q := 1) (pc := 10) hΓ fl_X_11 d_X_thins_10 rfl rfl ?_
    refine go_iload_n (q := 1) (i := 1) (pc := 13) hΓ d_X_thins_13 rfl rfl ?_
    refine go_ck (fun h4 => ?_)
    refine go_aald (pc := 14) hΓ d_X_thins_14 h4 ?_
    refine go_astore_n (i := 2) (lv' := [(2, .ref (2 + 3 * tn x1)), (0, .ref 0), (1, .int x1)]) (pc := 15) hΓ d_X_thins_15 rfl (by decide) rfl ?_
    refine go_aload_n (q := 1) (i := 0) (pc := 16) hΓ d_X_thins_16 rfl rfl ?_
    refine go_aload_n (q := 0) (i := 2) (pc := 17) hΓ d_X_thins_17 rfl rfl ?_
    refine go_iconst (v := -1) (pc := 18) hΓ d_X_thins_18 (by decide) ?_
    refine go_callV (index := 279) emI hΓ hR (g_X_isSorting N (d + 0) (2 + 3 * tn x1) (isN_in h4) (-1)) mi_X_isSorting ml_X_279 d_X_thins_19 rfl rfl rfl rfl rfl (fun r5 μ6 => ?_)
    show Go Γ 5 22 [(2, .ref (2 + 3 * tn x1)), (0, .ref 0), (1, .int x1)] [.int r5] μ6 _
    refine go_if_ne 28 (pc := 22) hΓ d_X_thins_22 (by decide) (fun h7 => go_eq (if_neg h7) ?_) (fun h7 => go_eq (if_pos h7) ?_)
    · refine go_aload_n (q := 0) (i := 2) (pc := 28) hΓ d_X_thins_28 rfl rfl ?_
      refine go_getI (pc := 29) hΓ fl_X_121 d_X_thins_29 (isN_sh (isN_in h4)).1 rfl ?_
      refine go_letI (fun v8 => ?_)
      refine go_istore_n (i := 3) (lv' := [(3, .int v8), (2, .ref (2 + 3 * tn x1)), (0, .ref 0), (1, .int x1)]) (pc := 32) hΓ d_X_thins_32 rfl (by decide) rfl ?_
      refine go_iload_n (q := 0) (i := 3) (pc := 33) hΓ d_X_thins_33 rfl rfl ?_
      refine go_iconst (v := 1) (pc := 34) hΓ d_X_thins_34 (by decide) ?_
      refine go_isub (pc := 35) hΓ d_X_thins_35 ?_
      refine go_letI (fun v9 => ?_)
      refine go_istore (lv' := [(4, .int v9), (3, .int v8), (2, .ref (2 + 3 * tn x1)), (0, .ref 0), (1, .int x1)]) (pc := 36) hΓ d_X_thins_36 (by decide) rfl ?_
      refine go_sub' (lv' := [(0, .ref 0), (2, .ref (2 + 3 * tn x1)), (3, .int v8), (4, .int v9)]) rfl ?_
      refine glp_X_thins_38 N d hΓ hT hR (2 + 3 * tn x1) v8 (isN_in h4) _ (fun μ19 => ?_) N v9 μ6
      refine go_iload_n (q := 1) (i := 3) (pc := 65) hΓ d_X_thins_65 rfl rfl ?_
      refine go_aload_n (q := 0) (i := 2) (pc := 66) hΓ d_X_thins_66 rfl rfl ?_
      refine go_getI (pc := 67) hΓ fl_X_121 d_X_thins_67 (isN_sh (isN_in h4)).1 rfl ?_
      refine go_isub (pc := 70) hΓ d_X_thins_70 ?_
      exact go_iret (pc := 71) hΓ hT d_X_thins_71
    · refine go_bipush (v := -2) (pc := 25) hΓ d_X_thins_25 (by decide) ?_
      exact go_iret (pc := 27) hΓ hT d_X_thins_27
  · refine go_iconst (v := -1) (pc := 7) hΓ d_X_thins_7 (by decide) ?_
    exact go_iret (pc := 8) hΓ hT d_X_thins_8
def f_X_broken (N : Nat) (x1 : Int32) (x2 : Int32) (x3 : Int32) (μ0 : Mem) : Option (Int32 × Mem) :=
  bnd (f_X_isComparer N x1 x2 μ0) fun r1 μ2 => if r1 = 0 then (some ((-1), μ2)) else (if x3 < 0 then (some ((-1), μ2)) else (if 2 < x3 then (some ((-1), μ2)) else (ck (inb x1 4) (bnd (f_Trial_start N 27 (gI μ2 (2 + 3 * tn x1) 0) μ2) fun _ μ8 => bnd (f_Trial_runPart N 27 (2 + 3 * tn x1) 0 x2 μ8) fun _ μ10 => lt' (fun (μ12 : Mem) => bnd (f_Trial_runPart N 27 (2 + 3 * tn x1) (x2 + 1) (gI μ12 (2 + 3 * tn x1) 1) μ12) fun _ μ14 => bnd (f_Trial_findUnsorted N 27 μ14) fun _ μ16 => bnd (f_Numbers_clear N  μ16) fun _ μ18 => bnd (f_PatternSet_first N  μ18) fun r19 μ20 => bnd (f_Numbers_append N (Int32.toInt64 r19) μ20) fun _ μ22 => bnd (f_PatternSet_size N  μ22) fun r23 μ24 => some (r23, μ24)) fun (k11 : Mem → Option (Int32 × Mem)) => if x3 = 1 then (ck (inb x2 60) (ck (inb x2 60) (bnd (f_Trial_exchange N 27 (gI μ10 ((2 + 3 * tn x1) + 1) (tn x2)) (gI μ10 ((2 + 3 * tn x1) + 2) (tn x2)) μ10) fun _ μ34 => k11 μ34))) else (if x3 = 2 then (ck (inb x2 60) (ck (inb x2 60) (bnd (f_Trial_compare N 27 (gI μ10 ((2 + 3 * tn x1) + 2) (tn x2)) (gI μ10 ((2 + 3 * tn x1) + 1) (tn x2)) μ10) fun _ μ30 => k11 μ30))) else (k11 μ10))))))
set_option maxHeartbeats 4000000 in
set_option maxRecDepth 100000 in
theorem g_X_broken (N d : Nat) (x1 : Int32) (x2 : Int32) (x3 : Int32)  : CallF eI y_X_broken c_X_broken 5 (some .int) (d + 2 + 1) [.ref 0, .int x1, .int x2, .int x3] (f_X_broken N x1 x2 x3) := by
  refine call_of (d := d + 2) (n := 3) mi_X_broken.1 (fun _ => rfl) ?_
  intro Γ μ0 hΓ hT hR
  show Go Γ 5 0 [(0, .ref 0), (1, .int x1), (2, .int x2), (3, .int x3)] [] μ0 (f_X_broken N x1 x2 x3 μ0)
  unfold f_X_broken
  refine go_aload_n (q := 0) (i := 0) (pc := 0) hΓ d_X_broken_0 rfl rfl ?_
  refine go_iload_n (q := 1) (i := 1) (pc := 1) hΓ d_X_broken_1 rfl rfl ?_
  refine go_iload_n (q := 2) (i := 2) (pc := 2) hΓ d_X_broken_2 rfl rfl ?_
  refine go_callV (index := 166) emI hΓ hR (g_X_isComparer N (d + 0) x1 x2) mi_X_isComparer ml_X_166 d_X_broken_3 rfl rfl rfl rfl rfl (fun r1 μ2 => ?_)
  show Go Γ 5 6 [(0, .ref 0), (1, .int x1), (2, .int x2), (3, .int x3)] [.int r1] μ2 _
  refine go_if_eq 18 (pc := 6) hΓ d_X_broken_6 (by decide) (fun h3 => go_eq (if_pos h3) ?_) (fun h3 => go_eq (if_neg h3) ?_)
  · refine go_iconst (v := -1) (pc := 18) hΓ d_X_broken_18 (by decide) ?_
    exact go_iret (pc := 19) hΓ hT d_X_broken_19
  · refine go_iload_n (q := 3) (i := 3) (pc := 9) hΓ d_X_broken_9 rfl rfl ?_
    refine go_if_lt 18 (pc := 10) hΓ d_X_broken_10 (by decide) (fun h4 => go_eq (if_pos h4) ?_) (fun h4 => go_eq (if_neg h4) ?_)
    · refine go_iconst (v := -1) (pc := 18) hΓ d_X_broken_18 (by decide) ?_
      exact go_iret (pc := 19) hΓ hT d_X_broken_19
    · refine go_iload_n (q := 3) (i := 3) (pc := 13) hΓ d_X_broken_13 rfl rfl ?_
      refine go_iconst (v := 2) (pc := 14) hΓ d_X_broken_14 (by decide) ?_
      refine go_icmp_le 20 (pc := 15) hΓ d_X_broken_15 (by decide) (fun h5 => go_eq (if_neg h5) ?_) (fun h5 => go_eq (if_pos h5) ?_)
      · refine go_aload_n (q := 0) (i := 0) (pc := 20) hΓ d_X_broken_20 rfl rfl ?_
        refine go_getR (q := 1) (pc := 21) hΓ fl_X_11 d_X_broken_21 rfl rfl ?_
        refine go_iload_n (q := 1) (i := 1) (pc := 24) hΓ d_X_broken_24 rfl rfl ?_
        refine go_ck (fun h6 => ?_)
        refine go_aald (pc := 25) hΓ d_X_broken_25 h6 ?_
        refine go_astore (lv' := [(4, .ref (2 + 3 * tn x1)), (0, .ref 0), (1, .int x1), (2, .int x2), (3, .int x3)]) (pc := 26) hΓ d_X_broken_26 (by decide) rfl ?_
        refine go_aload_n (q := 1) (i := 0) (pc := 28) hΓ d_X_broken_28 rfl rfl ?_
        refine go_getR (q := 27) (pc := 29) hΓ fl_X_51 d_X_broken_29 rfl rfl ?_
        refine go_aload (q := 0) (pc := 32) hΓ d_X_broken_32 rfl ?_
        refine go_getI (pc := 34) hΓ fl_X_111 d_X_broken_34 (isN_sh (isN_in h6)).1 rfl ?_
        refine go_callV (index := 266) emV hΓ hR (g_Trial_start N (d + 0) 27 isT_27 (gI μ2 (2 + 3 * tn x1) 0)) mi_Trial_start ml_X_266 d_X_broken_37 rfl rfl rfl rfl rfl (fun _ μ8 => ?_)
        show Go Γ 5 40 [(4, .ref (2 + 3 * tn x1)), (0, .ref 0), (1, .int x1), (2, .int x2), (3, .int x3)] [] μ8 _
        refine go_aload_n (q := 1) (i := 0) (pc := 40) hΓ d_X_broken_40 rfl rfl ?_
        refine go_getR (q := 27) (pc := 41) hΓ fl_X_51 d_X_broken_41 rfl rfl ?_
        refine go_aload (q := 0) (pc := 44) hΓ d_X_broken_44 rfl ?_
        refine go_iconst (v := 0) (pc := 46) hΓ d_X_broken_46 (by decide) ?_
        refine go_iload_n (q := 3) (i := 2) (pc := 47) hΓ d_X_broken_47 rfl rfl ?_
        refine go_callV (index := 285) emV hΓ hR (g_Trial_runPart N (d + 0) 27 isT_27 (2 + 3 * tn x1) (isN_in h6) 0 x2) mi_Trial_runPart ml_X_285 d_X_broken_48 rfl rfl rfl rfl rfl (fun _ μ10 => ?_)
        show Go Γ 5 51 [(4, .ref (2 + 3 * tn x1)), (0, .ref 0), (1, .int x1), (2, .int x2), (3, .int x3)] [] μ10 _
        refine go_iload_n (q := 4) (i := 3) (pc := 51) hΓ d_X_broken_51 rfl rfl ?_
        refine go_iconst (v := 1) (pc := 52) hΓ d_X_broken_52 (by decide) ?_
        refine go_join (fun (k11 : Mem → Option (Int32 × Mem)) => ∀ (μ12 : Mem), Go Γ 5 106 [(0, .ref 0), (2, .int x2), (4, .ref (2 + 3 * tn x1))] [] μ12 (k11 μ12)) ?_ (fun k11 k11h => ?_)
        · intro μ12
          refine go_aload_n (q := 0) (i := 0) (pc := 106) hΓ d_X_broken_106 rfl rfl ?_
          refine go_getR (q := 27) (pc := 107) hΓ fl_X_51 d_X_broken_107 rfl rfl ?_
          refine go_aload (q := 2) (pc := 110) hΓ d_X_broken_110 rfl ?_
          refine go_iload_n (q := 1) (i := 2) (pc := 112) hΓ d_X_broken_112 rfl rfl ?_
          refine go_iconst (v := 1) (pc := 113) hΓ d_X_broken_113 (by decide) ?_
          refine go_iadd (pc := 114) hΓ d_X_broken_114 ?_
          refine go_aload (q := 2) (pc := 115) hΓ d_X_broken_115 rfl ?_
          refine go_getI (pc := 117) hΓ fl_X_121 d_X_broken_117 (isN_sh (isN_in h6)).1 rfl ?_
          refine go_callV (index := 285) emV hΓ hR (g_Trial_runPart N (d + 0) 27 isT_27 (2 + 3 * tn x1) (isN_in h6) (x2 + 1) (gI μ12 (2 + 3 * tn x1) 1)) mi_Trial_runPart ml_X_285 d_X_broken_120 rfl rfl rfl rfl rfl (fun _ μ14 => ?_)
          show Go Γ 5 123 [(0, .ref 0), (2, .int x2), (4, .ref (2 + 3 * tn x1))] [] μ14 _
          refine go_aload_n (q := 0) (i := 0) (pc := 123) hΓ d_X_broken_123 rfl rfl ?_
          refine go_getR (q := 27) (pc := 124) hΓ fl_X_51 d_X_broken_124 rfl rfl ?_
          refine go_aload_n (q := 0) (i := 0) (pc := 127) hΓ d_X_broken_127 rfl rfl ?_
          refine go_getR (q := 31) (pc := 128) hΓ fl_X_61 d_X_broken_128 rfl rfl ?_
          refine go_callV (index := 292) emV hΓ hR (g_Trial_findUnsorted N (d + 0) 27 isT_27) mi_Trial_findUnsorted ml_X_292 d_X_broken_131 rfl rfl rfl rfl rfl (fun _ μ16 => ?_)
          show Go Γ 5 134 [(0, .ref 0), (2, .int x2), (4, .ref (2 + 3 * tn x1))] [] μ16 _
          refine go_aload_n (q := 0) (i := 0) (pc := 134) hΓ d_X_broken_134 rfl rfl ?_
          refine go_getR (q := 16) (pc := 135) hΓ fl_X_37 d_X_broken_135 rfl rfl ?_
          refine go_callV (index := 108) emV hΓ hR (g_Numbers_clear N (d + 1) ) mi_Numbers_clear ml_X_108 d_X_broken_138 rfl rfl rfl rfl rfl (fun _ μ18 => ?_)
          show Go Γ 5 141 [(0, .ref 0), (2, .int x2), (4, .ref (2 + 3 * tn x1))] [] μ18 _
          refine go_aload_n (q := 0) (i := 0) (pc := 141) hΓ d_X_broken_141 rfl rfl ?_
          refine go_getR (q := 16) (pc := 142) hΓ fl_X_37 d_X_broken_142 rfl rfl ?_
          refine go_aload_n (q := 0) (i := 0) (pc := 145) hΓ d_X_broken_145 rfl rfl ?_
          refine go_getR (q := 31) (pc := 146) hΓ fl_X_61 d_X_broken_146 rfl rfl ?_
          refine go_callV (index := 233) emI hΓ hR (g_PatternSet_first N (d + 0) ) mi_PatternSet_first ml_X_233 d_X_broken_149 rfl rfl rfl rfl rfl (fun r19 μ20 => ?_)
          show Go Γ 5 152 [(0, .ref 0), (2, .int x2), (4, .ref (2 + 3 * tn x1))] [.int r19, .ref 16] μ20 _
          refine go_i2l (pc := 152) hΓ d_X_broken_152 ?_
          refine go_callV (index := 118) emV hΓ hR (g_Numbers_append N (d + 1) (Int32.toInt64 r19)) mi_Numbers_append ml_X_118 d_X_broken_153 rfl rfl rfl rfl rfl (fun _ μ22 => ?_)
          show Go Γ 5 156 [(0, .ref 0), (2, .int x2), (4, .ref (2 + 3 * tn x1))] [] μ22 _
          refine go_aload_n (q := 0) (i := 0) (pc := 156) hΓ d_X_broken_156 rfl rfl ?_
          refine go_getR (q := 31) (pc := 157) hΓ fl_X_61 d_X_broken_157 rfl rfl ?_
          refine go_callV (index := 161) emI hΓ hR (g_PatternSet_size N (d + 0) ) mi_PatternSet_size ml_X_161 d_X_broken_160 rfl rfl rfl rfl rfl (fun r23 μ24 => ?_)
          show Go Γ 5 163 [(0, .ref 0), (2, .int x2), (4, .ref (2 + 3 * tn x1))] [.int r23] μ24 _
          exact go_iret (pc := 163) hΓ hT d_X_broken_163
        · refine go_icmp_ne 80 (pc := 53) hΓ d_X_broken_53 (by decide) (fun h25 => go_eq (if_neg h25) ?_) (fun h25 => go_eq (if_pos h25) ?_)
          · refine go_iload_n (q := 4) (i := 3) (pc := 80) hΓ d_X_broken_80 rfl rfl ?_
            refine go_iconst (v := 2) (pc := 81) hΓ d_X_broken_81 (by decide) ?_
            refine go_icmp_ne 106 (pc := 82) hΓ d_X_broken_82 (by decide) (fun h26 => go_eq (if_neg h26) ?_) (fun h26 => go_eq (if_pos h26) ?_)
            · refine go_sub' (lv' := [(0, .ref 0), (2, .int x2), (4, .ref (2 + 3 * tn x1))]) rfl ?_
              exact k11h μ10
            · refine go_aload_n (q := 1) (i := 0) (pc := 85) hΓ d_X_broken_85 rfl rfl ?_
              refine go_getR (q := 27) (pc := 86) hΓ fl_X_51 d_X_broken_86 rfl rfl ?_
              refine go_aload (q := 0) (pc := 89) hΓ d_X_broken_89 rfl ?_
              refine go_getR (q := (2 + 3 * tn x1) + 2) (pc := 91) hΓ fl_X_178 d_X_broken_91 (isN_sh (isN_in h6)).1 rfl ?_
              refine go_iload_n (q := 3) (i := 2) (pc := 94) hΓ d_X_broken_94 rfl rfl ?_
              refine go_ck (fun h27 => ?_)
              refine go_iald (pc := 95) hΓ d_X_broken_95 (isN_sh (isN_in h6)).2.2 h27 ?_
              refine go_aload (q := 0) (pc := 96) hΓ d_X_broken_96 rfl ?_
              refine go_getR (q := (2 + 3 * tn x1) + 1) (pc := 98) hΓ fl_X_175 d_X_broken_98 (isN_sh (isN_in h6)).1 rfl ?_
              refine go_iload_n (q := 3) (i := 2) (pc := 101) hΓ d_X_broken_101 rfl rfl ?_
              refine go_ck (fun h28 => ?_)
              refine go_iald (pc := 102) hΓ d_X_broken_102 (isN_sh (isN_in h6)).2.1 h28 ?_
              refine go_callV (index := 270) emV hΓ hR (g_Trial_compare N (d + 1) 27 isT_27 (gI μ10 ((2 + 3 * tn x1) + 2) (tn x2)) (gI μ10 ((2 + 3 * tn x1) + 1) (tn x2))) mi_Trial_compare ml_X_270 d_X_broken_103 rfl rfl rfl rfl rfl (fun _ μ30 => ?_)
              show Go Γ 5 106 [(4, .ref (2 + 3 * tn x1)), (0, .ref 0), (1, .int x1), (2, .int x2), (3, .int x3)] [] μ30 _
              refine go_sub' (lv' := [(0, .ref 0), (2, .int x2), (4, .ref (2 + 3 * tn x1))]) rfl ?_
              exact k11h μ30
          · refine go_aload_n (q := 1) (i := 0) (pc := 56) hΓ d_X_broken_56 rfl rfl ?_
            refine go_getR (q := 27) (pc := 57) hΓ fl_X_51 d_X_broken_57 rfl rfl ?_
            refine go_aload (q := 0) (pc := 60) hΓ d_X_broken_60 rfl ?_
            refine go_getR (q := (2 + 3 * tn x1) + 1) (pc := 62) hΓ fl_X_175 d_X_broken_62 (isN_sh (isN_in h6)).1 rfl ?_
            refine go_iload_n (q := 3) (i := 2) (pc := 65) hΓ d_X_broken_65 rfl rfl ?_
            refine go_ck (fun h31 => ?_)
            refine go_iald (pc := 66) hΓ d_X_broken_66 (isN_sh (isN_in h6)).2.1 h31 ?_
            refine go_aload (q := 0) (pc := 67) hΓ d_X_broken_67 rfl ?_
            refine go_getR (q := (2 + 3 * tn x1) + 2) (pc := 69) hΓ fl_X_178 d_X_broken_69 (isN_sh (isN_in h6)).1 rfl ?_
            refine go_iload_n (q := 3) (i := 2) (pc := 72) hΓ d_X_broken_72 rfl rfl ?_
            refine go_ck (fun h32 => ?_)
            refine go_iald (pc := 73) hΓ d_X_broken_73 (isN_sh (isN_in h6)).2.2 h32 ?_
            refine go_callV (index := 289) emV hΓ hR (g_Trial_exchange N (d + 1) 27 isT_27 (gI μ10 ((2 + 3 * tn x1) + 1) (tn x2)) (gI μ10 ((2 + 3 * tn x1) + 2) (tn x2))) mi_Trial_exchange ml_X_289 d_X_broken_74 rfl rfl rfl rfl rfl (fun _ μ34 => ?_)
            show Go Γ 5 77 [(4, .ref (2 + 3 * tn x1)), (0, .ref 0), (1, .int x1), (2, .int x2), (3, .int x3)] [] μ34 _
            refine go_goto 106 (pc := 77) hΓ d_X_broken_77 (by decide) ?_
            refine go_sub' (lv' := [(0, .ref 0), (2, .int x2), (4, .ref (2 + 3 * tn x1))]) rfl ?_
            exact k11h μ34
      · refine go_iconst (v := -1) (pc := 18) hΓ d_X_broken_18 (by decide) ?_
        exact go_iret (pc := 19) hΓ hT d_X_broken_19

def lp_M_leaves_28 (N : Nat) (x1 : Int32) (x2 : Int32)  (K : Int32 → Mem → Option (Int32 × Mem)) : Nat → Int32 → Int32 → Mem → Option (Int32 × Mem)
  | 0, _, _, _ => none
  | n + 1, a3, a4, μ0 => ck (inb x1 4) (if a4 < (gI μ0 46 (tn x1)) then (bnd (f_M_wiresOf N x1 a4 μ0) fun r10 μ11 => lt' (a3 ||| (shlI ((shrI r10 x2) &&& 1) a4)) fun v12 => lt' (a4 + 1) fun v13 => lp_M_leaves_28 N x1 x2 K n v12 v13 μ11) else (K a3 μ0))
def f_M_leaves (N : Nat) (x1 : Int32) (x2 : Int32) (μ0 : Mem) : Option (Int32 × Mem) :=
  lt' (sI μ0 44 0 0) fun μ1 => bnd (f_M_isNet N x1 μ1) fun r2 μ3 => if r2 = 0 then (some ((-1), μ3)) else (bnd (f_M_isWire N x1 x2 μ3) fun r5 μ6 => if r5 = 0 then (some ((-1), μ6)) else (lp_M_leaves_28 N x1 x2 (fun v14 μ15 => bnd (f_JInt_bitCount N v14 μ15) fun r16 μ17 => bnd (f_M_tellsOne N (Int32.toInt64 r16) μ17) fun _ μ19 => some (v14, μ19)) N 0 0 μ6))
set_option maxHeartbeats 4000000 in
set_option maxRecDepth 100000 in
theorem glp_M_leaves_28 (N d : Nat) {Γ : Cx Int32} (hΓ : Ok Γ "SortingNetsModel" c_M_leaves 5) (hT : Rt Γ eI (some .int)) (hR : Rm Γ (d + 3)) (x1 : Int32) (x2 : Int32)    (K : Int32 → Mem → Option (Int32 × Mem)) (hK : ∀ (b3 : Int32) (ν : Mem), Go Γ 5 62 [(0, .ref 44), (3, .int b3)] [] ν (K b3 ν)) : ∀ (n : Nat) (a3 : Int32) (a4 : Int32) (μ0 : Mem), Go Γ 5 28 [(0, .ref 44), (1, .int x1), (2, .int x2), (3, .int a3), (4, .int a4)] [] μ0 (lp_M_leaves_28 N x1 x2 K n a3 a4 μ0) := by
  intro n
  induction n with
  | zero => intro a3 a4 μ0; exact go_none
  | succ n ih =>
    intro a3 a4 μ0
    rw [lp_M_leaves_28]
    refine go_iload (q := 4) (pc := 28) hΓ d_M_leaves_28 rfl ?_
    refine go_aload_n (q := 0) (i := 0) (pc := 30) hΓ d_M_leaves_30 rfl rfl ?_
    refine go_getR (q := 46) (pc := 31) hΓ fl_M_13 d_M_leaves_31 rfl rfl ?_
    refine go_iload_n (q := 1) (i := 1) (pc := 34) hΓ d_M_leaves_34 rfl rfl ?_
    refine go_ck (fun h8 => ?_)
    refine go_iald (pc := 35) hΓ d_M_leaves_35 rfl h8 ?_
    refine go_icmp_ge 62 (pc := 36) hΓ d_M_leaves_36 (by decide) (fun h9 => go_eq (if_neg h9) ?_) (fun h9 => go_eq (if_pos h9) ?_)
    · refine go_sub' (lv' := [(0, .ref 44), (3, .int a3)]) rfl ?_
      exact hK a3 μ0
    · refine go_iload_n (q := 3) (i := 3) (pc := 39) hΓ d_M_leaves_39 rfl rfl ?_
      refine go_aload_n (q := 0) (i := 0) (pc := 40) hΓ d_M_leaves_40 rfl rfl ?_
      refine go_iload_n (q := 1) (i := 1) (pc := 41) hΓ d_M_leaves_41 rfl rfl ?_
      refine go_iload (q := 4) (pc := 42) hΓ d_M_leaves_42 rfl ?_
      refine go_callV (index := 260) emI hΓ hR (g_M_wiresOf N (d + 0) x1 a4) mi_M_wiresOf ml_M_260 d_M_leaves_44 rfl rfl rfl rfl rfl (fun r10 μ11 => ?_)
      show Go Γ 5 47 [(0, .ref 44), (1, .int x1), (2, .int x2), (3, .int a3), (4, .int a4)] [.int r10, .int a3] μ11 _
      refine go_iload_n (q := 2) (i := 2) (pc := 47) hΓ d_M_leaves_47 rfl rfl ?_
      refine go_ishr (pc := 48) hΓ d_M_leaves_48 ?_
      refine go_iconst (v := 1) (pc := 49) hΓ d_M_leaves_49 (by decide) ?_
      refine go_iand (pc := 50) hΓ d_M_leaves_50 ?_
      refine go_iload (q := 4) (pc := 51) hΓ d_M_leaves_51 rfl ?_
      refine go_ishl (pc := 53) hΓ d_M_leaves_53 ?_
      refine go_ior (pc := 54) hΓ d_M_leaves_54 ?_
      refine go_letI (fun v12 => ?_)
      refine go_istore_n (i := 3) (lv' := [(3, .int v12), (0, .ref 44), (1, .int x1), (2, .int x2), (4, .int a4)]) (pc := 55) hΓ d_M_leaves_55 rfl (by decide) rfl ?_
      refine go_incI (q := 4) (i := 4) (n := 1) (c := 1) (pc := 56) hΓ d_M_leaves_56 rfl (by decide) (by decide) (fun v13 => ?_)
      refine go_sub' (lv' := [(4, .int v13), (3, .int v12), (0, .ref 44), (1, .int x1), (2, .int x2)]) rfl ?_
      refine go_goto 28 (pc := 59) hΓ d_M_leaves_59 (by decide) ?_
      refine go_sub' (lv' := [(0, .ref 44), (1, .int x1), (2, .int x2), (3, .int v12), (4, .int v13)]) rfl ?_
      exact ih v12 v13 μ11
set_option maxHeartbeats 4000000 in
set_option maxRecDepth 100000 in
theorem g_M_leaves (N d : Nat) (x1 : Int32) (x2 : Int32)  : CallF eI y_M_leaves c_M_leaves 5 (some .int) (d + 3 + 1) [.ref 44, .int x1, .int x2] (f_M_leaves N x1 x2) := by
  refine call_of (d := d + 3) (n := 2) mi_M_leaves.1 (fun _ => rfl) ?_
  intro Γ μ0 hΓ hT hR
  show Go Γ 5 0 [(0, .ref 44), (1, .int x1), (2, .int x2)] [] μ0 (f_M_leaves N x1 x2 μ0)
  unfold f_M_leaves
  refine go_aload_n (q := 0) (i := 0) (pc := 0) hΓ d_M_leaves_0 rfl rfl ?_
  refine go_iconst (v := 0) (pc := 1) hΓ d_M_leaves_1 (by decide) ?_
  refine go_putI (pc := 2) hΓ fp_M_69 d_M_leaves_2 rfl rfl ?_
  refine go_letM (fun μ1 => ?_)
  refine go_iload_n (q := 1) (i := 1) (pc := 5) hΓ d_M_leaves_5 rfl rfl ?_
  refine go_callS (index := 151) emI hΓ hR (g_M_isNet N (d + 1) x1) mi_M_isNet ml_M_151 d_M_leaves_6 rfl rfl rfl (fun r2 μ3 => ?_)
  show Go Γ 5 9 [(0, .ref 44), (1, .int x1), (2, .int x2)] [.int r2] μ3 _
  refine go_if_eq 21 (pc := 9) hΓ d_M_leaves_9 (by decide) (fun h4 => go_eq (if_pos h4) ?_) (fun h4 => go_eq (if_neg h4) ?_)
  · refine go_iconst (v := -1) (pc := 21) hΓ d_M_leaves_21 (by decide) ?_
    exact go_iret (pc := 22) hΓ hT d_M_leaves_22
  · refine go_aload_n (q := 0) (i := 0) (pc := 12) hΓ d_M_leaves_12 rfl rfl ?_
    refine go_iload_n (q := 1) (i := 1) (pc := 13) hΓ d_M_leaves_13 rfl rfl ?_
    refine go_iload_n (q := 2) (i := 2) (pc := 14) hΓ d_M_leaves_14 rfl rfl ?_
    refine go_callV (index := 196) emI hΓ hR (g_M_isWire N (d + 1) x1 x2) mi_M_isWire ml_M_196 d_M_leaves_15 rfl rfl rfl rfl rfl (fun r5 μ6 => ?_)
    show Go Γ 5 18 [(0, .ref 44), (1, .int x1), (2, .int x2)] [.int r5] μ6 _
    refine go_if_ne 23 (pc := 18) hΓ d_M_leaves_18 (by decide) (fun h7 => go_eq (if_neg h7) ?_) (fun h7 => go_eq (if_pos h7) ?_)
    · refine go_iconst (v := 0) (pc := 23) hΓ d_M_leaves_23 (by decide) ?_
      refine go_istore_n (i := 3) (lv' := [(3, .int 0), (0, .ref 44), (1, .int x1), (2, .int x2)]) (pc := 24) hΓ d_M_leaves_24 rfl (by decide) rfl ?_
      refine go_iconst (v := 0) (pc := 25) hΓ d_M_leaves_25 (by decide) ?_
      refine go_istore (lv' := [(4, .int 0), (3, .int 0), (0, .ref 44), (1, .int x1), (2, .int x2)]) (pc := 26) hΓ d_M_leaves_26 (by decide) rfl ?_
      refine go_sub' (lv' := [(0, .ref 44), (1, .int x1), (2, .int x2), (3, .int 0), (4, .int 0)]) rfl ?_
      refine glp_M_leaves_28 N d hΓ hT hR x1 x2 _ (fun v14 μ15 => ?_) N 0 0 μ6
      refine go_aload_n (q := 0) (i := 0) (pc := 62) hΓ d_M_leaves_62 rfl rfl ?_
      refine go_iload_n (q := 1) (i := 3) (pc := 63) hΓ d_M_leaves_63 rfl rfl ?_
      refine go_callS (index := 255) emI hΓ hR (g_JInt_bitCount N (d + 2) v14) mi_JInt_bitCount ml_M_255 d_M_leaves_64 rfl rfl rfl (fun r16 μ17 => ?_)
      show Go Γ 5 67 [(0, .ref 44), (3, .int v14)] [.int r16, .ref 44] μ17 _
      refine go_i2l (pc := 67) hΓ d_M_leaves_67 ?_
      refine go_callV (index := 221) emV hΓ hR (g_M_tellsOne N (d + 1) (Int32.toInt64 r16)) mi_M_tellsOne ml_M_221 d_M_leaves_68 rfl rfl rfl rfl rfl (fun _ μ19 => ?_)
      show Go Γ 5 71 [(0, .ref 44), (3, .int v14)] [] μ19 _
      refine go_iload_n (q := 1) (i := 3) (pc := 71) hΓ d_M_leaves_71 rfl rfl ?_
      exact go_iret (pc := 72) hΓ hT d_M_leaves_72
    · refine go_iconst (v := -1) (pc := 21) hΓ d_M_leaves_21 (by decide) ?_
      exact go_iret (pc := 22) hΓ hT d_M_leaves_22
def lp_M_firstOrder_2 (N : Nat) (x1 : Int32)  (K : Mem → Option (Unit × Mem)) : Nat → Int32 → Mem → Option (Unit × Mem)
  | 0, _, _ => none
  | n + 1, a2, μ0 => if a2 < x1 then (ck (inb a2 8) (lt' (sI μ0 59 (tn a2) a2) fun μ3 => lt' (a2 + 1) fun v4 => lp_M_firstOrder_2 N x1 K n v4 μ3)) else (K  μ0)
def f_M_firstOrder (N : Nat) (x1 : Int32) (μ0 : Mem) : Option (Unit × Mem) :=
  lp_M_firstOrder_2 N x1 (fun μ5 => some ((), μ5)) N 0 μ0
set_option maxHeartbeats 4000000 in
set_option maxRecDepth 100000 in
theorem glp_M_firstOrder_2 (N d : Nat) {Γ : Cx Unit} (hΓ : Ok Γ "SortingNetsModel" c_M_firstOrder 3) (hT : Rt Γ eV none) (hR : Rm Γ (d + 0)) (x1 : Int32)    (K : Mem → Option (Unit × Mem)) (hK : ∀  (ν : Mem), Go Γ 3 20 [] [] ν (K  ν)) : ∀ (n : Nat) (a2 : Int32) (μ0 : Mem), Go Γ 3 2 [(0, .ref 44), (1, .int x1), (2, .int a2)] [] μ0 (lp_M_firstOrder_2 N x1 K n a2 μ0) := by
  intro n
  induction n with
  | zero => intro a2 μ0; exact go_none
  | succ n ih =>
    intro a2 μ0
    rw [lp_M_firstOrder_2]
    refine go_iload_n (q := 2) (i := 2) (pc := 2) hΓ d_M_firstOrder_2 rfl rfl ?_
    refine go_iload_n (q := 1) (i := 1) (pc := 3) hΓ d_M_firstOrder_3 rfl rfl ?_
    refine go_icmp_ge 20 (pc := 4) hΓ d_M_firstOrder_4 (by decide) (fun h1 => go_eq (if_neg h1) ?_) (fun h1 => go_eq (if_pos h1) ?_)
    · refine go_sub' (lv' := []) rfl ?_
      exact hK  μ0
    · refine go_aload_n (q := 0) (i := 0) (pc := 7) hΓ d_M_firstOrder_7 rfl rfl ?_
      refine go_getR (q := 59) (pc := 8) hΓ fl_M_54 d_M_firstOrder_8 rfl rfl ?_
      refine go_iload_n (q := 2) (i := 2) (pc := 11) hΓ d_M_firstOrder_11 rfl rfl ?_
      refine go_iload_n (q := 2) (i := 2) (pc := 12) hΓ d_M_firstOrder_12 rfl rfl ?_
      refine go_ck (fun h2 => ?_)
      refine go_iast (pc := 13) hΓ d_M_firstOrder_13 rfl h2 ?_
      refine go_letM (fun μ3 => ?_)
      refine go_incI (q := 2) (i := 2) (n := 1) (c := 1) (pc := 14) hΓ d_M_firstOrder_14 rfl (by decide) (by decide) (fun v4 => ?_)
      refine go_sub' (lv' := [(2, .int v4), (0, .ref 44), (1, .int x1)]) rfl ?_
      refine go_goto 2 (pc := 17) hΓ d_M_firstOrder_17 (by decide) ?_
      refine go_sub' (lv' := [(0, .ref 44), (1, .int x1), (2, .int v4)]) rfl ?_
      exact ih v4 μ3
set_option maxHeartbeats 4000000 in
set_option maxRecDepth 100000 in
theorem g_M_firstOrder (N d : Nat) (x1 : Int32)  : CallF eV y_M_firstOrder c_M_firstOrder 3 none (d + 0 + 1) [.ref 44, .int x1] (f_M_firstOrder N x1) := by
  refine call_of (d := d + 0) (n := 1) mi_M_firstOrder.1 (fun _ => rfl) ?_
  intro Γ μ0 hΓ hT hR
  show Go Γ 3 0 [(0, .ref 44), (1, .int x1)] [] μ0 (f_M_firstOrder N x1 μ0)
  unfold f_M_firstOrder
  refine go_iconst (v := 0) (pc := 0) hΓ d_M_firstOrder_0 (by decide) ?_
  refine go_istore_n (i := 2) (lv' := [(2, .int 0), (0, .ref 44), (1, .int x1)]) (pc := 1) hΓ d_M_firstOrder_1 rfl (by decide) rfl ?_
  refine go_sub' (lv' := [(0, .ref 44), (1, .int x1), (2, .int 0)]) rfl ?_
  refine glp_M_firstOrder_2 N d hΓ hT hR x1 _ (fun μ5 => ?_) N 0 μ0
  exact go_vret (pc := 20) hΓ hT d_M_firstOrder_20
def lp_M_leavesSorted_2 (N : Nat) (x1 : Int32)  (K : Mem → Option (Int32 × Mem)) : Nat → Int32 → Mem → Option (Int32 × Mem)
  | 0, _, _ => none
  | n + 1, a2, μ0 => ck (inb x1 4) (if a2 < (gI μ0 46 (tn x1)) then (ck (inb a2 8) (ck (inb a2 8) (lt' (sI μ0 57 (tn a2) (gI μ0 59 (tn a2))) fun μ5 => lt' (a2 + 1) fun v6 => lp_M_leavesSorted_2 N x1 K n v6 μ5))) else (K  μ0))
def lp_M_leavesSorted_32 (N : Nat) (x1 : Int32)  (K : Mem → Option (Int32 × Mem)) : Nat → Int32 → Mem → Option (Int32 × Mem)
  | 0, _, _ => none
  | n + 1, a2, μ0 => ck (inb x1 4) (if a2 < (gI μ0 47 (tn x1)) then (bnd (f_M_lowOf N x1 a2 μ0) fun r10 μ11 => ck (inb r10 8) (lt' (gI μ11 57 (tn r10)) fun v13 => bnd (f_M_highOf N x1 a2 μ11) fun r14 μ15 => ck (inb r14 8) (lt' (gI μ15 57 (tn r14)) fun v17 => bnd (f_M_lowOf N x1 a2 μ15) fun r18 μ19 => ck (inb r18 8) (lt' (sI μ19 57 (tn r18) (mnI v13 v17)) fun μ21 => bnd (f_M_highOf N x1 a2 μ21) fun r22 μ23 => ck (inb r22 8) (lt' (sI μ23 57 (tn r22) (mxI v13 v17)) fun μ25 => lt' (a2 + 1) fun v26 => lp_M_leavesSorted_32 N x1 K n v26 μ25))))) else (K  μ0))
def lp_M_leavesSorted_111 (N : Nat) (x1 : Int32)  (K : Int32 → Mem → Option (Int32 × Mem)) : Nat → Int32 → Int32 → Mem → Option (Int32 × Mem)
  | 0, _, _, _ => none
  | n + 1, a2, a3, μ0 => ck (inb x1 4) (if a3 < (gI μ0 46 (tn x1)) then (lt' (fun (w31 : Int32) => lt' (a3 + 1) fun v32 => lp_M_leavesSorted_111 N x1 K n w31 v32 μ0) fun (k30 : Int32 → Option (Int32 × Mem)) => lt' (fun (_ : Unit) => k30 0) fun (k33 : Unit → Option (Int32 × Mem)) => if a2 = 0 then (k33 ()) else (ck (inb a3 8) (if (gI μ0 57 (tn a3)) = a3 then (k30 1) else (k33 ())))) else (K a2 μ0))
def f_M_leavesSorted (N : Nat) (x1 : Int32) (μ0 : Mem) : Option (Int32 × Mem) :=
  lp_M_leavesSorted_2 N x1 (fun μ7 => lp_M_leavesSorted_32 N x1 (fun μ27 => lp_M_leavesSorted_111 N x1 (fun v37 μ38 => ck (isb v37) (some (v37, μ38))) N 1 0 μ27) N 0 μ7) N 0 μ0
set_option maxHeartbeats 4000000 in
set_option maxRecDepth 100000 in
theorem glp_M_leavesSorted_2 (N d : Nat) {Γ : Cx Int32} (hΓ : Ok Γ "SortingNetsModel" c_M_leavesSorted 5) (hT : Rt Γ eI (some .boolean)) (hR : Rm Γ (d + 1)) (x1 : Int32)    (K : Mem → Option (Int32 × Mem)) (hK : ∀  (ν : Mem), Go Γ 5 30 [(0, .ref 44), (1, .int x1)] [] ν (K  ν)) : ∀ (n : Nat) (a2 : Int32) (μ0 : Mem), Go Γ 5 2 [(0, .ref 44), (1, .int x1), (2, .int a2)] [] μ0 (lp_M_leavesSorted_2 N x1 K n a2 μ0) := by
  intro n
  induction n with
  | zero => intro a2 μ0; exact go_none
  | succ n ih =>
    intro a2 μ0
    rw [lp_M_leavesSorted_2]
    refine go_iload_n (q := 2) (i := 2) (pc := 2) hΓ d_M_leavesSorted_2 rfl rfl ?_
    refine go_aload_n (q := 0) (i := 0) (pc := 3) hΓ d_M_leavesSorted_3 rfl rfl ?_
    refine go_getR (q := 46) (pc := 4) hΓ fl_M_13 d_M_leavesSorted_4 rfl rfl ?_
    refine go_iload_n (q := 1) (i := 1) (pc := 7) hΓ d_M_leavesSorted_7 rfl rfl ?_
    refine go_ck (fun h1 => ?_)
    refine go_iald (pc := 8) hΓ d_M_leavesSorted_8 rfl h1 ?_
    refine go_icmp_ge 30 (pc := 9) hΓ d_M_leavesSorted_9 (by decide) (fun h2 => go_eq (if_neg h2) ?_) (fun h2 => go_eq (if_pos h2) ?_)
    · refine go_sub' (lv' := [(0, .ref 44), (1, .int x1)]) rfl ?_
      exact hK  μ0
    · refine go_aload_n (q := 0) (i := 0) (pc := 12) hΓ d_M_leavesSorted_12 rfl rfl ?_
      refine go_getR (q := 57) (pc := 13) hΓ fl_M_47 d_M_leavesSorted_13 rfl rfl ?_
      refine go_iload_n (q := 2) (i := 2) (pc := 16) hΓ d_M_leavesSorted_16 rfl rfl ?_
      refine go_aload_n (q := 0) (i := 0) (pc := 17) hΓ d_M_leavesSorted_17 rfl rfl ?_
      refine go_getR (q := 59) (pc := 18) hΓ fl_M_54 d_M_leavesSorted_18 rfl rfl ?_
      refine go_iload_n (q := 2) (i := 2) (pc := 21) hΓ d_M_leavesSorted_21 rfl rfl ?_
      refine go_ck (fun h3 => ?_)
      refine go_iald (pc := 22) hΓ d_M_leavesSorted_22 rfl h3 ?_
      refine go_ck (fun h4 => ?_)
      refine go_iast (pc := 23) hΓ d_M_leavesSorted_23 rfl h4 ?_
      refine go_letM (fun μ5 => ?_)
      refine go_incI (q := 2) (i := 2) (n := 1) (c := 1) (pc := 24) hΓ d_M_leavesSorted_24 rfl (by decide) (by decide) (fun v6 => ?_)
      refine go_sub' (lv' := [(2, .int v6), (0, .ref 44), (1, .int x1)]) rfl ?_
      refine go_goto 2 (pc := 27) hΓ d_M_leavesSorted_27 (by decide) ?_
      refine go_sub' (lv' := [(0, .ref 44), (1, .int x1), (2, .int v6)]) rfl ?_
      exact ih v6 μ5
set_option maxHeartbeats 4000000 in
set_option maxRecDepth 100000 in
theorem glp_M_leavesSorted_32 (N d : Nat) {Γ : Cx Int32} (hΓ : Ok Γ "SortingNetsModel" c_M_leavesSorted 5) (hT : Rt Γ eI (some .boolean)) (hR : Rm Γ (d + 1)) (x1 : Int32)    (K : Mem → Option (Int32 × Mem)) (hK : ∀  (ν : Mem), Go Γ 5 107 [(0, .ref 44), (1, .int x1)] [] ν (K  ν)) : ∀ (n : Nat) (a2 : Int32) (μ0 : Mem), Go Γ 5 32 [(0, .ref 44), (1, .int x1), (2, .int a2)] [] μ0 (lp_M_leavesSorted_32 N x1 K n a2 μ0) := by
  intro n
  induction n with
  | zero => intro a2 μ0; exact go_none
  | succ n ih =>
    intro a2 μ0
    rw [lp_M_leavesSorted_32]
    refine go_iload_n (q := 2) (i := 2) (pc := 32) hΓ d_M_leavesSorted_32 rfl rfl ?_
    refine go_aload_n (q := 0) (i := 0) (pc := 33) hΓ d_M_leavesSorted_33 rfl rfl ?_
    refine go_getR (q := 47) (pc := 34) hΓ fl_M_17 d_M_leavesSorted_34 rfl rfl ?_
    refine go_iload_n (q := 1) (i := 1) (pc := 37) hΓ d_M_leavesSorted_37 rfl rfl ?_
    refine go_ck (fun h8 => ?_)
    refine go_iald (pc := 38) hΓ d_M_leavesSorted_38 rfl h8 ?_
    refine go_icmp_ge 107 (pc := 39) hΓ d_M_leavesSorted_39 (by decide) (fun h9 => go_eq (if_neg h9) ?_) (fun h9 => go_eq (if_pos h9) ?_)
    · refine go_sub' (lv' := [(0, .ref 44), (1, .int x1)]) rfl ?_
      exact hK  μ0
    · refine go_aload_n (q := 0) (i := 0) (pc := 42) hΓ d_M_leavesSorted_42 rfl rfl ?_
      refine go_getR (q := 57) (pc := 43) hΓ fl_M_47 d_M_leavesSorted_43 rfl rfl ?_
      refine go_aload_n (q := 0) (i := 0) (pc := 46) hΓ d_M_leavesSorted_46 rfl rfl ?_
      refine go_iload_n (q := 1) (i := 1) (pc := 47) hΓ d_M_leavesSorted_47 rfl rfl ?_
      refine go_iload_n (q := 2) (i := 2) (pc := 48) hΓ d_M_leavesSorted_48 rfl rfl ?_
      refine go_callV (index := 199) emI hΓ hR (g_M_lowOf N (d + 0) x1 a2) mi_M_lowOf ml_M_199 d_M_leavesSorted_49 rfl rfl rfl rfl rfl (fun r10 μ11 => ?_)
      show Go Γ 5 52 [(0, .ref 44), (1, .int x1), (2, .int a2)] [.int r10, .ref 57] μ11 _
      refine go_ck (fun h12 => ?_)
      refine go_iald (pc := 52) hΓ d_M_leavesSorted_52 rfl h12 ?_
      refine go_letI (fun v13 => ?_)
      refine go_istore_n (i := 3) (lv' := [(3, .int v13), (0, .ref 44), (1, .int x1), (2, .int a2)]) (pc := 53) hΓ d_M_leavesSorted_53 rfl (by decide) rfl ?_
      refine go_aload_n (q := 1) (i := 0) (pc := 54) hΓ d_M_leavesSorted_54 rfl rfl ?_
      refine go_getR (q := 57) (pc := 55) hΓ fl_M_47 d_M_leavesSorted_55 rfl rfl ?_
      refine go_aload_n (q := 1) (i := 0) (pc := 58) hΓ d_M_leavesSorted_58 rfl rfl ?_
      refine go_iload_n (q := 2) (i := 1) (pc := 59) hΓ d_M_leavesSorted_59 rfl rfl ?_
      refine go_iload_n (q := 3) (i := 2) (pc := 60) hΓ d_M_leavesSorted_60 rfl rfl ?_
      refine go_callV (index := 202) emI hΓ hR (g_M_highOf N (d + 0) x1 a2) mi_M_highOf ml_M_202 d_M_leavesSorted_61 rfl rfl rfl rfl rfl (fun r14 μ15 => ?_)
      show Go Γ 5 64 [(3, .int v13), (0, .ref 44), (1, .int x1), (2, .int a2)] [.int r14, .ref 57] μ15 _
      refine go_ck (fun h16 => ?_)
      refine go_iald (pc := 64) hΓ d_M_leavesSorted_64 rfl h16 ?_
      refine go_letI (fun v17 => ?_)
      refine go_istore (lv' := [(4, .int v17), (3, .int v13), (0, .ref 44), (1, .int x1), (2, .int a2)]) (pc := 65) hΓ d_M_leavesSorted_65 (by decide) rfl ?_
      refine go_aload_n (q := 2) (i := 0) (pc := 67) hΓ d_M_leavesSorted_67 rfl rfl ?_
      refine go_getR (q := 57) (pc := 68) hΓ fl_M_47 d_M_leavesSorted_68 rfl rfl ?_
      refine go_aload_n (q := 2) (i := 0) (pc := 71) hΓ d_M_leavesSorted_71 rfl rfl ?_
      refine go_iload_n (q := 3) (i := 1) (pc := 72) hΓ d_M_leavesSorted_72 rfl rfl ?_
      refine go_iload_n (q := 4) (i := 2) (pc := 73) hΓ d_M_leavesSorted_73 rfl rfl ?_
      refine go_callV (index := 199) emI hΓ hR (g_M_lowOf N (d + 0) x1 a2) mi_M_lowOf ml_M_199 d_M_leavesSorted_74 rfl rfl rfl rfl rfl (fun r18 μ19 => ?_)
      show Go Γ 5 77 [(4, .int v17), (3, .int v13), (0, .ref 44), (1, .int x1), (2, .int a2)] [.int r18, .ref 57] μ19 _
      refine go_iload_n (q := 1) (i := 3) (pc := 77) hΓ d_M_leavesSorted_77 rfl rfl ?_
      refine go_iload (q := 0) (pc := 78) hΓ d_M_leavesSorted_78 rfl ?_
      refine go_min (index := 132) (pc := 80) hΓ hR ml_M_132 d_M_leavesSorted_80 rfl ?_
      refine go_ck (fun h20 => ?_)
      refine go_iast (pc := 83) hΓ d_M_leavesSorted_83 rfl h20 ?_
      refine go_letM (fun μ21 => ?_)
      refine go_aload_n (q := 2) (i := 0) (pc := 84) hΓ d_M_leavesSorted_84 rfl rfl ?_
      refine go_getR (q := 57) (pc := 85) hΓ fl_M_47 d_M_leavesSorted_85 rfl rfl ?_
      refine go_aload_n (q := 2) (i := 0) (pc := 88) hΓ d_M_leavesSorted_88 rfl rfl ?_
      refine go_iload_n (q := 3) (i := 1) (pc := 89) hΓ d_M_leavesSorted_89 rfl rfl ?_
      refine go_iload_n (q := 4) (i := 2) (pc := 90) hΓ d_M_leavesSorted_90 rfl rfl ?_
      refine go_callV (index := 202) emI hΓ hR (g_M_highOf N (d + 0) x1 a2) mi_M_highOf ml_M_202 d_M_leavesSorted_91 rfl rfl rfl rfl rfl (fun r22 μ23 => ?_)
      show Go Γ 5 94 [(4, .int v17), (3, .int v13), (0, .ref 44), (1, .int x1), (2, .int a2)] [.int r22, .ref 57] μ23 _
      refine go_iload_n (q := 1) (i := 3) (pc := 94) hΓ d_M_leavesSorted_94 rfl rfl ?_
      refine go_iload (q := 0) (pc := 95) hΓ d_M_leavesSorted_95 rfl ?_
      refine go_max (index := 138) (pc := 97) hΓ hR ml_M_138 d_M_leavesSorted_97 rfl ?_
      refine go_ck (fun h24 => ?_)
      refine go_iast (pc := 100) hΓ d_M_leavesSorted_100 rfl h24 ?_
      refine go_letM (fun μ25 => ?_)
      refine go_incI (q := 4) (i := 2) (n := 1) (c := 1) (pc := 101) hΓ d_M_leavesSorted_101 rfl (by decide) (by decide) (fun v26 => ?_)
      refine go_sub' (lv' := [(2, .int v26), (4, .int v17), (3, .int v13), (0, .ref 44), (1, .int x1)]) rfl ?_
      refine go_goto 32 (pc := 104) hΓ d_M_leavesSorted_104 (by decide) ?_
      refine go_sub' (lv' := [(0, .ref 44), (1, .int x1), (2, .int v26)]) rfl ?_
      exact ih v26 μ25
set_option maxHeartbeats 4000000 in
set_option maxRecDepth 100000 in
theorem glp_M_leavesSorted_111 (N d : Nat) {Γ : Cx Int32} (hΓ : Ok Γ "SortingNetsModel" c_M_leavesSorted 5) (hT : Rt Γ eI (some .boolean)) (hR : Rm Γ (d + 1)) (x1 : Int32)    (K : Int32 → Mem → Option (Int32 × Mem)) (hK : ∀ (b2 : Int32) (ν : Mem), Go Γ 5 147 [(2, .int b2)] [] ν (K b2 ν)) : ∀ (n : Nat) (a2 : Int32) (a3 : Int32) (μ0 : Mem), Go Γ 5 111 [(0, .ref 44), (1, .int x1), (2, .int a2), (3, .int a3)] [] μ0 (lp_M_leavesSorted_111 N x1 K n a2 a3 μ0) := by
  intro n
  induction n with
  | zero => intro a2 a3 μ0; exact go_none
  | succ n ih =>
    intro a2 a3 μ0
    rw [lp_M_leavesSorted_111]
    refine go_iload_n (q := 3) (i := 3) (pc := 111) hΓ d_M_leavesSorted_111 rfl rfl ?_
    refine go_aload_n (q := 0) (i := 0) (pc := 112) hΓ d_M_leavesSorted_112 rfl rfl ?_
    refine go_getR (q := 46) (pc := 113) hΓ fl_M_13 d_M_leavesSorted_113 rfl rfl ?_
    refine go_iload_n (q := 1) (i := 1) (pc := 116) hΓ d_M_leavesSorted_116 rfl rfl ?_
    refine go_ck (fun h28 => ?_)
    refine go_iald (pc := 117) hΓ d_M_leavesSorted_117 rfl h28 ?_
    refine go_icmp_ge 147 (pc := 118) hΓ d_M_leavesSorted_118 (by decide) (fun h29 => go_eq (if_neg h29) ?_) (fun h29 => go_eq (if_pos h29) ?_)
    · refine go_sub' (lv' := [(2, .int a2)]) rfl ?_
      exact hK a2 μ0
    · refine go_iload_n (q := 2) (i := 2) (pc := 121) hΓ d_M_leavesSorted_121 rfl rfl ?_
      refine go_join (fun (k30 : Int32 → Option (Int32 × Mem)) => ∀ (w31 : Int32), Go Γ 5 140 [(0, .ref 44), (1, .int x1), (3, .int a3)] [.int w31] μ0 (k30 w31)) ?_ (fun k30 k30h => ?_)
      · intro w31
        refine go_istore_n (i := 2) (lv' := [(2, .int w31), (0, .ref 44), (1, .int x1), (3, .int a3)]) (pc := 140) hΓ d_M_leavesSorted_140 rfl (by decide) rfl ?_
        refine go_incI (q := 3) (i := 3) (n := 1) (c := 1) (pc := 141) hΓ d_M_leavesSorted_141 rfl (by decide) (by decide) (fun v32 => ?_)
        refine go_sub' (lv' := [(3, .int v32), (2, .int w31), (0, .ref 44), (1, .int x1)]) rfl ?_
        refine go_goto 111 (pc := 144) hΓ d_M_leavesSorted_144 (by decide) ?_
        refine go_sub' (lv' := [(0, .ref 44), (1, .int x1), (2, .int w31), (3, .int v32)]) rfl ?_
        exact ih w31 v32 μ0
      · refine go_join (fun (k33 : Unit → Option (Int32 × Mem)) => ∀ (_ : Unit), Go Γ 5 139 [(0, .ref 44), (1, .int x1), (3, .int a3)] [] μ0 (k33 ())) ?_ (fun k33 k33h => ?_)
        · intro _
          refine go_iconst (v := 0) (pc := 139) hΓ d_M_leavesSorted_139 (by decide) ?_
          refine go_sub' (lv' := [(0, .ref 44), (1, .int x1), (3, .int a3)]) rfl ?_
          exact k30h 0
        · refine go_if_eq 139 (pc := 122) hΓ d_M_leavesSorted_122 (by decide) (fun h34 => go_eq (if_pos h34) ?_) (fun h34 => go_eq (if_neg h34) ?_)
          · refine go_sub' (lv' := [(0, .ref 44), (1, .int x1), (3, .int a3)]) rfl ?_
            exact k33h ()
          · refine go_aload_n (q := 0) (i := 0) (pc := 125) hΓ d_M_leavesSorted_125 rfl rfl ?_
            refine go_getR (q := 57) (pc := 126) hΓ fl_M_47 d_M_leavesSorted_126 rfl rfl ?_
            refine go_iload_n (q := 3) (i := 3) (pc := 129) hΓ d_M_leavesSorted_129 rfl rfl ?_
            refine go_ck (fun h35 => ?_)
            refine go_iald (pc := 130) hΓ d_M_leavesSorted_130 rfl h35 ?_
            refine go_iload_n (q := 3) (i := 3) (pc := 131) hΓ d_M_leavesSorted_131 rfl rfl ?_
            refine go_icmp_ne 139 (pc := 132) hΓ d_M_leavesSorted_132 (by decide) (fun h36 => go_eq (if_neg h36) ?_) (fun h36 => go_eq (if_pos h36) ?_)
            · refine go_sub' (lv' := [(0, .ref 44), (1, .int x1), (3, .int a3)]) rfl ?_
              exact k33h ()
            · refine go_iconst (v := 1) (pc := 135) hΓ d_M_leavesSorted_135 (by decide) ?_
              refine go_goto 140 (pc := 136) hΓ d_M_leavesSorted_136 (by decide) ?_
              refine go_sub' (lv' := [(0, .ref 44), (1, .int x1), (3, .int a3)]) rfl ?_
              exact k30h 1
set_option maxHeartbeats 4000000 in
set_option maxRecDepth 100000 in
theorem g_M_leavesSorted (N d : Nat) (x1 : Int32)  : CallF eI y_M_leavesSorted c_M_leavesSorted 5 (some .boolean) (d + 1 + 1) [.ref 44, .int x1] (f_M_leavesSorted N x1) := by
  refine call_of (d := d + 1) (n := 1) mi_M_leavesSorted.1 (fun _ => rfl) ?_
  intro Γ μ0 hΓ hT hR
  show Go Γ 5 0 [(0, .ref 44), (1, .int x1)] [] μ0 (f_M_leavesSorted N x1 μ0)
  unfold f_M_leavesSorted
  refine go_iconst (v := 0) (pc := 0) hΓ d_M_leavesSorted_0 (by decide) ?_
  refine go_istore_n (i := 2) (lv' := [(2, .int 0), (0, .ref 44), (1, .int x1)]) (pc := 1) hΓ d_M_leavesSorted_1 rfl (by decide) rfl ?_
  refine go_sub' (lv' := [(0, .ref 44), (1, .int x1), (2, .int 0)]) rfl ?_
  refine glp_M_leavesSorted_2 N d hΓ hT hR x1 _ (fun μ7 => ?_) N 0 μ0
  refine go_iconst (v := 0) (pc := 30) hΓ d_M_leavesSorted_30 (by decide) ?_
  refine go_istore_n (i := 2) (lv' := [(2, .int 0), (0, .ref 44), (1, .int x1)]) (pc := 31) hΓ d_M_leavesSorted_31 rfl (by decide) rfl ?_
  refine go_sub' (lv' := [(0, .ref 44), (1, .int x1), (2, .int 0)]) rfl ?_
  refine glp_M_leavesSorted_32 N d hΓ hT hR x1 _ (fun μ27 => ?_) N 0 μ7
  refine go_iconst (v := 1) (pc := 107) hΓ d_M_leavesSorted_107 (by decide) ?_
  refine go_istore_n (i := 2) (lv' := [(2, .int 1), (0, .ref 44), (1, .int x1)]) (pc := 108) hΓ d_M_leavesSorted_108 rfl (by decide) rfl ?_
  refine go_iconst (v := 0) (pc := 109) hΓ d_M_leavesSorted_109 (by decide) ?_
  refine go_istore_n (i := 3) (lv' := [(3, .int 0), (2, .int 1), (0, .ref 44), (1, .int x1)]) (pc := 110) hΓ d_M_leavesSorted_110 rfl (by decide) rfl ?_
  refine go_sub' (lv' := [(0, .ref 44), (1, .int x1), (2, .int 1), (3, .int 0)]) rfl ?_
  refine glp_M_leavesSorted_111 N d hΓ hT hR x1 _ (fun v37 μ38 => ?_) N 1 0 μ27
  refine go_iload_n (q := 0) (i := 2) (pc := 147) hΓ d_M_leavesSorted_147 rfl rfl ?_
  refine go_ck (fun h39 => ?_)
  exact go_zret (pc := 148) hΓ hT d_M_leavesSorted_148 h39
def f_M_exchanges2 (N : Nat) (x1 : Int32) (x2 : Int32) (μ0 : Mem) : Option (Unit × Mem) :=
  ck (inb x1 8) (lt' (gI μ0 59 (tn x1)) fun v2 => ck (inb x2 8) (ck (inb x1 8) (lt' (sI μ0 59 (tn x1) (gI μ0 59 (tn x2))) fun μ5 => ck (inb x2 8) (lt' (sI μ5 59 (tn x2) v2) fun μ7 => some ((), μ7)))))
set_option maxHeartbeats 4000000 in
set_option maxRecDepth 100000 in
theorem g_M_exchanges2 (N d : Nat) (x1 : Int32) (x2 : Int32)  : CallF eV y_M_exchanges2 c_M_exchanges2 4 none (d + 0 + 1) [.ref 44, .int x1, .int x2] (f_M_exchanges2 N x1 x2) := by
  refine call_of (d := d + 0) (n := 2) mi_M_exchanges2.1 (fun _ => rfl) ?_
  intro Γ μ0 hΓ hT hR
  show Go Γ 4 0 [(0, .ref 44), (1, .int x1), (2, .int x2)] [] μ0 (f_M_exchanges2 N x1 x2 μ0)
  unfold f_M_exchanges2
  refine go_aload_n (q := 0) (i := 0) (pc := 0) hΓ d_M_exchanges2_0 rfl rfl ?_
  refine go_getR (q := 59) (pc := 1) hΓ fl_M_54 d_M_exchanges2_1 rfl rfl ?_
  refine go_iload_n (q := 1) (i := 1) (pc := 4) hΓ d_M_exchanges2_4 rfl rfl ?_
  refine go_ck (fun h1 => ?_)
  refine go_iald (pc := 5) hΓ d_M_exchanges2_5 rfl h1 ?_
  refine go_letI (fun v2 => ?_)
  refine go_istore_n (i := 3) (lv' := [(3, .int v2), (0, .ref 44), (1, .int x1), (2, .int x2)]) (pc := 6) hΓ d_M_exchanges2_6 rfl (by decide) rfl ?_
  refine go_aload_n (q := 1) (i := 0) (pc := 7) hΓ d_M_exchanges2_7 rfl rfl ?_
  refine go_getR (q := 59) (pc := 8) hΓ fl_M_54 d_M_exchanges2_8 rfl rfl ?_
  refine go_iload_n (q := 2) (i := 1) (pc := 11) hΓ d_M_exchanges2_11 rfl rfl ?_
  refine go_aload_n (q := 1) (i := 0) (pc := 12) hΓ d_M_exchanges2_12 rfl rfl ?_
  refine go_getR (q := 59) (pc := 13) hΓ fl_M_54 d_M_exchanges2_13 rfl rfl ?_
  refine go_iload_n (q := 3) (i := 2) (pc := 16) hΓ d_M_exchanges2_16 rfl rfl ?_
  refine go_ck (fun h3 => ?_)
  refine go_iald (pc := 17) hΓ d_M_exchanges2_17 rfl h3 ?_
  refine go_ck (fun h4 => ?_)
  refine go_iast (pc := 18) hΓ d_M_exchanges2_18 rfl h4 ?_
  refine go_letM (fun μ5 => ?_)
  refine go_aload_n (q := 1) (i := 0) (pc := 19) hΓ d_M_exchanges2_19 rfl rfl ?_
  refine go_getR (q := 59) (pc := 20) hΓ fl_M_54 d_M_exchanges2_20 rfl rfl ?_
  refine go_iload_n (q := 3) (i := 2) (pc := 23) hΓ d_M_exchanges2_23 rfl rfl ?_
  refine go_iload_n (q := 0) (i := 3) (pc := 24) hΓ d_M_exchanges2_24 rfl rfl ?_
  refine go_ck (fun h6 => ?_)
  refine go_iast (pc := 25) hΓ d_M_exchanges2_25 rfl h6 ?_
  refine go_letM (fun μ7 => ?_)
  exact go_vret (pc := 26) hΓ hT d_M_exchanges2_26
def lp_M_nextOrder_4 (N : Nat) (x1 : Int32)  (K : Int32 → Mem → Option (Int32 × Mem)) : Nat → Int32 → Mem → Option (Int32 × Mem)
  | 0, _, _ => none
  | n + 1, a2, μ0 => if a2 < 0 then (K a2 μ0) else (ck (inb a2 8) (ck (inb (a2 + 1) 8) (if (gI μ0 59 (tn (a2 + 1))) < (gI μ0 59 (tn a2)) then (lt' (a2 + (-1)) fun v6 => lp_M_nextOrder_4 N x1 K n v6 μ0) else (K a2 μ0))))
def lp_M_nextOrder_41 (N : Nat) (x1 : Int32) (x2 : Int32)  (K : Int32 → Mem → Option (Int32 × Mem)) : Nat → Int32 → Mem → Option (Int32 × Mem)
  | 0, _, _ => none
  | n + 1, a3, μ0 => ck (inb a3 8) (ck (inb x2 8) (if (gI μ0 59 (tn a3)) < (gI μ0 59 (tn x2)) then (lt' (a3 + (-1)) fun v14 => lp_M_nextOrder_41 N x1 x2 K n v14 μ0) else (K a3 μ0)))
def lp_M_nextOrder_78 (N : Nat)   (K : Mem → Option (Int32 × Mem)) : Nat → Int32 → Int32 → Mem → Option (Int32 × Mem)
  | 0, _, _, _ => none
  | n + 1, a4, a5, μ0 => if a4 < a5 then (bnd (f_M_exchanges2 N a4 a5 μ0) fun _ μ23 => lt' (a4 + 1) fun v24 => lt' (a5 + (-1)) fun v25 => lp_M_nextOrder_78 N K n v24 v25 μ23) else (K  μ0)
def f_M_nextOrder (N : Nat) (x1 : Int32) (μ0 : Mem) : Option (Int32 × Mem) :=
  lt' (x1 - 2) fun v1 => lp_M_nextOrder_4 N x1 (fun v7 μ8 => if v7 < 0 then (some (0, μ8)) else (lt' (x1 - 1) fun v10 => lp_M_nextOrder_41 N x1 v7 (fun v15 μ16 => bnd (f_M_exchanges2 N v7 v15 μ16) fun _ μ18 => lt' (v7 + 1) fun v19 => lt' (x1 - 1) fun v20 => lp_M_nextOrder_78 N  (fun μ26 => some (1, μ26)) N v19 v20 μ18) N v10 μ8)) N v1 μ0
set_option maxHeartbeats 4000000 in
set_option maxRecDepth 100000 in
theorem glp_M_nextOrder_4 (N d : Nat) {Γ : Cx Int32} (hΓ : Ok Γ "SortingNetsModel" c_M_nextOrder 6) (hT : Rt Γ eI (some .boolean)) (hR : Rm Γ (d + 1)) (x1 : Int32)    (K : Int32 → Mem → Option (Int32 × Mem)) (hK : ∀ (b2 : Int32) (ν : Mem), Go Γ 6 31 [(0, .ref 44), (1, .int x1), (2, .int b2)] [] ν (K b2 ν)) : ∀ (n : Nat) (a2 : Int32) (μ0 : Mem), Go Γ 6 4 [(0, .ref 44), (1, .int x1), (2, .int a2)] [] μ0 (lp_M_nextOrder_4 N x1 K n a2 μ0) := by
  intro n
  induction n with
  | zero => intro a2 μ0; exact go_none
  | succ n ih =>
    intro a2 μ0
    rw [lp_M_nextOrder_4]
    refine go_iload_n (q := 2) (i := 2) (pc := 4) hΓ d_M_nextOrder_4 rfl rfl ?_
    refine go_if_lt 31 (pc := 5) hΓ d_M_nextOrder_5 (by decide) (fun h2 => go_eq (if_pos h2) ?_) (fun h2 => go_eq (if_neg h2) ?_)
    · refine go_sub' (lv' := [(0, .ref 44), (1, .int x1), (2, .int a2)]) rfl ?_
      exact hK a2 μ0
    · refine go_aload_n (q := 0) (i := 0) (pc := 8) hΓ d_M_nextOrder_8 rfl rfl ?_
      refine go_getR (q := 59) (pc := 9) hΓ fl_M_54 d_M_nextOrder_9 rfl rfl ?_
      refine go_iload_n (q := 2) (i := 2) (pc := 12) hΓ d_M_nextOrder_12 rfl rfl ?_
      refine go_ck (fun h3 => ?_)
      refine go_iald (pc := 13) hΓ d_M_nextOrder_13 rfl h3 ?_
      refine go_aload_n (q := 0) (i := 0) (pc := 14) hΓ d_M_nextOrder_14 rfl rfl ?_
      refine go_getR (q := 59) (pc := 15) hΓ fl_M_54 d_M_nextOrder_15 rfl rfl ?_
      refine go_iload_n (q := 2) (i := 2) (pc := 18) hΓ d_M_nextOrder_18 rfl rfl ?_
      refine go_iconst (v := 1) (pc := 19) hΓ d_M_nextOrder_19 (by decide) ?_
      refine go_iadd (pc := 20) hΓ d_M_nextOrder_20 ?_
      refine go_ck (fun h4 => ?_)
      refine go_iald (pc := 21) hΓ d_M_nextOrder_21 rfl h4 ?_
      refine go_icmp_le 31 (pc := 22) hΓ d_M_nextOrder_22 (by decide) (fun h5 => go_eq (if_neg h5) ?_) (fun h5 => go_eq (if_pos h5) ?_)
      · refine go_sub' (lv' := [(0, .ref 44), (1, .int x1), (2, .int a2)]) rfl ?_
        exact hK a2 μ0
      · refine go_incI (q := 2) (i := 2) (n := -1) (c := -1) (pc := 25) hΓ d_M_nextOrder_25 rfl (by decide) (by decide) (fun v6 => ?_)
        refine go_sub' (lv' := [(2, .int v6), (0, .ref 44), (1, .int x1)]) rfl ?_
        refine go_goto 4 (pc := 28) hΓ d_M_nextOrder_28 (by decide) ?_
        refine go_sub' (lv' := [(0, .ref 44), (1, .int x1), (2, .int v6)]) rfl ?_
        exact ih v6 μ0
set_option maxHeartbeats 4000000 in
set_option maxRecDepth 100000 in
theorem glp_M_nextOrder_41 (N d : Nat) {Γ : Cx Int32} (hΓ : Ok Γ "SortingNetsModel" c_M_nextOrder 6) (hT : Rt Γ eI (some .boolean)) (hR : Rm Γ (d + 1)) (x1 : Int32) (x2 : Int32)    (K : Int32 → Mem → Option (Int32 × Mem)) (hK : ∀ (b3 : Int32) (ν : Mem), Go Γ 6 62 [(0, .ref 44), (1, .int x1), (2, .int x2), (3, .int b3)] [] ν (K b3 ν)) : ∀ (n : Nat) (a3 : Int32) (μ0 : Mem), Go Γ 6 41 [(0, .ref 44), (1, .int x1), (2, .int x2), (3, .int a3)] [] μ0 (lp_M_nextOrder_41 N x1 x2 K n a3 μ0) := by
  intro n
  induction n with
  | zero => intro a3 μ0; exact go_none
  | succ n ih =>
    intro a3 μ0
    rw [lp_M_nextOrder_41]
    refine go_aload_n (q := 0) (i := 0) (pc := 41) hΓ d_M_nextOrder_41 rfl rfl ?_
    refine go_getR (q := 59) (pc := 42) hΓ fl_M_54 d_M_nextOrder_42 rfl rfl ?_
    refine go_iload_n (q := 3) (i := 3) (pc := 45) hΓ d_M_nextOrder_45 rfl rfl ?_
    refine go_ck (fun h11 => ?_)
    refine go_iald (pc := 46) hΓ d_M_nextOrder_46 rfl h11 ?_
    refine go_aload_n (q := 0) (i := 0) (pc := 47) hΓ d_M_nextOrder_47 rfl rfl ?_
    refine go_getR (q := 59) (pc := 48) hΓ fl_M_54 d_M_nextOrder_48 rfl rfl ?_
    refine go_iload_n (q := 2) (i := 2) (pc := 51) hΓ d_M_nextOrder_51 rfl rfl ?_
    refine go_ck (fun h12 => ?_)
    refine go_iald (pc := 52) hΓ d_M_nextOrder_52 rfl h12 ?_
    refine go_icmp_ge 62 (pc := 53) hΓ d_M_nextOrder_53 (by decide) (fun h13 => go_eq (if_neg h13) ?_) (fun h13 => go_eq (if_pos h13) ?_)
    · refine go_sub' (lv' := [(0, .ref 44), (1, .int x1), (2, .int x2), (3, .int a3)]) rfl ?_
      exact hK a3 μ0
    · refine go_incI (q := 3) (i := 3) (n := -1) (c := -1) (pc := 56) hΓ d_M_nextOrder_56 rfl (by decide) (by decide) (fun v14 => ?_)
      refine go_sub' (lv' := [(3, .int v14), (0, .ref 44), (1, .int x1), (2, .int x2)]) rfl ?_
      refine go_goto 41 (pc := 59) hΓ d_M_nextOrder_59 (by decide) ?_
      refine go_sub' (lv' := [(0, .ref 44), (1, .int x1), (2, .int x2), (3, .int v14)]) rfl ?_
      exact ih v14 μ0
set_option maxHeartbeats 4000000 in
set_option maxRecDepth 100000 in
theorem glp_M_nextOrder_78 (N d : Nat) {Γ : Cx Int32} (hΓ : Ok Γ "SortingNetsModel" c_M_nextOrder 6) (hT : Rt Γ eI (some .boolean)) (hR : Rm Γ (d + 1))     (K : Mem → Option (Int32 × Mem)) (hK : ∀  (ν : Mem), Go Γ 6 102 [] [] ν (K  ν)) : ∀ (n : Nat) (a4 : Int32) (a5 : Int32) (μ0 : Mem), Go Γ 6 78 [(0, .ref 44), (4, .int a4), (5, .int a5)] [] μ0 (lp_M_nextOrder_78 N K n a4 a5 μ0) := by
  intro n
  induction n with
  | zero => intro a4 a5 μ0; exact go_none
  | succ n ih =>
    intro a4 a5 μ0
    rw [lp_M_nextOrder_78]
    refine go_iload (q := 1) (pc := 78) hΓ d_M_nextOrder_78 rfl ?_
    refine go_iload (q := 2) (pc := 80) hΓ d_M_nextOrder_80 rfl ?_
    refine go_icmp_ge 102 (pc := 82) hΓ d_M_nextOrder_82 (by decide) (fun h21 => go_eq (if_neg h21) ?_) (fun h21 => go_eq (if_pos h21) ?_)
    · refine go_sub' (lv' := []) rfl ?_
      exact hK  μ0
    · refine go_aload_n (q := 0) (i := 0) (pc := 85) hΓ d_M_nextOrder_85 rfl rfl ?_
      refine go_iload (q := 1) (pc := 86) hΓ d_M_nextOrder_86 rfl ?_
      refine go_iload (q := 2) (pc := 88) hΓ d_M_nextOrder_88 rfl ?_
      refine go_callV (index := 263) emV hΓ hR (g_M_exchanges2 N (d + 0) a4 a5) mi_M_exchanges2 ml_M_263 d_M_nextOrder_90 rfl rfl rfl rfl rfl (fun _ μ23 => ?_)
      show Go Γ 6 93 [(0, .ref 44), (4, .int a4), (5, .int a5)] [] μ23 _
      refine go_incI (q := 1) (i := 4) (n := 1) (c := 1) (pc := 93) hΓ d_M_nextOrder_93 rfl (by decide) (by decide) (fun v24 => ?_)
      refine go_sub' (lv' := [(4, .int v24), (0, .ref 44), (5, .int a5)]) rfl ?_
      refine go_incI (q := 2) (i := 5) (n := -1) (c := -1) (pc := 96) hΓ d_M_nextOrder_96 rfl (by decide) (by decide) (fun v25 => ?_)
      refine go_sub' (lv' := [(5, .int v25), (4, .int v24), (0, .ref 44)]) rfl ?_
      refine go_goto 78 (pc := 99) hΓ d_M_nextOrder_99 (by decide) ?_
      refine go_sub' (lv' := [(0, .ref 44), (4, .int v24), (5, .int v25)]) rfl ?_
      exact ih v24 v25 μ23
set_option maxHeartbeats 4000000 in
set_option maxRecDepth 100000 in
theorem g_M_nextOrder (N d : Nat) (x1 : Int32)  : CallF eI y_M_nextOrder c_M_nextOrder 6 (some .boolean) (d + 1 + 1) [.ref 44, .int x1] (f_M_nextOrder N x1) := by
  refine call_of (d := d + 1) (n := 1) mi_M_nextOrder.1 (fun _ => rfl) ?_
  intro Γ μ0 hΓ hT hR
  show Go Γ 6 0 [(0, .ref 44), (1, .int x1)] [] μ0 (f_M_nextOrder N x1 μ0)
  unfold f_M_nextOrder
  refine go_iload_n (q := 1) (i := 1) (pc := 0) hΓ d_M_nextOrder_0 rfl rfl ?_
  refine go_iconst (v := 2) (pc := 1) hΓ d_M_nextOrder_1 (by decide) ?_
  refine go_isub (pc := 2) hΓ d_M_nextOrder_2 ?_
  refine go_letI (fun v1 => ?_)
  refine go_istore_n (i := 2) (lv' := [(2, .int v1), (0, .ref 44), (1, .int x1)]) (pc := 3) hΓ d_M_nextOrder_3 rfl (by decide) rfl ?_
  refine go_sub' (lv' := [(0, .ref 44), (1, .int x1), (2, .int v1)]) rfl ?_
  refine glp_M_nextOrder_4 N d hΓ hT hR x1 _ (fun v7 μ8 => ?_) N v1 μ0
  refine go_iload_n (q := 2) (i := 2) (pc := 31) hΓ d_M_nextOrder_31 rfl rfl ?_
  refine go_if_ge 37 (pc := 32) hΓ d_M_nextOrder_32 (by decide) (fun h9 => go_eq (if_neg h9) ?_) (fun h9 => go_eq (if_pos h9) ?_)
  · refine go_iload_n (q := 1) (i := 1) (pc := 37) hΓ d_M_nextOrder_37 rfl rfl ?_
    refine go_iconst (v := 1) (pc := 38) hΓ d_M_nextOrder_38 (by decide) ?_
    refine go_isub (pc := 39) hΓ d_M_nextOrder_39 ?_
    refine go_letI (fun v10 => ?_)
    refine go_istore_n (i := 3) (lv' := [(3, .int v10), (0, .ref 44), (1, .int x1), (2, .int v7)]) (pc := 40) hΓ d_M_nextOrder_40 rfl (by decide) rfl ?_
    refine go_sub' (lv' := [(0, .ref 44), (1, .int x1), (2, .int v7), (3, .int v10)]) rfl ?_
    refine glp_M_nextOrder_41 N d hΓ hT hR x1 v7 _ (fun v15 μ16 => ?_) N v10 μ8
    refine go_aload_n (q := 0) (i := 0) (pc := 62) hΓ d_M_nextOrder_62 rfl rfl ?_
    refine go_iload_n (q := 2) (i := 2) (pc := 63) hΓ d_M_nextOrder_63 rfl rfl ?_
    refine go_iload_n (q := 3) (i := 3) (pc := 64) hΓ d_M_nextOrder_64 rfl rfl ?_
    refine go_callV (index := 263) emV hΓ hR (g_M_exchanges2 N (d + 0) v7 v15) mi_M_exchanges2 ml_M_263 d_M_nextOrder_65 rfl rfl rfl rfl rfl (fun _ μ18 => ?_)
    show Go Γ 6 68 [(0, .ref 44), (1, .int x1), (2, .int v7), (3, .int v15)] [] μ18 _
    refine go_iload_n (q := 2) (i := 2) (pc := 68) hΓ d_M_nextOrder_68 rfl rfl ?_
    refine go_iconst (v := 1) (pc := 69) hΓ d_M_nextOrder_69 (by decide) ?_
    refine go_iadd (pc := 70) hΓ d_M_nextOrder_70 ?_
    refine go_letI (fun v19 => ?_)
    refine go_istore (lv' := [(4, .int v19), (0, .ref 44), (1, .int x1), (2, .int v7), (3, .int v15)]) (pc := 71) hΓ d_M_nextOrder_71 (by decide) rfl ?_
    refine go_iload_n (q := 2) (i := 1) (pc := 73) hΓ d_M_nextOrder_73 rfl rfl ?_
    refine go_iconst (v := 1) (pc := 74) hΓ d_M_nextOrder_74 (by decide) ?_
    refine go_isub (pc := 75) hΓ d_M_nextOrder_75 ?_
    refine go_letI (fun v20 => ?_)
    refine go_istore (lv' := [(5, .int v20), (4, .int v19), (0, .ref 44), (1, .int x1), (2, .int v7), (3, .int v15)]) (pc := 76) hΓ d_M_nextOrder_76 (by decide) rfl ?_
    refine go_sub' (lv' := [(0, .ref 44), (4, .int v19), (5, .int v20)]) rfl ?_
    refine glp_M_nextOrder_78 N d hΓ hT hR  _ (fun μ26 => ?_) N v19 v20 μ18
    refine go_iconst (v := 1) (pc := 102) hΓ d_M_nextOrder_102 (by decide) ?_
    exact go_zret (pc := 103) hΓ hT d_M_nextOrder_103 rfl
  · refine go_iconst (v := 0) (pc := 35) hΓ d_M_nextOrder_35 (by decide) ?_
    exact go_zret (pc := 36) hΓ hT d_M_nextOrder_36 rfl
def lp_M_orders_62 (N : Nat) (x1 : Int32) (x2 : Int32)  (K : Mem → Option (Int32 × Mem)) : Nat → Int32 → Mem → Option (Int32 × Mem)
  | 0, _, _ => none
  | n + 1, a4, μ0 => ck (inb x1 4) (if a4 < (gI μ0 46 (tn x1)) then (if x2 = 0 then (ck (inb a4 8) (bnd (f_M_enters N (Int32.toInt64 (gI μ0 59 (tn a4))) μ0) fun _ μ26 => lt' (a4 + 1) fun v27 => lp_M_orders_62 N x1 x2 K n v27 μ26)) else (K  μ0)) else (K  μ0))
def lp_M_orders_47 (N : Nat) (x1 : Int32)  (K : Int32 → Mem → Option (Int32 × Mem)) : Nat → Int32 → Int32 → Mem → Option (Int32 × Mem)
  | 0, _, _, _ => none
  | n + 1, a2, a3, μ0 => if a3 = 0 then (K a2 μ0) else (bnd (f_M_leavesSorted N x1 μ0) fun r12 μ13 => lt' (fun (w15 : Int32) (μ16 : Mem) => ck (inb x1 4) (bnd (f_M_nextOrder N (gI μ16 46 (tn x1)) μ16) fun r18 μ19 => lp_M_orders_47 N x1 K n w15 r18 μ19)) fun (k14 : Int32 → Mem → Option (Int32 × Mem)) => if r12 = 0 then (lp_M_orders_62 N x1 a2 (fun μ28 => lt' (a2 + 1) fun v29 => k14 v29 μ28) N 0 μ13) else (k14 a2 μ13))
def f_M_orders (N : Nat) (x1 : Int32) (μ0 : Mem) : Option (Int32 × Mem) :=
  lt' (sI μ0 44 0 0) fun μ1 => bnd (f_M_isNet N x1 μ1) fun r2 μ3 => if r2 = 0 then (some ((-1), μ3)) else (ck (inb x1 4) (if (gI μ3 46 (tn x1)) = 8 then (some ((-2), μ3)) else (lt' (sI μ3 44 1 0) fun μ7 => ck (inb x1 4) (bnd (f_M_firstOrder N (gI μ7 46 (tn x1)) μ7) fun _ μ10 => lp_M_orders_47 N x1 (fun v30 μ31 => some (v30, μ31)) N 0 1 μ10))))
set_option maxHeartbeats 4000000 in
set_option maxRecDepth 100000 in
theorem glp_M_orders_62 (N d : Nat) {Γ : Cx Int32} (hΓ : Ok Γ "SortingNetsModel" c_M_orders 5) (hT : Rt Γ eI (some .int)) (hR : Rm Γ (d + 2)) (x1 : Int32) (x2 : Int32)    (K : Mem → Option (Int32 × Mem)) (hK : ∀  (ν : Mem), Go Γ 5 95 [(0, .ref 44), (1, .int x1), (2, .int x2)] [] ν (K  ν)) : ∀ (n : Nat) (a4 : Int32) (μ0 : Mem), Go Γ 5 62 [(0, .ref 44), (1, .int x1), (2, .int x2), (4, .int a4)] [] μ0 (lp_M_orders_62 N x1 x2 K n a4 μ0) := by
  intro n
  induction n with
  | zero => intro a4 μ0; exact go_none
  | succ n ih =>
    intro a4 μ0
    rw [lp_M_orders_62]
    refine go_iload (q := 3) (pc := 62) hΓ d_M_orders_62 rfl ?_
    refine go_aload_n (q := 0) (i := 0) (pc := 64) hΓ d_M_orders_64 rfl rfl ?_
    refine go_getR (q := 46) (pc := 65) hΓ fl_M_13 d_M_orders_65 rfl rfl ?_
    refine go_iload_n (q := 1) (i := 1) (pc := 68) hΓ d_M_orders_68 rfl rfl ?_
    refine go_ck (fun h21 => ?_)
    refine go_iald (pc := 69) hΓ d_M_orders_69 rfl h21 ?_
    refine go_icmp_ge 95 (pc := 70) hΓ d_M_orders_70 (by decide) (fun h22 => go_eq (if_neg h22) ?_) (fun h22 => go_eq (if_pos h22) ?_)
    · refine go_sub' (lv' := [(0, .ref 44), (1, .int x1), (2, .int x2)]) rfl ?_
      exact hK  μ0
    · refine go_iload_n (q := 2) (i := 2) (pc := 73) hΓ d_M_orders_73 rfl rfl ?_
      refine go_if_ne 95 (pc := 74) hΓ d_M_orders_74 (by decide) (fun h23 => go_eq (if_neg h23) ?_) (fun h23 => go_eq (if_pos h23) ?_)
      · refine go_sub' (lv' := [(0, .ref 44), (1, .int x1), (2, .int x2)]) rfl ?_
        exact hK  μ0
      · refine go_aload_n (q := 0) (i := 0) (pc := 77) hΓ d_M_orders_77 rfl rfl ?_
        refine go_aload_n (q := 0) (i := 0) (pc := 78) hΓ d_M_orders_78 rfl rfl ?_
        refine go_getR (q := 59) (pc := 79) hΓ fl_M_54 d_M_orders_79 rfl rfl ?_
        refine go_iload (q := 3) (pc := 82) hΓ d_M_orders_82 rfl ?_
        refine go_ck (fun h24 => ?_)
        refine go_iald (pc := 84) hΓ d_M_orders_84 rfl h24 ?_
        refine go_i2l (pc := 85) hΓ d_M_orders_85 ?_
        refine go_callV (index := 76) emV hΓ hR (g_M_enters N (d + 1) (Int32.toInt64 (gI μ0 59 (tn a4)))) mi_M_enters ml_M_76 d_M_orders_86 rfl rfl rfl rfl rfl (fun _ μ26 => ?_)
        show Go Γ 5 89 [(0, .ref 44), (1, .int x1), (2, .int x2), (4, .int a4)] [] μ26 _
        refine go_incI (q := 3) (i := 4) (n := 1) (c := 1) (pc := 89) hΓ d_M_orders_89 rfl (by decide) (by decide) (fun v27 => ?_)
        refine go_sub' (lv' := [(4, .int v27), (0, .ref 44), (1, .int x1), (2, .int x2)]) rfl ?_
        refine go_goto 62 (pc := 92) hΓ d_M_orders_92 (by decide) ?_
        refine go_sub' (lv' := [(0, .ref 44), (1, .int x1), (2, .int x2), (4, .int v27)]) rfl ?_
        exact ih v27 μ26
set_option maxHeartbeats 4000000 in
set_option maxRecDepth 100000 in
theorem glp_M_orders_47 (N d : Nat) {Γ : Cx Int32} (hΓ : Ok Γ "SortingNetsModel" c_M_orders 5) (hT : Rt Γ eI (some .int)) (hR : Rm Γ (d + 2)) (x1 : Int32)    (K : Int32 → Mem → Option (Int32 × Mem)) (hK : ∀ (b2 : Int32) (ν : Mem), Go Γ 5 112 [(2, .int b2)] [] ν (K b2 ν)) : ∀ (n : Nat) (a2 : Int32) (a3 : Int32) (μ0 : Mem), Go Γ 5 47 [(0, .ref 44), (1, .int x1), (2, .int a2), (3, .int a3)] [] μ0 (lp_M_orders_47 N x1 K n a2 a3 μ0) := by
  intro n
  induction n with
  | zero => intro a2 a3 μ0; exact go_none
  | succ n ih =>
    intro a2 a3 μ0
    rw [lp_M_orders_47]
    refine go_iload_n (q := 3) (i := 3) (pc := 47) hΓ d_M_orders_47 rfl rfl ?_
    refine go_if_eq 112 (pc := 48) hΓ d_M_orders_48 (by decide) (fun h11 => go_eq (if_pos h11) ?_) (fun h11 => go_eq (if_neg h11) ?_)
    · refine go_sub' (lv' := [(2, .int a2)]) rfl ?_
      exact hK a2 μ0
    · refine go_aload_n (q := 0) (i := 0) (pc := 51) hΓ d_M_orders_51 rfl rfl ?_
      refine go_iload_n (q := 1) (i := 1) (pc := 52) hΓ d_M_orders_52 rfl rfl ?_
      refine go_callV (index := 268) emI hΓ hR (g_M_leavesSorted N (d + 0) x1) mi_M_leavesSorted ml_M_268 d_M_orders_53 rfl rfl rfl rfl rfl (fun r12 μ13 => ?_)
      show Go Γ 5 56 [(0, .ref 44), (1, .int x1), (2, .int a2), (3, .int a3)] [.int r12] μ13 _
      refine go_join (fun (k14 : Int32 → Mem → Option (Int32 × Mem)) => ∀ (w15 : Int32) (μ16 : Mem), Go Γ 5 98 [(0, .ref 44), (1, .int x1), (2, .int w15)] [] μ16 (k14 w15 μ16)) ?_ (fun k14 k14h => ?_)
      · intro w15 μ16
        refine go_aload_n (q := 0) (i := 0) (pc := 98) hΓ d_M_orders_98 rfl rfl ?_
        refine go_aload_n (q := 0) (i := 0) (pc := 99) hΓ d_M_orders_99 rfl rfl ?_
        refine go_getR (q := 46) (pc := 100) hΓ fl_M_13 d_M_orders_100 rfl rfl ?_
        refine go_iload_n (q := 1) (i := 1) (pc := 103) hΓ d_M_orders_103 rfl rfl ?_
        refine go_ck (fun h17 => ?_)
        refine go_iald (pc := 104) hΓ d_M_orders_104 rfl h17 ?_
        refine go_callV (index := 271) emI hΓ hR (g_M_nextOrder N (d + 0) (gI μ16 46 (tn x1))) mi_M_nextOrder ml_M_271 d_M_orders_105 rfl rfl rfl rfl rfl (fun r18 μ19 => ?_)
        show Go Γ 5 108 [(0, .ref 44), (1, .int x1), (2, .int w15)] [.int r18] μ19 _
        refine go_istore_n (i := 3) (lv' := [(3, .int r18), (0, .ref 44), (1, .int x1), (2, .int w15)]) (pc := 108) hΓ d_M_orders_108 rfl (by decide) rfl ?_
        refine go_goto 47 (pc := 109) hΓ d_M_orders_109 (by decide) ?_
        refine go_sub' (lv' := [(0, .ref 44), (1, .int x1), (2, .int w15), (3, .int r18)]) rfl ?_
        exact ih w15 r18 μ19
      · refine go_if_ne 98 (pc := 56) hΓ d_M_orders_56 (by decide) (fun h20 => go_eq (if_neg h20) ?_) (fun h20 => go_eq (if_pos h20) ?_)
        · refine go_sub' (lv' := [(0, .ref 44), (1, .int x1), (2, .int a2)]) rfl ?_
          exact k14h a2 μ13
        · refine go_iconst (v := 0) (pc := 59) hΓ d_M_orders_59 (by decide) ?_
          refine go_istore (lv' := [(4, .int 0), (0, .ref 44), (1, .int x1), (2, .int a2), (3, .int a3)]) (pc := 60) hΓ d_M_orders_60 (by decide) rfl ?_
          refine go_sub' (lv' := [(0, .ref 44), (1, .int x1), (2, .int a2), (4, .int 0)]) rfl ?_
          refine glp_M_orders_62 N d hΓ hT hR x1 a2 _ (fun μ28 => ?_) N 0 μ13
          refine go_incI (q := 2) (i := 2) (n := 1) (c := 1) (pc := 95) hΓ d_M_orders_95 rfl (by decide) (by decide) (fun v29 => ?_)
          refine go_sub' (lv' := [(2, .int v29), (0, .ref 44), (1, .int x1)]) rfl ?_
          refine go_sub' (lv' := [(0, .ref 44), (1, .int x1), (2, .int v29)]) rfl ?_
          exact k14h v29 μ28
set_option maxHeartbeats 4000000 in
set_option maxRecDepth 100000 in
theorem g_M_orders (N d : Nat) (x1 : Int32)  : CallF eI y_M_orders c_M_orders 5 (some .int) (d + 2 + 1) [.ref 44, .int x1] (f_M_orders N x1) := by
  refine call_of (d := d + 2) (n := 1) mi_M_orders.1 (fun _ => rfl) ?_
  intro Γ μ0 hΓ hT hR
  show Go Γ 5 0 [(0, .ref 44), (1, .int x1)] [] μ0 (f_M_orders N x1 μ0)
  unfold f_M_orders
  refine go_aload_n (q := 0) (i := 0) (pc := 0) hΓ d_M_orders_0 rfl rfl ?_
  refine go_iconst (v := 0) (pc := 1) hΓ d_M_orders_1 (by decide) ?_
  refine go_putI (pc := 2) hΓ fp_M_69 d_M_orders_2 rfl rfl ?_
  refine go_letM (fun μ1 => ?_)
  refine go_iload_n (q := 1) (i := 1) (pc := 5) hΓ d_M_orders_5 rfl rfl ?_
  refine go_callS (index := 151) emI hΓ hR (g_M_isNet N (d + 0) x1) mi_M_isNet ml_M_151 d_M_orders_6 rfl rfl rfl (fun r2 μ3 => ?_)
  show Go Γ 5 9 [(0, .ref 44), (1, .int x1)] [.int r2] μ3 _
  refine go_if_ne 14 (pc := 9) hΓ d_M_orders_9 (by decide) (fun h4 => go_eq (if_neg h4) ?_) (fun h4 => go_eq (if_pos h4) ?_)
  · refine go_aload_n (q := 0) (i := 0) (pc := 14) hΓ d_M_orders_14 rfl rfl ?_
    refine go_getR (q := 46) (pc := 15) hΓ fl_M_13 d_M_orders_15 rfl rfl ?_
    refine go_iload_n (q := 1) (i := 1) (pc := 18) hΓ d_M_orders_18 rfl rfl ?_
    refine go_ck (fun h5 => ?_)
    refine go_iald (pc := 19) hΓ d_M_orders_19 rfl h5 ?_
    refine go_bipush (v := 8) (pc := 20) hΓ d_M_orders_20 (by decide) ?_
    refine go_icmp_ne 28 (pc := 22) hΓ d_M_orders_22 (by decide) (fun h6 => go_eq (if_neg h6) ?_) (fun h6 => go_eq (if_pos h6) ?_)
    · refine go_iconst (v := 0) (pc := 28) hΓ d_M_orders_28 (by decide) ?_
      refine go_istore_n (i := 2) (lv' := [(2, .int 0), (0, .ref 44), (1, .int x1)]) (pc := 29) hΓ d_M_orders_29 rfl (by decide) rfl ?_
      refine go_aload_n (q := 1) (i := 0) (pc := 30) hΓ d_M_orders_30 rfl rfl ?_
      refine go_iconst (v := 0) (pc := 31) hΓ d_M_orders_31 (by decide) ?_
      refine go_putI (pc := 32) hΓ fp_M_73 d_M_orders_32 rfl rfl ?_
      refine go_letM (fun μ7 => ?_)
      refine go_aload_n (q := 1) (i := 0) (pc := 35) hΓ d_M_orders_35 rfl rfl ?_
      refine go_aload_n (q := 1) (i := 0) (pc := 36) hΓ d_M_orders_36 rfl rfl ?_
      refine go_getR (q := 46) (pc := 37) hΓ fl_M_13 d_M_orders_37 rfl rfl ?_
      refine go_iload_n (q := 2) (i := 1) (pc := 40) hΓ d_M_orders_40 rfl rfl ?_
      refine go_ck (fun h8 => ?_)
      refine go_iald (pc := 41) hΓ d_M_orders_41 rfl h8 ?_
      refine go_callV (index := 265) emV hΓ hR (g_M_firstOrder N (d + 1) (gI μ7 46 (tn x1))) mi_M_firstOrder ml_M_265 d_M_orders_42 rfl rfl rfl rfl rfl (fun _ μ10 => ?_)
      show Go Γ 5 45 [(2, .int 0), (0, .ref 44), (1, .int x1)] [] μ10 _
      refine go_iconst (v := 1) (pc := 45) hΓ d_M_orders_45 (by decide) ?_
      refine go_istore_n (i := 3) (lv' := [(3, .int 1), (2, .int 0), (0, .ref 44), (1, .int x1)]) (pc := 46) hΓ d_M_orders_46 rfl (by decide) rfl ?_
      refine go_sub' (lv' := [(0, .ref 44), (1, .int x1), (2, .int 0), (3, .int 1)]) rfl ?_
      refine glp_M_orders_47 N d hΓ hT hR x1 _ (fun v30 μ31 => ?_) N 0 1 μ10
      refine go_iload_n (q := 0) (i := 2) (pc := 112) hΓ d_M_orders_112 rfl rfl ?_
      exact go_iret (pc := 113) hΓ hT d_M_orders_113
    · refine go_bipush (v := -2) (pc := 25) hΓ d_M_orders_25 (by decide) ?_
      exact go_iret (pc := 27) hΓ hT d_M_orders_27
  · refine go_iconst (v := -1) (pc := 12) hΓ d_M_orders_12 (by decide) ?_
    exact go_iret (pc := 13) hΓ hT d_M_orders_13
def lp_M_merges_40 (N : Nat) (x1 : Int32) (x2 : Int32)  (K : Int32 → Int32 → Mem → Option (Int32 × Mem)) : Nat → Int32 → Int32 → Int32 → Mem → Option (Int32 × Mem)
  | 0, _, _, _, _ => none
  | n + 1, a3, a4, a5, μ0 => bnd (f_M_all N x1 μ0) fun r9 μ10 => if a5 < r9 then (bnd (f_M_isSorted N x2 a5 μ10) fun r12 μ13 => lt' (fun (w15 : Int32) (w16 : Int32) (μ17 : Mem) => lt' (a5 + 1) fun v18 => lp_M_merges_40 N x1 x2 K n w15 w16 v18 μ17) fun (k14 : Int32 → Int32 → Mem → Option (Int32 × Mem)) => if r12 = 0 then (k14 a3 a4 μ13) else (ck (inb x1 4) (bnd (f_M_isSorted N ((gI μ13 46 (tn x1)) - x2) (shrI a5 x2) μ13) fun r21 μ22 => if r21 = 0 then (k14 a3 a4 μ22) else (lt' (a4 + 1) fun v24 => bnd (f_M_isWrong N x1 a5 (-1) 0 μ22) fun r25 μ26 => bnd (f_M_flag N r25 μ26) fun r27 μ28 => lt' (a3 + r27) fun v29 => k14 v29 v24 μ28)))) else (K a3 a4 μ10)
def f_M_merges (N : Nat) (x1 : Int32) (x2 : Int32) (μ0 : Mem) : Option (Int32 × Mem) :=
  lt' (sI μ0 44 0 0) fun μ1 => bnd (f_M_isNet N x1 μ1) fun r2 μ3 => if r2 = 0 then (some ((-1), μ3)) else (ck (inb x1 4) (bnd (f_M_in N (Int32.toInt64 x2) 1 (Int32.toInt64 ((gI μ3 46 (tn x1)) - 1)) μ3) fun r6 μ7 => if r6 = 0 then (some ((-1), μ7)) else (lp_M_merges_40 N x1 x2 (fun v30 v31 μ32 => bnd (f_M_tellsOne N (Int32.toInt64 v31) μ32) fun _ μ34 => some (v30, μ34)) N 0 0 0 μ7)))
set_option maxHeartbeats 4000000 in
set_option maxRecDepth 100000 in
theorem glp_M_merges_40 (N d : Nat) {Γ : Cx Int32} (hΓ : Ok Γ "SortingNetsModel" c_M_merges 6) (hT : Rt Γ eI (some .int)) (hR : Rm Γ (d + 3)) (x1 : Int32) (x2 : Int32)    (K : Int32 → Int32 → Mem → Option (Int32 × Mem)) (hK : ∀ (b3 : Int32) (b4 : Int32) (ν : Mem), Go Γ 6 104 [(0, .ref 44), (3, .int b3), (4, .int b4)] [] ν (K b3 b4 ν)) : ∀ (n : Nat) (a3 : Int32) (a4 : Int32) (a5 : Int32) (μ0 : Mem), Go Γ 6 40 [(0, .ref 44), (1, .int x1), (2, .int x2), (3, .int a3), (4, .int a4), (5, .int a5)] [] μ0 (lp_M_merges_40 N x1 x2 K n a3 a4 a5 μ0) := by
  intro n
  induction n with
  | zero => intro a3 a4 a5 μ0; exact go_none
  | succ n ih =>
    intro a3 a4 a5 μ0
    rw [lp_M_merges_40]
    refine go_iload (q := 5) (pc := 40) hΓ d_M_merges_40 rfl ?_
    refine go_aload_n (q := 0) (i := 0) (pc := 42) hΓ d_M_merges_42 rfl rfl ?_
    refine go_iload_n (q := 1) (i := 1) (pc := 43) hΓ d_M_merges_43 rfl rfl ?_
    refine go_callV (index := 86) emI hΓ hR (g_M_all N (d + 2) x1) mi_M_all ml_M_86 d_M_merges_44 rfl rfl rfl rfl rfl (fun r9 μ10 => ?_)
    show Go Γ 6 47 [(0, .ref 44), (1, .int x1), (2, .int x2), (3, .int a3), (4, .int a4), (5, .int a5)] [.int r9, .int a5] μ10 _
    refine go_icmp_ge 104 (pc := 47) hΓ d_M_merges_47 (by decide) (fun h11 => go_eq (if_neg h11) ?_) (fun h11 => go_eq (if_pos h11) ?_)
    · refine go_sub' (lv' := [(0, .ref 44), (3, .int a3), (4, .int a4)]) rfl ?_
      exact hK a3 a4 μ10
    · refine go_iload_n (q := 2) (i := 2) (pc := 50) hΓ d_M_merges_50 rfl rfl ?_
      refine go_iload (q := 5) (pc := 51) hΓ d_M_merges_51 rfl ?_
      refine go_callS (index := 232) emI hΓ hR (g_M_isSorted N (d + 2) x2 a5) mi_M_isSorted ml_M_232 d_M_merges_53 rfl rfl rfl (fun r12 μ13 => ?_)
      show Go Γ 6 56 [(0, .ref 44), (1, .int x1), (2, .int x2), (3, .int a3), (4, .int a4), (5, .int a5)] [.int r12] μ13 _
      refine go_join (fun (k14 : Int32 → Int32 → Mem → Option (Int32 × Mem)) => ∀ (w15 : Int32) (w16 : Int32) (μ17 : Mem), Go Γ 6 98 [(0, .ref 44), (1, .int x1), (2, .int x2), (3, .int w15), (4, .int w16), (5, .int a5)] [] μ17 (k14 w15 w16 μ17)) ?_ (fun k14 k14h => ?_)
      · intro w15 w16 μ17
        refine go_incI (q := 5) (i := 5) (n := 1) (c := 1) (pc := 98) hΓ d_M_merges_98 rfl (by decide) (by decide) (fun v18 => ?_)
        refine go_sub' (lv' := [(5, .int v18), (0, .ref 44), (1, .int x1), (2, .int x2), (3, .int w15), (4, .int w16)]) rfl ?_
        refine go_goto 40 (pc := 101) hΓ d_M_merges_101 (by decide) ?_
        refine go_sub' (lv' := [(0, .ref 44), (1, .int x1), (2, .int x2), (3, .int w15), (4, .int w16), (5, .int v18)]) rfl ?_
        exact ih w15 w16 v18 μ17
      · refine go_if_eq 98 (pc := 56) hΓ d_M_merges_56 (by decide) (fun h19 => go_eq (if_pos h19) ?_) (fun h19 => go_eq (if_neg h19) ?_)
        · refine go_sub' (lv' := [(0, .ref 44), (1, .int x1), (2, .int x2), (3, .int a3), (4, .int a4), (5, .int a5)]) rfl ?_
          exact k14h a3 a4 μ13
        · refine go_aload_n (q := 0) (i := 0) (pc := 59) hΓ d_M_merges_59 rfl rfl ?_
          refine go_getR (q := 46) (pc := 60) hΓ fl_M_13 d_M_merges_60 rfl rfl ?_
          refine go_iload_n (q := 1) (i := 1) (pc := 63) hΓ d_M_merges_63 rfl rfl ?_
          refine go_ck (fun h20 => ?_)
          refine go_iald (pc := 64) hΓ d_M_merges_64 rfl h20 ?_
          refine go_iload_n (q := 2) (i := 2) (pc := 65) hΓ d_M_merges_65 rfl rfl ?_
          refine go_isub (pc := 66) hΓ d_M_merges_66 ?_
          refine go_iload (q := 5) (pc := 67) hΓ d_M_merges_67 rfl ?_
          refine go_iload_n (q := 2) (i := 2) (pc := 69) hΓ d_M_merges_69 rfl rfl ?_
          refine go_ishr (pc := 70) hΓ d_M_merges_70 ?_
          refine go_callS (index := 232) emI hΓ hR (g_M_isSorted N (d + 2) ((gI μ13 46 (tn x1)) - x2) (shrI a5 x2)) mi_M_isSorted ml_M_232 d_M_merges_71 rfl rfl rfl (fun r21 μ22 => ?_)
          show Go Γ 6 74 [(0, .ref 44), (1, .int x1), (2, .int x2), (3, .int a3), (4, .int a4), (5, .int a5)] [.int r21] μ22 _
          refine go_if_ne 80 (pc := 74) hΓ d_M_merges_74 (by decide) (fun h23 => go_eq (if_neg h23) ?_) (fun h23 => go_eq (if_pos h23) ?_)
          · refine go_incI (q := 4) (i := 4) (n := 1) (c := 1) (pc := 80) hΓ d_M_merges_80 rfl (by decide) (by decide) (fun v24 => ?_)
            refine go_sub' (lv' := [(4, .int v24), (0, .ref 44), (1, .int x1), (2, .int x2), (3, .int a3), (5, .int a5)]) rfl ?_
            refine go_iload_n (q := 4) (i := 3) (pc := 83) hΓ d_M_merges_83 rfl rfl ?_
            refine go_aload_n (q := 1) (i := 0) (pc := 84) hΓ d_M_merges_84 rfl rfl ?_
            refine go_iload_n (q := 2) (i := 1) (pc := 85) hΓ d_M_merges_85 rfl rfl ?_
            refine go_iload (q := 5) (pc := 86) hΓ d_M_merges_86 rfl ?_
            refine go_iconst (v := -1) (pc := 88) hΓ d_M_merges_88 (by decide) ?_
            refine go_iconst (v := 0) (pc := 89) hΓ d_M_merges_89 (by decide) ?_
            refine go_callV (index := 238) emI hΓ hR (g_M_isWrong N (d + 0) x1 a5 (-1) 0) mi_M_isWrong ml_M_238 d_M_merges_90 rfl rfl rfl rfl rfl (fun r25 μ26 => ?_)
            show Go Γ 6 93 [(4, .int v24), (0, .ref 44), (1, .int x1), (2, .int x2), (3, .int a3), (5, .int a5)] [.int r25, .int a3] μ26 _
            refine go_callS (index := 188) emI hΓ hR (g_M_flag N (d + 2) r25) mi_M_flag ml_M_188 d_M_merges_93 rfl rfl rfl (fun r27 μ28 => ?_)
            show Go Γ 6 96 [(4, .int v24), (0, .ref 44), (1, .int x1), (2, .int x2), (3, .int a3), (5, .int a5)] [.int r27, .int a3] μ28 _
            refine go_iadd (pc := 96) hΓ d_M_merges_96 ?_
            refine go_letI (fun v29 => ?_)
            refine go_istore_n (i := 3) (lv' := [(3, .int v29), (4, .int v24), (0, .ref 44), (1, .int x1), (2, .int x2), (5, .int a5)]) (pc := 97) hΓ d_M_merges_97 rfl (by decide) rfl ?_
            refine go_sub' (lv' := [(0, .ref 44), (1, .int x1), (2, .int x2), (3, .int v29), (4, .int v24), (5, .int a5)]) rfl ?_
            exact k14h v29 v24 μ28
          · refine go_goto 98 (pc := 77) hΓ d_M_merges_77 (by decide) ?_
            refine go_sub' (lv' := [(0, .ref 44), (1, .int x1), (2, .int x2), (3, .int a3), (4, .int a4), (5, .int a5)]) rfl ?_
            exact k14h a3 a4 μ22
set_option maxHeartbeats 4000000 in
set_option maxRecDepth 100000 in
theorem g_M_merges (N d : Nat) (x1 : Int32) (x2 : Int32)  : CallF eI y_M_merges c_M_merges 6 (some .int) (d + 3 + 1) [.ref 44, .int x1, .int x2] (f_M_merges N x1 x2) := by
  refine call_of (d := d + 3) (n := 2) mi_M_merges.1 (fun _ => rfl) ?_
  intro Γ μ0 hΓ hT hR
  show Go Γ 6 0 [(0, .ref 44), (1, .int x1), (2, .int x2)] [] μ0 (f_M_merges N x1 x2 μ0)
  unfold f_M_merges
  refine go_aload_n (q := 0) (i := 0) (pc := 0) hΓ d_M_merges_0 rfl rfl ?_
  refine go_iconst (v := 0) (pc := 1) hΓ d_M_merges_1 (by decide) ?_
  refine go_putI (pc := 2) hΓ fp_M_69 d_M_merges_2 rfl rfl ?_
  refine go_letM (fun μ1 => ?_)
  refine go_iload_n (q := 1) (i := 1) (pc := 5) hΓ d_M_merges_5 rfl rfl ?_
  refine go_callS (index := 151) emI hΓ hR (g_M_isNet N (d + 1) x1) mi_M_isNet ml_M_151 d_M_merges_6 rfl rfl rfl (fun r2 μ3 => ?_)
  show Go Γ 6 9 [(0, .ref 44), (1, .int x1), (2, .int x2)] [.int r2] μ3 _
  refine go_if_eq 30 (pc := 9) hΓ d_M_merges_9 (by decide) (fun h4 => go_eq (if_pos h4) ?_) (fun h4 => go_eq (if_neg h4) ?_)
  · refine go_iconst (v := -1) (pc := 30) hΓ d_M_merges_30 (by decide) ?_
    exact go_iret (pc := 31) hΓ hT d_M_merges_31
  · refine go_iload_n (q := 2) (i := 2) (pc := 12) hΓ d_M_merges_12 rfl rfl ?_
    refine go_i2l (pc := 13) hΓ d_M_merges_13 ?_
    refine go_lconst (v := 1) (pc := 14) hΓ d_M_merges_14 (by decide) ?_
    refine go_aload_n (q := 0) (i := 0) (pc := 15) hΓ d_M_merges_15 rfl rfl ?_
    refine go_getR (q := 46) (pc := 16) hΓ fl_M_13 d_M_merges_16 rfl rfl ?_
    refine go_iload_n (q := 1) (i := 1) (pc := 19) hΓ d_M_merges_19 rfl rfl ?_
    refine go_ck (fun h5 => ?_)
    refine go_iald (pc := 20) hΓ d_M_merges_20 rfl h5 ?_
    refine go_iconst (v := 1) (pc := 21) hΓ d_M_merges_21 (by decide) ?_
    refine go_isub (pc := 22) hΓ d_M_merges_22 ?_
    refine go_i2l (pc := 23) hΓ d_M_merges_23 ?_
    refine go_callS (index := 82) emI hΓ hR (g_M_in N (d + 2) (Int32.toInt64 x2) 1 (Int32.toInt64 ((gI μ3 46 (tn x1)) - 1))) mi_M_in ml_M_82 d_M_merges_24 rfl rfl rfl (fun r6 μ7 => ?_)
    show Go Γ 6 27 [(0, .ref 44), (1, .int x1), (2, .int x2)] [.int r6] μ7 _
    refine go_if_ne 32 (pc := 27) hΓ d_M_merges_27 (by decide) (fun h8 => go_eq (if_neg h8) ?_) (fun h8 => go_eq (if_pos h8) ?_)
    · refine go_iconst (v := 0) (pc := 32) hΓ d_M_merges_32 (by decide) ?_
      refine go_istore_n (i := 3) (lv' := [(3, .int 0), (0, .ref 44), (1, .int x1), (2, .int x2)]) (pc := 33) hΓ d_M_merges_33 rfl (by decide) rfl ?_
      refine go_iconst (v := 0) (pc := 34) hΓ d_M_merges_34 (by decide) ?_
      refine go_istore (lv' := [(4, .int 0), (3, .int 0), (0, .ref 44), (1, .int x1), (2, .int x2)]) (pc := 35) hΓ d_M_merges_35 (by decide) rfl ?_
      refine go_iconst (v := 0) (pc := 37) hΓ d_M_merges_37 (by decide) ?_
      refine go_istore (lv' := [(5, .int 0), (4, .int 0), (3, .int 0), (0, .ref 44), (1, .int x1), (2, .int x2)]) (pc := 38) hΓ d_M_merges_38 (by decide) rfl ?_
      refine go_sub' (lv' := [(0, .ref 44), (1, .int x1), (2, .int x2), (3, .int 0), (4, .int 0), (5, .int 0)]) rfl ?_
      refine glp_M_merges_40 N d hΓ hT hR x1 x2 _ (fun v30 v31 μ32 => ?_) N 0 0 0 μ7
      refine go_aload_n (q := 0) (i := 0) (pc := 104) hΓ d_M_merges_104 rfl rfl ?_
      refine go_iload (q := 2) (pc := 105) hΓ d_M_merges_105 rfl ?_
      refine go_i2l (pc := 107) hΓ d_M_merges_107 ?_
      refine go_callV (index := 221) emV hΓ hR (g_M_tellsOne N (d + 1) (Int32.toInt64 v31)) mi_M_tellsOne ml_M_221 d_M_merges_108 rfl rfl rfl rfl rfl (fun _ μ34 => ?_)
      show Go Γ 6 111 [(0, .ref 44), (3, .int v30), (4, .int v31)] [] μ34 _
      refine go_iload_n (q := 1) (i := 3) (pc := 111) hΓ d_M_merges_111 rfl rfl ?_
      exact go_iret (pc := 112) hΓ hT d_M_merges_112
    · refine go_iconst (v := -1) (pc := 30) hΓ d_M_merges_30 (by decide) ?_
      exact go_iret (pc := 31) hΓ hT d_M_merges_31
def f_M_bits (N : Nat) (x0 : Int64) (μ0 : Mem) : Option (Int32 × Mem) :=
  bnd (f_JLong_bitCount N x0 μ0) fun r1 μ2 => some (r1, μ2)
set_option maxHeartbeats 4000000 in
set_option maxRecDepth 100000 in
theorem g_M_bits (N d : Nat) (x0 : Int64)  : CallF eI y_M_bits c_M_bits 2 (some .int) (d + 1 + 1) [.long x0] (f_M_bits N x0) := by
  refine call_of (d := d + 1) (n := 1) mi_M_bits.1 (fun _ => rfl) ?_
  intro Γ μ0 hΓ hT hR
  show Go Γ 2 0 [(0, .long x0)] [] μ0 (f_M_bits N x0 μ0)
  unfold f_M_bits
  refine go_lload_n (q := 0) (i := 0) (pc := 0) hΓ d_M_bits_0 rfl rfl ?_
  refine go_callS (index := 274) emI hΓ hR (g_JLong_bitCount N (d + 0) x0) mi_JLong_bitCount ml_M_274 d_M_bits_1 rfl rfl rfl (fun r1 μ2 => ?_)
  show Go Γ 2 4 [(0, .long x0)] [.int r1] μ2 _
  exact go_iret (pc := 4) hΓ hT d_M_bits_4
def lp_M_idle_21 (N : Nat) (x1 : Int32)  (K : Int64 → Mem → Option (Int64 × Mem)) : Nat → Int64 → Int32 → Mem → Option (Int64 × Mem)
  | 0, _, _, _ => none
  | n + 1, a2, a4, μ0 => bnd (f_M_all N x1 μ0) fun r5 μ6 => if a4 < r5 then (bnd (f_M_result N x1 a4 (-1) 0 μ6) fun r8 μ9 => lt' (a2 ||| (gL μ9 44 21)) fun v10 => lt' (a4 + 1) fun v11 => lp_M_idle_21 N x1 K n v10 v11 μ9) else (K a2 μ6)
def f_M_idle (N : Nat) (x1 : Int32) (μ0 : Mem) : Option (Int64 × Mem) :=
  lt' (sI μ0 44 0 0) fun μ1 => bnd (f_M_isNet N x1 μ1) fun r2 μ3 => if r2 = 0 then (some ((-1), μ3)) else (lp_M_idle_21 N x1 (fun v12 μ13 => ck (inb x1 4) (lt' (((shlL 1 (gI μ13 47 (tn x1))) - 1) &&& (v12 ^^^ (-1))) fun v15 => bnd (f_M_bits N v15 μ13) fun r16 μ17 => bnd (f_M_tellsOne N (Int32.toInt64 r16) μ17) fun _ μ19 => some (v15, μ19))) N 0 0 μ3)
set_option maxHeartbeats 4000000 in
set_option maxRecDepth 100000 in
theorem glp_M_idle_21 (N d : Nat) {Γ : Cx Int64} (hΓ : Ok Γ "SortingNetsModel" c_M_idle 6) (hT : Rt Γ eL (some .long)) (hR : Rm Γ (d + 2)) (x1 : Int32)    (K : Int64 → Mem → Option (Int64 × Mem)) (hK : ∀ (b2 : Int64) (ν : Mem), Go Γ 6 54 [(0, .ref 44), (1, .int x1), (2, .long b2)] [] ν (K b2 ν)) : ∀ (n : Nat) (a2 : Int64) (a4 : Int32) (μ0 : Mem), Go Γ 6 21 [(0, .ref 44), (1, .int x1), (2, .long a2), (4, .int a4)] [] μ0 (lp_M_idle_21 N x1 K n a2 a4 μ0) := by
  intro n
  induction n with
  | zero => intro a2 a4 μ0; exact go_none
  | succ n ih =>
    intro a2 a4 μ0
    rw [lp_M_idle_21]
    refine go_iload (q := 3) (pc := 21) hΓ d_M_idle_21 rfl ?_
    refine go_aload_n (q := 0) (i := 0) (pc := 23) hΓ d_M_idle_23 rfl rfl ?_
    refine go_iload_n (q := 1) (i := 1) (pc := 24) hΓ d_M_idle_24 rfl rfl ?_
    refine go_callV (index := 86) emI hΓ hR (g_M_all N (d + 1) x1) mi_M_all ml_M_86 d_M_idle_25 rfl rfl rfl rfl rfl (fun r5 μ6 => ?_)
    show Go Γ 6 28 [(0, .ref 44), (1, .int x1), (2, .long a2), (4, .int a4)] [.int r5, .int a4] μ6 _
    refine go_icmp_ge 54 (pc := 28) hΓ d_M_idle_28 (by decide) (fun h7 => go_eq (if_neg h7) ?_) (fun h7 => go_eq (if_pos h7) ?_)
    · refine go_sub' (lv' := [(0, .ref 44), (1, .int x1), (2, .long a2)]) rfl ?_
      exact hK a2 μ6
    · refine go_aload_n (q := 0) (i := 0) (pc := 31) hΓ d_M_idle_31 rfl rfl ?_
      refine go_iload_n (q := 1) (i := 1) (pc := 32) hΓ d_M_idle_32 rfl rfl ?_
      refine go_iload (q := 3) (pc := 33) hΓ d_M_idle_33 rfl ?_
      refine go_iconst (v := -1) (pc := 35) hΓ d_M_idle_35 (by decide) ?_
      refine go_iconst (v := 0) (pc := 36) hΓ d_M_idle_36 (by decide) ?_
      refine go_callV (index := 228) emI hΓ hR (g_M_result N (d + 0) x1 a4 (-1) 0) mi_M_result ml_M_228 d_M_idle_37 rfl rfl rfl rfl rfl (fun r8 μ9 => ?_)
      show Go Γ 6 40 [(0, .ref 44), (1, .int x1), (2, .long a2), (4, .int a4)] [.int r8] μ9 _
      refine go_pop (pc := 40) hΓ d_M_idle_40 rfl ?_
      refine go_lload_n (q := 2) (i := 2) (pc := 41) hΓ d_M_idle_41 rfl rfl ?_
      refine go_aload_n (q := 0) (i := 0) (pc := 42) hΓ d_M_idle_42 rfl rfl ?_
      refine go_getL (pc := 43) hΓ fl_M_224 d_M_idle_43 rfl rfl ?_
      refine go_lor (pc := 46) hΓ d_M_idle_46 ?_
      refine go_letL (fun v10 => ?_)
      refine go_lstore_n (i := 2) (lv' := [(2, .long v10), (0, .ref 44), (1, .int x1), (4, .int a4)]) (pc := 47) hΓ d_M_idle_47 rfl (by decide) rfl ?_
      refine go_incI (q := 3) (i := 4) (n := 1) (c := 1) (pc := 48) hΓ d_M_idle_48 rfl (by decide) (by decide) (fun v11 => ?_)
      refine go_sub' (lv' := [(4, .int v11), (2, .long v10), (0, .ref 44), (1, .int x1)]) rfl ?_
      refine go_goto 21 (pc := 51) hΓ d_M_idle_51 (by decide) ?_
      refine go_sub' (lv' := [(0, .ref 44), (1, .int x1), (2, .long v10), (4, .int v11)]) rfl ?_
      exact ih v10 v11 μ9
set_option maxHeartbeats 4000000 in
set_option maxRecDepth 100000 in
theorem g_M_idle (N d : Nat) (x1 : Int32)  : CallF eL y_M_idle c_M_idle 6 (some .long) (d + 2 + 1) [.ref 44, .int x1] (f_M_idle N x1) := by
  refine call_of (d := d + 2) (n := 1) mi_M_idle.1 (fun _ => rfl) ?_
  intro Γ μ0 hΓ hT hR
  show Go Γ 6 0 [(0, .ref 44), (1, .int x1)] [] μ0 (f_M_idle N x1 μ0)
  unfold f_M_idle
  refine go_aload_n (q := 0) (i := 0) (pc := 0) hΓ d_M_idle_0 rfl rfl ?_
  refine go_iconst (v := 0) (pc := 1) hΓ d_M_idle_1 (by decide) ?_
  refine go_putI (pc := 2) hΓ fp_M_69 d_M_idle_2 rfl rfl ?_
  refine go_letM (fun μ1 => ?_)
  refine go_iload_n (q := 1) (i := 1) (pc := 5) hΓ d_M_idle_5 rfl rfl ?_
  refine go_callS (index := 151) emI hΓ hR (g_M_isNet N (d + 0) x1) mi_M_isNet ml_M_151 d_M_idle_6 rfl rfl rfl (fun r2 μ3 => ?_)
  show Go Γ 6 9 [(0, .ref 44), (1, .int x1)] [.int r2] μ3 _
  refine go_if_ne 16 (pc := 9) hΓ d_M_idle_9 (by decide) (fun h4 => go_eq (if_neg h4) ?_) (fun h4 => go_eq (if_pos h4) ?_)
  · refine go_lconst (v := 0) (pc := 16) hΓ d_M_idle_16 (by decide) ?_
    refine go_lstore_n (i := 2) (lv' := [(2, .long 0), (0, .ref 44), (1, .int x1)]) (pc := 17) hΓ d_M_idle_17 rfl (by decide) rfl ?_
    refine go_iconst (v := 0) (pc := 18) hΓ d_M_idle_18 (by decide) ?_
    refine go_istore (lv' := [(4, .int 0), (2, .long 0), (0, .ref 44), (1, .int x1)]) (pc := 19) hΓ d_M_idle_19 (by decide) rfl ?_
    refine go_sub' (lv' := [(0, .ref 44), (1, .int x1), (2, .long 0), (4, .int 0)]) rfl ?_
    refine glp_M_idle_21 N d hΓ hT hR x1 _ (fun v12 μ13 => ?_) N 0 0 μ3
    refine go_lconst (v := 1) (pc := 54) hΓ d_M_idle_54 (by decide) ?_
    refine go_aload_n (q := 0) (i := 0) (pc := 55) hΓ d_M_idle_55 rfl rfl ?_
    refine go_getR (q := 47) (pc := 56) hΓ fl_M_17 d_M_idle_56 rfl rfl ?_
    refine go_iload_n (q := 1) (i := 1) (pc := 59) hΓ d_M_idle_59 rfl rfl ?_
    refine go_ck (fun h14 => ?_)
    refine go_iald (pc := 60) hΓ d_M_idle_60 rfl h14 ?_
    refine go_lshl (pc := 61) hΓ d_M_idle_61 ?_
    refine go_lconst (v := 1) (pc := 62) hΓ d_M_idle_62 (by decide) ?_
    refine go_lsub (pc := 63) hΓ d_M_idle_63 ?_
    refine go_lload_n (q := 2) (i := 2) (pc := 64) hΓ d_M_idle_64 rfl rfl ?_
    refine go_ldc2 (v := -1) (pc := 65) hΓ (tb_5 (List.mem_of_getElem? (i := 228) rfl) rfl) d_M_idle_65 ?_
    refine go_lxor (pc := 68) hΓ d_M_idle_68 ?_
    refine go_land (pc := 69) hΓ d_M_idle_69 ?_
    refine go_letL (fun v15 => ?_)
    refine go_lstore (lv' := [(4, .long v15), (0, .ref 44), (1, .int x1), (2, .long v12)]) (pc := 70) hΓ d_M_idle_70 (by decide) rfl ?_
    refine go_aload_n (q := 1) (i := 0) (pc := 72) hΓ d_M_idle_72 rfl rfl ?_
    refine go_lload (q := 0) (pc := 73) hΓ d_M_idle_73 rfl ?_
    refine go_callS (index := 281) emI hΓ hR (g_M_bits N (d + 0) v15) mi_M_bits ml_M_281 d_M_idle_75 rfl rfl rfl (fun r16 μ17 => ?_)
    show Go Γ 6 78 [(4, .long v15), (0, .ref 44), (1, .int x1), (2, .long v12)] [.int r16, .ref 44] μ17 _
    refine go_i2l (pc := 78) hΓ d_M_idle_78 ?_
    refine go_callV (index := 221) emV hΓ hR (g_M_tellsOne N (d + 0) (Int32.toInt64 r16)) mi_M_tellsOne ml_M_221 d_M_idle_79 rfl rfl rfl rfl rfl (fun _ μ19 => ?_)
    show Go Γ 6 82 [(4, .long v15), (0, .ref 44), (1, .int x1), (2, .long v12)] [] μ19 _
    refine go_lload (q := 0) (pc := 82) hΓ d_M_idle_82 rfl ?_
    exact go_lret (pc := 84) hΓ hT d_M_idle_84
  · refine go_ldc2 (v := -1) (pc := 12) hΓ (tb_5 (List.mem_of_getElem? (i := 228) rfl) rfl) d_M_idle_12 ?_
    exact go_lret (pc := 15) hΓ hT d_M_idle_15
def f_M_doesSort (N : Nat) (x1 : Int32) (μ0 : Mem) : Option (Int32 × Mem) :=
  bnd (f_M_wrongs N x1 (-1) 0 μ0) fun r1 μ2 => if r1 = 0 then (some (1, μ2)) else (some (0, μ2))
set_option maxHeartbeats 4000000 in
set_option maxRecDepth 100000 in
theorem g_M_doesSort (N d : Nat) (x1 : Int32)  : CallF eI y_M_doesSort c_M_doesSort 2 (some .boolean) (d + 4 + 1) [.ref 44, .int x1] (f_M_doesSort N x1) := by
  refine call_of (d := d + 4) (n := 1) mi_M_doesSort.1 (fun _ => rfl) ?_
  intro Γ μ0 hΓ hT hR
  show Go Γ 2 0 [(0, .ref 44), (1, .int x1)] [] μ0 (f_M_doesSort N x1 μ0)
  unfold f_M_doesSort
  refine go_aload_n (q := 0) (i := 0) (pc := 0) hΓ d_M_doesSort_0 rfl rfl ?_
  refine go_iload_n (q := 1) (i := 1) (pc := 1) hΓ d_M_doesSort_1 rfl rfl ?_
  refine go_iconst (v := -1) (pc := 2) hΓ d_M_doesSort_2 (by decide) ?_
  refine go_iconst (v := 0) (pc := 3) hΓ d_M_doesSort_3 (by decide) ?_
  refine go_callV (index := 192) emI hΓ hR (g_M_wrongs N (d + 0) x1 (-1) 0) mi_M_wrongs ml_M_192 d_M_doesSort_4 rfl rfl rfl rfl rfl (fun r1 μ2 => ?_)
  show Go Γ 2 7 [(0, .ref 44), (1, .int x1)] [.int r1] μ2 _
  refine go_if_ne 14 (pc := 7) hΓ d_M_doesSort_7 (by decide) (fun h3 => go_eq (if_neg h3) ?_) (fun h3 => go_eq (if_pos h3) ?_)
  · refine go_iconst (v := 0) (pc := 14) hΓ d_M_doesSort_14 (by decide) ?_
    exact go_zret (pc := 15) hΓ hT d_M_doesSort_15 rfl
  · refine go_iconst (v := 1) (pc := 10) hΓ d_M_doesSort_10 (by decide) ?_
    refine go_goto 15 (pc := 11) hΓ d_M_doesSort_11 (by decide) ?_
    exact go_zret (pc := 15) hΓ hT d_M_doesSort_15 rfl
def lp_M_spares_5 (N : Nat) (x1 : Int32)  (K : Int64 → Mem → Option (Int64 × Mem)) : Nat → Int64 → Int32 → Mem → Option (Int64 × Mem)
  | 0, _, _, _ => none
  | n + 1, a2, a4, μ0 => ck (inb x1 4) (if a4 < (gI μ0 47 (tn x1)) then (bnd (f_M_wrongs N x1 a4 0 μ0) fun r3 μ4 => lt' (if r3 = 0 then (shlL 1 a4 : Int64) else (0 : Int64)) fun q6 => lt' (a2 ||| q6) fun v7 => lt' (a4 + 1) fun v8 => lp_M_spares_5 N x1 K n v7 v8 μ4) else (K a2 μ0))
def f_M_spares (N : Nat) (x1 : Int32) (μ0 : Mem) : Option (Int64 × Mem) :=
  lp_M_spares_5 N x1 (fun v10 μ11 => some (v10, μ11)) N 0 0 μ0
set_option maxHeartbeats 4000000 in
set_option maxRecDepth 100000 in
theorem glp_M_spares_5 (N d : Nat) {Γ : Cx Int64} (hΓ : Ok Γ "SortingNetsModel" c_M_spares 5) (hT : Rt Γ eL (some .long)) (hR : Rm Γ (d + 4)) (x1 : Int32)    (K : Int64 → Mem → Option (Int64 × Mem)) (hK : ∀ (b2 : Int64) (ν : Mem), Go Γ 5 44 [(2, .long b2)] [] ν (K b2 ν)) : ∀ (n : Nat) (a2 : Int64) (a4 : Int32) (μ0 : Mem), Go Γ 5 5 [(0, .ref 44), (1, .int x1), (2, .long a2), (4, .int a4)] [] μ0 (lp_M_spares_5 N x1 K n a2 a4 μ0) := by
  intro n
  induction n with
  | zero => intro a2 a4 μ0; exact go_none
  | succ n ih =>
    intro a2 a4 μ0
    rw [lp_M_spares_5]
    refine go_iload (q := 3) (pc := 5) hΓ d_M_spares_5 rfl ?_
    refine go_aload_n (q := 0) (i := 0) (pc := 7) hΓ d_M_spares_7 rfl rfl ?_
    refine go_getR (q := 47) (pc := 8) hΓ fl_M_17 d_M_spares_8 rfl rfl ?_
    refine go_iload_n (q := 1) (i := 1) (pc := 11) hΓ d_M_spares_11 rfl rfl ?_
    refine go_ck (fun h1 => ?_)
    refine go_iald (pc := 12) hΓ d_M_spares_12 rfl h1 ?_
    refine go_icmp_ge 44 (pc := 13) hΓ d_M_spares_13 (by decide) (fun h2 => go_eq (if_neg h2) ?_) (fun h2 => go_eq (if_pos h2) ?_)
    · refine go_sub' (lv' := [(2, .long a2)]) rfl ?_
      exact hK a2 μ0
    · refine go_lload_n (q := 2) (i := 2) (pc := 16) hΓ d_M_spares_16 rfl rfl ?_
      refine go_aload_n (q := 0) (i := 0) (pc := 17) hΓ d_M_spares_17 rfl rfl ?_
      refine go_iload_n (q := 1) (i := 1) (pc := 18) hΓ d_M_spares_18 rfl rfl ?_
      refine go_iload (q := 3) (pc := 19) hΓ d_M_spares_19 rfl ?_
      refine go_iconst (v := 0) (pc := 21) hΓ d_M_spares_21 (by decide) ?_
      refine go_callV (index := 192) emI hΓ hR (g_M_wrongs N (d + 0) x1 a4 0) mi_M_wrongs ml_M_192 d_M_spares_22 rfl rfl rfl rfl rfl (fun r3 μ4 => ?_)
      show Go Γ 5 25 [(0, .ref 44), (1, .int x1), (2, .long a2), (4, .int a4)] [.int r3, .long a2] μ4 _
      refine go_mg (α := Int64) 36 (fun q6 => [(0, .ref 44), (1, .int x1), (4, .int a4)]) (fun q6 => [.long q6, .long a2]) (fun q6 => ?_) (fun g9 g9h => ?_)
      · refine go_lor (pc := 36) hΓ d_M_spares_36 ?_
        refine go_letL (fun v7 => ?_)
        refine go_lstore_n (i := 2) (lv' := [(2, .long v7), (0, .ref 44), (1, .int x1), (4, .int a4)]) (pc := 37) hΓ d_M_spares_37 rfl (by decide) rfl ?_
        refine go_incI (q := 3) (i := 4) (n := 1) (c := 1) (pc := 38) hΓ d_M_spares_38 rfl (by decide) (by decide) (fun v8 => ?_)
        refine go_sub' (lv' := [(4, .int v8), (2, .long v7), (0, .ref 44), (1, .int x1)]) rfl ?_
        refine go_goto 5 (pc := 41) hΓ d_M_spares_41 (by decide) ?_
        refine go_sub' (lv' := [(0, .ref 44), (1, .int x1), (2, .long v7), (4, .int v8)]) rfl ?_
        exact ih v7 v8 μ4
      · refine go_if_ne 35 (pc := 25) hΓ d_M_spares_25 (by decide) (fun h5 => ?_) (fun h5 => ?_)
        · rw [if_neg h5]
          refine go_lconst (v := 0) (pc := 35) hΓ d_M_spares_35 (by decide) ?_
          refine go_sub' (lv' := [(0, .ref 44), (1, .int x1), (4, .int a4)]) rfl ?_
          exact g9h _
        · rw [if_pos h5]
          refine go_lconst (v := 1) (pc := 28) hΓ d_M_spares_28 (by decide) ?_
          refine go_iload (q := 3) (pc := 29) hΓ d_M_spares_29 rfl ?_
          refine go_lshl (pc := 31) hΓ d_M_spares_31 ?_
          refine go_goto 36 (pc := 32) hΓ d_M_spares_32 (by decide) ?_
          refine go_sub' (lv' := [(0, .ref 44), (1, .int x1), (4, .int a4)]) rfl ?_
          exact g9h _
set_option maxHeartbeats 4000000 in
set_option maxRecDepth 100000 in
theorem g_M_spares (N d : Nat) (x1 : Int32)  : CallF eL y_M_spares c_M_spares 5 (some .long) (d + 4 + 1) [.ref 44, .int x1] (f_M_spares N x1) := by
  refine call_of (d := d + 4) (n := 1) mi_M_spares.1 (fun _ => rfl) ?_
  intro Γ μ0 hΓ hT hR
  show Go Γ 5 0 [(0, .ref 44), (1, .int x1)] [] μ0 (f_M_spares N x1 μ0)
  unfold f_M_spares
  refine go_lconst (v := 0) (pc := 0) hΓ d_M_spares_0 (by decide) ?_
  refine go_lstore_n (i := 2) (lv' := [(2, .long 0), (0, .ref 44), (1, .int x1)]) (pc := 1) hΓ d_M_spares_1 rfl (by decide) rfl ?_
  refine go_iconst (v := 0) (pc := 2) hΓ d_M_spares_2 (by decide) ?_
  refine go_istore (lv' := [(4, .int 0), (2, .long 0), (0, .ref 44), (1, .int x1)]) (pc := 3) hΓ d_M_spares_3 (by decide) rfl ?_
  refine go_sub' (lv' := [(0, .ref 44), (1, .int x1), (2, .long 0), (4, .int 0)]) rfl ?_
  refine glp_M_spares_5 N d hΓ hT hR x1 _ (fun v10 μ11 => ?_) N 0 0 μ0
  refine go_lload_n (q := 0) (i := 2) (pc := 44) hΓ d_M_spares_44 rfl rfl ?_
  exact go_lret (pc := 45) hΓ hT d_M_spares_45
def f_M_spare (N : Nat) (x1 : Int32) (μ0 : Mem) : Option (Int64 × Mem) :=
  lt' (sI μ0 44 0 0) fun μ1 => bnd (f_M_isNet N x1 μ1) fun r2 μ3 => if r2 = 0 then (some ((-1), μ3)) else (bnd (f_M_doesSort N x1 μ3) fun r5 μ6 => if r5 = 0 then (some ((-2), μ6)) else (bnd (f_M_spares N x1 μ6) fun r8 μ9 => bnd (f_M_bits N r8 μ9) fun r10 μ11 => bnd (f_M_tellsOne N (Int32.toInt64 r10) μ11) fun _ μ13 => some (r8, μ13)))
set_option maxHeartbeats 4000000 in
set_option maxRecDepth 100000 in
theorem g_M_spare (N d : Nat) (x1 : Int32)  : CallF eL y_M_spare c_M_spare 4 (some .long) (d + 5 + 1) [.ref 44, .int x1] (f_M_spare N x1) := by
  refine call_of (d := d + 5) (n := 1) mi_M_spare.1 (fun _ => rfl) ?_
  intro Γ μ0 hΓ hT hR
  show Go Γ 4 0 [(0, .ref 44), (1, .int x1)] [] μ0 (f_M_spare N x1 μ0)
  unfold f_M_spare
  refine go_aload_n (q := 0) (i := 0) (pc := 0) hΓ d_M_spare_0 rfl rfl ?_
  refine go_iconst (v := 0) (pc := 1) hΓ d_M_spare_1 (by decide) ?_
  refine go_putI (pc := 2) hΓ fp_M_69 d_M_spare_2 rfl rfl ?_
  refine go_letM (fun μ1 => ?_)
  refine go_iload_n (q := 1) (i := 1) (pc := 5) hΓ d_M_spare_5 rfl rfl ?_
  refine go_callS (index := 151) emI hΓ hR (g_M_isNet N (d + 3) x1) mi_M_isNet ml_M_151 d_M_spare_6 rfl rfl rfl (fun r2 μ3 => ?_)
  show Go Γ 4 9 [(0, .ref 44), (1, .int x1)] [.int r2] μ3 _
  refine go_if_ne 16 (pc := 9) hΓ d_M_spare_9 (by decide) (fun h4 => go_eq (if_neg h4) ?_) (fun h4 => go_eq (if_pos h4) ?_)
  · refine go_aload_n (q := 0) (i := 0) (pc := 16) hΓ d_M_spare_16 rfl rfl ?_
    refine go_iload_n (q := 1) (i := 1) (pc := 17) hΓ d_M_spare_17 rfl rfl ?_
    refine go_callV (index := 284) emI hΓ hR (g_M_doesSort N (d + 0) x1) mi_M_doesSort ml_M_284 d_M_spare_18 rfl rfl rfl rfl rfl (fun r5 μ6 => ?_)
    show Go Γ 4 21 [(0, .ref 44), (1, .int x1)] [.int r5] μ6 _
    refine go_if_ne 28 (pc := 21) hΓ d_M_spare_21 (by decide) (fun h7 => go_eq (if_neg h7) ?_) (fun h7 => go_eq (if_pos h7) ?_)
    · refine go_aload_n (q := 0) (i := 0) (pc := 28) hΓ d_M_spare_28 rfl rfl ?_
      refine go_iload_n (q := 1) (i := 1) (pc := 29) hΓ d_M_spare_29 rfl rfl ?_
      refine go_callV (index := 289) emL hΓ hR (g_M_spares N (d + 0) x1) mi_M_spares ml_M_289 d_M_spare_30 rfl rfl rfl rfl rfl (fun r8 μ9 => ?_)
      show Go Γ 4 33 [(0, .ref 44), (1, .int x1)] [.long r8] μ9 _
      refine go_lstore_n (i := 2) (lv' := [(2, .long r8), (0, .ref 44), (1, .int x1)]) (pc := 33) hΓ d_M_spare_33 rfl (by decide) rfl ?_
      refine go_aload_n (q := 1) (i := 0) (pc := 34) hΓ d_M_spare_34 rfl rfl ?_
      refine go_lload_n (q := 0) (i := 2) (pc := 35) hΓ d_M_spare_35 rfl rfl ?_
      refine go_callS (index := 281) emI hΓ hR (g_M_bits N (d + 3) r8) mi_M_bits ml_M_281 d_M_spare_36 rfl rfl rfl (fun r10 μ11 => ?_)
      show Go Γ 4 39 [(2, .long r8), (0, .ref 44), (1, .int x1)] [.int r10, .ref 44] μ11 _
      refine go_i2l (pc := 39) hΓ d_M_spare_39 ?_
      refine go_callV (index := 221) emV hΓ hR (g_M_tellsOne N (d + 3) (Int32.toInt64 r10)) mi_M_tellsOne ml_M_221 d_M_spare_40 rfl rfl rfl rfl rfl (fun _ μ13 => ?_)
      show Go Γ 4 43 [(2, .long r8), (0, .ref 44), (1, .int x1)] [] μ13 _
      refine go_lload_n (q := 0) (i := 2) (pc := 43) hΓ d_M_spare_43 rfl rfl ?_
      exact go_lret (pc := 44) hΓ hT d_M_spare_44
    · refine go_ldc2 (v := -2) (pc := 24) hΓ (tb_6 (List.mem_of_getElem? (i := 1) rfl) rfl) d_M_spare_24 ?_
      exact go_lret (pc := 27) hΓ hT d_M_spare_27
  · refine go_ldc2 (v := -1) (pc := 12) hΓ (tb_5 (List.mem_of_getElem? (i := 228) rfl) rfl) d_M_spare_12 ?_
    exact go_lret (pc := 15) hΓ hT d_M_spare_15
def lp_M_thins_36 (N : Nat) (x1 : Int32)  (K : Int32 → Mem → Option (Int32 × Mem)) : Nat → Int32 → Int32 → Mem → Option (Int32 × Mem)
  | 0, _, _, _ => none
  | n + 1, a2, a3, μ0 => if a3 < 0 then (K a2 μ0) else (bnd (f_M_wrongs N x1 a3 0 μ0) fun r11 μ12 => lt' (fun (w14 : Int32) (μ15 : Mem) => lt' (a3 + (-1)) fun v16 => lp_M_thins_36 N x1 K n w14 v16 μ15) fun (k13 : Int32 → Mem → Option (Int32 × Mem)) => if 0 < r11 then (k13 a2 μ12) else (bnd (f_M_goes N x1 a3 μ12) fun _ μ19 => lt' (a2 + 1) fun v20 => k13 v20 μ19))
def f_M_thins (N : Nat) (x1 : Int32) (μ0 : Mem) : Option (Int32 × Mem) :=
  lt' (sI μ0 44 0 0) fun μ1 => bnd (f_M_isNet N x1 μ1) fun r2 μ3 => if r2 = 0 then (some ((-1), μ3)) else (bnd (f_M_doesSort N x1 μ3) fun r5 μ6 => if r5 = 0 then (some ((-2), μ6)) else (ck (inb x1 4) (lt' ((gI μ6 47 (tn x1)) - 1) fun v9 => lp_M_thins_36 N x1 (fun v21 μ22 => some (v21, μ22)) N 0 v9 μ6)))
set_option maxHeartbeats 4000000 in
set_option maxRecDepth 100000 in
theorem glp_M_thins_36 (N d : Nat) {Γ : Cx Int32} (hΓ : Ok Γ "SortingNetsModel" c_M_thins 4) (hT : Rt Γ eI (some .int)) (hR : Rm Γ (d + 5)) (x1 : Int32)    (K : Int32 → Mem → Option (Int32 × Mem)) (hK : ∀ (b2 : Int32) (ν : Mem), Go Γ 4 68 [(2, .int b2)] [] ν (K b2 ν)) : ∀ (n : Nat) (a2 : Int32) (a3 : Int32) (μ0 : Mem), Go Γ 4 36 [(0, .ref 44), (1, .int x1), (2, .int a2), (3, .int a3)] [] μ0 (lp_M_thins_36 N x1 K n a2 a3 μ0) := by
  intro n
  induction n with
  | zero => intro a2 a3 μ0; exact go_none
  | succ n ih =>
    intro a2 a3 μ0
    rw [lp_M_thins_36]
    refine go_iload_n (q := 3) (i := 3) (pc := 36) hΓ d_M_thins_36 rfl rfl ?_
    refine go_if_lt 68 (pc := 37) hΓ d_M_thins_37 (by decide) (fun h10 => go_eq (if_pos h10) ?_) (fun h10 => go_eq (if_neg h10) ?_)
    · refine go_sub' (lv' := [(2, .int a2)]) rfl ?_
      exact hK a2 μ0
    · refine go_aload_n (q := 0) (i := 0) (pc := 40) hΓ d_M_thins_40 rfl rfl ?_
      refine go_iload_n (q := 1) (i := 1) (pc := 41) hΓ d_M_thins_41 rfl rfl ?_
      refine go_iload_n (q := 3) (i := 3) (pc := 42) hΓ d_M_thins_42 rfl rfl ?_
      refine go_iconst (v := 0) (pc := 43) hΓ d_M_thins_43 (by decide) ?_
      refine go_callV (index := 192) emI hΓ hR (g_M_wrongs N (d + 1) x1 a3 0) mi_M_wrongs ml_M_192 d_M_thins_44 rfl rfl rfl rfl rfl (fun r11 μ12 => ?_)
      show Go Γ 4 47 [(0, .ref 44), (1, .int x1), (2, .int a2), (3, .int a3)] [.int r11] μ12 _
      refine go_join (fun (k13 : Int32 → Mem → Option (Int32 × Mem)) => ∀ (w14 : Int32) (μ15 : Mem), Go Γ 4 62 [(0, .ref 44), (1, .int x1), (2, .int w14), (3, .int a3)] [] μ15 (k13 w14 μ15)) ?_ (fun k13 k13h => ?_)
      · intro w14 μ15
        refine go_incI (q := 3) (i := 3) (n := -1) (c := -1) (pc := 62) hΓ d_M_thins_62 rfl (by decide) (by decide) (fun v16 => ?_)
        refine go_sub' (lv' := [(3, .int v16), (0, .ref 44), (1, .int x1), (2, .int w14)]) rfl ?_
        refine go_goto 36 (pc := 65) hΓ d_M_thins_65 (by decide) ?_
        refine go_sub' (lv' := [(0, .ref 44), (1, .int x1), (2, .int w14), (3, .int v16)]) rfl ?_
        exact ih w14 v16 μ15
      · refine go_if_le 53 (pc := 47) hΓ d_M_thins_47 (by decide) (fun h17 => go_eq (if_neg h17) ?_) (fun h17 => go_eq (if_pos h17) ?_)
        · refine go_aload_n (q := 0) (i := 0) (pc := 53) hΓ d_M_thins_53 rfl rfl ?_
          refine go_iload_n (q := 1) (i := 1) (pc := 54) hΓ d_M_thins_54 rfl rfl ?_
          refine go_iload_n (q := 3) (i := 3) (pc := 55) hΓ d_M_thins_55 rfl rfl ?_
          refine go_callV (index := 208) emV hΓ hR (g_M_goes N (d + 3) x1 a3) mi_M_goes ml_M_208 d_M_thins_56 rfl rfl rfl rfl rfl (fun _ μ19 => ?_)
          show Go Γ 4 59 [(0, .ref 44), (1, .int x1), (2, .int a2), (3, .int a3)] [] μ19 _
          refine go_incI (q := 2) (i := 2) (n := 1) (c := 1) (pc := 59) hΓ d_M_thins_59 rfl (by decide) (by decide) (fun v20 => ?_)
          refine go_sub' (lv' := [(2, .int v20), (0, .ref 44), (1, .int x1), (3, .int a3)]) rfl ?_
          refine go_sub' (lv' := [(0, .ref 44), (1, .int x1), (2, .int v20), (3, .int a3)]) rfl ?_
          exact k13h v20 μ19
        · refine go_goto 62 (pc := 50) hΓ d_M_thins_50 (by decide) ?_
          refine go_sub' (lv' := [(0, .ref 44), (1, .int x1), (2, .int a2), (3, .int a3)]) rfl ?_
          exact k13h a2 μ12
set_option maxHeartbeats 4000000 in
set_option maxRecDepth 100000 in
theorem g_M_thins (N d : Nat) (x1 : Int32)  : CallF eI y_M_thins c_M_thins 4 (some .int) (d + 5 + 1) [.ref 44, .int x1] (f_M_thins N x1) := by
  refine call_of (d := d + 5) (n := 1) mi_M_thins.1 (fun _ => rfl) ?_
  intro Γ μ0 hΓ hT hR
  show Go Γ 4 0 [(0, .ref 44), (1, .int x1)] [] μ0 (f_M_thins N x1 μ0)
  unfold f_M_thins
  refine go_aload_n (q := 0) (i := 0) (pc := 0) hΓ d_M_thins_0 rfl rfl ?_
  refine go_iconst (v := 0) (pc := 1) hΓ d_M_thins_1 (by decide) ?_
  refine go_putI (pc := 2) hΓ fp_M_69 d_M_thins_2 rfl rfl ?_
  refine go_letM (fun μ1 => ?_)
  refine go_iload_n (q := 1) (i := 1) (pc := 5) hΓ d_M_thins_5 rfl rfl ?_
  refine go_callS (index := 151) emI hΓ hR (g_M_isNet N (d + 3) x1) mi_M_isNet ml_M_151 d_M_thins_6 rfl rfl rfl (fun r2 μ3 => ?_)
  show Go Γ 4 9 [(0, .ref 44), (1, .int x1)] [.int r2] μ3 _
  refine go_if_ne 14 (pc := 9) hΓ d_M_thins_9 (by decide) (fun h4 => go_eq (if_neg h4) ?_) (fun h4 => go_eq (if_pos h4) ?_)
  · refine go_aload_n (q := 0) (i := 0) (pc := 14) hΓ d_M_thins_14 rfl rfl ?_
    refine go_iload_n (q := 1) (i := 1) (pc := 15) hΓ d_M_thins_15 rfl rfl ?_
    refine go_callV (index := 284) emI hΓ hR (g_M_doesSort N (d + 0) x1) mi_M_doesSort ml_M_284 d_M_thins_16 rfl rfl rfl rfl rfl (fun r5 μ6 => ?_)
    show Go Γ 4 19 [(0, .ref 44), (1, .int x1)] [.int r5] μ6 _
    refine go_if_ne 25 (pc := 19) hΓ d_M_thins_19 (by decide) (fun h7 => go_eq (if_neg h7) ?_) (fun h7 => go_eq (if_pos h7) ?_)
    · refine go_iconst (v := 0) (pc := 25) hΓ d_M_thins_25 (by decide) ?_
      refine go_istore_n (i := 2) (lv' := [(2, .int 0), (0, .ref 44), (1, .int x1)]) (pc := 26) hΓ d_M_thins_26 rfl (by decide) rfl ?_
      refine go_aload_n (q := 1) (i := 0) (pc := 27) hΓ d_M_thins_27 rfl rfl ?_
      refine go_getR (q := 47) (pc := 28) hΓ fl_M_17 d_M_thins_28 rfl rfl ?_
      refine go_iload_n (q := 2) (i := 1) (pc := 31) hΓ d_M_thins_31 rfl rfl ?_
      refine go_ck (fun h8 => ?_)
      refine go_iald (pc := 32) hΓ d_M_thins_32 rfl h8 ?_
      refine go_iconst (v := 1) (pc := 33) hΓ d_M_thins_33 (by decide) ?_
      refine go_isub (pc := 34) hΓ d_M_thins_34 ?_
      refine go_letI (fun v9 => ?_)
      refine go_istore_n (i := 3) (lv' := [(3, .int v9), (2, .int 0), (0, .ref 44), (1, .int x1)]) (pc := 35) hΓ d_M_thins_35 rfl (by decide) rfl ?_
      refine go_sub' (lv' := [(0, .ref 44), (1, .int x1), (2, .int 0), (3, .int v9)]) rfl ?_
      refine glp_M_thins_36 N d hΓ hT hR x1 _ (fun v21 μ22 => ?_) N 0 v9 μ6
      refine go_iload_n (q := 0) (i := 2) (pc := 68) hΓ d_M_thins_68 rfl rfl ?_
      exact go_iret (pc := 69) hΓ hT d_M_thins_69
    · refine go_bipush (v := -2) (pc := 22) hΓ d_M_thins_22 (by decide) ?_
      exact go_iret (pc := 24) hΓ hT d_M_thins_24
  · refine go_iconst (v := -1) (pc := 12) hΓ d_M_thins_12 (by decide) ?_
    exact go_iret (pc := 13) hΓ hT d_M_thins_13
def f_M_broken (N : Nat) (x1 : Int32) (x2 : Int32) (x3 : Int32) (μ0 : Mem) : Option (Int32 × Mem) :=
  lt' (sI μ0 44 0 0) fun μ1 => bnd (f_M_isNet N x1 μ1) fun r2 μ3 => if r2 = 0 then (some ((-1), μ3)) else (bnd (f_M_isComparer N x1 x2 μ3) fun r5 μ6 => if r5 = 0 then (some ((-1), μ6)) else (bnd (f_M_in N (Int32.toInt64 x3) 0 2 μ6) fun r8 μ9 => if r8 = 0 then (some ((-1), μ9)) else (bnd (f_M_wrongs N x1 x2 x3 μ9) fun r11 μ12 => bnd (f_M_tellsOne N (Int32.toInt64 (gI μ12 44 22)) μ12) fun _ μ14 => some (r11, μ14))))
set_option maxHeartbeats 4000000 in
set_option maxRecDepth 100000 in
theorem g_M_broken (N d : Nat) (x1 : Int32) (x2 : Int32) (x3 : Int32)  : CallF eI y_M_broken c_M_broken 5 (some .int) (d + 4 + 1) [.ref 44, .int x1, .int x2, .int x3] (f_M_broken N x1 x2 x3) := by
  refine call_of (d := d + 4) (n := 3) mi_M_broken.1 (fun _ => rfl) ?_
  intro Γ μ0 hΓ hT hR
  show Go Γ 5 0 [(0, .ref 44), (1, .int x1), (2, .int x2), (3, .int x3)] [] μ0 (f_M_broken N x1 x2 x3 μ0)
  unfold f_M_broken
  refine go_aload_n (q := 0) (i := 0) (pc := 0) hΓ d_M_broken_0 rfl rfl ?_
  refine go_iconst (v := 0) (pc := 1) hΓ d_M_broken_1 (by decide) ?_
  refine go_putI (pc := 2) hΓ fp_M_69 d_M_broken_2 rfl rfl ?_
  refine go_letM (fun μ1 => ?_)
  refine go_iload_n (q := 1) (i := 1) (pc := 5) hΓ d_M_broken_5 rfl rfl ?_
  refine go_callS (index := 151) emI hΓ hR (g_M_isNet N (d + 2) x1) mi_M_isNet ml_M_151 d_M_broken_6 rfl rfl rfl (fun r2 μ3 => ?_)
  show Go Γ 5 9 [(0, .ref 44), (1, .int x1), (2, .int x2), (3, .int x3)] [.int r2] μ3 _
  refine go_if_eq 33 (pc := 9) hΓ d_M_broken_9 (by decide) (fun h4 => go_eq (if_pos h4) ?_) (fun h4 => go_eq (if_neg h4) ?_)
  · refine go_iconst (v := -1) (pc := 33) hΓ d_M_broken_33 (by decide) ?_
    exact go_iret (pc := 34) hΓ hT d_M_broken_34
  · refine go_aload_n (q := 0) (i := 0) (pc := 12) hΓ d_M_broken_12 rfl rfl ?_
    refine go_iload_n (q := 1) (i := 1) (pc := 13) hΓ d_M_broken_13 rfl rfl ?_
    refine go_iload_n (q := 2) (i := 2) (pc := 14) hΓ d_M_broken_14 rfl rfl ?_
    refine go_callV (index := 205) emI hΓ hR (g_M_isComparer N (d + 2) x1 x2) mi_M_isComparer ml_M_205 d_M_broken_15 rfl rfl rfl rfl rfl (fun r5 μ6 => ?_)
    show Go Γ 5 18 [(0, .ref 44), (1, .int x1), (2, .int x2), (3, .int x3)] [.int r5] μ6 _
    refine go_if_eq 33 (pc := 18) hΓ d_M_broken_18 (by decide) (fun h7 => go_eq (if_pos h7) ?_) (fun h7 => go_eq (if_neg h7) ?_)
    · refine go_iconst (v := -1) (pc := 33) hΓ d_M_broken_33 (by decide) ?_
      exact go_iret (pc := 34) hΓ hT d_M_broken_34
    · refine go_iload_n (q := 3) (i := 3) (pc := 21) hΓ d_M_broken_21 rfl rfl ?_
      refine go_i2l (pc := 22) hΓ d_M_broken_22 ?_
      refine go_lconst (v := 0) (pc := 23) hΓ d_M_broken_23 (by decide) ?_
      refine go_ldc2 (v := 2) (pc := 24) hΓ (tb_5 (List.mem_of_getElem? (i := 14) rfl) rfl) d_M_broken_24 ?_
      refine go_callS (index := 82) emI hΓ hR (g_M_in N (d + 3) (Int32.toInt64 x3) 0 2) mi_M_in ml_M_82 d_M_broken_27 rfl rfl rfl (fun r8 μ9 => ?_)
      show Go Γ 5 30 [(0, .ref 44), (1, .int x1), (2, .int x2), (3, .int x3)] [.int r8] μ9 _
      refine go_if_ne 35 (pc := 30) hΓ d_M_broken_30 (by decide) (fun h10 => go_eq (if_neg h10) ?_) (fun h10 => go_eq (if_pos h10) ?_)
      · refine go_aload_n (q := 0) (i := 0) (pc := 35) hΓ d_M_broken_35 rfl rfl ?_
        refine go_iload_n (q := 1) (i := 1) (pc := 36) hΓ d_M_broken_36 rfl rfl ?_
        refine go_iload_n (q := 2) (i := 2) (pc := 37) hΓ d_M_broken_37 rfl rfl ?_
        refine go_iload_n (q := 3) (i := 3) (pc := 38) hΓ d_M_broken_38 rfl rfl ?_
        refine go_callV (index := 192) emI hΓ hR (g_M_wrongs N (d + 0) x1 x2 x3) mi_M_wrongs ml_M_192 d_M_broken_39 rfl rfl rfl rfl rfl (fun r11 μ12 => ?_)
        show Go Γ 5 42 [(0, .ref 44), (1, .int x1), (2, .int x2), (3, .int x3)] [.int r11] μ12 _
        refine go_istore (lv' := [(4, .int r11), (0, .ref 44), (1, .int x1), (2, .int x2), (3, .int x3)]) (pc := 42) hΓ d_M_broken_42 (by decide) rfl ?_
        refine go_aload_n (q := 1) (i := 0) (pc := 44) hΓ d_M_broken_44 rfl rfl ?_
        refine go_aload_n (q := 1) (i := 0) (pc := 45) hΓ d_M_broken_45 rfl rfl ?_
        refine go_getI (pc := 46) hΓ fl_M_235 d_M_broken_46 rfl rfl ?_
        refine go_i2l (pc := 49) hΓ d_M_broken_49 ?_
        refine go_callV (index := 221) emV hΓ hR (g_M_tellsOne N (d + 2) (Int32.toInt64 (gI μ12 44 22))) mi_M_tellsOne ml_M_221 d_M_broken_50 rfl rfl rfl rfl rfl (fun _ μ14 => ?_)
        show Go Γ 5 53 [(4, .int r11), (0, .ref 44), (1, .int x1), (2, .int x2), (3, .int x3)] [] μ14 _
        refine go_iload (q := 0) (pc := 53) hΓ d_M_broken_53 rfl ?_
        exact go_iret (pc := 55) hΓ hT d_M_broken_55
      · refine go_iconst (v := -1) (pc := 33) hΓ d_M_broken_33 (by decide) ?_
        exact go_iret (pc := 34) hΓ hT d_M_broken_34
def lp_M_tests_51 (N : Nat) (x1 : Int32) (x2 : Int64) (x4 : Int32)  (K : Mem → Option (Int32 × Mem)) : Nat → Int32 → Mem → Option (Int32 × Mem)
  | 0, _, _ => none
  | n + 1, a5, μ0 => ck (inb x1 4) (if a5 < (gI μ0 47 (tn x1)) then (ck (inb x4 256) (bnd (f_M_isWrong N x1 x4 a5 0 μ0) fun r16 μ17 => lt' (if r16 = 0 then (0 : Int64) else (shlL 1 a5 : Int64)) fun q19 => ck (inb x4 256) (lt' (sL μ17 60 (tn x4) ((gL μ0 60 (tn x4)) ||| q19)) fun μ21 => lt' (a5 + 1) fun v22 => lp_M_tests_51 N x1 x2 x4 K n v22 μ21))) else (K  μ0))
def lp_M_tests_30 (N : Nat) (x1 : Int32)  (K : Int64 → Mem → Option (Int32 × Mem)) : Nat → Int64 → Int32 → Mem → Option (Int32 × Mem)
  | 0, _, _, _ => none
  | n + 1, a2, a4, μ0 => bnd (f_M_all N x1 μ0) fun r8 μ9 => if a4 < r8 then (ck (inb a4 256) (lt' (sL μ9 60 (tn a4) 0) fun μ12 => lp_M_tests_51 N x1 a2 a4 (fun μ24 => ck (inb a4 256) (lt' (a2 ||| (gL μ24 60 (tn a4))) fun v26 => lt' (a4 + 1) fun v27 => lp_M_tests_30 N x1 K n v26 v27 μ24)) N 0 μ12)) else (K a2 μ9)
def lp_M_tests_132 (N : Nat) (x1 : Int32) (x2 : Int64)  (K : Int32 → Mem → Option (Int32 × Mem)) : Nat → Int32 → Int32 → Mem → Option (Int32 × Mem)
  | 0, _, _, _ => none
  | n + 1, a4, a5, μ0 => bnd (f_M_all N x1 μ0) fun r32 μ33 => if a5 < r32 then (ck (inb a5 256) (bnd (f_M_bits N ((gL μ33 60 (tn a5)) &&& x2) μ33) fun r36 μ37 => ck (inb a4 256) (bnd (f_M_bits N ((gL μ37 60 (tn a4)) &&& x2) μ37) fun r39 μ40 => lt' (if r39 < r36 then (a5 : Int32) else (a4 : Int32)) fun q42 => lt' (a5 + 1) fun v43 => lp_M_tests_132 N x1 x2 K n q42 v43 μ40))) else (K a4 μ33)
def lp_M_tests_120 (N : Nat) (x1 : Int32)  (K : Mem → Option (Int32 × Mem)) : Nat → Int64 → Mem → Option (Int32 × Mem)
  | 0, _, _ => none
  | n + 1, a2, μ0 => if (lg_cmp a2 0) = 0 then (K  μ0) else (lp_M_tests_132 N x1 a2 (fun v45 μ46 => bnd (f_M_enters N (Int32.toInt64 v45) μ46) fun _ μ48 => ck (inb v45 256) (lt' (a2 &&& ((gL μ48 60 (tn v45)) ^^^ (-1))) fun v50 => lp_M_tests_120 N x1 K n v50 μ48)) N 0 1 μ0)
def f_M_tests (N : Nat) (x1 : Int32) (μ0 : Mem) : Option (Int32 × Mem) :=
  lt' (sI μ0 44 0 0) fun μ1 => bnd (f_M_isNet N x1 μ1) fun r2 μ3 => if r2 = 0 then (some ((-1), μ3)) else (bnd (f_M_doesSort N x1 μ3) fun r5 μ6 => if r5 = 0 then (some ((-2), μ6)) else (lp_M_tests_30 N x1 (fun v28 μ29 => lt' (sI μ29 44 1 0) fun μ30 => lp_M_tests_120 N x1 (fun μ51 => some (gI μ51 44 1, μ51)) N v28 μ30) N 0 0 μ6))
set_option maxHeartbeats 4000000 in
set_option maxRecDepth 100000 in
theorem glp_M_tests_51 (N d : Nat) {Γ : Cx Int32} (hΓ : Ok Γ "SortingNetsModel" c_M_tests 6) (hT : Rt Γ eI (some .int)) (hR : Rm Γ (d + 5)) (x1 : Int32) (x2 : Int64) (x4 : Int32)    (K : Mem → Option (Int32 × Mem)) (hK : ∀  (ν : Mem), Go Γ 6 99 [(0, .ref 44), (1, .int x1), (2, .long x2), (4, .int x4)] [] ν (K  ν)) : ∀ (n : Nat) (a5 : Int32) (μ0 : Mem), Go Γ 6 51 [(0, .ref 44), (1, .int x1), (2, .long x2), (4, .int x4), (5, .int a5)] [] μ0 (lp_M_tests_51 N x1 x2 x4 K n a5 μ0) := by
  intro n
  induction n with
  | zero => intro a5 μ0; exact go_none
  | succ n ih =>
    intro a5 μ0
    rw [lp_M_tests_51]
    refine go_iload (q := 4) (pc := 51) hΓ d_M_tests_51 rfl ?_
    refine go_aload_n (q := 0) (i := 0) (pc := 53) hΓ d_M_tests_53 rfl rfl ?_
    refine go_getR (q := 47) (pc := 54) hΓ fl_M_17 d_M_tests_54 rfl rfl ?_
    refine go_iload_n (q := 1) (i := 1) (pc := 57) hΓ d_M_tests_57 rfl rfl ?_
    refine go_ck (fun h13 => ?_)
    refine go_iald (pc := 58) hΓ d_M_tests_58 rfl h13 ?_
    refine go_icmp_ge 99 (pc := 59) hΓ d_M_tests_59 (by decide) (fun h14 => go_eq (if_neg h14) ?_) (fun h14 => go_eq (if_pos h14) ?_)
    · refine go_sub' (lv' := [(0, .ref 44), (1, .int x1), (2, .long x2), (4, .int x4)]) rfl ?_
      exact hK  μ0
    · refine go_aload_n (q := 0) (i := 0) (pc := 62) hΓ d_M_tests_62 rfl rfl ?_
      refine go_getR (q := 60) (pc := 63) hΓ fl_M_57 d_M_tests_63 rfl rfl ?_
      refine go_iload (q := 3) (pc := 66) hΓ d_M_tests_66 rfl ?_
      refine go_dup2 (pc := 68) hΓ d_M_tests_68 rfl rfl ?_
      refine go_ck (fun h15 => ?_)
      refine go_lald (pc := 69) hΓ d_M_tests_69 rfl h15 ?_
      refine go_aload_n (q := 0) (i := 0) (pc := 70) hΓ d_M_tests_70 rfl rfl ?_
      refine go_iload_n (q := 1) (i := 1) (pc := 71) hΓ d_M_tests_71 rfl rfl ?_
      refine go_iload (q := 3) (pc := 72) hΓ d_M_tests_72 rfl ?_
      refine go_iload (q := 4) (pc := 74) hΓ d_M_tests_74 rfl ?_
      refine go_iconst (v := 0) (pc := 76) hΓ d_M_tests_76 (by decide) ?_
      refine go_callV (index := 238) emI hΓ hR (g_M_isWrong N (d + 2) x1 x4 a5 0) mi_M_isWrong ml_M_238 d_M_tests_77 rfl rfl rfl rfl rfl (fun r16 μ17 => ?_)
      show Go Γ 6 80 [(0, .ref 44), (1, .int x1), (2, .long x2), (4, .int x4), (5, .int a5)] [.int r16, .long (gL μ0 60 (tn x4)), .int x4, .ref 60] μ17 _
      refine go_mg (α := Int64) 91 (fun q19 => [(0, .ref 44), (1, .int x1), (2, .long x2), (4, .int x4), (5, .int a5)]) (fun q19 => [.long q19, .long (gL μ0 60 (tn x4)), .int x4, .ref 60]) (fun q19 => ?_) (fun g23 g23h => ?_)
      · refine go_lor (pc := 91) hΓ d_M_tests_91 ?_
        refine go_ck (fun h20 => ?_)
        refine go_last (pc := 92) hΓ d_M_tests_92 rfl h20 ?_
        refine go_letM (fun μ21 => ?_)
        refine go_incI (q := 4) (i := 5) (n := 1) (c := 1) (pc := 93) hΓ d_M_tests_93 rfl (by decide) (by decide) (fun v22 => ?_)
        refine go_sub' (lv' := [(5, .int v22), (0, .ref 44), (1, .int x1), (2, .long x2), (4, .int x4)]) rfl ?_
        refine go_goto 51 (pc := 96) hΓ d_M_tests_96 (by decide) ?_
        refine go_sub' (lv' := [(0, .ref 44), (1, .int x1), (2, .long x2), (4, .int x4), (5, .int v22)]) rfl ?_
        exact ih v22 μ21
      · refine go_if_eq 90 (pc := 80) hΓ d_M_tests_80 (by decide) (fun h18 => ?_) (fun h18 => ?_)
        · rw [if_pos h18]
          refine go_lconst (v := 0) (pc := 90) hΓ d_M_tests_90 (by decide) ?_
          refine go_sub' (lv' := [(0, .ref 44), (1, .int x1), (2, .long x2), (4, .int x4), (5, .int a5)]) rfl ?_
          exact g23h _
        · rw [if_neg h18]
          refine go_lconst (v := 1) (pc := 83) hΓ d_M_tests_83 (by decide) ?_
          refine go_iload (q := 4) (pc := 84) hΓ d_M_tests_84 rfl ?_
          refine go_lshl (pc := 86) hΓ d_M_tests_86 ?_
          refine go_goto 91 (pc := 87) hΓ d_M_tests_87 (by decide) ?_
          refine go_sub' (lv' := [(0, .ref 44), (1, .int x1), (2, .long x2), (4, .int x4), (5, .int a5)]) rfl ?_
          exact g23h _
set_option maxHeartbeats 4000000 in
set_option maxRecDepth 100000 in
theorem glp_M_tests_30 (N d : Nat) {Γ : Cx Int32} (hΓ : Ok Γ "SortingNetsModel" c_M_tests 6) (hT : Rt Γ eI (some .int)) (hR : Rm Γ (d + 5)) (x1 : Int32)    (K : Int64 → Mem → Option (Int32 × Mem)) (hK : ∀ (b2 : Int64) (ν : Mem), Go Γ 6 115 [(0, .ref 44), (1, .int x1), (2, .long b2)] [] ν (K b2 ν)) : ∀ (n : Nat) (a2 : Int64) (a4 : Int32) (μ0 : Mem), Go Γ 6 30 [(0, .ref 44), (1, .int x1), (2, .long a2), (4, .int a4)] [] μ0 (lp_M_tests_30 N x1 K n a2 a4 μ0) := by
  intro n
  induction n with
  | zero => intro a2 a4 μ0; exact go_none
  | succ n ih =>
    intro a2 a4 μ0
    rw [lp_M_tests_30]
    refine go_iload (q := 3) (pc := 30) hΓ d_M_tests_30 rfl ?_
    refine go_aload_n (q := 0) (i := 0) (pc := 32) hΓ d_M_tests_32 rfl rfl ?_
    refine go_iload_n (q := 1) (i := 1) (pc := 33) hΓ d_M_tests_33 rfl rfl ?_
    refine go_callV (index := 86) emI hΓ hR (g_M_all N (d + 4) x1) mi_M_all ml_M_86 d_M_tests_34 rfl rfl rfl rfl rfl (fun r8 μ9 => ?_)
    show Go Γ 6 37 [(0, .ref 44), (1, .int x1), (2, .long a2), (4, .int a4)] [.int r8, .int a4] μ9 _
    refine go_icmp_ge 115 (pc := 37) hΓ d_M_tests_37 (by decide) (fun h10 => go_eq (if_neg h10) ?_) (fun h10 => go_eq (if_pos h10) ?_)
    · refine go_sub' (lv' := [(0, .ref 44), (1, .int x1), (2, .long a2)]) rfl ?_
      exact hK a2 μ9
    · refine go_aload_n (q := 0) (i := 0) (pc := 40) hΓ d_M_tests_40 rfl rfl ?_
      refine go_getR (q := 60) (pc := 41) hΓ fl_M_57 d_M_tests_41 rfl rfl ?_
      refine go_iload (q := 3) (pc := 44) hΓ d_M_tests_44 rfl ?_
      refine go_lconst (v := 0) (pc := 46) hΓ d_M_tests_46 (by decide) ?_
      refine go_ck (fun h11 => ?_)
      refine go_last (pc := 47) hΓ d_M_tests_47 rfl h11 ?_
      refine go_letM (fun μ12 => ?_)
      refine go_iconst (v := 0) (pc := 48) hΓ d_M_tests_48 (by decide) ?_
      refine go_istore (lv' := [(5, .int 0), (0, .ref 44), (1, .int x1), (2, .long a2), (4, .int a4)]) (pc := 49) hΓ d_M_tests_49 (by decide) rfl ?_
      refine go_sub' (lv' := [(0, .ref 44), (1, .int x1), (2, .long a2), (4, .int a4), (5, .int 0)]) rfl ?_
      refine glp_M_tests_51 N d hΓ hT hR x1 a2 a4 _ (fun μ24 => ?_) N 0 μ12
      refine go_lload_n (q := 2) (i := 2) (pc := 99) hΓ d_M_tests_99 rfl rfl ?_
      refine go_aload_n (q := 0) (i := 0) (pc := 100) hΓ d_M_tests_100 rfl rfl ?_
      refine go_getR (q := 60) (pc := 101) hΓ fl_M_57 d_M_tests_101 rfl rfl ?_
      refine go_iload (q := 3) (pc := 104) hΓ d_M_tests_104 rfl ?_
      refine go_ck (fun h25 => ?_)
      refine go_lald (pc := 106) hΓ d_M_tests_106 rfl h25 ?_
      refine go_lor (pc := 107) hΓ d_M_tests_107 ?_
      refine go_letL (fun v26 => ?_)
      refine go_lstore_n (i := 2) (lv' := [(2, .long v26), (0, .ref 44), (1, .int x1), (4, .int a4)]) (pc := 108) hΓ d_M_tests_108 rfl (by decide) rfl ?_
      refine go_incI (q := 3) (i := 4) (n := 1) (c := 1) (pc := 109) hΓ d_M_tests_109 rfl (by decide) (by decide) (fun v27 => ?_)
      refine go_sub' (lv' := [(4, .int v27), (2, .long v26), (0, .ref 44), (1, .int x1)]) rfl ?_
      refine go_goto 30 (pc := 112) hΓ d_M_tests_112 (by decide) ?_
      refine go_sub' (lv' := [(0, .ref 44), (1, .int x1), (2, .long v26), (4, .int v27)]) rfl ?_
      exact ih v26 v27 μ24
set_option maxHeartbeats 4000000 in
set_option maxRecDepth 100000 in
theorem glp_M_tests_132 (N d : Nat) {Γ : Cx Int32} (hΓ : Ok Γ "SortingNetsModel" c_M_tests 6) (hT : Rt Γ eI (some .int)) (hR : Rm Γ (d + 5)) (x1 : Int32) (x2 : Int64)    (K : Int32 → Mem → Option (Int32 × Mem)) (hK : ∀ (b4 : Int32) (ν : Mem), Go Γ 6 184 [(0, .ref 44), (1, .int x1), (2, .long x2), (4, .int b4)] [] ν (K b4 ν)) : ∀ (n : Nat) (a4 : Int32) (a5 : Int32) (μ0 : Mem), Go Γ 6 132 [(0, .ref 44), (1, .int x1), (2, .long x2), (4, .int a4), (5, .int a5)] [] μ0 (lp_M_tests_132 N x1 x2 K n a4 a5 μ0) := by
  intro n
  induction n with
  | zero => intro a4 a5 μ0; exact go_none
  | succ n ih =>
    intro a4 a5 μ0
    rw [lp_M_tests_132]
    refine go_iload (q := 4) (pc := 132) hΓ d_M_tests_132 rfl ?_
    refine go_aload_n (q := 0) (i := 0) (pc := 134) hΓ d_M_tests_134 rfl rfl ?_
    refine go_iload_n (q := 1) (i := 1) (pc := 135) hΓ d_M_tests_135 rfl rfl ?_
    refine go_callV (index := 86) emI hΓ hR (g_M_all N (d + 4) x1) mi_M_all ml_M_86 d_M_tests_136 rfl rfl rfl rfl rfl (fun r32 μ33 => ?_)
    show Go Γ 6 139 [(0, .ref 44), (1, .int x1), (2, .long x2), (4, .int a4), (5, .int a5)] [.int r32, .int a5] μ33 _
    refine go_icmp_ge 184 (pc := 139) hΓ d_M_tests_139 (by decide) (fun h34 => go_eq (if_neg h34) ?_) (fun h34 => go_eq (if_pos h34) ?_)
    · refine go_sub' (lv' := [(0, .ref 44), (1, .int x1), (2, .long x2), (4, .int a4)]) rfl ?_
      exact hK a4 μ33
    · refine go_aload_n (q := 0) (i := 0) (pc := 142) hΓ d_M_tests_142 rfl rfl ?_
      refine go_getR (q := 60) (pc := 143) hΓ fl_M_57 d_M_tests_143 rfl rfl ?_
      refine go_iload (q := 4) (pc := 146) hΓ d_M_tests_146 rfl ?_
      refine go_ck (fun h35 => ?_)
      refine go_lald (pc := 148) hΓ d_M_tests_148 rfl h35 ?_
      refine go_lload_n (q := 2) (i := 2) (pc := 149) hΓ d_M_tests_149 rfl rfl ?_
      refine go_land (pc := 150) hΓ d_M_tests_150 ?_
      refine go_callS (index := 281) emI hΓ hR (g_M_bits N (d + 3) ((gL μ33 60 (tn a5)) &&& x2)) mi_M_bits ml_M_281 d_M_tests_151 rfl rfl rfl (fun r36 μ37 => ?_)
      show Go Γ 6 154 [(0, .ref 44), (1, .int x1), (2, .long x2), (4, .int a4), (5, .int a5)] [.int r36] μ37 _
      refine go_aload_n (q := 0) (i := 0) (pc := 154) hΓ d_M_tests_154 rfl rfl ?_
      refine go_getR (q := 60) (pc := 155) hΓ fl_M_57 d_M_tests_155 rfl rfl ?_
      refine go_iload (q := 3) (pc := 158) hΓ d_M_tests_158 rfl ?_
      refine go_ck (fun h38 => ?_)
      refine go_lald (pc := 160) hΓ d_M_tests_160 rfl h38 ?_
      refine go_lload_n (q := 2) (i := 2) (pc := 161) hΓ d_M_tests_161 rfl rfl ?_
      refine go_land (pc := 162) hΓ d_M_tests_162 ?_
      refine go_callS (index := 281) emI hΓ hR (g_M_bits N (d + 3) ((gL μ37 60 (tn a4)) &&& x2)) mi_M_bits ml_M_281 d_M_tests_163 rfl rfl rfl (fun r39 μ40 => ?_)
      show Go Γ 6 166 [(0, .ref 44), (1, .int x1), (2, .long x2), (4, .int a4), (5, .int a5)] [.int r39, .int r36] μ40 _
      refine go_mg (α := Int32) 176 (fun q42 => [(0, .ref 44), (1, .int x1), (2, .long x2), (5, .int a5)]) (fun q42 => [.int q42]) (fun q42 => ?_) (fun g44 g44h => ?_)
      · refine go_istore (lv' := [(4, .int q42), (0, .ref 44), (1, .int x1), (2, .long x2), (5, .int a5)]) (pc := 176) hΓ d_M_tests_176 (by decide) rfl ?_
        refine go_incI (q := 4) (i := 5) (n := 1) (c := 1) (pc := 178) hΓ d_M_tests_178 rfl (by decide) (by decide) (fun v43 => ?_)
        refine go_sub' (lv' := [(5, .int v43), (4, .int q42), (0, .ref 44), (1, .int x1), (2, .long x2)]) rfl ?_
        refine go_goto 132 (pc := 181) hΓ d_M_tests_181 (by decide) ?_
        refine go_sub' (lv' := [(0, .ref 44), (1, .int x1), (2, .long x2), (4, .int q42), (5, .int v43)]) rfl ?_
        exact ih q42 v43 μ40
      · refine go_icmp_le 174 (pc := 166) hΓ d_M_tests_166 (by decide) (fun h41 => ?_) (fun h41 => ?_)
        · rw [if_neg h41]
          refine go_iload (q := 3) (pc := 174) hΓ d_M_tests_174 rfl ?_
          refine go_sub' (lv' := [(0, .ref 44), (1, .int x1), (2, .long x2), (5, .int a5)]) rfl ?_
          exact g44h _
        · rw [if_pos h41]
          refine go_iload (q := 4) (pc := 169) hΓ d_M_tests_169 rfl ?_
          refine go_goto 176 (pc := 171) hΓ d_M_tests_171 (by decide) ?_
          refine go_sub' (lv' := [(0, .ref 44), (1, .int x1), (2, .long x2), (5, .int a5)]) rfl ?_
          exact g44h _
set_option maxHeartbeats 4000000 in
set_option maxRecDepth 100000 in
theorem glp_M_tests_120 (N d : Nat) {Γ : Cx Int32} (hΓ : Ok Γ "SortingNetsModel" c_M_tests 6) (hT : Rt Γ eI (some .int)) (hR : Rm Γ (d + 5)) (x1 : Int32)    (K : Mem → Option (Int32 × Mem)) (hK : ∀  (ν : Mem), Go Γ 6 208 [(0, .ref 44)] [] ν (K  ν)) : ∀ (n : Nat) (a2 : Int64) (μ0 : Mem), Go Γ 6 120 [(0, .ref 44), (1, .int x1), (2, .long a2)] [] μ0 (lp_M_tests_120 N x1 K n a2 μ0) := by
  intro n
  induction n with
  | zero => intro a2 μ0; exact go_none
  | succ n ih =>
    intro a2 μ0
    rw [lp_M_tests_120]
    refine go_lload_n (q := 2) (i := 2) (pc := 120) hΓ d_M_tests_120 rfl rfl ?_
    refine go_lconst (v := 0) (pc := 121) hΓ d_M_tests_121 (by decide) ?_
    refine go_lcmp (pc := 122) hΓ d_M_tests_122 ?_
    refine go_if_eq 208 (pc := 123) hΓ d_M_tests_123 (by decide) (fun h31 => go_eq (if_pos h31) ?_) (fun h31 => go_eq (if_neg h31) ?_)
    · refine go_sub' (lv' := [(0, .ref 44)]) rfl ?_
      exact hK  μ0
    · refine go_iconst (v := 0) (pc := 126) hΓ d_M_tests_126 (by decide) ?_
      refine go_istore (lv' := [(4, .int 0), (0, .ref 44), (1, .int x1), (2, .long a2)]) (pc := 127) hΓ d_M_tests_127 (by decide) rfl ?_
      refine go_iconst (v := 1) (pc := 129) hΓ d_M_tests_129 (by decide) ?_
      refine go_istore (lv' := [(5, .int 1), (4, .int 0), (0, .ref 44), (1, .int x1), (2, .long a2)]) (pc := 130) hΓ d_M_tests_130 (by decide) rfl ?_
      refine go_sub' (lv' := [(0, .ref 44), (1, .int x1), (2, .long a2), (4, .int 0), (5, .int 1)]) rfl ?_
      refine glp_M_tests_132 N d hΓ hT hR x1 a2 _ (fun v45 μ46 => ?_) N 0 1 μ0
      refine go_aload_n (q := 0) (i := 0) (pc := 184) hΓ d_M_tests_184 rfl rfl ?_
      refine go_iload (q := 3) (pc := 185) hΓ d_M_tests_185 rfl ?_
      refine go_i2l (pc := 187) hΓ d_M_tests_187 ?_
      refine go_callV (index := 76) emV hΓ hR (g_M_enters N (d + 4) (Int32.toInt64 v45)) mi_M_enters ml_M_76 d_M_tests_188 rfl rfl rfl rfl rfl (fun _ μ48 => ?_)
      show Go Γ 6 191 [(0, .ref 44), (1, .int x1), (2, .long a2), (4, .int v45)] [] μ48 _
      refine go_lload_n (q := 2) (i := 2) (pc := 191) hΓ d_M_tests_191 rfl rfl ?_
      refine go_aload_n (q := 0) (i := 0) (pc := 192) hΓ d_M_tests_192 rfl rfl ?_
      refine go_getR (q := 60) (pc := 193) hΓ fl_M_57 d_M_tests_193 rfl rfl ?_
      refine go_iload (q := 3) (pc := 196) hΓ d_M_tests_196 rfl ?_
      refine go_ck (fun h49 => ?_)
      refine go_lald (pc := 198) hΓ d_M_tests_198 rfl h49 ?_
      refine go_ldc2 (v := -1) (pc := 199) hΓ (tb_5 (List.mem_of_getElem? (i := 228) rfl) rfl) d_M_tests_199 ?_
      refine go_lxor (pc := 202) hΓ d_M_tests_202 ?_
      refine go_land (pc := 203) hΓ d_M_tests_203 ?_
      refine go_letL (fun v50 => ?_)
      refine go_lstore_n (i := 2) (lv' := [(2, .long v50), (0, .ref 44), (1, .int x1), (4, .int v45)]) (pc := 204) hΓ d_M_tests_204 rfl (by decide) rfl ?_
      refine go_goto 120 (pc := 205) hΓ d_M_tests_205 (by decide) ?_
      refine go_sub' (lv' := [(0, .ref 44), (1, .int x1), (2, .long v50)]) rfl ?_
      exact ih v50 μ48
set_option maxHeartbeats 4000000 in
set_option maxRecDepth 100000 in
theorem g_M_tests (N d : Nat) (x1 : Int32)  : CallF eI y_M_tests c_M_tests 6 (some .int) (d + 5 + 1) [.ref 44, .int x1] (f_M_tests N x1) := by
  refine call_of (d := d + 5) (n := 1) mi_M_tests.1 (fun _ => rfl) ?_
  intro Γ μ0 hΓ hT hR
  show Go Γ 6 0 [(0, .ref 44), (1, .int x1)] [] μ0 (f_M_tests N x1 μ0)
  unfold f_M_tests
  refine go_aload_n (q := 0) (i := 0) (pc := 0) hΓ d_M_tests_0 rfl rfl ?_
  refine go_iconst (v := 0) (pc := 1) hΓ d_M_tests_1 (by decide) ?_
  refine go_putI (pc := 2) hΓ fp_M_69 d_M_tests_2 rfl rfl ?_
  refine go_letM (fun μ1 => ?_)
  refine go_iload_n (q := 1) (i := 1) (pc := 5) hΓ d_M_tests_5 rfl rfl ?_
  refine go_callS (index := 151) emI hΓ hR (g_M_isNet N (d + 3) x1) mi_M_isNet ml_M_151 d_M_tests_6 rfl rfl rfl (fun r2 μ3 => ?_)
  show Go Γ 6 9 [(0, .ref 44), (1, .int x1)] [.int r2] μ3 _
  refine go_if_ne 14 (pc := 9) hΓ d_M_tests_9 (by decide) (fun h4 => go_eq (if_neg h4) ?_) (fun h4 => go_eq (if_pos h4) ?_)
  · refine go_aload_n (q := 0) (i := 0) (pc := 14) hΓ d_M_tests_14 rfl rfl ?_
    refine go_iload_n (q := 1) (i := 1) (pc := 15) hΓ d_M_tests_15 rfl rfl ?_
    refine go_callV (index := 284) emI hΓ hR (g_M_doesSort N (d + 0) x1) mi_M_doesSort ml_M_284 d_M_tests_16 rfl rfl rfl rfl rfl (fun r5 μ6 => ?_)
    show Go Γ 6 19 [(0, .ref 44), (1, .int x1)] [.int r5] μ6 _
    refine go_if_ne 25 (pc := 19) hΓ d_M_tests_19 (by decide) (fun h7 => go_eq (if_neg h7) ?_) (fun h7 => go_eq (if_pos h7) ?_)
    · refine go_lconst (v := 0) (pc := 25) hΓ d_M_tests_25 (by decide) ?_
      refine go_lstore_n (i := 2) (lv' := [(2, .long 0), (0, .ref 44), (1, .int x1)]) (pc := 26) hΓ d_M_tests_26 rfl (by decide) rfl ?_
      refine go_iconst (v := 0) (pc := 27) hΓ d_M_tests_27 (by decide) ?_
      refine go_istore (lv' := [(4, .int 0), (2, .long 0), (0, .ref 44), (1, .int x1)]) (pc := 28) hΓ d_M_tests_28 (by decide) rfl ?_
      refine go_sub' (lv' := [(0, .ref 44), (1, .int x1), (2, .long 0), (4, .int 0)]) rfl ?_
      refine glp_M_tests_30 N d hΓ hT hR x1 _ (fun v28 μ29 => ?_) N 0 0 μ6
      refine go_aload_n (q := 0) (i := 0) (pc := 115) hΓ d_M_tests_115 rfl rfl ?_
      refine go_iconst (v := 0) (pc := 116) hΓ d_M_tests_116 (by decide) ?_
      refine go_putI (pc := 117) hΓ fp_M_73 d_M_tests_117 rfl rfl ?_
      refine go_letM (fun μ30 => ?_)
      refine go_sub' (lv' := [(0, .ref 44), (1, .int x1), (2, .long v28)]) rfl ?_
      refine glp_M_tests_120 N d hΓ hT hR x1 _ (fun μ51 => ?_) N v28 μ30
      refine go_aload_n (q := 0) (i := 0) (pc := 208) hΓ d_M_tests_208 rfl rfl ?_
      refine go_getI (pc := 209) hΓ fl_M_73 d_M_tests_209 rfl rfl ?_
      exact go_iret (pc := 212) hΓ hT d_M_tests_212
    · refine go_bipush (v := -2) (pc := 22) hΓ d_M_tests_22 (by decide) ?_
      exact go_iret (pc := 24) hΓ hT d_M_tests_24
  · refine go_iconst (v := -1) (pc := 12) hΓ d_M_tests_12 (by decide) ?_
    exact go_iret (pc := 13) hΓ hT d_M_tests_13
def f_M_compared (N : Nat) (x0 : Int32) (x1 : Int32) (x2 : Int32) (μ0 : Mem) : Option (Int32 × Mem) :=
  if ((shrI x0 x2) &&& 1) < ((shrI x0 x1) &&& 1) then (some (x0 ^^^ ((shlI 1 x1) ||| (shlI 1 x2)), μ0)) else (some (x0, μ0))
set_option maxHeartbeats 4000000 in
set_option maxRecDepth 100000 in
theorem g_M_compared (N d : Nat) (x0 : Int32) (x1 : Int32) (x2 : Int32)  : CallF eI y_M_compared c_M_compared 3 (some .int) (d + 0 + 1) [.int x0, .int x1, .int x2] (f_M_compared N x0 x1 x2) := by
  refine call_of (d := d + 0) (n := 3) mi_M_compared.1 (fun _ => rfl) ?_
  intro Γ μ0 hΓ hT hR
  show Go Γ 3 0 [(0, .int x0), (1, .int x1), (2, .int x2)] [] μ0 (f_M_compared N x0 x1 x2 μ0)
  unfold f_M_compared
  refine go_iload_n (q := 0) (i := 0) (pc := 0) hΓ d_M_compared_0 rfl rfl ?_
  refine go_iload_n (q := 1) (i := 1) (pc := 1) hΓ d_M_compared_1 rfl rfl ?_
  refine go_ishr (pc := 2) hΓ d_M_compared_2 ?_
  refine go_iconst (v := 1) (pc := 3) hΓ d_M_compared_3 (by decide) ?_
  refine go_iand (pc := 4) hΓ d_M_compared_4 ?_
  refine go_iload_n (q := 0) (i := 0) (pc := 5) hΓ d_M_compared_5 rfl rfl ?_
  refine go_iload_n (q := 2) (i := 2) (pc := 6) hΓ d_M_compared_6 rfl rfl ?_
  refine go_ishr (pc := 7) hΓ d_M_compared_7 ?_
  refine go_iconst (v := 1) (pc := 8) hΓ d_M_compared_8 (by decide) ?_
  refine go_iand (pc := 9) hΓ d_M_compared_9 ?_
  refine go_icmp_le 25 (pc := 10) hΓ d_M_compared_10 (by decide) (fun h1 => go_eq (if_neg h1) ?_) (fun h1 => go_eq (if_pos h1) ?_)
  · refine go_iload_n (q := 0) (i := 0) (pc := 25) hΓ d_M_compared_25 rfl rfl ?_
    exact go_iret (pc := 26) hΓ hT d_M_compared_26
  · refine go_iload_n (q := 0) (i := 0) (pc := 13) hΓ d_M_compared_13 rfl rfl ?_
    refine go_iconst (v := 1) (pc := 14) hΓ d_M_compared_14 (by decide) ?_
    refine go_iload_n (q := 1) (i := 1) (pc := 15) hΓ d_M_compared_15 rfl rfl ?_
    refine go_ishl (pc := 16) hΓ d_M_compared_16 ?_
    refine go_iconst (v := 1) (pc := 17) hΓ d_M_compared_17 (by decide) ?_
    refine go_iload_n (q := 2) (i := 2) (pc := 18) hΓ d_M_compared_18 rfl rfl ?_
    refine go_ishl (pc := 19) hΓ d_M_compared_19 ?_
    refine go_ior (pc := 20) hΓ d_M_compared_20 ?_
    refine go_ixor (pc := 21) hΓ d_M_compared_21 ?_
    refine go_goto 26 (pc := 22) hΓ d_M_compared_22 (by decide) ?_
    exact go_iret (pc := 26) hΓ hT d_M_compared_26
def lp_M_helps_55 (N : Nat) (x1 : Int32) (x2 : Int32) (x3 : Int32) (x4 : Int32) (x5 : Int32)  (K : Int32 → Mem → Option (Int32 × Mem)) : Nat → Int32 → Int32 → Mem → Option (Int32 × Mem)
  | 0, _, _, _ => none
  | n + 1, a6, a7, μ0 => bnd (f_M_all N x1 μ0) fun r10 μ11 => if a7 < r10 then (ck (inb x1 4) (bnd (f_M_result N x1 a7 (-1) 0 μ11) fun r14 μ15 => bnd (f_M_compared N r14 x4 x5 μ15) fun r16 μ17 => bnd (f_M_isSorted N (gI μ11 46 (tn x1)) r16 μ17) fun r18 μ19 => lt' (if r18 = 0 then (1 : Int32) else (0 : Int32)) fun q21 => bnd (f_M_flag N q21 μ19) fun r22 μ23 => lt' (a6 + r22) fun v24 => lt' (a7 + 1) fun v25 => lp_M_helps_55 N x1 x2 x3 x4 x5 K n v24 v25 μ23)) else (K a6 μ11)
def lp_M_helps_38 (N : Nat) (x1 : Int32) (x4 : Int32)  (K : Int32 → Int32 → Mem → Option (Int32 × Mem)) : Nat → Int32 → Int32 → Int32 → Mem → Option (Int32 × Mem)
  | 0, _, _, _, _ => none
  | n + 1, a2, a3, a5, μ0 => ck (inb x1 4) (if a5 < (gI μ0 46 (tn x1)) then (lp_M_helps_55 N x1 a2 a3 x4 a5 (fun v27 μ28 => lt' (if a2 = (-1) then (((10 * x4) + a5 : Int32), (v27 : Int32)) else (if v27 < a3 then (((10 * x4) + a5 : Int32), (v27 : Int32)) else ((a2 : Int32), (a3 : Int32)))) fun q31 => lt' (a5 + 1) fun v32 => lp_M_helps_38 N x1 x4 K n q31.1 q31.2 v32 μ28) N 0 0 μ0) else (K a2 a3 μ0))
def lp_M_helps_21 (N : Nat) (x1 : Int32)  (K : Int32 → Int32 → Mem → Option (Int32 × Mem)) : Nat → Int32 → Int32 → Int32 → Mem → Option (Int32 × Mem)
  | 0, _, _, _, _ => none
  | n + 1, a2, a3, a4, μ0 => ck (inb x1 4) (if a4 < (gI μ0 46 (tn x1)) then (lt' (a4 + 1) fun v7 => lp_M_helps_38 N x1 a4 (fun v34 v35 μ36 => lt' (a4 + 1) fun v37 => lp_M_helps_21 N x1 K n v34 v35 v37 μ36) N a2 a3 v7 μ0) else (K a2 a3 μ0))
def f_M_helps (N : Nat) (x1 : Int32) (μ0 : Mem) : Option (Int32 × Mem) :=
  lt' (sI μ0 44 0 0) fun μ1 => bnd (f_M_isNet N x1 μ1) fun r2 μ3 => if r2 = 0 then (some ((-1), μ3)) else (lp_M_helps_21 N x1 (fun v38 v39 μ40 => bnd (f_M_tellsOne N (Int32.toInt64 v39) μ40) fun _ μ42 => some (v38, μ42)) N (-1) 0 0 μ3)
set_option maxHeartbeats 4000000 in
set_option maxRecDepth 100000 in
theorem glp_M_helps_55 (N d : Nat) {Γ : Cx Int32} (hΓ : Ok Γ "SortingNetsModel" c_M_helps 8) (hT : Rt Γ eI (some .int)) (hR : Rm Γ (d + 2)) (x1 : Int32) (x2 : Int32) (x3 : Int32) (x4 : Int32) (x5 : Int32)    (K : Int32 → Mem → Option (Int32 × Mem)) (hK : ∀ (b6 : Int32) (ν : Mem), Go Γ 8 112 [(0, .ref 44), (1, .int x1), (2, .int x2), (3, .int x3), (4, .int x4), (5, .int x5), (6, .int b6)] [] ν (K b6 ν)) : ∀ (n : Nat) (a6 : Int32) (a7 : Int32) (μ0 : Mem), Go Γ 8 55 [(0, .ref 44), (1, .int x1), (2, .int x2), (3, .int x3), (4, .int x4), (5, .int x5), (6, .int a6), (7, .int a7)] [] μ0 (lp_M_helps_55 N x1 x2 x3 x4 x5 K n a6 a7 μ0) := by
  intro n
  induction n with
  | zero => intro a6 a7 μ0; exact go_none
  | succ n ih =>
    intro a6 a7 μ0
    rw [lp_M_helps_55]
    refine go_iload (q := 7) (pc := 55) hΓ d_M_helps_55 rfl ?_
    refine go_aload_n (q := 0) (i := 0) (pc := 57) hΓ d_M_helps_57 rfl rfl ?_
    refine go_iload_n (q := 1) (i := 1) (pc := 58) hΓ d_M_helps_58 rfl rfl ?_
    refine go_callV (index := 86) emI hΓ hR (g_M_all N (d + 1) x1) mi_M_all ml_M_86 d_M_helps_59 rfl rfl rfl rfl rfl (fun r10 μ11 => ?_)
    show Go Γ 8 62 [(0, .ref 44), (1, .int x1), (2, .int x2), (3, .int x3), (4, .int x4), (5, .int x5), (6, .int a6), (7, .int a7)] [.int r10, .int a7] μ11 _
    refine go_icmp_ge 112 (pc := 62) hΓ d_M_helps_62 (by decide) (fun h12 => go_eq (if_neg h12) ?_) (fun h12 => go_eq (if_pos h12) ?_)
    · refine go_sub' (lv' := [(0, .ref 44), (1, .int x1), (2, .int x2), (3, .int x3), (4, .int x4), (5, .int x5), (6, .int a6)]) rfl ?_
      exact hK a6 μ11
    · refine go_iload (q := 6) (pc := 65) hΓ d_M_helps_65 rfl ?_
      refine go_aload_n (q := 0) (i := 0) (pc := 67) hΓ d_M_helps_67 rfl rfl ?_
      refine go_getR (q := 46) (pc := 68) hΓ fl_M_13 d_M_helps_68 rfl rfl ?_
      refine go_iload_n (q := 1) (i := 1) (pc := 71) hΓ d_M_helps_71 rfl rfl ?_
      refine go_ck (fun h13 => ?_)
      refine go_iald (pc := 72) hΓ d_M_helps_72 rfl h13 ?_
      refine go_aload_n (q := 0) (i := 0) (pc := 73) hΓ d_M_helps_73 rfl rfl ?_
      refine go_iload_n (q := 1) (i := 1) (pc := 74) hΓ d_M_helps_74 rfl rfl ?_
      refine go_iload (q := 7) (pc := 75) hΓ d_M_helps_75 rfl ?_
      refine go_iconst (v := -1) (pc := 77) hΓ d_M_helps_77 (by decide) ?_
      refine go_iconst (v := 0) (pc := 78) hΓ d_M_helps_78 (by decide) ?_
      refine go_callV (index := 228) emI hΓ hR (g_M_result N (d + 0) x1 a7 (-1) 0) mi_M_result ml_M_228 d_M_helps_79 rfl rfl rfl rfl rfl (fun r14 μ15 => ?_)
      show Go Γ 8 82 [(0, .ref 44), (1, .int x1), (2, .int x2), (3, .int x3), (4, .int x4), (5, .int x5), (6, .int a6), (7, .int a7)] [.int r14, .int (gI μ11 46 (tn x1)), .int a6] μ15 _
      refine go_iload (q := 4) (pc := 82) hΓ d_M_helps_82 rfl ?_
      refine go_iload (q := 5) (pc := 84) hΓ d_M_helps_84 rfl ?_
      refine go_callS (index := 293) emI hΓ hR (g_M_compared N (d + 1) r14 x4 x5) mi_M_compared ml_M_293 d_M_helps_86 rfl rfl rfl (fun r16 μ17 => ?_)
      show Go Γ 8 89 [(0, .ref 44), (1, .int x1), (2, .int x2), (3, .int x3), (4, .int x4), (5, .int x5), (6, .int a6), (7, .int a7)] [.int r16, .int (gI μ11 46 (tn x1)), .int a6] μ17 _
      refine go_callS (index := 232) emI hΓ hR (g_M_isSorted N (d + 1) (gI μ11 46 (tn x1)) r16) mi_M_isSorted ml_M_232 d_M_helps_89 rfl rfl rfl (fun r18 μ19 => ?_)
      show Go Γ 8 92 [(0, .ref 44), (1, .int x1), (2, .int x2), (3, .int x3), (4, .int x4), (5, .int x5), (6, .int a6), (7, .int a7)] [.int r18, .int a6] μ19 _
      refine go_mg (α := Int32) 100 (fun q21 => [(0, .ref 44), (1, .int x1), (2, .int x2), (3, .int x3), (4, .int x4), (5, .int x5), (7, .int a7)]) (fun q21 => [.int q21, .int a6]) (fun q21 => ?_) (fun g26 g26h => ?_)
      · refine go_callS (index := 188) emI hΓ hR (g_M_flag N (d + 1) q21) mi_M_flag ml_M_188 d_M_helps_100 rfl rfl rfl (fun r22 μ23 => ?_)
        show Go Γ 8 103 [(0, .ref 44), (1, .int x1), (2, .int x2), (3, .int x3), (4, .int x4), (5, .int x5), (7, .int a7)] [.int r22, .int a6] μ23 _
        refine go_iadd (pc := 103) hΓ d_M_helps_103 ?_
        refine go_letI (fun v24 => ?_)
        refine go_istore (lv' := [(6, .int v24), (0, .ref 44), (1, .int x1), (2, .int x2), (3, .int x3), (4, .int x4), (5, .int x5), (7, .int a7)]) (pc := 104) hΓ d_M_helps_104 (by decide) rfl ?_
        refine go_incI (q := 7) (i := 7) (n := 1) (c := 1) (pc := 106) hΓ d_M_helps_106 rfl (by decide) (by decide) (fun v25 => ?_)
        refine go_sub' (lv' := [(7, .int v25), (6, .int v24), (0, .ref 44), (1, .int x1), (2, .int x2), (3, .int x3), (4, .int x4), (5, .int x5)]) rfl ?_
        refine go_goto 55 (pc := 109) hΓ d_M_helps_109 (by decide) ?_
        refine go_sub' (lv' := [(0, .ref 44), (1, .int x1), (2, .int x2), (3, .int x3), (4, .int x4), (5, .int x5), (6, .int v24), (7, .int v25)]) rfl ?_
        exact ih v24 v25 μ23
      · refine go_if_ne 99 (pc := 92) hΓ d_M_helps_92 (by decide) (fun h20 => ?_) (fun h20 => ?_)
        · rw [if_neg h20]
          refine go_iconst (v := 0) (pc := 99) hΓ d_M_helps_99 (by decide) ?_
          refine go_sub' (lv' := [(0, .ref 44), (1, .int x1), (2, .int x2), (3, .int x3), (4, .int x4), (5, .int x5), (7, .int a7)]) rfl ?_
          exact g26h _
        · rw [if_pos h20]
          refine go_iconst (v := 1) (pc := 95) hΓ d_M_helps_95 (by decide) ?_
          refine go_goto 100 (pc := 96) hΓ d_M_helps_96 (by decide) ?_
          refine go_sub' (lv' := [(0, .ref 44), (1, .int x1), (2, .int x2), (3, .int x3), (4, .int x4), (5, .int x5), (7, .int a7)]) rfl ?_
          exact g26h _
set_option maxHeartbeats 4000000 in
set_option maxRecDepth 100000 in
theorem glp_M_helps_38 (N d : Nat) {Γ : Cx Int32} (hΓ : Ok Γ "SortingNetsModel" c_M_helps 8) (hT : Rt Γ eI (some .int)) (hR : Rm Γ (d + 2)) (x1 : Int32) (x4 : Int32)    (K : Int32 → Int32 → Mem → Option (Int32 × Mem)) (hK : ∀ (b2 : Int32) (b3 : Int32) (ν : Mem), Go Γ 8 144 [(0, .ref 44), (1, .int x1), (2, .int b2), (3, .int b3), (4, .int x4)] [] ν (K b2 b3 ν)) : ∀ (n : Nat) (a2 : Int32) (a3 : Int32) (a5 : Int32) (μ0 : Mem), Go Γ 8 38 [(0, .ref 44), (1, .int x1), (2, .int a2), (3, .int a3), (4, .int x4), (5, .int a5)] [] μ0 (lp_M_helps_38 N x1 x4 K n a2 a3 a5 μ0) := by
  intro n
  induction n with
  | zero => intro a2 a3 a5 μ0; exact go_none
  | succ n ih =>
    intro a2 a3 a5 μ0
    rw [lp_M_helps_38]
    refine go_iload (q := 5) (pc := 38) hΓ d_M_helps_38 rfl ?_
    refine go_aload_n (q := 0) (i := 0) (pc := 40) hΓ d_M_helps_40 rfl rfl ?_
    refine go_getR (q := 46) (pc := 41) hΓ fl_M_13 d_M_helps_41 rfl rfl ?_
    refine go_iload_n (q := 1) (i := 1) (pc := 44) hΓ d_M_helps_44 rfl rfl ?_
    refine go_ck (fun h8 => ?_)
    refine go_iald (pc := 45) hΓ d_M_helps_45 rfl h8 ?_
    refine go_icmp_ge 144 (pc := 46) hΓ d_M_helps_46 (by decide) (fun h9 => go_eq (if_neg h9) ?_) (fun h9 => go_eq (if_pos h9) ?_)
    · refine go_sub' (lv' := [(0, .ref 44), (1, .int x1), (2, .int a2), (3, .int a3), (4, .int x4)]) rfl ?_
      exact hK a2 a3 μ0
    · refine go_iconst (v := 0) (pc := 49) hΓ d_M_helps_49 (by decide) ?_
      refine go_istore (lv' := [(6, .int 0), (0, .ref 44), (1, .int x1), (2, .int a2), (3, .int a3), (4, .int x4), (5, .int a5)]) (pc := 50) hΓ d_M_helps_50 (by decide) rfl ?_
      refine go_iconst (v := 0) (pc := 52) hΓ d_M_helps_52 (by decide) ?_
      refine go_istore (lv' := [(7, .int 0), (6, .int 0), (0, .ref 44), (1, .int x1), (2, .int a2), (3, .int a3), (4, .int x4), (5, .int a5)]) (pc := 53) hΓ d_M_helps_53 (by decide) rfl ?_
      refine go_sub' (lv' := [(0, .ref 44), (1, .int x1), (2, .int a2), (3, .int a3), (4, .int x4), (5, .int a5), (6, .int 0), (7, .int 0)]) rfl ?_
      refine glp_M_helps_55 N d hΓ hT hR x1 a2 a3 x4 a5 _ (fun v27 μ28 => ?_) N 0 0 μ0
      refine go_iload_n (q := 2) (i := 2) (pc := 112) hΓ d_M_helps_112 rfl rfl ?_
      refine go_iconst (v := -1) (pc := 113) hΓ d_M_helps_113 (by decide) ?_
      refine go_mg (α := Int32 × Int32) 138 (fun q31 => [(0, .ref 44), (1, .int x1), (2, .int q31.1), (3, .int q31.2), (4, .int x4), (5, .int a5)]) (fun q31 => []) (fun q31 => ?_) (fun g33 g33h => ?_)
      · refine go_incI (q := 5) (i := 5) (n := 1) (c := 1) (pc := 138) hΓ d_M_helps_138 rfl (by decide) (by decide) (fun v32 => ?_)
        refine go_sub' (lv' := [(5, .int v32), (0, .ref 44), (1, .int x1), (2, .int q31.1), (3, .int q31.2), (4, .int x4)]) rfl ?_
        refine go_goto 38 (pc := 141) hΓ d_M_helps_141 (by decide) ?_
        refine go_sub' (lv' := [(0, .ref 44), (1, .int x1), (2, .int q31.1), (3, .int q31.2), (4, .int x4), (5, .int v32)]) rfl ?_
        exact ih q31.1 q31.2 v32 μ28
      · refine go_icmp_eq 126 (pc := 114) hΓ d_M_helps_114 (by decide) (fun h29 => ?_) (fun h29 => ?_)
        · rw [if_pos h29]
          refine go_bipush (v := 10) (pc := 126) hΓ d_M_helps_126 (by decide) ?_
          refine go_iload (q := 4) (pc := 128) hΓ d_M_helps_128 rfl ?_
          refine go_imul (pc := 130) hΓ d_M_helps_130 ?_
          refine go_iload (q := 5) (pc := 131) hΓ d_M_helps_131 rfl ?_
          refine go_iadd (pc := 133) hΓ d_M_helps_133 ?_
          refine go_istore_n (i := 2) (lv' := [(2, .int ((10 * x4) + a5)), (0, .ref 44), (1, .int x1), (3, .int a3), (4, .int x4), (5, .int a5), (6, .int v27)]) (pc := 134) hΓ d_M_helps_134 rfl (by decide) rfl ?_
          refine go_iload (q := 6) (pc := 135) hΓ d_M_helps_135 rfl ?_
          refine go_istore_n (i := 3) (lv' := [(3, .int v27), (2, .int ((10 * x4) + a5)), (0, .ref 44), (1, .int x1), (4, .int x4), (5, .int a5), (6, .int v27)]) (pc := 137) hΓ d_M_helps_137 rfl (by decide) rfl ?_
          refine go_sub' (lv' := [(0, .ref 44), (1, .int x1), (2, .int ((10 * x4) + a5)), (3, .int v27), (4, .int x4), (5, .int a5)]) rfl ?_
          exact g33h _
        · rw [if_neg h29]
          refine go_iload (q := 6) (pc := 117) hΓ d_M_helps_117 rfl ?_
          refine go_iload_n (q := 3) (i := 3) (pc := 119) hΓ d_M_helps_119 rfl rfl ?_
          refine go_icmp_lt 126 (pc := 120) hΓ d_M_helps_120 (by decide) (fun h30 => ?_) (fun h30 => ?_)
          · rw [if_pos h30]
            refine go_bipush (v := 10) (pc := 126) hΓ d_M_helps_126 (by decide) ?_
            refine go_iload (q := 4) (pc := 128) hΓ d_M_helps_128 rfl ?_
            refine go_imul (pc := 130) hΓ d_M_helps_130 ?_
            refine go_iload (q := 5) (pc := 131) hΓ d_M_helps_131 rfl ?_
            refine go_iadd (pc := 133) hΓ d_M_helps_133 ?_
            refine go_istore_n (i := 2) (lv' := [(2, .int ((10 * x4) + a5)), (0, .ref 44), (1, .int x1), (3, .int a3), (4, .int x4), (5, .int a5), (6, .int v27)]) (pc := 134) hΓ d_M_helps_134 rfl (by decide) rfl ?_
            refine go_iload (q := 6) (pc := 135) hΓ d_M_helps_135 rfl ?_
            refine go_istore_n (i := 3) (lv' := [(3, .int v27), (2, .int ((10 * x4) + a5)), (0, .ref 44), (1, .int x1), (4, .int x4), (5, .int a5), (6, .int v27)]) (pc := 137) hΓ d_M_helps_137 rfl (by decide) rfl ?_
            refine go_sub' (lv' := [(0, .ref 44), (1, .int x1), (2, .int ((10 * x4) + a5)), (3, .int v27), (4, .int x4), (5, .int a5)]) rfl ?_
            exact g33h _
          · rw [if_neg h30]
            refine go_goto 138 (pc := 123) hΓ d_M_helps_123 (by decide) ?_
            refine go_sub' (lv' := [(0, .ref 44), (1, .int x1), (2, .int a2), (3, .int a3), (4, .int x4), (5, .int a5)]) rfl ?_
            exact g33h _
set_option maxHeartbeats 4000000 in
set_option maxRecDepth 100000 in
theorem glp_M_helps_21 (N d : Nat) {Γ : Cx Int32} (hΓ : Ok Γ "SortingNetsModel" c_M_helps 8) (hT : Rt Γ eI (some .int)) (hR : Rm Γ (d + 2)) (x1 : Int32)    (K : Int32 → Int32 → Mem → Option (Int32 × Mem)) (hK : ∀ (b2 : Int32) (b3 : Int32) (ν : Mem), Go Γ 8 150 [(0, .ref 44), (2, .int b2), (3, .int b3)] [] ν (K b2 b3 ν)) : ∀ (n : Nat) (a2 : Int32) (a3 : Int32) (a4 : Int32) (μ0 : Mem), Go Γ 8 21 [(0, .ref 44), (1, .int x1), (2, .int a2), (3, .int a3), (4, .int a4)] [] μ0 (lp_M_helps_21 N x1 K n a2 a3 a4 μ0) := by
  intro n
  induction n with
  | zero => intro a2 a3 a4 μ0; exact go_none
  | succ n ih =>
    intro a2 a3 a4 μ0
    rw [lp_M_helps_21]
    refine go_iload (q := 4) (pc := 21) hΓ d_M_helps_21 rfl ?_
    refine go_aload_n (q := 0) (i := 0) (pc := 23) hΓ d_M_helps_23 rfl rfl ?_
    refine go_getR (q := 46) (pc := 24) hΓ fl_M_13 d_M_helps_24 rfl rfl ?_
    refine go_iload_n (q := 1) (i := 1) (pc := 27) hΓ d_M_helps_27 rfl rfl ?_
    refine go_ck (fun h5 => ?_)
    refine go_iald (pc := 28) hΓ d_M_helps_28 rfl h5 ?_
    refine go_icmp_ge 150 (pc := 29) hΓ d_M_helps_29 (by decide) (fun h6 => go_eq (if_neg h6) ?_) (fun h6 => go_eq (if_pos h6) ?_)
    · refine go_sub' (lv' := [(0, .ref 44), (2, .int a2), (3, .int a3)]) rfl ?_
      exact hK a2 a3 μ0
    · refine go_iload (q := 4) (pc := 32) hΓ d_M_helps_32 rfl ?_
      refine go_iconst (v := 1) (pc := 34) hΓ d_M_helps_34 (by decide) ?_
      refine go_iadd (pc := 35) hΓ d_M_helps_35 ?_
      refine go_letI (fun v7 => ?_)
      refine go_istore (lv' := [(5, .int v7), (0, .ref 44), (1, .int x1), (2, .int a2), (3, .int a3), (4, .int a4)]) (pc := 36) hΓ d_M_helps_36 (by decide) rfl ?_
      refine go_sub' (lv' := [(0, .ref 44), (1, .int x1), (2, .int a2), (3, .int a3), (4, .int a4), (5, .int v7)]) rfl ?_
      refine glp_M_helps_38 N d hΓ hT hR x1 a4 _ (fun v34 v35 μ36 => ?_) N a2 a3 v7 μ0
      refine go_incI (q := 4) (i := 4) (n := 1) (c := 1) (pc := 144) hΓ d_M_helps_144 rfl (by decide) (by decide) (fun v37 => ?_)
      refine go_sub' (lv' := [(4, .int v37), (0, .ref 44), (1, .int x1), (2, .int v34), (3, .int v35)]) rfl ?_
      refine go_goto 21 (pc := 147) hΓ d_M_helps_147 (by decide) ?_
      refine go_sub' (lv' := [(0, .ref 44), (1, .int x1), (2, .int v34), (3, .int v35), (4, .int v37)]) rfl ?_
      exact ih v34 v35 v37 μ36
set_option maxHeartbeats 4000000 in
set_option maxRecDepth 100000 in
theorem g_M_helps (N d : Nat) (x1 : Int32)  : CallF eI y_M_helps c_M_helps 8 (some .int) (d + 2 + 1) [.ref 44, .int x1] (f_M_helps N x1) := by
  refine call_of (d := d + 2) (n := 1) mi_M_helps.1 (fun _ => rfl) ?_
  intro Γ μ0 hΓ hT hR
  show Go Γ 8 0 [(0, .ref 44), (1, .int x1)] [] μ0 (f_M_helps N x1 μ0)
  unfold f_M_helps
  refine go_aload_n (q := 0) (i := 0) (pc := 0) hΓ d_M_helps_0 rfl rfl ?_
  refine go_iconst (v := 0) (pc := 1) hΓ d_M_helps_1 (by decide) ?_
  refine go_putI (pc := 2) hΓ fp_M_69 d_M_helps_2 rfl rfl ?_
  refine go_letM (fun μ1 => ?_)
  refine go_iload_n (q := 1) (i := 1) (pc := 5) hΓ d_M_helps_5 rfl rfl ?_
  refine go_callS (index := 151) emI hΓ hR (g_M_isNet N (d + 0) x1) mi_M_isNet ml_M_151 d_M_helps_6 rfl rfl rfl (fun r2 μ3 => ?_)
  show Go Γ 8 9 [(0, .ref 44), (1, .int x1)] [.int r2] μ3 _
  refine go_if_ne 14 (pc := 9) hΓ d_M_helps_9 (by decide) (fun h4 => go_eq (if_neg h4) ?_) (fun h4 => go_eq (if_pos h4) ?_)
  · refine go_iconst (v := -1) (pc := 14) hΓ d_M_helps_14 (by decide) ?_
    refine go_istore_n (i := 2) (lv' := [(2, .int (-1)), (0, .ref 44), (1, .int x1)]) (pc := 15) hΓ d_M_helps_15 rfl (by decide) rfl ?_
    refine go_iconst (v := 0) (pc := 16) hΓ d_M_helps_16 (by decide) ?_
    refine go_istore_n (i := 3) (lv' := [(3, .int 0), (2, .int (-1)), (0, .ref 44), (1, .int x1)]) (pc := 17) hΓ d_M_helps_17 rfl (by decide) rfl ?_
    refine go_iconst (v := 0) (pc := 18) hΓ d_M_helps_18 (by decide) ?_
    refine go_istore (lv' := [(4, .int 0), (3, .int 0), (2, .int (-1)), (0, .ref 44), (1, .int x1)]) (pc := 19) hΓ d_M_helps_19 (by decide) rfl ?_
    refine go_sub' (lv' := [(0, .ref 44), (1, .int x1), (2, .int (-1)), (3, .int 0), (4, .int 0)]) rfl ?_
    refine glp_M_helps_21 N d hΓ hT hR x1 _ (fun v38 v39 μ40 => ?_) N (-1) 0 0 μ3
    refine go_aload_n (q := 0) (i := 0) (pc := 150) hΓ d_M_helps_150 rfl rfl ?_
    refine go_iload_n (q := 2) (i := 3) (pc := 151) hΓ d_M_helps_151 rfl rfl ?_
    refine go_i2l (pc := 152) hΓ d_M_helps_152 ?_
    refine go_callV (index := 221) emV hΓ hR (g_M_tellsOne N (d + 0) (Int32.toInt64 v39)) mi_M_tellsOne ml_M_221 d_M_helps_153 rfl rfl rfl rfl rfl (fun _ μ42 => ?_)
    show Go Γ 8 156 [(0, .ref 44), (2, .int v38), (3, .int v39)] [] μ42 _
    refine go_iload_n (q := 1) (i := 2) (pc := 156) hΓ d_M_helps_156 rfl rfl ?_
    exact go_iret (pc := 157) hΓ hT d_M_helps_157
  · refine go_iconst (v := -1) (pc := 12) hΓ d_M_helps_12 (by decide) ?_
    exact go_iret (pc := 13) hΓ hT d_M_helps_13

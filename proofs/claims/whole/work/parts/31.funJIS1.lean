def lp_Net_differences_4 (N : Nat) (p0 : Nat) (p1 : Nat)  (K : Int32 → Mem → Option (Int32 × Mem)) : Nat → Int32 → Int32 → Mem → Option (Int32 × Mem)
  | 0, _, _, _ => none
  | n + 1, a2, a3, μ0 => if a3 < (gI μ0 p0 1) then (if a3 < (gI μ0 p1 1) then (ck (inb a3 60) (ck (inb a3 60) (lt' (fun (w6 : Int32) => lt' (a3 + 1) fun v7 => lp_Net_differences_4 N p0 p1 K n w6 v7 μ0) fun (k5 : Int32 → Option (Int32 × Mem)) => lt' (fun (_ : Unit) => lt' (a2 + 1) fun v9 => k5 v9) fun (k8 : Unit → Option (Int32 × Mem)) => if (gI μ0 (p0 + 1) (tn a3)) = (gI μ0 (p1 + 1) (tn a3)) then (ck (inb a3 60) (ck (inb a3 60) (if (gI μ0 (p0 + 2) (tn a3)) = (gI μ0 (p1 + 2) (tn a3)) then (k5 a2) else (k8 ())))) else (k8 ())))) else (K a2 μ0)) else (K a2 μ0)
def f_Net_differences (N : Nat) (p0 : Nat) (p1 : Nat) (μ0 : Mem) : Option (Int32 × Mem) :=
  lp_Net_differences_4 N p0 p1 (fun v14 μ15 => some (v14, μ15)) N 0 0 μ0
set_option maxHeartbeats 4000000 in
set_option maxRecDepth 100000 in
theorem glp_Net_differences_4 (N d : Nat) {Γ : Cx Int32} (hΓ : Ok Γ "SortingNets$Net" c_Net_differences 4) (hT : Rt Γ eI (some .int)) (hR : Rm Γ (d + 0)) (p0 : Nat) (p1 : Nat) (hp0 : isN p0) (hp1 : isN p1)   (K : Int32 → Mem → Option (Int32 × Mem)) (hK : ∀ (b2 : Int32) (ν : Mem), Go Γ 4 59 [(2, .int b2)] [] ν (K b2 ν)) : ∀ (n : Nat) (a2 : Int32) (a3 : Int32) (μ0 : Mem), Go Γ 4 4 [(0, .ref p0), (1, .ref p1), (2, .int a2), (3, .int a3)] [] μ0 (lp_Net_differences_4 N p0 p1 K n a2 a3 μ0) := by
  intro n
  induction n with
  | zero => intro a2 a3 μ0; exact go_none
  | succ n ih =>
    intro a2 a3 μ0
    rw [lp_Net_differences_4]
    refine go_iload_n (q := 3) (i := 3) (pc := 4) hΓ d_Net_differences_4 rfl rfl ?_
    refine go_aload_n (q := 0) (i := 0) (pc := 5) hΓ d_Net_differences_5 rfl rfl ?_
    refine go_getI (pc := 6) hΓ fl_Net_15 d_Net_differences_6 (isN_sh hp0).1 rfl ?_
    refine go_icmp_ge 59 (pc := 9) hΓ d_Net_differences_9 (by decide) (fun h1 => go_eq (if_neg h1) ?_) (fun h1 => go_eq (if_pos h1) ?_)
    · refine go_sub' (lv' := [(2, .int a2)]) rfl ?_
      exact hK a2 μ0
    · refine go_iload_n (q := 3) (i := 3) (pc := 12) hΓ d_Net_differences_12 rfl rfl ?_
      refine go_aload_n (q := 1) (i := 1) (pc := 13) hΓ d_Net_differences_13 rfl rfl ?_
      refine go_getI (pc := 14) hΓ fl_Net_15 d_Net_differences_14 (isN_sh hp1).1 rfl ?_
      refine go_icmp_ge 59 (pc := 17) hΓ d_Net_differences_17 (by decide) (fun h2 => go_eq (if_neg h2) ?_) (fun h2 => go_eq (if_pos h2) ?_)
      · refine go_sub' (lv' := [(2, .int a2)]) rfl ?_
        exact hK a2 μ0
      · refine go_aload_n (q := 0) (i := 0) (pc := 20) hΓ d_Net_differences_20 rfl rfl ?_
        refine go_getR (q := p0 + 1) (pc := 21) hΓ fl_Net_18 d_Net_differences_21 (isN_sh hp0).1 rfl ?_
        refine go_iload_n (q := 3) (i := 3) (pc := 24) hΓ d_Net_differences_24 rfl rfl ?_
        refine go_ck (fun h3 => ?_)
        refine go_iald (pc := 25) hΓ d_Net_differences_25 (isN_sh hp0).2.1 h3 ?_
        refine go_aload_n (q := 1) (i := 1) (pc := 26) hΓ d_Net_differences_26 rfl rfl ?_
        refine go_getR (q := p1 + 1) (pc := 27) hΓ fl_Net_18 d_Net_differences_27 (isN_sh hp1).1 rfl ?_
        refine go_iload_n (q := 3) (i := 3) (pc := 30) hΓ d_Net_differences_30 rfl rfl ?_
        refine go_ck (fun h4 => ?_)
        refine go_iald (pc := 31) hΓ d_Net_differences_31 (isN_sh hp1).2.1 h4 ?_
        refine go_join (fun (k5 : Int32 → Option (Int32 × Mem)) => ∀ (w6 : Int32), Go Γ 4 53 [(0, .ref p0), (1, .ref p1), (2, .int w6), (3, .int a3)] [] μ0 (k5 w6)) ?_ (fun k5 k5h => ?_)
        · intro w6
          refine go_incI (q := 3) (i := 3) (n := 1) (c := 1) (pc := 53) hΓ d_Net_differences_53 rfl (by decide) (by decide) (fun v7 => ?_)
          refine go_sub' (lv' := [(3, .int v7), (0, .ref p0), (1, .ref p1), (2, .int w6)]) rfl ?_
          refine go_goto 4 (pc := 56) hΓ d_Net_differences_56 (by decide) ?_
          refine go_sub' (lv' := [(0, .ref p0), (1, .ref p1), (2, .int w6), (3, .int v7)]) rfl ?_
          exact ih w6 v7 μ0
        · refine go_join (fun (k8 : Unit → Option (Int32 × Mem)) => ∀ (_ : Unit), Go Γ 4 50 [(0, .ref p0), (1, .ref p1), (2, .int a2), (3, .int a3)] [] μ0 (k8 ())) ?_ (fun k8 k8h => ?_)
          · intro _
            refine go_incI (q := 2) (i := 2) (n := 1) (c := 1) (pc := 50) hΓ d_Net_differences_50 rfl (by decide) (by decide) (fun v9 => ?_)
            refine go_sub' (lv' := [(2, .int v9), (0, .ref p0), (1, .ref p1), (3, .int a3)]) rfl ?_
            refine go_sub' (lv' := [(0, .ref p0), (1, .ref p1), (2, .int v9), (3, .int a3)]) rfl ?_
            exact k5h v9
          · refine go_icmp_ne 50 (pc := 32) hΓ d_Net_differences_32 (by decide) (fun h10 => go_eq (if_neg h10) ?_) (fun h10 => go_eq (if_pos h10) ?_)
            · refine go_sub' (lv' := [(0, .ref p0), (1, .ref p1), (2, .int a2), (3, .int a3)]) rfl ?_
              exact k8h ()
            · refine go_aload_n (q := 0) (i := 0) (pc := 35) hΓ d_Net_differences_35 rfl rfl ?_
              refine go_getR (q := p0 + 2) (pc := 36) hΓ fl_Net_22 d_Net_differences_36 (isN_sh hp0).1 rfl ?_
              refine go_iload_n (q := 3) (i := 3) (pc := 39) hΓ d_Net_differences_39 rfl rfl ?_
              refine go_ck (fun h11 => ?_)
              refine go_iald (pc := 40) hΓ d_Net_differences_40 (isN_sh hp0).2.2 h11 ?_
              refine go_aload_n (q := 1) (i := 1) (pc := 41) hΓ d_Net_differences_41 rfl rfl ?_
              refine go_getR (q := p1 + 2) (pc := 42) hΓ fl_Net_22 d_Net_differences_42 (isN_sh hp1).1 rfl ?_
              refine go_iload_n (q := 3) (i := 3) (pc := 45) hΓ d_Net_differences_45 rfl rfl ?_
              refine go_ck (fun h12 => ?_)
              refine go_iald (pc := 46) hΓ d_Net_differences_46 (isN_sh hp1).2.2 h12 ?_
              refine go_icmp_eq 53 (pc := 47) hΓ d_Net_differences_47 (by decide) (fun h13 => go_eq (if_pos h13) ?_) (fun h13 => go_eq (if_neg h13) ?_)
              · refine go_sub' (lv' := [(0, .ref p0), (1, .ref p1), (2, .int a2), (3, .int a3)]) rfl ?_
                exact k5h a2
              · refine go_sub' (lv' := [(0, .ref p0), (1, .ref p1), (2, .int a2), (3, .int a3)]) rfl ?_
                exact k8h ()
set_option maxHeartbeats 4000000 in
set_option maxRecDepth 100000 in
theorem g_Net_differences (N d : Nat) (p0 : Nat) (hp0 : isN p0) (p1 : Nat) (hp1 : isN p1)  : CallF eI y_Net_differences c_Net_differences 4 (some .int) (d + 0 + 1) [.ref p0, .ref p1] (f_Net_differences N p0 p1) := by
  refine call_of (d := d + 0) (n := 1) mi_Net_differences.1 (fun _ => rfl) ?_
  intro Γ μ0 hΓ hT hR
  show Go Γ 4 0 [(0, .ref p0), (1, .ref p1)] [] μ0 (f_Net_differences N p0 p1 μ0)
  unfold f_Net_differences
  refine go_iconst (v := 0) (pc := 0) hΓ d_Net_differences_0 (by decide) ?_
  refine go_istore_n (i := 2) (lv' := [(2, .int 0), (0, .ref p0), (1, .ref p1)]) (pc := 1) hΓ d_Net_differences_1 rfl (by decide) rfl ?_
  refine go_iconst (v := 0) (pc := 2) hΓ d_Net_differences_2 (by decide) ?_
  refine go_istore_n (i := 3) (lv' := [(3, .int 0), (2, .int 0), (0, .ref p0), (1, .ref p1)]) (pc := 3) hΓ d_Net_differences_3 rfl (by decide) rfl ?_
  refine go_sub' (lv' := [(0, .ref p0), (1, .ref p1), (2, .int 0), (3, .int 0)]) rfl ?_
  refine glp_Net_differences_4 N d hΓ hT hR p0 p1 hp0 hp1 _ (fun v14 μ15 => ?_) N 0 0 μ0
  refine go_iload_n (q := 0) (i := 2) (pc := 59) hΓ d_Net_differences_59 rfl rfl ?_
  exact go_iret (pc := 60) hΓ hT d_Net_differences_60
def f_Layers_sizeOf (N : Nat) (x1 : Int32) (μ0 : Mem) : Option (Int32 × Mem) :=
  ck (inb x1 61) (some (gI μ0 25 (tn x1), μ0))
set_option maxHeartbeats 4000000 in
set_option maxRecDepth 100000 in
theorem g_Layers_sizeOf (N d : Nat) (x1 : Int32)  : CallF eI y_Layers_sizeOf c_Layers_sizeOf 2 (some .int) (d + 0 + 1) [.ref 23, .int x1] (f_Layers_sizeOf N x1) := by
  refine call_of (d := d + 0) (n := 1) mi_Layers_sizeOf.1 (fun _ => rfl) ?_
  intro Γ μ0 hΓ hT hR
  show Go Γ 2 0 [(0, .ref 23), (1, .int x1)] [] μ0 (f_Layers_sizeOf N x1 μ0)
  unfold f_Layers_sizeOf
  refine go_aload_n (q := 0) (i := 0) (pc := 0) hΓ d_Layers_sizeOf_0 rfl rfl ?_
  refine go_getR (q := 25) (pc := 1) hΓ fl_Layers_19 d_Layers_sizeOf_1 rfl rfl ?_
  refine go_iload_n (q := 1) (i := 1) (pc := 4) hΓ d_Layers_sizeOf_4 rfl rfl ?_
  refine go_ck (fun h1 => ?_)
  refine go_iald (pc := 5) hΓ d_Layers_sizeOf_5 rfl h1 ?_
  exact go_iret (pc := 6) hΓ hT d_Layers_sizeOf_6
def lp_PatternSet_first_2 (N : Nat)   (K0 : Int32 → Mem → Option (Int32 × Mem)) (K1 : Mem → Option (Int32 × Mem)) : Nat → Int32 → Mem → Option (Int32 × Mem)
  | 0, _, _ => none
  | n + 1, a1, μ0 => if a1 < 4 then (ck (inb a1 4) (if (lg_cmp (gL μ0 32 (tn a1)) 0) = 0 then (lt' (a1 + 1) fun v4 => lp_PatternSet_first_2 N K0 K1 n v4 μ0) else (K0 a1 μ0))) else (K1  μ0)
def f_PatternSet_first (N : Nat)  (μ0 : Mem) : Option (Int32 × Mem) :=
  lp_PatternSet_first_2 N  (fun v5 μ6 => ck (inb v5 4) (ck (inb v5 4) (bnd (f_JLong_bitCount N (((gL μ6 32 (tn v5)) &&& (-(gL μ6 32 (tn v5)))) - 1) μ6) fun r9 μ10 => some ((64 * v5) + r9, μ10)))) (fun μ11 => some ((-1), μ11)) N 0 μ0
set_option maxHeartbeats 4000000 in
set_option maxRecDepth 100000 in
theorem glp_PatternSet_first_2 (N d : Nat) {Γ : Cx Int32} (hΓ : Ok Γ "SortingNets$PatternSet" c_PatternSet_first 2) (hT : Rt Γ eI (some .int)) (hR : Rm Γ (d + 1))     (K0 : Int32 → Mem → Option (Int32 × Mem)) (K1 : Mem → Option (Int32 × Mem)) (hK0 : ∀ (b1 : Int32) (ν : Mem), Go Γ 2 18 [(0, .ref 31), (1, .int b1)] [] ν (K0 b1 ν)) (hK1 : ∀  (ν : Mem), Go Γ 2 49 [] [] ν (K1  ν)) : ∀ (n : Nat) (a1 : Int32) (μ0 : Mem), Go Γ 2 2 [(0, .ref 31), (1, .int a1)] [] μ0 (lp_PatternSet_first_2 N K0 K1 n a1 μ0) := by
  intro n
  induction n with
  | zero => intro a1 μ0; exact go_none
  | succ n ih =>
    intro a1 μ0
    rw [lp_PatternSet_first_2]
    refine go_iload_n (q := 1) (i := 1) (pc := 2) hΓ d_PatternSet_first_2 rfl rfl ?_
    refine go_iconst (v := 4) (pc := 3) hΓ d_PatternSet_first_3 (by decide) ?_
    refine go_icmp_ge 49 (pc := 4) hΓ d_PatternSet_first_4 (by decide) (fun h1 => go_eq (if_neg h1) ?_) (fun h1 => go_eq (if_pos h1) ?_)
    · refine go_sub' (lv' := []) rfl ?_
      exact hK1  μ0
    · refine go_aload_n (q := 0) (i := 0) (pc := 7) hΓ d_PatternSet_first_7 rfl rfl ?_
      refine go_getR (q := 32) (pc := 8) hΓ fl_PatternSet_11 d_PatternSet_first_8 rfl rfl ?_
      refine go_iload_n (q := 1) (i := 1) (pc := 11) hΓ d_PatternSet_first_11 rfl rfl ?_
      refine go_ck (fun h2 => ?_)
      refine go_lald (pc := 12) hΓ d_PatternSet_first_12 rfl h2 ?_
      refine go_lconst (v := 0) (pc := 13) hΓ d_PatternSet_first_13 (by decide) ?_
      refine go_lcmp (pc := 14) hΓ d_PatternSet_first_14 ?_
      refine go_if_eq 43 (pc := 15) hΓ d_PatternSet_first_15 (by decide) (fun h3 => go_eq (if_pos h3) ?_) (fun h3 => go_eq (if_neg h3) ?_)
      · refine go_incI (q := 1) (i := 1) (n := 1) (c := 1) (pc := 43) hΓ d_PatternSet_first_43 rfl (by decide) (by decide) (fun v4 => ?_)
        refine go_sub' (lv' := [(1, .int v4), (0, .ref 31)]) rfl ?_
        refine go_goto 2 (pc := 46) hΓ d_PatternSet_first_46 (by decide) ?_
        refine go_sub' (lv' := [(0, .ref 31), (1, .int v4)]) rfl ?_
        exact ih v4 μ0
      · refine go_sub' (lv' := [(0, .ref 31), (1, .int a1)]) rfl ?_
        exact hK0 a1 μ0
set_option maxHeartbeats 4000000 in
set_option maxRecDepth 100000 in
theorem g_PatternSet_first (N d : Nat)   : CallF eI y_PatternSet_first c_PatternSet_first 2 (some .int) (d + 1 + 1) [.ref 31] (f_PatternSet_first N ) := by
  refine call_of (d := d + 1) (n := 0) mi_PatternSet_first.1 (fun _ => rfl) ?_
  intro Γ μ0 hΓ hT hR
  show Go Γ 2 0 [(0, .ref 31)] [] μ0 (f_PatternSet_first N  μ0)
  unfold f_PatternSet_first
  refine go_iconst (v := 0) (pc := 0) hΓ d_PatternSet_first_0 (by decide) ?_
  refine go_istore_n (i := 1) (lv' := [(1, .int 0), (0, .ref 31)]) (pc := 1) hΓ d_PatternSet_first_1 rfl (by decide) rfl ?_
  refine go_sub' (lv' := [(0, .ref 31), (1, .int 0)]) rfl ?_
  refine glp_PatternSet_first_2 N d hΓ hT hR  _ _ (fun v5 μ6 => ?_) (fun μ11 => ?_) N 0 μ0
  · refine go_bipush (v := 64) (pc := 18) hΓ d_PatternSet_first_18 (by decide) ?_
    refine go_iload_n (q := 1) (i := 1) (pc := 20) hΓ d_PatternSet_first_20 rfl rfl ?_
    refine go_imul (pc := 21) hΓ d_PatternSet_first_21 ?_
    refine go_aload_n (q := 0) (i := 0) (pc := 22) hΓ d_PatternSet_first_22 rfl rfl ?_
    refine go_getR (q := 32) (pc := 23) hΓ fl_PatternSet_11 d_PatternSet_first_23 rfl rfl ?_
    refine go_iload_n (q := 1) (i := 1) (pc := 26) hΓ d_PatternSet_first_26 rfl rfl ?_
    refine go_ck (fun h7 => ?_)
    refine go_lald (pc := 27) hΓ d_PatternSet_first_27 rfl h7 ?_
    refine go_aload_n (q := 0) (i := 0) (pc := 28) hΓ d_PatternSet_first_28 rfl rfl ?_
    refine go_getR (q := 32) (pc := 29) hΓ fl_PatternSet_11 d_PatternSet_first_29 rfl rfl ?_
    refine go_iload_n (q := 1) (i := 1) (pc := 32) hΓ d_PatternSet_first_32 rfl rfl ?_
    refine go_ck (fun h8 => ?_)
    refine go_lald (pc := 33) hΓ d_PatternSet_first_33 rfl h8 ?_
    refine go_lneg (pc := 34) hΓ d_PatternSet_first_34 ?_
    refine go_land (pc := 35) hΓ d_PatternSet_first_35 ?_
    refine go_lconst (v := 1) (pc := 36) hΓ d_PatternSet_first_36 (by decide) ?_
    refine go_lsub (pc := 37) hΓ d_PatternSet_first_37 ?_
    refine go_callS (index := 15) emI hΓ hR (g_JLong_bitCount N (d + 0) (((gL μ6 32 (tn v5)) &&& (-(gL μ6 32 (tn v5)))) - 1)) mi_JLong_bitCount ml_PatternSet_15 d_PatternSet_first_38 rfl rfl rfl (fun r9 μ10 => ?_)
    show Go Γ 2 41 [(0, .ref 31), (1, .int v5)] [.int r9, .int (64 * v5)] μ10 _
    refine go_iadd (pc := 41) hΓ d_PatternSet_first_41 ?_
    exact go_iret (pc := 42) hΓ hT d_PatternSet_first_42
  · refine go_iconst (v := -1) (pc := 49) hΓ d_PatternSet_first_49 (by decide) ?_
    exact go_iret (pc := 50) hΓ hT d_PatternSet_first_50
def f_PatternSet_isEmpty (N : Nat)  (μ0 : Mem) : Option (Int32 × Mem) :=
  bnd (f_PatternSet_first N  μ0) fun r1 μ2 => if r1 = (-1) then (some (1, μ2)) else (some (0, μ2))
set_option maxHeartbeats 4000000 in
set_option maxRecDepth 100000 in
theorem g_PatternSet_isEmpty (N d : Nat)   : CallF eI y_PatternSet_isEmpty c_PatternSet_isEmpty 1 (some .boolean) (d + 2 + 1) [.ref 31] (f_PatternSet_isEmpty N ) := by
  refine call_of (d := d + 2) (n := 0) mi_PatternSet_isEmpty.1 (fun _ => rfl) ?_
  intro Γ μ0 hΓ hT hR
  show Go Γ 1 0 [(0, .ref 31)] [] μ0 (f_PatternSet_isEmpty N  μ0)
  unfold f_PatternSet_isEmpty
  refine go_aload_n (q := 0) (i := 0) (pc := 0) hΓ d_PatternSet_isEmpty_0 rfl rfl ?_
  refine go_callV (index := 21) emI hΓ hR (g_PatternSet_first N (d + 0) ) mi_PatternSet_first ml_PatternSet_21 d_PatternSet_isEmpty_1 rfl rfl rfl rfl rfl (fun r1 μ2 => ?_)
  show Go Γ 1 4 [(0, .ref 31)] [.int r1] μ2 _
  refine go_iconst (v := -1) (pc := 4) hΓ d_PatternSet_isEmpty_4 (by decide) ?_
  refine go_icmp_ne 12 (pc := 5) hΓ d_PatternSet_isEmpty_5 (by decide) (fun h3 => go_eq (if_neg h3) ?_) (fun h3 => go_eq (if_pos h3) ?_)
  · refine go_iconst (v := 0) (pc := 12) hΓ d_PatternSet_isEmpty_12 (by decide) ?_
    exact go_zret (pc := 13) hΓ hT d_PatternSet_isEmpty_13 rfl
  · refine go_iconst (v := 1) (pc := 8) hΓ d_PatternSet_isEmpty_8 (by decide) ?_
    refine go_goto 13 (pc := 9) hΓ d_PatternSet_isEmpty_9 (by decide) ?_
    exact go_zret (pc := 13) hΓ hT d_PatternSet_isEmpty_13 rfl
def lp_Trial_listResults_23 (N : Nat) (p0 : Nat) (x2 : Int32)  (K : Int32 → Mem → Option (Unit × Mem)) : Nat → Int32 → Int32 → Mem → Option (Unit × Mem)
  | 0, _, _, _ => none
  | n + 1, a3, a4, μ0 => if a4 < (gI μ0 p0 1) then (ck (inb ((4 * a4) + (shrI x2 6)) 32) (lt' ((ushL (gL μ0 (p0 + 1) (tn ((4 * a4) + (shrI x2 6)))) (x2 &&& 63)) &&& 1) fun v5 => lt' (a3 ||| (shlI (Int64.toInt32 v5) a4)) fun v6 => lt' (a4 + 1) fun v7 => lp_Trial_listResults_23 N p0 x2 K n v6 v7 μ0)) else (K a3 μ0)
def lp_Trial_listResults_2 (N : Nat) (p0 : Nat)  (K : Mem → Option (Unit × Mem)) : Nat → Int32 → Mem → Option (Unit × Mem)
  | 0, _, _ => none
  | n + 1, a2, μ0 => if a2 < (shlI 1 (gI μ0 p0 1)) then (if a2 < (Int32.ofNat 256) then (lp_Trial_listResults_23 N p0 a2 (fun v8 μ9 => ck (inb a2 256) (lt' (sI μ9 33 (tn a2) v8) fun μ11 => lt' (a2 + 1) fun v12 => lp_Trial_listResults_2 N p0 K n v12 μ11)) N 0 0 μ0) else (K  μ0)) else (K  μ0)
def f_Trial_listResults (N : Nat) (p0 : Nat) (μ0 : Mem) : Option (Unit × Mem) :=
  lp_Trial_listResults_2 N p0 (fun μ13 => some ((), μ13)) N 0 μ0
set_option maxHeartbeats 4000000 in
set_option maxRecDepth 100000 in
theorem glp_Trial_listResults_23 (N d : Nat) {Γ : Cx Unit} (hΓ : Ok Γ "SortingNets$Trial" c_Trial_listResults 7) (hT : Rt Γ eV none) (hR : Rm Γ (d + 0)) (p0 : Nat) (x2 : Int32) (hp0 : isT p0)   (K : Int32 → Mem → Option (Unit × Mem)) (hK : ∀ (b3 : Int32) (ν : Mem), Go Γ 7 70 [(0, .ref p0), (1, .ref 33), (2, .int x2), (3, .int b3)] [] ν (K b3 ν)) : ∀ (n : Nat) (a3 : Int32) (a4 : Int32) (μ0 : Mem), Go Γ 7 23 [(0, .ref p0), (1, .ref 33), (2, .int x2), (3, .int a3), (4, .int a4)] [] μ0 (lp_Trial_listResults_23 N p0 x2 K n a3 a4 μ0) := by
  intro n
  induction n with
  | zero => intro a3 a4 μ0; exact go_none
  | succ n ih =>
    intro a3 a4 μ0
    rw [lp_Trial_listResults_23]
    refine go_iload (q := 4) (pc := 23) hΓ d_Trial_listResults_23 rfl ?_
    refine go_aload_n (q := 0) (i := 0) (pc := 25) hΓ d_Trial_listResults_25 rfl rfl ?_
    refine go_getI (pc := 26) hΓ fl_Trial_17 d_Trial_listResults_26 (isT_sh hp0).1 rfl ?_
    refine go_icmp_ge 70 (pc := 29) hΓ d_Trial_listResults_29 (by decide) (fun h3 => go_eq (if_neg h3) ?_) (fun h3 => go_eq (if_pos h3) ?_)
    · refine go_sub' (lv' := [(0, .ref p0), (1, .ref 33), (2, .int x2), (3, .int a3)]) rfl ?_
      exact hK a3 μ0
    · refine go_aload_n (q := 0) (i := 0) (pc := 32) hΓ d_Trial_listResults_32 rfl rfl ?_
      refine go_getR (q := p0 + 1) (pc := 33) hΓ fl_Trial_13 d_Trial_listResults_33 (isT_sh hp0).1 rfl ?_
      refine go_iconst (v := 4) (pc := 36) hΓ d_Trial_listResults_36 (by decide) ?_
      refine go_iload (q := 4) (pc := 37) hΓ d_Trial_listResults_37 rfl ?_
      refine go_imul (pc := 39) hΓ d_Trial_listResults_39 ?_
      refine go_iload_n (q := 2) (i := 2) (pc := 40) hΓ d_Trial_listResults_40 rfl rfl ?_
      refine go_bipush (v := 6) (pc := 41) hΓ d_Trial_listResults_41 (by decide) ?_
      refine go_ishr (pc := 43) hΓ d_Trial_listResults_43 ?_
      refine go_iadd (pc := 44) hΓ d_Trial_listResults_44 ?_
      refine go_ck (fun h4 => ?_)
      refine go_lald (pc := 45) hΓ d_Trial_listResults_45 (isT_sh hp0).2 h4 ?_
      refine go_iload_n (q := 2) (i := 2) (pc := 46) hΓ d_Trial_listResults_46 rfl rfl ?_
      refine go_bipush (v := 63) (pc := 47) hΓ d_Trial_listResults_47 (by decide) ?_
      refine go_iand (pc := 49) hΓ d_Trial_listResults_49 ?_
      refine go_lushr (pc := 50) hΓ d_Trial_listResults_50 ?_
      refine go_lconst (v := 1) (pc := 51) hΓ d_Trial_listResults_51 (by decide) ?_
      refine go_land (pc := 52) hΓ d_Trial_listResults_52 ?_
      refine go_letL (fun v5 => ?_)
      refine go_lstore (lv' := [(5, .long v5), (0, .ref p0), (1, .ref 33), (2, .int x2), (3, .int a3), (4, .int a4)]) (pc := 53) hΓ d_Trial_listResults_53 (by decide) rfl ?_
      refine go_iload_n (q := 4) (i := 3) (pc := 55) hΓ d_Trial_listResults_55 rfl rfl ?_
      refine go_lload (q := 0) (pc := 56) hΓ d_Trial_listResults_56 rfl ?_
      refine go_l2i (pc := 58) hΓ d_Trial_listResults_58 ?_
      refine go_iload (q := 5) (pc := 59) hΓ d_Trial_listResults_59 rfl ?_
      refine go_ishl (pc := 61) hΓ d_Trial_listResults_61 ?_
      refine go_ior (pc := 62) hΓ d_Trial_listResults_62 ?_
      refine go_letI (fun v6 => ?_)
      refine go_istore_n (i := 3) (lv' := [(3, .int v6), (5, .long v5), (0, .ref p0), (1, .ref 33), (2, .int x2), (4, .int a4)]) (pc := 63) hΓ d_Trial_listResults_63 rfl (by decide) rfl ?_
      refine go_incI (q := 5) (i := 4) (n := 1) (c := 1) (pc := 64) hΓ d_Trial_listResults_64 rfl (by decide) (by decide) (fun v7 => ?_)
      refine go_sub' (lv' := [(4, .int v7), (3, .int v6), (5, .long v5), (0, .ref p0), (1, .ref 33), (2, .int x2)]) rfl ?_
      refine go_goto 23 (pc := 67) hΓ d_Trial_listResults_67 (by decide) ?_
      refine go_sub' (lv' := [(0, .ref p0), (1, .ref 33), (2, .int x2), (3, .int v6), (4, .int v7)]) rfl ?_
      exact ih v6 v7 μ0
set_option maxHeartbeats 4000000 in
set_option maxRecDepth 100000 in
theorem glp_Trial_listResults_2 (N d : Nat) {Γ : Cx Unit} (hΓ : Ok Γ "SortingNets$Trial" c_Trial_listResults 7) (hT : Rt Γ eV none) (hR : Rm Γ (d + 0)) (p0 : Nat) (hp0 : isT p0)   (K : Mem → Option (Unit × Mem)) (hK : ∀  (ν : Mem), Go Γ 7 80 [] [] ν (K  ν)) : ∀ (n : Nat) (a2 : Int32) (μ0 : Mem), Go Γ 7 2 [(0, .ref p0), (1, .ref 33), (2, .int a2)] [] μ0 (lp_Trial_listResults_2 N p0 K n a2 μ0) := by
  intro n
  induction n with
  | zero => intro a2 μ0; exact go_none
  | succ n ih =>
    intro a2 μ0
    rw [lp_Trial_listResults_2]
    refine go_iload_n (q := 2) (i := 2) (pc := 2) hΓ d_Trial_listResults_2 rfl rfl ?_
    refine go_iconst (v := 1) (pc := 3) hΓ d_Trial_listResults_3 (by decide) ?_
    refine go_aload_n (q := 0) (i := 0) (pc := 4) hΓ d_Trial_listResults_4 rfl rfl ?_
    refine go_getI (pc := 5) hΓ fl_Trial_17 d_Trial_listResults_5 (isT_sh hp0).1 rfl ?_
    refine go_ishl (pc := 8) hΓ d_Trial_listResults_8 ?_
    refine go_icmp_ge 80 (pc := 9) hΓ d_Trial_listResults_9 (by decide) (fun h1 => go_eq (if_neg h1) ?_) (fun h1 => go_eq (if_pos h1) ?_)
    · refine go_sub' (lv' := []) rfl ?_
      exact hK  μ0
    · refine go_iload_n (q := 2) (i := 2) (pc := 12) hΓ d_Trial_listResults_12 rfl rfl ?_
      refine go_aload_n (q := 1) (i := 1) (pc := 13) hΓ d_Trial_listResults_13 rfl rfl ?_
      refine go_alen (pc := 14) hΓ d_Trial_listResults_14 rfl (by decide) ?_
      refine go_icmp_ge 80 (pc := 15) hΓ d_Trial_listResults_15 (by decide) (fun h2 => go_eq (if_neg h2) ?_) (fun h2 => go_eq (if_pos h2) ?_)
      · refine go_sub' (lv' := []) rfl ?_
        exact hK  μ0
      · refine go_iconst (v := 0) (pc := 18) hΓ d_Trial_listResults_18 (by decide) ?_
        refine go_istore_n (i := 3) (lv' := [(3, .int 0), (0, .ref p0), (1, .ref 33), (2, .int a2)]) (pc := 19) hΓ d_Trial_listResults_19 rfl (by decide) rfl ?_
        refine go_iconst (v := 0) (pc := 20) hΓ d_Trial_listResults_20 (by decide) ?_
        refine go_istore (lv' := [(4, .int 0), (3, .int 0), (0, .ref p0), (1, .ref 33), (2, .int a2)]) (pc := 21) hΓ d_Trial_listResults_21 (by decide) rfl ?_
        refine go_sub' (lv' := [(0, .ref p0), (1, .ref 33), (2, .int a2), (3, .int 0), (4, .int 0)]) rfl ?_
        refine glp_Trial_listResults_23 N d hΓ hT hR p0 a2 hp0 _ (fun v8 μ9 => ?_) N 0 0 μ0
        refine go_aload_n (q := 1) (i := 1) (pc := 70) hΓ d_Trial_listResults_70 rfl rfl ?_
        refine go_iload_n (q := 2) (i := 2) (pc := 71) hΓ d_Trial_listResults_71 rfl rfl ?_
        refine go_iload_n (q := 3) (i := 3) (pc := 72) hΓ d_Trial_listResults_72 rfl rfl ?_
        refine go_ck (fun h10 => ?_)
        refine go_iast (pc := 73) hΓ d_Trial_listResults_73 rfl h10 ?_
        refine go_letM (fun μ11 => ?_)
        refine go_incI (q := 2) (i := 2) (n := 1) (c := 1) (pc := 74) hΓ d_Trial_listResults_74 rfl (by decide) (by decide) (fun v12 => ?_)
        refine go_sub' (lv' := [(2, .int v12), (0, .ref p0), (1, .ref 33), (3, .int v8)]) rfl ?_
        refine go_goto 2 (pc := 77) hΓ d_Trial_listResults_77 (by decide) ?_
        refine go_sub' (lv' := [(0, .ref p0), (1, .ref 33), (2, .int v12)]) rfl ?_
        exact ih v12 μ11
set_option maxHeartbeats 4000000 in
set_option maxRecDepth 100000 in
theorem g_Trial_listResults (N d : Nat) (p0 : Nat) (hp0 : isT p0)  : CallF eV y_Trial_listResults c_Trial_listResults 7 none (d + 0 + 1) [.ref p0, .ref 33] (f_Trial_listResults N p0) := by
  refine call_of (d := d + 0) (n := 1) mi_Trial_listResults.1 (fun _ => rfl) ?_
  intro Γ μ0 hΓ hT hR
  show Go Γ 7 0 [(0, .ref p0), (1, .ref 33)] [] μ0 (f_Trial_listResults N p0 μ0)
  unfold f_Trial_listResults
  refine go_iconst (v := 0) (pc := 0) hΓ d_Trial_listResults_0 (by decide) ?_
  refine go_istore_n (i := 2) (lv' := [(2, .int 0), (0, .ref p0), (1, .ref 33)]) (pc := 1) hΓ d_Trial_listResults_1 rfl (by decide) rfl ?_
  refine go_sub' (lv' := [(0, .ref p0), (1, .ref 33), (2, .int 0)]) rfl ?_
  refine glp_Trial_listResults_2 N d hΓ hT hR p0 hp0 _ (fun μ13 => ?_) N 0 μ0
  exact go_vret (pc := 80) hΓ hT d_Trial_listResults_80
def f_PatternSet_put (N : Nat) (x1 : Int32) (μ0 : Mem) : Option (Unit × Mem) :=
  ck (inb ((shrI x1 6) &&& 3) 4) (ck (inb ((shrI x1 6) &&& 3) 4) (lt' (sL μ0 32 (tn ((shrI x1 6) &&& 3)) ((gL μ0 32 (tn ((shrI x1 6) &&& 3))) ||| (shlL 1 (x1 &&& 63)))) fun μ3 => some ((), μ3)))
set_option maxHeartbeats 4000000 in
set_option maxRecDepth 100000 in
theorem g_PatternSet_put (N d : Nat) (x1 : Int32)  : CallF eV y_PatternSet_put c_PatternSet_put 2 none (d + 0 + 1) [.ref 31, .int x1] (f_PatternSet_put N x1) := by
  refine call_of (d := d + 0) (n := 1) mi_PatternSet_put.1 (fun _ => rfl) ?_
  intro Γ μ0 hΓ hT hR
  show Go Γ 2 0 [(0, .ref 31), (1, .int x1)] [] μ0 (f_PatternSet_put N x1 μ0)
  unfold f_PatternSet_put
  refine go_aload_n (q := 0) (i := 0) (pc := 0) hΓ d_PatternSet_put_0 rfl rfl ?_
  refine go_getR (q := 32) (pc := 1) hΓ fl_PatternSet_11 d_PatternSet_put_1 rfl rfl ?_
  refine go_iload_n (q := 1) (i := 1) (pc := 4) hΓ d_PatternSet_put_4 rfl rfl ?_
  refine go_bipush (v := 6) (pc := 5) hΓ d_PatternSet_put_5 (by decide) ?_
  refine go_ishr (pc := 7) hΓ d_PatternSet_put_7 ?_
  refine go_iconst (v := 3) (pc := 8) hΓ d_PatternSet_put_8 (by decide) ?_
  refine go_iand (pc := 9) hΓ d_PatternSet_put_9 ?_
  refine go_dup2 (pc := 10) hΓ d_PatternSet_put_10 rfl rfl ?_
  refine go_ck (fun h1 => ?_)
  refine go_lald (pc := 11) hΓ d_PatternSet_put_11 rfl h1 ?_
  refine go_lconst (v := 1) (pc := 12) hΓ d_PatternSet_put_12 (by decide) ?_
  refine go_iload_n (q := 1) (i := 1) (pc := 13) hΓ d_PatternSet_put_13 rfl rfl ?_
  refine go_bipush (v := 63) (pc := 14) hΓ d_PatternSet_put_14 (by decide) ?_
  refine go_iand (pc := 16) hΓ d_PatternSet_put_16 ?_
  refine go_lshl (pc := 17) hΓ d_PatternSet_put_17 ?_
  refine go_lor (pc := 18) hΓ d_PatternSet_put_18 ?_
  refine go_ck (fun h2 => ?_)
  refine go_last (pc := 19) hΓ d_PatternSet_put_19 rfl h2 ?_
  refine go_letM (fun μ3 => ?_)
  exact go_vret (pc := 20) hΓ hT d_PatternSet_put_20
def f_PatternSet_holds (N : Nat) (x1 : Int32) (μ0 : Mem) : Option (Int32 × Mem) :=
  ck (inb ((shrI x1 6) &&& 3) 4) (if (lg_cmp ((ushL (gL μ0 32 (tn ((shrI x1 6) &&& 3))) (x1 &&& 63)) &&& 1) 1) = 0 then (some (1, μ0)) else (some (0, μ0)))
set_option maxHeartbeats 4000000 in
set_option maxRecDepth 100000 in
theorem g_PatternSet_holds (N d : Nat) (x1 : Int32)  : CallF eI y_PatternSet_holds c_PatternSet_holds 2 (some .boolean) (d + 0 + 1) [.ref 31, .int x1] (f_PatternSet_holds N x1) := by
  refine call_of (d := d + 0) (n := 1) mi_PatternSet_holds.1 (fun _ => rfl) ?_
  intro Γ μ0 hΓ hT hR
  show Go Γ 2 0 [(0, .ref 31), (1, .int x1)] [] μ0 (f_PatternSet_holds N x1 μ0)
  unfold f_PatternSet_holds
  refine go_aload_n (q := 0) (i := 0) (pc := 0) hΓ d_PatternSet_holds_0 rfl rfl ?_
  refine go_getR (q := 32) (pc := 1) hΓ fl_PatternSet_11 d_PatternSet_holds_1 rfl rfl ?_
  refine go_iload_n (q := 1) (i := 1) (pc := 4) hΓ d_PatternSet_holds_4 rfl rfl ?_
  refine go_bipush (v := 6) (pc := 5) hΓ d_PatternSet_holds_5 (by decide) ?_
  refine go_ishr (pc := 7) hΓ d_PatternSet_holds_7 ?_
  refine go_iconst (v := 3) (pc := 8) hΓ d_PatternSet_holds_8 (by decide) ?_
  refine go_iand (pc := 9) hΓ d_PatternSet_holds_9 ?_
  refine go_ck (fun h1 => ?_)
  refine go_lald (pc := 10) hΓ d_PatternSet_holds_10 rfl h1 ?_
  refine go_iload_n (q := 1) (i := 1) (pc := 11) hΓ d_PatternSet_holds_11 rfl rfl ?_
  refine go_bipush (v := 63) (pc := 12) hΓ d_PatternSet_holds_12 (by decide) ?_
  refine go_iand (pc := 14) hΓ d_PatternSet_holds_14 ?_
  refine go_lushr (pc := 15) hΓ d_PatternSet_holds_15 ?_
  refine go_lconst (v := 1) (pc := 16) hΓ d_PatternSet_holds_16 (by decide) ?_
  refine go_land (pc := 17) hΓ d_PatternSet_holds_17 ?_
  refine go_lconst (v := 1) (pc := 18) hΓ d_PatternSet_holds_18 (by decide) ?_
  refine go_lcmp (pc := 19) hΓ d_PatternSet_holds_19 ?_
  refine go_if_ne 27 (pc := 20) hΓ d_PatternSet_holds_20 (by decide) (fun h2 => go_eq (if_neg h2) ?_) (fun h2 => go_eq (if_pos h2) ?_)
  · refine go_iconst (v := 0) (pc := 27) hΓ d_PatternSet_holds_27 (by decide) ?_
    exact go_zret (pc := 28) hΓ hT d_PatternSet_holds_28 rfl
  · refine go_iconst (v := 1) (pc := 23) hΓ d_PatternSet_holds_23 (by decide) ?_
    refine go_goto 28 (pc := 24) hΓ d_PatternSet_holds_24 (by decide) ?_
    exact go_zret (pc := 28) hΓ hT d_PatternSet_holds_28 rfl
def f_JInt_bitCount (N : Nat) (x0 : Int32) (μ0 : Mem) : Option (Int32 × Mem) :=
  lt' (x0 - ((ushI x0 1) &&& 1431655765)) fun v1 => lt' ((v1 &&& 858993459) + ((ushI v1 2) &&& 858993459)) fun v2 => lt' ((v2 + (ushI v2 4)) &&& 252645135) fun v3 => lt' (v3 + (ushI v3 8)) fun v4 => lt' (v4 + (ushI v4 16)) fun v5 => some (v5 &&& 63, μ0)
set_option maxHeartbeats 4000000 in
set_option maxRecDepth 100000 in
theorem g_JInt_bitCount (N d : Nat) (x0 : Int32)  : CallF eI y_JInt_bitCount c_JInt_bitCount 1 (some .int) (d + 0 + 1) [.int x0] (f_JInt_bitCount N x0) := by
  refine call_of (d := d + 0) (n := 1) mi_JInt_bitCount.1 (fun _ => rfl) ?_
  intro Γ μ0 hΓ hT hR
  show Go Γ 1 0 [(0, .int x0)] [] μ0 (f_JInt_bitCount N x0 μ0)
  unfold f_JInt_bitCount
  refine go_iload_n (q := 0) (i := 0) (pc := 0) hΓ d_JInt_bitCount_0 rfl rfl ?_
  refine go_iload_n (q := 0) (i := 0) (pc := 1) hΓ d_JInt_bitCount_1 rfl rfl ?_
  refine go_iconst (v := 1) (pc := 2) hΓ d_JInt_bitCount_2 (by decide) ?_
  refine go_iushr (pc := 3) hΓ d_JInt_bitCount_3 ?_
  refine go_ldc_w (v := 1431655765) (pc := 4) hΓ (tb_3 (List.mem_of_getElem? (i := 71) rfl) rfl) d_JInt_bitCount_4 ?_
  refine go_iand (pc := 7) hΓ d_JInt_bitCount_7 ?_
  refine go_isub (pc := 8) hΓ d_JInt_bitCount_8 ?_
  refine go_letI (fun v1 => ?_)
  refine go_istore_n (i := 0) (lv' := [(0, .int v1)]) (pc := 9) hΓ d_JInt_bitCount_9 rfl (by decide) rfl ?_
  refine go_iload_n (q := 0) (i := 0) (pc := 10) hΓ d_JInt_bitCount_10 rfl rfl ?_
  refine go_ldc_w (v := 858993459) (pc := 11) hΓ (tb_3 (List.mem_of_getElem? (i := 72) rfl) rfl) d_JInt_bitCount_11 ?_
  refine go_iand (pc := 14) hΓ d_JInt_bitCount_14 ?_
  refine go_iload_n (q := 0) (i := 0) (pc := 15) hΓ d_JInt_bitCount_15 rfl rfl ?_
  refine go_iconst (v := 2) (pc := 16) hΓ d_JInt_bitCount_16 (by decide) ?_
  refine go_iushr (pc := 17) hΓ d_JInt_bitCount_17 ?_
  refine go_ldc_w (v := 858993459) (pc := 18) hΓ (tb_3 (List.mem_of_getElem? (i := 72) rfl) rfl) d_JInt_bitCount_18 ?_
  refine go_iand (pc := 21) hΓ d_JInt_bitCount_21 ?_
  refine go_iadd (pc := 22) hΓ d_JInt_bitCount_22 ?_
  refine go_letI (fun v2 => ?_)
  refine go_istore_n (i := 0) (lv' := [(0, .int v2)]) (pc := 23) hΓ d_JInt_bitCount_23 rfl (by decide) rfl ?_
  refine go_iload_n (q := 0) (i := 0) (pc := 24) hΓ d_JInt_bitCount_24 rfl rfl ?_
  refine go_iload_n (q := 0) (i := 0) (pc := 25) hΓ d_JInt_bitCount_25 rfl rfl ?_
  refine go_iconst (v := 4) (pc := 26) hΓ d_JInt_bitCount_26 (by decide) ?_
  refine go_iushr (pc := 27) hΓ d_JInt_bitCount_27 ?_
  refine go_iadd (pc := 28) hΓ d_JInt_bitCount_28 ?_
  refine go_ldc_w (v := 252645135) (pc := 29) hΓ (tb_3 (List.mem_of_getElem? (i := 73) rfl) rfl) d_JInt_bitCount_29 ?_
  refine go_iand (pc := 32) hΓ d_JInt_bitCount_32 ?_
  refine go_letI (fun v3 => ?_)
  refine go_istore_n (i := 0) (lv' := [(0, .int v3)]) (pc := 33) hΓ d_JInt_bitCount_33 rfl (by decide) rfl ?_
  refine go_iload_n (q := 0) (i := 0) (pc := 34) hΓ d_JInt_bitCount_34 rfl rfl ?_
  refine go_iload_n (q := 0) (i := 0) (pc := 35) hΓ d_JInt_bitCount_35 rfl rfl ?_
  refine go_bipush (v := 8) (pc := 36) hΓ d_JInt_bitCount_36 (by decide) ?_
  refine go_iushr (pc := 38) hΓ d_JInt_bitCount_38 ?_
  refine go_iadd (pc := 39) hΓ d_JInt_bitCount_39 ?_
  refine go_letI (fun v4 => ?_)
  refine go_istore_n (i := 0) (lv' := [(0, .int v4)]) (pc := 40) hΓ d_JInt_bitCount_40 rfl (by decide) rfl ?_
  refine go_iload_n (q := 0) (i := 0) (pc := 41) hΓ d_JInt_bitCount_41 rfl rfl ?_
  refine go_iload_n (q := 0) (i := 0) (pc := 42) hΓ d_JInt_bitCount_42 rfl rfl ?_
  refine go_bipush (v := 16) (pc := 43) hΓ d_JInt_bitCount_43 (by decide) ?_
  refine go_iushr (pc := 45) hΓ d_JInt_bitCount_45 ?_
  refine go_iadd (pc := 46) hΓ d_JInt_bitCount_46 ?_
  refine go_letI (fun v5 => ?_)
  refine go_istore_n (i := 0) (lv' := [(0, .int v5)]) (pc := 47) hΓ d_JInt_bitCount_47 rfl (by decide) rfl ?_
  refine go_iload_n (q := 0) (i := 0) (pc := 48) hΓ d_JInt_bitCount_48 rfl rfl ?_
  refine go_bipush (v := 63) (pc := 49) hΓ d_JInt_bitCount_49 (by decide) ?_
  refine go_iand (pc := 51) hΓ d_JInt_bitCount_51 ?_
  exact go_iret (pc := 52) hΓ hT d_JInt_bitCount_52
def lp_Trial_isBusy_5 (N : Nat) (p0 : Nat) (x1 : Int32) (x2 : Int32)  (K : Int64 → Mem → Option (Int32 × Mem)) : Nat → Int64 → Int32 → Mem → Option (Int32 × Mem)
  | 0, _, _, _ => none
  | n + 1, a3, a5, μ0 => if a5 < (gI μ0 p0 2) then (ck (inb ((4 * x1) + a5) 32) (ck (inb ((4 * x2) + a5) 32) (lt' (a3 ||| ((gL μ0 (p0 + 1) (tn ((4 * x1) + a5))) &&& ((gL μ0 (p0 + 1) (tn ((4 * x2) + a5))) ^^^ (-1)))) fun v4 => lt' (a5 + 1) fun v5 => lp_Trial_isBusy_5 N p0 x1 x2 K n v4 v5 μ0))) else (K a3 μ0)
def f_Trial_isBusy (N : Nat) (p0 : Nat) (x1 : Int32) (x2 : Int32) (μ0 : Mem) : Option (Int32 × Mem) :=
  lp_Trial_isBusy_5 N p0 x1 x2 (fun v6 μ7 => if (lg_cmp v6 0) = 0 then (some (0, μ7)) else (some (1, μ7))) N 0 0 μ0
set_option maxHeartbeats 4000000 in
set_option maxRecDepth 100000 in
theorem glp_Trial_isBusy_5 (N d : Nat) {Γ : Cx Int32} (hΓ : Ok Γ "SortingNets$Trial" c_Trial_isBusy 6) (hT : Rt Γ eI (some .boolean)) (hR : Rm Γ (d + 0)) (p0 : Nat) (x1 : Int32) (x2 : Int32) (hp0 : isT p0)   (K : Int64 → Mem → Option (Int32 × Mem)) (hK : ∀ (b3 : Int64) (ν : Mem), Go Γ 6 50 [(3, .long b3)] [] ν (K b3 ν)) : ∀ (n : Nat) (a3 : Int64) (a5 : Int32) (μ0 : Mem), Go Γ 6 5 [(0, .ref p0), (1, .int x1), (2, .int x2), (3, .long a3), (5, .int a5)] [] μ0 (lp_Trial_isBusy_5 N p0 x1 x2 K n a3 a5 μ0) := by
  intro n
  induction n with
  | zero => intro a3 a5 μ0; exact go_none
  | succ n ih =>
    intro a3 a5 μ0
    rw [lp_Trial_isBusy_5]
    refine go_iload (q := 4) (pc := 5) hΓ d_Trial_isBusy_5 rfl ?_
    refine go_aload_n (q := 0) (i := 0) (pc := 7) hΓ d_Trial_isBusy_7 rfl rfl ?_
    refine go_getI (pc := 8) hΓ fl_Trial_21 d_Trial_isBusy_8 (isT_sh hp0).1 rfl ?_
    refine go_icmp_ge 50 (pc := 11) hΓ d_Trial_isBusy_11 (by decide) (fun h1 => go_eq (if_neg h1) ?_) (fun h1 => go_eq (if_pos h1) ?_)
    · refine go_sub' (lv' := [(3, .long a3)]) rfl ?_
      exact hK a3 μ0
    · refine go_lload_n (q := 3) (i := 3) (pc := 14) hΓ d_Trial_isBusy_14 rfl rfl ?_
      refine go_aload_n (q := 0) (i := 0) (pc := 15) hΓ d_Trial_isBusy_15 rfl rfl ?_
      refine go_getR (q := p0 + 1) (pc := 16) hΓ fl_Trial_13 d_Trial_isBusy_16 (isT_sh hp0).1 rfl ?_
      refine go_iconst (v := 4) (pc := 19) hΓ d_Trial_isBusy_19 (by decide) ?_
      refine go_iload_n (q := 1) (i := 1) (pc := 20) hΓ d_Trial_isBusy_20 rfl rfl ?_
      refine go_imul (pc := 21) hΓ d_Trial_isBusy_21 ?_
      refine go_iload (q := 4) (pc := 22) hΓ d_Trial_isBusy_22 rfl ?_
      refine go_iadd (pc := 24) hΓ d_Trial_isBusy_24 ?_
      refine go_ck (fun h2 => ?_)
      refine go_lald (pc := 25) hΓ d_Trial_isBusy_25 (isT_sh hp0).2 h2 ?_
      refine go_aload_n (q := 0) (i := 0) (pc := 26) hΓ d_Trial_isBusy_26 rfl rfl ?_
      refine go_getR (q := p0 + 1) (pc := 27) hΓ fl_Trial_13 d_Trial_isBusy_27 (isT_sh hp0).1 rfl ?_
      refine go_iconst (v := 4) (pc := 30) hΓ d_Trial_isBusy_30 (by decide) ?_
      refine go_iload_n (q := 2) (i := 2) (pc := 31) hΓ d_Trial_isBusy_31 rfl rfl ?_
      refine go_imul (pc := 32) hΓ d_Trial_isBusy_32 ?_
      refine go_iload (q := 4) (pc := 33) hΓ d_Trial_isBusy_33 rfl ?_
      refine go_iadd (pc := 35) hΓ d_Trial_isBusy_35 ?_
      refine go_ck (fun h3 => ?_)
      refine go_lald (pc := 36) hΓ d_Trial_isBusy_36 (isT_sh hp0).2 h3 ?_
      refine go_ldc2 (v := -1) (pc := 37) hΓ (tb_2 (List.mem_of_getElem? (i := 103) rfl) rfl) d_Trial_isBusy_37 ?_
      refine go_lxor (pc := 40) hΓ d_Trial_isBusy_40 ?_
      refine go_land (pc := 41) hΓ d_Trial_isBusy_41 ?_
      refine go_lor (pc := 42) hΓ d_Trial_isBusy_42 ?_
      refine go_letL (fun v4 => ?_)
      refine go_lstore_n (i := 3) (lv' := [(3, .long v4), (0, .ref p0), (1, .int x1), (2, .int x2), (5, .int a5)]) (pc := 43) hΓ d_Trial_isBusy_43 rfl (by decide) rfl ?_
      refine go_incI (q := 4) (i := 5) (n := 1) (c := 1) (pc := 44) hΓ d_Trial_isBusy_44 rfl (by decide) (by decide) (fun v5 => ?_)
      refine go_sub' (lv' := [(5, .int v5), (3, .long v4), (0, .ref p0), (1, .int x1), (2, .int x2)]) rfl ?_
      refine go_goto 5 (pc := 47) hΓ d_Trial_isBusy_47 (by decide) ?_
      refine go_sub' (lv' := [(0, .ref p0), (1, .int x1), (2, .int x2), (3, .long v4), (5, .int v5)]) rfl ?_
      exact ih v4 v5 μ0
set_option maxHeartbeats 4000000 in
set_option maxRecDepth 100000 in
theorem g_Trial_isBusy (N d : Nat) (p0 : Nat) (hp0 : isT p0) (x1 : Int32) (x2 : Int32)  : CallF eI y_Trial_isBusy c_Trial_isBusy 6 (some .boolean) (d + 0 + 1) [.ref p0, .int x1, .int x2] (f_Trial_isBusy N p0 x1 x2) := by
  refine call_of (d := d + 0) (n := 2) mi_Trial_isBusy.1 (fun _ => rfl) ?_
  intro Γ μ0 hΓ hT hR
  show Go Γ 6 0 [(0, .ref p0), (1, .int x1), (2, .int x2)] [] μ0 (f_Trial_isBusy N p0 x1 x2 μ0)
  unfold f_Trial_isBusy
  refine go_lconst (v := 0) (pc := 0) hΓ d_Trial_isBusy_0 (by decide) ?_
  refine go_lstore_n (i := 3) (lv' := [(3, .long 0), (0, .ref p0), (1, .int x1), (2, .int x2)]) (pc := 1) hΓ d_Trial_isBusy_1 rfl (by decide) rfl ?_
  refine go_iconst (v := 0) (pc := 2) hΓ d_Trial_isBusy_2 (by decide) ?_
  refine go_istore (lv' := [(5, .int 0), (3, .long 0), (0, .ref p0), (1, .int x1), (2, .int x2)]) (pc := 3) hΓ d_Trial_isBusy_3 (by decide) rfl ?_
  refine go_sub' (lv' := [(0, .ref p0), (1, .int x1), (2, .int x2), (3, .long 0), (5, .int 0)]) rfl ?_
  refine glp_Trial_isBusy_5 N d hΓ hT hR p0 x1 x2 hp0 _ (fun v6 μ7 => ?_) N 0 0 μ0
  refine go_lload_n (q := 0) (i := 3) (pc := 50) hΓ d_Trial_isBusy_50 rfl rfl ?_
  refine go_lconst (v := 0) (pc := 51) hΓ d_Trial_isBusy_51 (by decide) ?_
  refine go_lcmp (pc := 52) hΓ d_Trial_isBusy_52 ?_
  refine go_if_eq 60 (pc := 53) hΓ d_Trial_isBusy_53 (by decide) (fun h8 => go_eq (if_pos h8) ?_) (fun h8 => go_eq (if_neg h8) ?_)
  · refine go_iconst (v := 0) (pc := 60) hΓ d_Trial_isBusy_60 (by decide) ?_
    exact go_zret (pc := 61) hΓ hT d_Trial_isBusy_61 rfl
  · refine go_iconst (v := 1) (pc := 56) hΓ d_Trial_isBusy_56 (by decide) ?_
    refine go_goto 61 (pc := 57) hΓ d_Trial_isBusy_57 (by decide) ?_
    exact go_zret (pc := 61) hΓ hT d_Trial_isBusy_61 rfl
def lp_Trial_exchange_2 (N : Nat) (p0 : Nat) (x1 : Int32) (x2 : Int32)  (K : Mem → Option (Unit × Mem)) : Nat → Int32 → Mem → Option (Unit × Mem)
  | 0, _, _ => none
  | n + 1, a3, μ0 => if a3 < (gI μ0 p0 2) then (ck (inb ((4 * x1) + a3) 32) (lt' (gL μ0 (p0 + 1) (tn ((4 * x1) + a3))) fun v3 => ck (inb ((4 * x2) + a3) 32) (ck (inb ((4 * x1) + a3) 32) (lt' (sL μ0 (p0 + 1) (tn ((4 * x1) + a3)) (gL μ0 (p0 + 1) (tn ((4 * x2) + a3)))) fun μ6 => ck (inb ((4 * x2) + a3) 32) (lt' (sL μ6 (p0 + 1) (tn ((4 * x2) + a3)) v3) fun μ8 => lt' (a3 + 1) fun v9 => lp_Trial_exchange_2 N p0 x1 x2 K n v9 μ8))))) else (K  μ0)
def f_Trial_exchange (N : Nat) (p0 : Nat) (x1 : Int32) (x2 : Int32) (μ0 : Mem) : Option (Unit × Mem) :=
  lp_Trial_exchange_2 N p0 x1 x2 (fun μ10 => some ((), μ10)) N 0 μ0
set_option maxHeartbeats 4000000 in
set_option maxRecDepth 100000 in
theorem glp_Trial_exchange_2 (N d : Nat) {Γ : Cx Unit} (hΓ : Ok Γ "SortingNets$Trial" c_Trial_exchange 6) (hT : Rt Γ eV none) (hR : Rm Γ (d + 0)) (p0 : Nat) (x1 : Int32) (x2 : Int32) (hp0 : isT p0)   (K : Mem → Option (Unit × Mem)) (hK : ∀  (ν : Mem), Go Γ 6 60 [] [] ν (K  ν)) : ∀ (n : Nat) (a3 : Int32) (μ0 : Mem), Go Γ 6 2 [(0, .ref p0), (1, .int x1), (2, .int x2), (3, .int a3)] [] μ0 (lp_Trial_exchange_2 N p0 x1 x2 K n a3 μ0) := by
  intro n
  induction n with
  | zero => intro a3 μ0; exact go_none
  | succ n ih =>
    intro a3 μ0
    rw [lp_Trial_exchange_2]
    refine go_iload_n (q := 3) (i := 3) (pc := 2) hΓ d_Trial_exchange_2 rfl rfl ?_
    refine go_aload_n (q := 0) (i := 0) (pc := 3) hΓ d_Trial_exchange_3 rfl rfl ?_
    refine go_getI (pc := 4) hΓ fl_Trial_21 d_Trial_exchange_4 (isT_sh hp0).1 rfl ?_
    refine go_icmp_ge 60 (pc := 7) hΓ d_Trial_exchange_7 (by decide) (fun h1 => go_eq (if_neg h1) ?_) (fun h1 => go_eq (if_pos h1) ?_)
    · refine go_sub' (lv' := []) rfl ?_
      exact hK  μ0
    · refine go_aload_n (q := 0) (i := 0) (pc := 10) hΓ d_Trial_exchange_10 rfl rfl ?_
      refine go_getR (q := p0 + 1) (pc := 11) hΓ fl_Trial_13 d_Trial_exchange_11 (isT_sh hp0).1 rfl ?_
      refine go_iconst (v := 4) (pc := 14) hΓ d_Trial_exchange_14 (by decide) ?_
      refine go_iload_n (q := 1) (i := 1) (pc := 15) hΓ d_Trial_exchange_15 rfl rfl ?_
      refine go_imul (pc := 16) hΓ d_Trial_exchange_16 ?_
      refine go_iload_n (q := 3) (i := 3) (pc := 17) hΓ d_Trial_exchange_17 rfl rfl ?_
      refine go_iadd (pc := 18) hΓ d_Trial_exchange_18 ?_
      refine go_ck (fun h2 => ?_)
      refine go_lald (pc := 19) hΓ d_Trial_exchange_19 (isT_sh hp0).2 h2 ?_
      refine go_letL (fun v3 => ?_)
      refine go_lstore (lv' := [(4, .long v3), (0, .ref p0), (1, .int x1), (2, .int x2), (3, .int a3)]) (pc := 20) hΓ d_Trial_exchange_20 (by decide) rfl ?_
      refine go_aload_n (q := 1) (i := 0) (pc := 22) hΓ d_Trial_exchange_22 rfl rfl ?_
      refine go_getR (q := p0 + 1) (pc := 23) hΓ fl_Trial_13 d_Trial_exchange_23 (isT_sh hp0).1 rfl ?_
      refine go_iconst (v := 4) (pc := 26) hΓ d_Trial_exchange_26 (by decide) ?_
      refine go_iload_n (q := 2) (i := 1) (pc := 27) hΓ d_Trial_exchange_27 rfl rfl ?_
      refine go_imul (pc := 28) hΓ d_Trial_exchange_28 ?_
      refine go_iload_n (q := 4) (i := 3) (pc := 29) hΓ d_Trial_exchange_29 rfl rfl ?_
      refine go_iadd (pc := 30) hΓ d_Trial_exchange_30 ?_
      refine go_aload_n (q := 1) (i := 0) (pc := 31) hΓ d_Trial_exchange_31 rfl rfl ?_
      refine go_getR (q := p0 + 1) (pc := 32) hΓ fl_Trial_13 d_Trial_exchange_32 (isT_sh hp0).1 rfl ?_
      refine go_iconst (v := 4) (pc := 35) hΓ d_Trial_exchange_35 (by decide) ?_
      refine go_iload_n (q := 3) (i := 2) (pc := 36) hΓ d_Trial_exchange_36 rfl rfl ?_
      refine go_imul (pc := 37) hΓ d_Trial_exchange_37 ?_
      refine go_iload_n (q := 4) (i := 3) (pc := 38) hΓ d_Trial_exchange_38 rfl rfl ?_
      refine go_iadd (pc := 39) hΓ d_Trial_exchange_39 ?_
      refine go_ck (fun h4 => ?_)
      refine go_lald (pc := 40) hΓ d_Trial_exchange_40 (isT_sh hp0).2 h4 ?_
      refine go_ck (fun h5 => ?_)
      refine go_last (pc := 41) hΓ d_Trial_exchange_41 (isT_sh hp0).2 h5 ?_
      refine go_letM (fun μ6 => ?_)
      refine go_aload_n (q := 1) (i := 0) (pc := 42) hΓ d_Trial_exchange_42 rfl rfl ?_
      refine go_getR (q := p0 + 1) (pc := 43) hΓ fl_Trial_13 d_Trial_exchange_43 (isT_sh hp0).1 rfl ?_
      refine go_iconst (v := 4) (pc := 46) hΓ d_Trial_exchange_46 (by decide) ?_
      refine go_iload_n (q := 3) (i := 2) (pc := 47) hΓ d_Trial_exchange_47 rfl rfl ?_
      refine go_imul (pc := 48) hΓ d_Trial_exchange_48 ?_
      refine go_iload_n (q := 4) (i := 3) (pc := 49) hΓ d_Trial_exchange_49 rfl rfl ?_
      refine go_iadd (pc := 50) hΓ d_Trial_exchange_50 ?_
      refine go_lload (q := 0) (pc := 51) hΓ d_Trial_exchange_51 rfl ?_
      refine go_ck (fun h7 => ?_)
      refine go_last (pc := 53) hΓ d_Trial_exchange_53 (isT_sh hp0).2 h7 ?_
      refine go_letM (fun μ8 => ?_)
      refine go_incI (q := 4) (i := 3) (n := 1) (c := 1) (pc := 54) hΓ d_Trial_exchange_54 rfl (by decide) (by decide) (fun v9 => ?_)
      refine go_sub' (lv' := [(3, .int v9), (4, .long v3), (0, .ref p0), (1, .int x1), (2, .int x2)]) rfl ?_
      refine go_goto 2 (pc := 57) hΓ d_Trial_exchange_57 (by decide) ?_
      refine go_sub' (lv' := [(0, .ref p0), (1, .int x1), (2, .int x2), (3, .int v9)]) rfl ?_
      exact ih v9 μ8
set_option maxHeartbeats 4000000 in
set_option maxRecDepth 100000 in
theorem g_Trial_exchange (N d : Nat) (p0 : Nat) (hp0 : isT p0) (x1 : Int32) (x2 : Int32)  : CallF eV y_Trial_exchange c_Trial_exchange 6 none (d + 0 + 1) [.ref p0, .int x1, .int x2] (f_Trial_exchange N p0 x1 x2) := by
  refine call_of (d := d + 0) (n := 2) mi_Trial_exchange.1 (fun _ => rfl) ?_
  intro Γ μ0 hΓ hT hR
  show Go Γ 6 0 [(0, .ref p0), (1, .int x1), (2, .int x2)] [] μ0 (f_Trial_exchange N p0 x1 x2 μ0)
  unfold f_Trial_exchange
  refine go_iconst (v := 0) (pc := 0) hΓ d_Trial_exchange_0 (by decide) ?_
  refine go_istore_n (i := 3) (lv' := [(3, .int 0), (0, .ref p0), (1, .int x1), (2, .int x2)]) (pc := 1) hΓ d_Trial_exchange_1 rfl (by decide) rfl ?_
  refine go_sub' (lv' := [(0, .ref p0), (1, .int x1), (2, .int x2), (3, .int 0)]) rfl ?_
  refine glp_Trial_exchange_2 N d hΓ hT hR p0 x1 x2 hp0 _ (fun μ10 => ?_) N 0 μ0
  exact go_vret (pc := 60) hΓ hT d_Trial_exchange_60
def lp_Trial_take_18 (N : Nat) (p0 : Nat) (p1 : Nat)  (K : Mem → Option (Unit × Mem)) : Nat → Int32 → Mem → Option (Unit × Mem)
  | 0, _, _ => none
  | n + 1, a2, μ0 => if a2 < (Int32.ofNat 32) then (ck (inb a2 32) (ck (inb a2 32) (lt' (sL μ0 (p0 + 1) (tn a2) (gL μ0 (p1 + 1) (tn a2))) fun μ6 => lt' (a2 + 1) fun v7 => lp_Trial_take_18 N p0 p1 K n v7 μ6))) else (K  μ0)
def f_Trial_take (N : Nat) (p0 : Nat) (p1 : Nat) (μ0 : Mem) : Option (Unit × Mem) :=
  lt' (sI μ0 p0 1 (gI μ0 p1 1)) fun μ1 => lt' (sI μ1 p0 2 (gI μ1 p1 2)) fun μ2 => lp_Trial_take_18 N p0 p1 (fun μ8 => some ((), μ8)) N 0 μ2
set_option maxHeartbeats 4000000 in
set_option maxRecDepth 100000 in
theorem glp_Trial_take_18 (N d : Nat) {Γ : Cx Unit} (hΓ : Ok Γ "SortingNets$Trial" c_Trial_take 3) (hT : Rt Γ eV none) (hR : Rm Γ (d + 0)) (p0 : Nat) (p1 : Nat) (hp0 : isT p0) (hp1 : isT p1)   (K : Mem → Option (Unit × Mem)) (hK : ∀  (ν : Mem), Go Γ 3 45 [] [] ν (K  ν)) : ∀ (n : Nat) (a2 : Int32) (μ0 : Mem), Go Γ 3 18 [(0, .ref p0), (1, .ref p1), (2, .int a2)] [] μ0 (lp_Trial_take_18 N p0 p1 K n a2 μ0) := by
  intro n
  induction n with
  | zero => intro a2 μ0; exact go_none
  | succ n ih =>
    intro a2 μ0
    rw [lp_Trial_take_18]
    refine go_iload_n (q := 2) (i := 2) (pc := 18) hΓ d_Trial_take_18 rfl rfl ?_
    refine go_aload_n (q := 0) (i := 0) (pc := 19) hΓ d_Trial_take_19 rfl rfl ?_
    refine go_getR (q := p0 + 1) (pc := 20) hΓ fl_Trial_13 d_Trial_take_20 (isT_sh hp0).1 rfl ?_
    refine go_alen (pc := 23) hΓ d_Trial_take_23 (isT_sh hp0).2 (by decide) ?_
    refine go_icmp_ge 45 (pc := 24) hΓ d_Trial_take_24 (by decide) (fun h3 => go_eq (if_neg h3) ?_) (fun h3 => go_eq (if_pos h3) ?_)
    · refine go_sub' (lv' := []) rfl ?_
      exact hK  μ0
    · refine go_aload_n (q := 0) (i := 0) (pc := 27) hΓ d_Trial_take_27 rfl rfl ?_
      refine go_getR (q := p0 + 1) (pc := 28) hΓ fl_Trial_13 d_Trial_take_28 (isT_sh hp0).1 rfl ?_
      refine go_iload_n (q := 2) (i := 2) (pc := 31) hΓ d_Trial_take_31 rfl rfl ?_
      refine go_aload_n (q := 1) (i := 1) (pc := 32) hΓ d_Trial_take_32 rfl rfl ?_
      refine go_getR (q := p1 + 1) (pc := 33) hΓ fl_Trial_13 d_Trial_take_33 (isT_sh hp1).1 rfl ?_
      refine go_iload_n (q := 2) (i := 2) (pc := 36) hΓ d_Trial_take_36 rfl rfl ?_
      refine go_ck (fun h4 => ?_)
      refine go_lald (pc := 37) hΓ d_Trial_take_37 (isT_sh hp1).2 h4 ?_
      refine go_ck (fun h5 => ?_)
      refine go_last (pc := 38) hΓ d_Trial_take_38 (isT_sh hp0).2 h5 ?_
      refine go_letM (fun μ6 => ?_)
      refine go_incI (q := 2) (i := 2) (n := 1) (c := 1) (pc := 39) hΓ d_Trial_take_39 rfl (by decide) (by decide) (fun v7 => ?_)
      refine go_sub' (lv' := [(2, .int v7), (0, .ref p0), (1, .ref p1)]) rfl ?_
      refine go_goto 18 (pc := 42) hΓ d_Trial_take_42 (by decide) ?_
      refine go_sub' (lv' := [(0, .ref p0), (1, .ref p1), (2, .int v7)]) rfl ?_
      exact ih v7 μ6
set_option maxHeartbeats 4000000 in
set_option maxRecDepth 100000 in
theorem g_Trial_take (N d : Nat) (p0 : Nat) (hp0 : isT p0) (p1 : Nat) (hp1 : isT p1)  : CallF eV y_Trial_take c_Trial_take 3 none (d + 0 + 1) [.ref p0, .ref p1] (f_Trial_take N p0 p1) := by
  refine call_of (d := d + 0) (n := 1) mi_Trial_take.1 (fun _ => rfl) ?_
  intro Γ μ0 hΓ hT hR
  show Go Γ 3 0 [(0, .ref p0), (1, .ref p1)] [] μ0 (f_Trial_take N p0 p1 μ0)
  unfold f_Trial_take
  refine go_aload_n (q := 0) (i := 0) (pc := 0) hΓ d_Trial_take_0 rfl rfl ?_
  refine go_aload_n (q := 1) (i := 1) (pc := 1) hΓ d_Trial_take_1 rfl rfl ?_
  refine go_getI (pc := 2) hΓ fl_Trial_17 d_Trial_take_2 (isT_sh hp1).1 rfl ?_
  refine go_putI (pc := 5) hΓ fp_Trial_17 d_Trial_take_5 (isT_sh hp0).1 rfl ?_
  refine go_letM (fun μ1 => ?_)
  refine go_aload_n (q := 0) (i := 0) (pc := 8) hΓ d_Trial_take_8 rfl rfl ?_
  refine go_aload_n (q := 1) (i := 1) (pc := 9) hΓ d_Trial_take_9 rfl rfl ?_
  refine go_getI (pc := 10) hΓ fl_Trial_21 d_Trial_take_10 (isT_sh hp1).1 rfl ?_
  refine go_putI (pc := 13) hΓ fp_Trial_21 d_Trial_take_13 (isT_sh hp0).1 rfl ?_
  refine go_letM (fun μ2 => ?_)
  refine go_iconst (v := 0) (pc := 16) hΓ d_Trial_take_16 (by decide) ?_
  refine go_istore_n (i := 2) (lv' := [(2, .int 0), (0, .ref p0), (1, .ref p1)]) (pc := 17) hΓ d_Trial_take_17 rfl (by decide) rfl ?_
  refine go_sub' (lv' := [(0, .ref p0), (1, .ref p1), (2, .int 0)]) rfl ?_
  refine glp_Trial_take_18 N d hΓ hT hR p0 p1 hp0 hp1 _ (fun μ8 => ?_) N 0 μ2
  exact go_vret (pc := 45) hΓ hT d_Trial_take_45
def lp_Trial_findUnlike_17 (N : Nat) (p0 : Nat) (p1 : Nat) (x3 : Int32)  (K : Mem → Option (Unit × Mem)) : Nat → Int32 → Mem → Option (Unit × Mem)
  | 0, _, _ => none
  | n + 1, a4, μ0 => if a4 < (gI μ0 p0 2) then (ck (inb a4 4) (ck (inb ((4 * x3) + a4) 32) (ck (inb ((4 * x3) + a4) 32) (ck (inb a4 4) (lt' (sL μ0 32 (tn a4) ((gL μ0 32 (tn a4)) ||| ((gL μ0 (p0 + 1) (tn ((4 * x3) + a4))) ^^^ (gL μ0 (p1 + 1) (tn ((4 * x3) + a4)))))) fun μ9 => lt' (a4 + 1) fun v10 => lp_Trial_findUnlike_17 N p0 p1 x3 K n v10 μ9))))) else (K  μ0)
def lp_Trial_findUnlike_6 (N : Nat) (p0 : Nat) (p1 : Nat)  (K : Mem → Option (Unit × Mem)) : Nat → Int32 → Mem → Option (Unit × Mem)
  | 0, _, _ => none
  | n + 1, a3, μ0 => if a3 < (gI μ0 p0 1) then (lp_Trial_findUnlike_17 N p0 p1 a3 (fun μ11 => lt' (a3 + 1) fun v12 => lp_Trial_findUnlike_6 N p0 p1 K n v12 μ11) N 0 μ0) else (K  μ0)
def f_Trial_findUnlike (N : Nat) (p0 : Nat) (p1 : Nat) (μ0 : Mem) : Option (Unit × Mem) :=
  bnd (f_PatternSet_clear N  μ0) fun _ μ2 => lp_Trial_findUnlike_6 N p0 p1 (fun μ13 => some ((), μ13)) N 0 μ2
set_option maxHeartbeats 4000000 in
set_option maxRecDepth 100000 in
theorem glp_Trial_findUnlike_17 (N d : Nat) {Γ : Cx Unit} (hΓ : Ok Γ "SortingNets$Trial" c_Trial_findUnlike 5) (hT : Rt Γ eV none) (hR : Rm Γ (d + 1)) (p0 : Nat) (p1 : Nat) (x3 : Int32) (hp0 : isT p0) (hp1 : isT p1)   (K : Mem → Option (Unit × Mem)) (hK : ∀  (ν : Mem), Go Γ 5 65 [(0, .ref p0), (1, .ref p1), (2, .ref 31), (3, .int x3)] [] ν (K  ν)) : ∀ (n : Nat) (a4 : Int32) (μ0 : Mem), Go Γ 5 17 [(0, .ref p0), (1, .ref p1), (2, .ref 31), (3, .int x3), (4, .int a4)] [] μ0 (lp_Trial_findUnlike_17 N p0 p1 x3 K n a4 μ0) := by
  intro n
  induction n with
  | zero => intro a4 μ0; exact go_none
  | succ n ih =>
    intro a4 μ0
    rw [lp_Trial_findUnlike_17]
    refine go_iload (q := 4) (pc := 17) hΓ d_Trial_findUnlike_17 rfl ?_
    refine go_aload_n (q := 0) (i := 0) (pc := 19) hΓ d_Trial_findUnlike_19 rfl rfl ?_
    refine go_getI (pc := 20) hΓ fl_Trial_21 d_Trial_findUnlike_20 (isT_sh hp0).1 rfl ?_
    refine go_icmp_ge 65 (pc := 23) hΓ d_Trial_findUnlike_23 (by decide) (fun h4 => go_eq (if_neg h4) ?_) (fun h4 => go_eq (if_pos h4) ?_)
    · refine go_sub' (lv' := [(0, .ref p0), (1, .ref p1), (2, .ref 31), (3, .int x3)]) rfl ?_
      exact hK  μ0
    · refine go_aload_n (q := 2) (i := 2) (pc := 26) hΓ d_Trial_findUnlike_26 rfl rfl ?_
      refine go_getR (q := 32) (pc := 27) hΓ fl_Trial_49 d_Trial_findUnlike_27 rfl rfl ?_
      refine go_iload (q := 4) (pc := 30) hΓ d_Trial_findUnlike_30 rfl ?_
      refine go_dup2 (pc := 32) hΓ d_Trial_findUnlike_32 rfl rfl ?_
      refine go_ck (fun h5 => ?_)
      refine go_lald (pc := 33) hΓ d_Trial_findUnlike_33 rfl h5 ?_
      refine go_aload_n (q := 0) (i := 0) (pc := 34) hΓ d_Trial_findUnlike_34 rfl rfl ?_
      refine go_getR (q := p0 + 1) (pc := 35) hΓ fl_Trial_13 d_Trial_findUnlike_35 (isT_sh hp0).1 rfl ?_
      refine go_iconst (v := 4) (pc := 38) hΓ d_Trial_findUnlike_38 (by decide) ?_
      refine go_iload_n (q := 3) (i := 3) (pc := 39) hΓ d_Trial_findUnlike_39 rfl rfl ?_
      refine go_imul (pc := 40) hΓ d_Trial_findUnlike_40 ?_
      refine go_iload (q := 4) (pc := 41) hΓ d_Trial_findUnlike_41 rfl ?_
      refine go_iadd (pc := 43) hΓ d_Trial_findUnlike_43 ?_
      refine go_ck (fun h6 => ?_)
      refine go_lald (pc := 44) hΓ d_Trial_findUnlike_44 (isT_sh hp0).2 h6 ?_
      refine go_aload_n (q := 1) (i := 1) (pc := 45) hΓ d_Trial_findUnlike_45 rfl rfl ?_
      refine go_getR (q := p1 + 1) (pc := 46) hΓ fl_Trial_13 d_Trial_findUnlike_46 (isT_sh hp1).1 rfl ?_
      refine go_iconst (v := 4) (pc := 49) hΓ d_Trial_findUnlike_49 (by decide) ?_
      refine go_iload_n (q := 3) (i := 3) (pc := 50) hΓ d_Trial_findUnlike_50 rfl rfl ?_
      refine go_imul (pc := 51) hΓ d_Trial_findUnlike_51 ?_
      refine go_iload (q := 4) (pc := 52) hΓ d_Trial_findUnlike_52 rfl ?_
      refine go_iadd (pc := 54) hΓ d_Trial_findUnlike_54 ?_
      refine go_ck (fun h7 => ?_)
      refine go_lald (pc := 55) hΓ d_Trial_findUnlike_55 (isT_sh hp1).2 h7 ?_
      refine go_lxor (pc := 56) hΓ d_Trial_findUnlike_56 ?_
      refine go_lor (pc := 57) hΓ d_Trial_findUnlike_57 ?_
      refine go_ck (fun h8 => ?_)
      refine go_last (pc := 58) hΓ d_Trial_findUnlike_58 rfl h8 ?_
      refine go_letM (fun μ9 => ?_)
      refine go_incI (q := 4) (i := 4) (n := 1) (c := 1) (pc := 59) hΓ d_Trial_findUnlike_59 rfl (by decide) (by decide) (fun v10 => ?_)
      refine go_sub' (lv' := [(4, .int v10), (0, .ref p0), (1, .ref p1), (2, .ref 31), (3, .int x3)]) rfl ?_
      refine go_goto 17 (pc := 62) hΓ d_Trial_findUnlike_62 (by decide) ?_
      refine go_sub' (lv' := [(0, .ref p0), (1, .ref p1), (2, .ref 31), (3, .int x3), (4, .int v10)]) rfl ?_
      exact ih v10 μ9
set_option maxHeartbeats 4000000 in
set_option maxRecDepth 100000 in
theorem glp_Trial_findUnlike_6 (N d : Nat) {Γ : Cx Unit} (hΓ : Ok Γ "SortingNets$Trial" c_Trial_findUnlike 5) (hT : Rt Γ eV none) (hR : Rm Γ (d + 1)) (p0 : Nat) (p1 : Nat) (hp0 : isT p0) (hp1 : isT p1)   (K : Mem → Option (Unit × Mem)) (hK : ∀  (ν : Mem), Go Γ 5 71 [] [] ν (K  ν)) : ∀ (n : Nat) (a3 : Int32) (μ0 : Mem), Go Γ 5 6 [(0, .ref p0), (1, .ref p1), (2, .ref 31), (3, .int a3)] [] μ0 (lp_Trial_findUnlike_6 N p0 p1 K n a3 μ0) := by
  intro n
  induction n with
  | zero => intro a3 μ0; exact go_none
  | succ n ih =>
    intro a3 μ0
    rw [lp_Trial_findUnlike_6]
    refine go_iload_n (q := 3) (i := 3) (pc := 6) hΓ d_Trial_findUnlike_6 rfl rfl ?_
    refine go_aload_n (q := 0) (i := 0) (pc := 7) hΓ d_Trial_findUnlike_7 rfl rfl ?_
    refine go_getI (pc := 8) hΓ fl_Trial_17 d_Trial_findUnlike_8 (isT_sh hp0).1 rfl ?_
    refine go_icmp_ge 71 (pc := 11) hΓ d_Trial_findUnlike_11 (by decide) (fun h3 => go_eq (if_neg h3) ?_) (fun h3 => go_eq (if_pos h3) ?_)
    · refine go_sub' (lv' := []) rfl ?_
      exact hK  μ0
    · refine go_iconst (v := 0) (pc := 14) hΓ d_Trial_findUnlike_14 (by decide) ?_
      refine go_istore (lv' := [(4, .int 0), (0, .ref p0), (1, .ref p1), (2, .ref 31), (3, .int a3)]) (pc := 15) hΓ d_Trial_findUnlike_15 (by decide) rfl ?_
      refine go_sub' (lv' := [(0, .ref p0), (1, .ref p1), (2, .ref 31), (3, .int a3), (4, .int 0)]) rfl ?_
      refine glp_Trial_findUnlike_17 N d hΓ hT hR p0 p1 a3 hp0 hp1 _ (fun μ11 => ?_) N 0 μ0
      refine go_incI (q := 3) (i := 3) (n := 1) (c := 1) (pc := 65) hΓ d_Trial_findUnlike_65 rfl (by decide) (by decide) (fun v12 => ?_)
      refine go_sub' (lv' := [(3, .int v12), (0, .ref p0), (1, .ref p1), (2, .ref 31)]) rfl ?_
      refine go_goto 6 (pc := 68) hΓ d_Trial_findUnlike_68 (by decide) ?_
      refine go_sub' (lv' := [(0, .ref p0), (1, .ref p1), (2, .ref 31), (3, .int v12)]) rfl ?_
      exact ih v12 μ11
set_option maxHeartbeats 4000000 in
set_option maxRecDepth 100000 in
theorem g_Trial_findUnlike (N d : Nat) (p0 : Nat) (hp0 : isT p0) (p1 : Nat) (hp1 : isT p1)  : CallF eV y_Trial_findUnlike c_Trial_findUnlike 5 none (d + 1 + 1) [.ref p0, .ref p1, .ref 31] (f_Trial_findUnlike N p0 p1) := by
  refine call_of (d := d + 1) (n := 2) mi_Trial_findUnlike.1 (fun _ => rfl) ?_
  intro Γ μ0 hΓ hT hR
  show Go Γ 5 0 [(0, .ref p0), (1, .ref p1), (2, .ref 31)] [] μ0 (f_Trial_findUnlike N p0 p1 μ0)
  unfold f_Trial_findUnlike
  refine go_aload_n (q := 2) (i := 2) (pc := 0) hΓ d_Trial_findUnlike_0 rfl rfl ?_
  refine go_callV (index := 46) emV hΓ hR (g_PatternSet_clear N (d + 0) ) mi_PatternSet_clear ml_Trial_46 d_Trial_findUnlike_1 rfl rfl rfl rfl rfl (fun _ μ2 => ?_)
  show Go Γ 5 4 [(0, .ref p0), (1, .ref p1), (2, .ref 31)] [] μ2 _
  refine go_iconst (v := 0) (pc := 4) hΓ d_Trial_findUnlike_4 (by decide) ?_
  refine go_istore_n (i := 3) (lv' := [(3, .int 0), (0, .ref p0), (1, .ref p1), (2, .ref 31)]) (pc := 5) hΓ d_Trial_findUnlike_5 rfl (by decide) rfl ?_
  refine go_sub' (lv' := [(0, .ref p0), (1, .ref p1), (2, .ref 31), (3, .int 0)]) rfl ?_
  refine glp_Trial_findUnlike_6 N d hΓ hT hR p0 p1 hp0 hp1 _ (fun μ13 => ?_) N 0 μ2
  exact go_vret (pc := 71) hΓ hT d_Trial_findUnlike_71
def f_Sets_exchanged (N : Nat) (x0 : Int64) (x2 : Int32) (x3 : Int32) (μ0 : Mem) : Option (Int64 × Mem) :=
  if x2 = x3 then (some (x0, μ0)) else (lt' ((shlI 1 x3) - (shlI 1 x2)) fun v2 => ck (inb x2 6) (ck (inb x3 6) (lt' ((colf (tn x2)) &&& ((colf (tn x3)) ^^^ (-1))) fun v5 => ck (inb x3 6) (ck (inb x2 6) (lt' ((colf (tn x3)) &&& ((colf (tn x2)) ^^^ (-1))) fun v8 => some (((x0 &&& ((v5 ||| v8) ^^^ (-1))) ||| (shlL (x0 &&& v5) v2)) ||| (ushL (x0 &&& v8) v2), μ0))))))
set_option maxHeartbeats 4000000 in
set_option maxRecDepth 100000 in
theorem g_Sets_exchanged (N d : Nat) (x0 : Int64) (x2 : Int32) (x3 : Int32)  : CallF eL y_Sets_exchanged c_Sets_exchanged 9 (some .long) (d + 0 + 1) [.long x0, .int x2, .int x3] (f_Sets_exchanged N x0 x2 x3) := by
  refine call_of (d := d + 0) (n := 3) mi_Sets_exchanged.1 (fun _ => rfl) ?_
  intro Γ μ0 hΓ hT hR
  show Go Γ 9 0 [(0, .long x0), (2, .int x2), (3, .int x3)] [] μ0 (f_Sets_exchanged N x0 x2 x3 μ0)
  unfold f_Sets_exchanged
  refine go_iload_n (q := 1) (i := 2) (pc := 0) hΓ d_Sets_exchanged_0 rfl rfl ?_
  refine go_iload_n (q := 2) (i := 3) (pc := 1) hΓ d_Sets_exchanged_1 rfl rfl ?_
  refine go_icmp_ne 7 (pc := 2) hΓ d_Sets_exchanged_2 (by decide) (fun h1 => go_eq (if_neg h1) ?_) (fun h1 => go_eq (if_pos h1) ?_)
  · refine go_iconst (v := 1) (pc := 7) hΓ d_Sets_exchanged_7 (by decide) ?_
    refine go_iload_n (q := 2) (i := 3) (pc := 8) hΓ d_Sets_exchanged_8 rfl rfl ?_
    refine go_ishl (pc := 9) hΓ d_Sets_exchanged_9 ?_
    refine go_iconst (v := 1) (pc := 10) hΓ d_Sets_exchanged_10 (by decide) ?_
    refine go_iload_n (q := 1) (i := 2) (pc := 11) hΓ d_Sets_exchanged_11 rfl rfl ?_
    refine go_ishl (pc := 12) hΓ d_Sets_exchanged_12 ?_
    refine go_isub (pc := 13) hΓ d_Sets_exchanged_13 ?_
    refine go_letI (fun v2 => ?_)
    refine go_istore (lv' := [(4, .int v2), (0, .long x0), (2, .int x2), (3, .int x3)]) (pc := 14) hΓ d_Sets_exchanged_14 (by decide) rfl ?_
    refine go_col2 (pc := 16) hΓ d_Sets_exchanged_16 ?_
    refine go_iload_n (q := 2) (i := 2) (pc := 19) hΓ d_Sets_exchanged_19 rfl rfl ?_
    refine go_ck (fun h3 => ?_)
    refine go_cold (pc := 20) hΓ d_Sets_exchanged_20 h3 ?_
    refine go_col2 (pc := 21) hΓ d_Sets_exchanged_21 ?_
    refine go_iload_n (q := 3) (i := 3) (pc := 24) hΓ d_Sets_exchanged_24 rfl rfl ?_
    refine go_ck (fun h4 => ?_)
    refine go_cold (pc := 25) hΓ d_Sets_exchanged_25 h4 ?_
    refine go_ldc2 (v := -1) (pc := 26) hΓ (tb_3 (List.mem_of_getElem? (i := 169) rfl) rfl) d_Sets_exchanged_26 ?_
    refine go_lxor (pc := 29) hΓ d_Sets_exchanged_29 ?_
    refine go_land (pc := 30) hΓ d_Sets_exchanged_30 ?_
    refine go_letL (fun v5 => ?_)
    refine go_lstore (lv' := [(5, .long v5), (4, .int v2), (0, .long x0), (2, .int x2), (3, .int x3)]) (pc := 31) hΓ d_Sets_exchanged_31 (by decide) rfl ?_
    refine go_col2 (pc := 33) hΓ d_Sets_exchanged_33 ?_
    refine go_iload_n (q := 4) (i := 3) (pc := 36) hΓ d_Sets_exchanged_36 rfl rfl ?_
    refine go_ck (fun h6 => ?_)
    refine go_cold (pc := 37) hΓ d_Sets_exchanged_37 h6 ?_
    refine go_col2 (pc := 38) hΓ d_Sets_exchanged_38 ?_
    refine go_iload_n (q := 3) (i := 2) (pc := 41) hΓ d_Sets_exchanged_41 rfl rfl ?_
    refine go_ck (fun h7 => ?_)
    refine go_cold (pc := 42) hΓ d_Sets_exchanged_42 h7 ?_
    refine go_ldc2 (v := -1) (pc := 43) hΓ (tb_3 (List.mem_of_getElem? (i := 169) rfl) rfl) d_Sets_exchanged_43 ?_
    refine go_lxor (pc := 46) hΓ d_Sets_exchanged_46 ?_
    refine go_land (pc := 47) hΓ d_Sets_exchanged_47 ?_
    refine go_letL (fun v8 => ?_)
    refine go_lstore (lv' := [(7, .long v8), (5, .long v5), (4, .int v2), (0, .long x0), (2, .int x2), (3, .int x3)]) (pc := 48) hΓ d_Sets_exchanged_48 (by decide) rfl ?_
    refine go_lload_n (q := 3) (i := 0) (pc := 50) hΓ d_Sets_exchanged_50 rfl rfl ?_
    refine go_lload (q := 1) (pc := 51) hΓ d_Sets_exchanged_51 rfl ?_
    refine go_lload (q := 0) (pc := 53) hΓ d_Sets_exchanged_53 rfl ?_
    refine go_lor (pc := 55) hΓ d_Sets_exchanged_55 ?_
    refine go_ldc2 (v := -1) (pc := 56) hΓ (tb_3 (List.mem_of_getElem? (i := 169) rfl) rfl) d_Sets_exchanged_56 ?_
    refine go_lxor (pc := 59) hΓ d_Sets_exchanged_59 ?_
    refine go_land (pc := 60) hΓ d_Sets_exchanged_60 ?_
    refine go_lload_n (q := 3) (i := 0) (pc := 61) hΓ d_Sets_exchanged_61 rfl rfl ?_
    refine go_lload (q := 1) (pc := 62) hΓ d_Sets_exchanged_62 rfl ?_
    refine go_land (pc := 64) hΓ d_Sets_exchanged_64 ?_
    refine go_iload (q := 2) (pc := 65) hΓ d_Sets_exchanged_65 rfl ?_
    refine go_lshl (pc := 67) hΓ d_Sets_exchanged_67 ?_
    refine go_lor (pc := 68) hΓ d_Sets_exchanged_68 ?_
    refine go_lload_n (q := 3) (i := 0) (pc := 69) hΓ d_Sets_exchanged_69 rfl rfl ?_
    refine go_lload (q := 0) (pc := 70) hΓ d_Sets_exchanged_70 rfl ?_
    refine go_land (pc := 72) hΓ d_Sets_exchanged_72 ?_
    refine go_iload (q := 2) (pc := 73) hΓ d_Sets_exchanged_73 rfl ?_
    refine go_lushr (pc := 75) hΓ d_Sets_exchanged_75 ?_
    refine go_lor (pc := 76) hΓ d_Sets_exchanged_76 ?_
    exact go_lret (pc := 77) hΓ hT d_Sets_exchanged_77
  · refine go_lload_n (q := 0) (i := 0) (pc := 5) hΓ d_Sets_exchanged_5 rfl rfl ?_
    exact go_lret (pc := 6) hΓ hT d_Sets_exchanged_6
def f_Sets_mayFit (N : Nat) (x0 : Int64) (x2 : Int64) (x4 : Int64) (μ0 : Mem) : Option (Int32 × Mem) :=
  bnd (f_JLong_bitCount N (x0 &&& x4) μ0) fun r1 μ2 => bnd (f_JLong_bitCount N (x2 &&& x4) μ2) fun r3 μ4 => if r3 < r1 then (some (0, μ4)) else (bnd (f_JLong_bitCount N (x0 &&& (x4 ^^^ (-1))) μ4) fun r6 μ7 => bnd (f_JLong_bitCount N (x2 &&& (x4 ^^^ (-1))) μ7) fun r8 μ9 => if r8 < r6 then (some (0, μ9)) else (some (1, μ9)))
set_option maxHeartbeats 4000000 in
set_option maxRecDepth 100000 in
theorem g_Sets_mayFit (N d : Nat) (x0 : Int64) (x2 : Int64) (x4 : Int64)  : CallF eI y_Sets_mayFit c_Sets_mayFit 6 (some .boolean) (d + 1 + 1) [.long x0, .long x2, .long x4] (f_Sets_mayFit N x0 x2 x4) := by
  refine call_of (d := d + 1) (n := 3) mi_Sets_mayFit.1 (fun _ => rfl) ?_
  intro Γ μ0 hΓ hT hR
  show Go Γ 6 0 [(0, .long x0), (2, .long x2), (4, .long x4)] [] μ0 (f_Sets_mayFit N x0 x2 x4 μ0)
  unfold f_Sets_mayFit
  refine go_lload_n (q := 0) (i := 0) (pc := 0) hΓ d_Sets_mayFit_0 rfl rfl ?_
  refine go_lload (q := 2) (pc := 1) hΓ d_Sets_mayFit_1 rfl ?_
  refine go_land (pc := 3) hΓ d_Sets_mayFit_3 ?_
  refine go_callS (index := 29) emI hΓ hR (g_JLong_bitCount N (d + 0) (x0 &&& x4)) mi_JLong_bitCount ml_Sets_29 d_Sets_mayFit_4 rfl rfl rfl (fun r1 μ2 => ?_)
  show Go Γ 6 7 [(0, .long x0), (2, .long x2), (4, .long x4)] [.int r1] μ2 _
  refine go_lload_n (q := 1) (i := 2) (pc := 7) hΓ d_Sets_mayFit_7 rfl rfl ?_
  refine go_lload (q := 2) (pc := 8) hΓ d_Sets_mayFit_8 rfl ?_
  refine go_land (pc := 10) hΓ d_Sets_mayFit_10 ?_
  refine go_callS (index := 29) emI hΓ hR (g_JLong_bitCount N (d + 0) (x2 &&& x4)) mi_JLong_bitCount ml_Sets_29 d_Sets_mayFit_11 rfl rfl rfl (fun r3 μ4 => ?_)
  show Go Γ 6 14 [(0, .long x0), (2, .long x2), (4, .long x4)] [.int r3, .int r1] μ4 _
  refine go_icmp_gt 46 (pc := 14) hΓ d_Sets_mayFit_14 (by decide) (fun h5 => go_eq (if_pos h5) ?_) (fun h5 => go_eq (if_neg h5) ?_)
  · refine go_iconst (v := 0) (pc := 46) hΓ d_Sets_mayFit_46 (by decide) ?_
    exact go_zret (pc := 47) hΓ hT d_Sets_mayFit_47 rfl
  · refine go_lload_n (q := 0) (i := 0) (pc := 17) hΓ d_Sets_mayFit_17 rfl rfl ?_
    refine go_lload (q := 2) (pc := 18) hΓ d_Sets_mayFit_18 rfl ?_
    refine go_ldc2 (v := -1) (pc := 20) hΓ (tb_3 (List.mem_of_getElem? (i := 169) rfl) rfl) d_Sets_mayFit_20 ?_
    refine go_lxor (pc := 23) hΓ d_Sets_mayFit_23 ?_
    refine go_land (pc := 24) hΓ d_Sets_mayFit_24 ?_
    refine go_callS (index := 29) emI hΓ hR (g_JLong_bitCount N (d + 0) (x0 &&& (x4 ^^^ (-1)))) mi_JLong_bitCount ml_Sets_29 d_Sets_mayFit_25 rfl rfl rfl (fun r6 μ7 => ?_)
    show Go Γ 6 28 [(0, .long x0), (2, .long x2), (4, .long x4)] [.int r6] μ7 _
    refine go_lload_n (q := 1) (i := 2) (pc := 28) hΓ d_Sets_mayFit_28 rfl rfl ?_
    refine go_lload (q := 2) (pc := 29) hΓ d_Sets_mayFit_29 rfl ?_
    refine go_ldc2 (v := -1) (pc := 31) hΓ (tb_3 (List.mem_of_getElem? (i := 169) rfl) rfl) d_Sets_mayFit_31 ?_
    refine go_lxor (pc := 34) hΓ d_Sets_mayFit_34 ?_
    refine go_land (pc := 35) hΓ d_Sets_mayFit_35 ?_
    refine go_callS (index := 29) emI hΓ hR (g_JLong_bitCount N (d + 0) (x2 &&& (x4 ^^^ (-1)))) mi_JLong_bitCount ml_Sets_29 d_Sets_mayFit_36 rfl rfl rfl (fun r8 μ9 => ?_)
    show Go Γ 6 39 [(0, .long x0), (2, .long x2), (4, .long x4)] [.int r8, .int r6] μ9 _
    refine go_icmp_gt 46 (pc := 39) hΓ d_Sets_mayFit_39 (by decide) (fun h10 => go_eq (if_pos h10) ?_) (fun h10 => go_eq (if_neg h10) ?_)
    · refine go_iconst (v := 0) (pc := 46) hΓ d_Sets_mayFit_46 (by decide) ?_
      exact go_zret (pc := 47) hΓ hT d_Sets_mayFit_47 rfl
    · refine go_iconst (v := 1) (pc := 42) hΓ d_Sets_mayFit_42 (by decide) ?_
      refine go_goto 47 (pc := 43) hΓ d_Sets_mayFit_43 (by decide) ?_
      exact go_zret (pc := 47) hΓ hT d_Sets_mayFit_47 rfl
def lp_Sets_waysWithin_40 (N : Nat) (x0 : Int64) (x2 : Int64) (x4 : Int32) (x5 : Int32) (x6 : Int32) (F : Int64 → Int64 → Int32 → Int32 → Int32 → Mem → Option (Int32 × Mem)) (K : Int32 → Mem → Option (Int32 × Mem)) : Nat → Int32 → Int32 → Mem → Option (Int32 × Mem)
  | 0, _, _, _ => none
  | n + 1, a7, a8, μ0 => if a8 < x4 then (if a7 < x6 then (bnd (f_Sets_exchanged N x0 x5 a8 μ0) fun r7 μ8 => ck (inb x5 6) (bnd (f_Sets_mayFit N r7 x2 (colf (tn x5)) μ8) fun r10 μ11 => lt' (fun (w13 : Int32) (μ14 : Mem) => lt' (a8 + 1) fun v15 => lp_Sets_waysWithin_40 N x0 x2 x4 x5 x6 F K n w13 v15 μ14) fun (k12 : Int32 → Mem → Option (Int32 × Mem)) => if r10 = 0 then (k12 a7 μ11) else (bnd (F r7 x2 x4 (x5 + 1) (x6 - a7) μ11) fun r17 μ18 => lt' (a7 + r17) fun v19 => k12 v19 μ18))) else (K a7 μ0)) else (K a7 μ0)
def f_Sets_waysWithin (N : Nat) : Nat → Int64 → Int64 → Int32 → Int32 → Int32 → Mem → Option (Int32 × Mem)
  | 0, _, _, _, _, _, _ => none
  | D + 1, x0, x2, x4, x5, x6, μ0 => lt' (fun (_ : Unit) => if (lg_cmp (x0 &&& (x2 ^^^ (-1))) 0) = 0 then (some (1, μ0)) else (some (0, μ0))) fun (k1 : Unit → Option (Int32 × Mem)) => if x5 < (x4 - 1) then (if x5 < 5 then (lp_Sets_waysWithin_40 N x0 x2 x4 x5 x6 (f_Sets_waysWithin N D) (fun v20 μ21 => some (v20, μ21)) N 0 x5 μ0) else (k1 ())) else (k1 ())
set_option maxHeartbeats 4000000 in
set_option maxRecDepth 100000 in
theorem glp_Sets_waysWithin_40 (N d D : Nat) {Γ : Cx Int32} (hΓ : Ok Γ "SortingNets$Sets" c_Sets_waysWithin 11) (hT : Rt Γ eI (some .int)) (hR : Rm Γ (d + D + 2)) (x0 : Int64) (x2 : Int64) (x4 : Int32) (x5 : Int32) (x6 : Int32)  (F : Int64 → Int64 → Int32 → Int32 → Int32 → Mem → Option (Int32 × Mem)) (hF : ∀ (x0 : Int64) (x2 : Int64) (x4 : Int32) (x5 : Int32) (x6 : Int32), CallF eI y_Sets_waysWithin c_Sets_waysWithin 11 (some .int) (d + D + 2) [.long x0, .long x2, .int x4, .int x5, .int x6] (F x0 x2 x4 x5 x6)) (K : Int32 → Mem → Option (Int32 × Mem)) (hK : ∀ (b7 : Int32) (ν : Mem), Go Γ 11 107 [(7, .int b7)] [] ν (K b7 ν)) : ∀ (n : Nat) (a7 : Int32) (a8 : Int32) (μ0 : Mem), Go Γ 11 40 [(0, .long x0), (2, .long x2), (4, .int x4), (5, .int x5), (6, .int x6), (7, .int a7), (8, .int a8)] [] μ0 (lp_Sets_waysWithin_40 N x0 x2 x4 x5 x6 F K n a7 a8 μ0) := by
  intro n
  induction n with
  | zero => intro a7 a8 μ0; exact go_none
  | succ n ih =>
    intro a7 a8 μ0
    rw [lp_Sets_waysWithin_40]
    refine go_iload (q := 6) (pc := 40) hΓ d_Sets_waysWithin_40 rfl ?_
    refine go_iload (q := 2) (pc := 42) hΓ d_Sets_waysWithin_42 rfl ?_
    refine go_icmp_ge 107 (pc := 44) hΓ d_Sets_waysWithin_44 (by decide) (fun h5 => go_eq (if_neg h5) ?_) (fun h5 => go_eq (if_pos h5) ?_)
    · refine go_sub' (lv' := [(7, .int a7)]) rfl ?_
      exact hK a7 μ0
    · refine go_iload (q := 5) (pc := 47) hΓ d_Sets_waysWithin_47 rfl ?_
      refine go_iload (q := 4) (pc := 49) hΓ d_Sets_waysWithin_49 rfl ?_
      refine go_icmp_ge 107 (pc := 51) hΓ d_Sets_waysWithin_51 (by decide) (fun h6 => go_eq (if_neg h6) ?_) (fun h6 => go_eq (if_pos h6) ?_)
      · refine go_sub' (lv' := [(7, .int a7)]) rfl ?_
        exact hK a7 μ0
      · refine go_lload_n (q := 0) (i := 0) (pc := 54) hΓ d_Sets_waysWithin_54 rfl rfl ?_
        refine go_iload (q := 3) (pc := 55) hΓ d_Sets_waysWithin_55 rfl ?_
        refine go_iload (q := 6) (pc := 57) hΓ d_Sets_waysWithin_57 rfl ?_
        refine go_callS (index := 15) emL hΓ hR (g_Sets_exchanged N (d + D + 1) x0 x5 a8) mi_Sets_exchanged ml_Sets_15 d_Sets_waysWithin_59 rfl rfl rfl (fun r7 μ8 => ?_)
        show Go Γ 11 62 [(0, .long x0), (2, .long x2), (4, .int x4), (5, .int x5), (6, .int x6), (7, .int a7), (8, .int a8)] [.long r7] μ8 _
        refine go_lstore (lv' := [(9, .long r7), (0, .long x0), (2, .long x2), (4, .int x4), (5, .int x5), (6, .int x6), (7, .int a7), (8, .int a8)]) (pc := 62) hΓ d_Sets_waysWithin_62 (by decide) rfl ?_
        refine go_lload (q := 0) (pc := 64) hΓ d_Sets_waysWithin_64 rfl ?_
        refine go_lload_n (q := 2) (i := 2) (pc := 66) hΓ d_Sets_waysWithin_66 rfl rfl ?_
        refine go_col2 (pc := 67) hΓ d_Sets_waysWithin_67 ?_
        refine go_iload (q := 4) (pc := 70) hΓ d_Sets_waysWithin_70 rfl ?_
        refine go_ck (fun h9 => ?_)
        refine go_cold (pc := 72) hΓ d_Sets_waysWithin_72 h9 ?_
        refine go_callS (index := 21) emI hΓ hR (g_Sets_mayFit N (d + D + 0) r7 x2 (colf (tn x5))) mi_Sets_mayFit ml_Sets_21 d_Sets_waysWithin_73 rfl rfl rfl (fun r10 μ11 => ?_)
        show Go Γ 11 76 [(9, .long r7), (0, .long x0), (2, .long x2), (4, .int x4), (5, .int x5), (6, .int x6), (7, .int a7), (8, .int a8)] [.int r10] μ11 _
        refine go_join (fun (k12 : Int32 → Mem → Option (Int32 × Mem)) => ∀ (w13 : Int32) (μ14 : Mem), Go Γ 11 101 [(0, .long x0), (2, .long x2), (4, .int x4), (5, .int x5), (6, .int x6), (7, .int w13), (8, .int a8)] [] μ14 (k12 w13 μ14)) ?_ (fun k12 k12h => ?_)
        · intro w13 μ14
          refine go_incI (q := 6) (i := 8) (n := 1) (c := 1) (pc := 101) hΓ d_Sets_waysWithin_101 rfl (by decide) (by decide) (fun v15 => ?_)
          refine go_sub' (lv' := [(8, .int v15), (0, .long x0), (2, .long x2), (4, .int x4), (5, .int x5), (6, .int x6), (7, .int w13)]) rfl ?_
          refine go_goto 40 (pc := 104) hΓ d_Sets_waysWithin_104 (by decide) ?_
          refine go_sub' (lv' := [(0, .long x0), (2, .long x2), (4, .int x4), (5, .int x5), (6, .int x6), (7, .int w13), (8, .int v15)]) rfl ?_
          exact ih w13 v15 μ14
        · refine go_if_eq 101 (pc := 76) hΓ d_Sets_waysWithin_76 (by decide) (fun h16 => go_eq (if_pos h16) ?_) (fun h16 => go_eq (if_neg h16) ?_)
          · refine go_sub' (lv' := [(0, .long x0), (2, .long x2), (4, .int x4), (5, .int x5), (6, .int x6), (7, .int a7), (8, .int a8)]) rfl ?_
            exact k12h a7 μ11
          · refine go_iload (q := 6) (pc := 79) hΓ d_Sets_waysWithin_79 rfl ?_
            refine go_lload (q := 0) (pc := 81) hΓ d_Sets_waysWithin_81 rfl ?_
            refine go_lload_n (q := 2) (i := 2) (pc := 83) hΓ d_Sets_waysWithin_83 rfl rfl ?_
            refine go_iload (q := 3) (pc := 84) hΓ d_Sets_waysWithin_84 rfl ?_
            refine go_iload (q := 4) (pc := 86) hΓ d_Sets_waysWithin_86 rfl ?_
            refine go_iconst (v := 1) (pc := 88) hΓ d_Sets_waysWithin_88 (by decide) ?_
            refine go_iadd (pc := 89) hΓ d_Sets_waysWithin_89 ?_
            refine go_iload (q := 5) (pc := 90) hΓ d_Sets_waysWithin_90 rfl ?_
            refine go_iload (q := 6) (pc := 92) hΓ d_Sets_waysWithin_92 rfl ?_
            refine go_isub (pc := 94) hΓ d_Sets_waysWithin_94 ?_
            refine go_callS (index := 25) emI hΓ hR (hF r7 x2 x4 (x5 + 1) (x6 - a7)) mi_Sets_waysWithin ml_Sets_25 d_Sets_waysWithin_95 rfl rfl rfl (fun r17 μ18 => ?_)
            show Go Γ 11 98 [(9, .long r7), (0, .long x0), (2, .long x2), (4, .int x4), (5, .int x5), (6, .int x6), (7, .int a7), (8, .int a8)] [.int r17, .int a7] μ18 _
            refine go_iadd (pc := 98) hΓ d_Sets_waysWithin_98 ?_
            refine go_letI (fun v19 => ?_)
            refine go_istore (lv' := [(7, .int v19), (9, .long r7), (0, .long x0), (2, .long x2), (4, .int x4), (5, .int x5), (6, .int x6), (8, .int a8)]) (pc := 99) hΓ d_Sets_waysWithin_99 (by decide) rfl ?_
            refine go_sub' (lv' := [(0, .long x0), (2, .long x2), (4, .int x4), (5, .int x5), (6, .int x6), (7, .int v19), (8, .int a8)]) rfl ?_
            exact k12h v19 μ18
set_option maxHeartbeats 4000000 in
set_option maxRecDepth 100000 in
theorem g_Sets_waysWithin (N : Nat) : ∀ (D d : Nat) (x0 : Int64) (x2 : Int64) (x4 : Int32) (x5 : Int32) (x6 : Int32), CallF eI y_Sets_waysWithin c_Sets_waysWithin 11 (some .int) (d + D + 2) [.long x0, .long x2, .int x4, .int x5, .int x6] (f_Sets_waysWithin N D x0 x2 x4 x5 x6) := by
  intro D
  induction D with
  | zero => intro d x0 x2 x4 x5 x6 l D ad kA μ r μ' h; cases h
  | succ D ih =>
    intro d x0 x2 x4 x5 x6
    refine call_of (d := d + D + 2) (n := 5) mi_Sets_waysWithin.1 (fun _ => rfl) ?_
    intro Γ μ0 hΓ hT hR
    show Go Γ 11 0 [(0, .long x0), (2, .long x2), (4, .int x4), (5, .int x5), (6, .int x6)] [] μ0 (f_Sets_waysWithin N (D + 1) x0 x2 x4 x5 x6 μ0)
    have hF := ih d
    rw [f_Sets_waysWithin]
    refine go_iload (q := 3) (pc := 0) hΓ d_Sets_waysWithin_0 rfl ?_
    refine go_iload (q := 2) (pc := 2) hΓ d_Sets_waysWithin_2 rfl ?_
    refine go_iconst (v := 1) (pc := 4) hΓ d_Sets_waysWithin_4 (by decide) ?_
    refine go_isub (pc := 5) hΓ d_Sets_waysWithin_5 ?_
    refine go_join (fun (k1 : Unit → Option (Int32 × Mem)) => ∀ (_ : Unit), Go Γ 11 15 [(0, .long x0), (2, .long x2)] [] μ0 (k1 ())) ?_ (fun k1 k1h => ?_)
    · intro _
      refine go_lload_n (q := 0) (i := 0) (pc := 15) hΓ d_Sets_waysWithin_15 rfl rfl ?_
      refine go_lload_n (q := 1) (i := 2) (pc := 16) hΓ d_Sets_waysWithin_16 rfl rfl ?_
      refine go_ldc2 (v := -1) (pc := 17) hΓ (tb_3 (List.mem_of_getElem? (i := 169) rfl) rfl) d_Sets_waysWithin_17 ?_
      refine go_lxor (pc := 20) hΓ d_Sets_waysWithin_20 ?_
      refine go_land (pc := 21) hΓ d_Sets_waysWithin_21 ?_
      refine go_lconst (v := 0) (pc := 22) hΓ d_Sets_waysWithin_22 (by decide) ?_
      refine go_lcmp (pc := 23) hΓ d_Sets_waysWithin_23 ?_
      refine go_if_ne 31 (pc := 24) hΓ d_Sets_waysWithin_24 (by decide) (fun h2 => go_eq (if_neg h2) ?_) (fun h2 => go_eq (if_pos h2) ?_)
      · refine go_iconst (v := 0) (pc := 31) hΓ d_Sets_waysWithin_31 (by decide) ?_
        exact go_iret (pc := 32) hΓ hT d_Sets_waysWithin_32
      · refine go_iconst (v := 1) (pc := 27) hΓ d_Sets_waysWithin_27 (by decide) ?_
        refine go_goto 32 (pc := 28) hΓ d_Sets_waysWithin_28 (by decide) ?_
        exact go_iret (pc := 32) hΓ hT d_Sets_waysWithin_32
    · refine go_icmp_ge 15 (pc := 6) hΓ d_Sets_waysWithin_6 (by decide) (fun h3 => go_eq (if_neg h3) ?_) (fun h3 => go_eq (if_pos h3) ?_)
      · refine go_sub' (lv' := [(0, .long x0), (2, .long x2)]) rfl ?_
        exact k1h ()
      · refine go_iload (q := 3) (pc := 9) hΓ d_Sets_waysWithin_9 rfl ?_
        refine go_iconst (v := 5) (pc := 11) hΓ d_Sets_waysWithin_11 (by decide) ?_
        refine go_icmp_lt 33 (pc := 12) hΓ d_Sets_waysWithin_12 (by decide) (fun h4 => go_eq (if_pos h4) ?_) (fun h4 => go_eq (if_neg h4) ?_)
        · refine go_iconst (v := 0) (pc := 33) hΓ d_Sets_waysWithin_33 (by decide) ?_
          refine go_istore (lv' := [(7, .int 0), (0, .long x0), (2, .long x2), (4, .int x4), (5, .int x5), (6, .int x6)]) (pc := 34) hΓ d_Sets_waysWithin_34 (by decide) rfl ?_
          refine go_iload (q := 4) (pc := 36) hΓ d_Sets_waysWithin_36 rfl ?_
          refine go_istore (lv' := [(8, .int x5), (7, .int 0), (0, .long x0), (2, .long x2), (4, .int x4), (5, .int x5), (6, .int x6)]) (pc := 38) hΓ d_Sets_waysWithin_38 (by decide) rfl ?_
          refine go_sub' (lv' := [(0, .long x0), (2, .long x2), (4, .int x4), (5, .int x5), (6, .int x6), (7, .int 0), (8, .int x5)]) rfl ?_
          refine glp_Sets_waysWithin_40 N d D hΓ hT hR x0 x2 x4 x5 x6 _ hF _ (fun v20 μ21 => ?_) N 0 x5 μ0
          refine go_iload (q := 0) (pc := 107) hΓ d_Sets_waysWithin_107 rfl ?_
          exact go_iret (pc := 109) hΓ hT d_Sets_waysWithin_109
        · refine go_sub' (lv' := [(0, .long x0), (2, .long x2)]) rfl ?_
          exact k1h ()
def lp_Search_listPairs_21 (N : Nat) (x1 : Int32)  (K : Mem → Option (Unit × Mem)) : Nat → Int32 → Mem → Option (Unit × Mem)
  | 0, _, _ => none
  | n + 1, a2, μ0 => if a2 < (gI μ0 38 5) then (if (gI μ0 38 6) < 10 then (ck (inb (gI μ0 38 6) 10) (lt' (sI μ0 39 (tn (gI μ0 38 6)) x1) fun μ7 => ck (inb (gI μ7 38 6) 10) (lt' (sI μ7 40 (tn (gI μ7 38 6)) a2) fun μ9 => lt' (sI μ9 38 6 ((gI μ9 38 6) + 1)) fun μ10 => lt' (a2 + 1) fun v11 => lp_Search_listPairs_21 N x1 K n v11 μ10))) else (K  μ0)) else (K  μ0)
def lp_Search_listPairs_7 (N : Nat)   (K : Mem → Option (Unit × Mem)) : Nat → Int32 → Mem → Option (Unit × Mem)
  | 0, _, _ => none
  | n + 1, a1, μ0 => if a1 < ((gI μ0 38 5) - 1) then (lt' (a1 + 1) fun v3 => lp_Search_listPairs_21 N a1 (fun μ12 => lt' (a1 + 1) fun v13 => lp_Search_listPairs_7 N K n v13 μ12) N v3 μ0) else (K  μ0)
def f_Search_listPairs (N : Nat)  (μ0 : Mem) : Option (Unit × Mem) :=
  lt' (sI μ0 38 6 0) fun μ1 => lp_Search_listPairs_7 N  (fun μ14 => some ((), μ14)) N 0 μ1
set_option maxHeartbeats 4000000 in
set_option maxRecDepth 100000 in
theorem glp_Search_listPairs_21 (N d : Nat) {Γ : Cx Unit} (hΓ : Ok Γ "SortingNets$Search" c_Search_listPairs 3) (hT : Rt Γ eV none) (hR : Rm Γ (d + 0)) (x1 : Int32)    (K : Mem → Option (Unit × Mem)) (hK : ∀  (ν : Mem), Go Γ 3 74 [(0, .ref 38), (1, .int x1)] [] ν (K  ν)) : ∀ (n : Nat) (a2 : Int32) (μ0 : Mem), Go Γ 3 21 [(0, .ref 38), (1, .int x1), (2, .int a2)] [] μ0 (lp_Search_listPairs_21 N x1 K n a2 μ0) := by
  intro n
  induction n with
  | zero => intro a2 μ0; exact go_none
  | succ n ih =>
    intro a2 μ0
    rw [lp_Search_listPairs_21]
    refine go_iload_n (q := 2) (i := 2) (pc := 21) hΓ d_Search_listPairs_21 rfl rfl ?_
    refine go_aload_n (q := 0) (i := 0) (pc := 22) hΓ d_Search_listPairs_22 rfl rfl ?_
    refine go_getI (pc := 23) hΓ fl_Search_26 d_Search_listPairs_23 rfl rfl ?_
    refine go_icmp_ge 74 (pc := 26) hΓ d_Search_listPairs_26 (by decide) (fun h4 => go_eq (if_neg h4) ?_) (fun h4 => go_eq (if_pos h4) ?_)
    · refine go_sub' (lv' := [(0, .ref 38), (1, .int x1)]) rfl ?_
      exact hK  μ0
    · refine go_aload_n (q := 0) (i := 0) (pc := 29) hΓ d_Search_listPairs_29 rfl rfl ?_
      refine go_getI (pc := 30) hΓ fl_Search_30 d_Search_listPairs_30 rfl rfl ?_
      refine go_bipush (v := 10) (pc := 33) hΓ d_Search_listPairs_33 (by decide) ?_
      refine go_icmp_ge 74 (pc := 35) hΓ d_Search_listPairs_35 (by decide) (fun h5 => go_eq (if_neg h5) ?_) (fun h5 => go_eq (if_pos h5) ?_)
      · refine go_sub' (lv' := [(0, .ref 38), (1, .int x1)]) rfl ?_
        exact hK  μ0
      · refine go_aload_n (q := 0) (i := 0) (pc := 38) hΓ d_Search_listPairs_38 rfl rfl ?_
        refine go_getR (q := 39) (pc := 39) hΓ fl_Search_9 d_Search_listPairs_39 rfl rfl ?_
        refine go_aload_n (q := 0) (i := 0) (pc := 42) hΓ d_Search_listPairs_42 rfl rfl ?_
        refine go_getI (pc := 43) hΓ fl_Search_30 d_Search_listPairs_43 rfl rfl ?_
        refine go_iload_n (q := 1) (i := 1) (pc := 46) hΓ d_Search_listPairs_46 rfl rfl ?_
        refine go_ck (fun h6 => ?_)
        refine go_iast (pc := 47) hΓ d_Search_listPairs_47 rfl h6 ?_
        refine go_letM (fun μ7 => ?_)
        refine go_aload_n (q := 0) (i := 0) (pc := 48) hΓ d_Search_listPairs_48 rfl rfl ?_
        refine go_getR (q := 40) (pc := 49) hΓ fl_Search_13 d_Search_listPairs_49 rfl rfl ?_
        refine go_aload_n (q := 0) (i := 0) (pc := 52) hΓ d_Search_listPairs_52 rfl rfl ?_
        refine go_getI (pc := 53) hΓ fl_Search_30 d_Search_listPairs_53 rfl rfl ?_
        refine go_iload_n (q := 2) (i := 2) (pc := 56) hΓ d_Search_listPairs_56 rfl rfl ?_
        refine go_ck (fun h8 => ?_)
        refine go_iast (pc := 57) hΓ d_Search_listPairs_57 rfl h8 ?_
        refine go_letM (fun μ9 => ?_)
        refine go_aload_n (q := 0) (i := 0) (pc := 58) hΓ d_Search_listPairs_58 rfl rfl ?_
        refine go_dup (pc := 59) hΓ d_Search_listPairs_59 rfl ?_
        refine go_getI (pc := 60) hΓ fl_Search_30 d_Search_listPairs_60 rfl rfl ?_
        refine go_iconst (v := 1) (pc := 63) hΓ d_Search_listPairs_63 (by decide) ?_
        refine go_iadd (pc := 64) hΓ d_Search_listPairs_64 ?_
        refine go_putI (pc := 65) hΓ fp_Search_30 d_Search_listPairs_65 rfl rfl ?_
        refine go_letM (fun μ10 => ?_)
        refine go_incI (q := 2) (i := 2) (n := 1) (c := 1) (pc := 68) hΓ d_Search_listPairs_68 rfl (by decide) (by decide) (fun v11 => ?_)
        refine go_sub' (lv' := [(2, .int v11), (0, .ref 38), (1, .int x1)]) rfl ?_
        refine go_goto 21 (pc := 71) hΓ d_Search_listPairs_71 (by decide) ?_
        refine go_sub' (lv' := [(0, .ref 38), (1, .int x1), (2, .int v11)]) rfl ?_
        exact ih v11 μ10
set_option maxHeartbeats 4000000 in
set_option maxRecDepth 100000 in
theorem glp_Search_listPairs_7 (N d : Nat) {Γ : Cx Unit} (hΓ : Ok Γ "SortingNets$Search" c_Search_listPairs 3) (hT : Rt Γ eV none) (hR : Rm Γ (d + 0))     (K : Mem → Option (Unit × Mem)) (hK : ∀  (ν : Mem), Go Γ 3 80 [] [] ν (K  ν)) : ∀ (n : Nat) (a1 : Int32) (μ0 : Mem), Go Γ 3 7 [(0, .ref 38), (1, .int a1)] [] μ0 (lp_Search_listPairs_7 N K n a1 μ0) := by
  intro n
  induction n with
  | zero => intro a1 μ0; exact go_none
  | succ n ih =>
    intro a1 μ0
    rw [lp_Search_listPairs_7]
    refine go_iload_n (q := 1) (i := 1) (pc := 7) hΓ d_Search_listPairs_7 rfl rfl ?_
    refine go_aload_n (q := 0) (i := 0) (pc := 8) hΓ d_Search_listPairs_8 rfl rfl ?_
    refine go_getI (pc := 9) hΓ fl_Search_26 d_Search_listPairs_9 rfl rfl ?_
    refine go_iconst (v := 1) (pc := 12) hΓ d_Search_listPairs_12 (by decide) ?_
    refine go_isub (pc := 13) hΓ d_Search_listPairs_13 ?_
    refine go_icmp_ge 80 (pc := 14) hΓ d_Search_listPairs_14 (by decide) (fun h2 => go_eq (if_neg h2) ?_) (fun h2 => go_eq (if_pos h2) ?_)
    · refine go_sub' (lv' := []) rfl ?_
      exact hK  μ0
    · refine go_iload_n (q := 1) (i := 1) (pc := 17) hΓ d_Search_listPairs_17 rfl rfl ?_
      refine go_iconst (v := 1) (pc := 18) hΓ d_Search_listPairs_18 (by decide) ?_
      refine go_iadd (pc := 19) hΓ d_Search_listPairs_19 ?_
      refine go_letI (fun v3 => ?_)
      refine go_istore_n (i := 2) (lv' := [(2, .int v3), (0, .ref 38), (1, .int a1)]) (pc := 20) hΓ d_Search_listPairs_20 rfl (by decide) rfl ?_
      refine go_sub' (lv' := [(0, .ref 38), (1, .int a1), (2, .int v3)]) rfl ?_
      refine glp_Search_listPairs_21 N d hΓ hT hR a1 _ (fun μ12 => ?_) N v3 μ0
      refine go_incI (q := 1) (i := 1) (n := 1) (c := 1) (pc := 74) hΓ d_Search_listPairs_74 rfl (by decide) (by decide) (fun v13 => ?_)
      refine go_sub' (lv' := [(1, .int v13), (0, .ref 38)]) rfl ?_
      refine go_goto 7 (pc := 77) hΓ d_Search_listPairs_77 (by decide) ?_
      refine go_sub' (lv' := [(0, .ref 38), (1, .int v13)]) rfl ?_
      exact ih v13 μ12
set_option maxHeartbeats 4000000 in
set_option maxRecDepth 100000 in
theorem g_Search_listPairs (N d : Nat)   : CallF eV y_Search_listPairs c_Search_listPairs 3 none (d + 0 + 1) [.ref 38] (f_Search_listPairs N ) := by
  refine call_of (d := d + 0) (n := 0) mi_Search_listPairs.1 (fun _ => rfl) ?_
  intro Γ μ0 hΓ hT hR
  show Go Γ 3 0 [(0, .ref 38)] [] μ0 (f_Search_listPairs N  μ0)
  unfold f_Search_listPairs
  refine go_aload_n (q := 0) (i := 0) (pc := 0) hΓ d_Search_listPairs_0 rfl rfl ?_
  refine go_iconst (v := 0) (pc := 1) hΓ d_Search_listPairs_1 (by decide) ?_
  refine go_putI (pc := 2) hΓ fp_Search_30 d_Search_listPairs_2 rfl rfl ?_
  refine go_letM (fun μ1 => ?_)
  refine go_iconst (v := 0) (pc := 5) hΓ d_Search_listPairs_5 (by decide) ?_
  refine go_istore_n (i := 1) (lv' := [(1, .int 0), (0, .ref 38)]) (pc := 6) hΓ d_Search_listPairs_6 rfl (by decide) rfl ?_
  refine go_sub' (lv' := [(0, .ref 38), (1, .int 0)]) rfl ?_
  refine glp_Search_listPairs_7 N d hΓ hT hR  _ (fun μ14 => ?_) N 0 μ1
  exact go_vret (pc := 80) hΓ hT d_Search_listPairs_80
def lp_Search_isLayer_4 (N : Nat) (x1 : Int32)  (K : Mem → Option (Int32 × Mem)) : Nat → Int32 → Int32 → Mem → Option (Int32 × Mem)
  | 0, _, _, _ => none
  | n + 1, a2, a3, μ0 => if a3 < (gI μ0 38 6) then (lt' (fun (w3 : Int32) => lt' (a3 + 1) fun v4 => lp_Search_isLayer_4 N x1 K n w3 v4 μ0) fun (k2 : Int32 → Option (Int32 × Mem)) => if ((shrI x1 a3) &&& 1) = 1 then (ck (inb a3 10) (ck (inb a3 10) (lt' ((shlI 1 (gI μ0 39 (tn a3))) ||| (shlI 1 (gI μ0 40 (tn a3)))) fun v8 => if (a2 &&& v8) = 0 then (lt' (a2 ||| v8) fun v10 => k2 v10) else (some (0, μ0))))) else (k2 a2)) else (K  μ0)
def f_Search_isLayer (N : Nat) (x1 : Int32) (μ0 : Mem) : Option (Int32 × Mem) :=
  lp_Search_isLayer_4 N x1 (fun μ11 => some (1, μ11)) N 0 0 μ0
set_option maxHeartbeats 4000000 in
set_option maxRecDepth 100000 in
theorem glp_Search_isLayer_4 (N d : Nat) {Γ : Cx Int32} (hΓ : Ok Γ "SortingNets$Search" c_Search_isLayer 5) (hT : Rt Γ eI (some .boolean)) (hR : Rm Γ (d + 0)) (x1 : Int32)    (K : Mem → Option (Int32 × Mem)) (hK : ∀  (ν : Mem), Go Γ 5 60 [] [] ν (K  ν)) : ∀ (n : Nat) (a2 : Int32) (a3 : Int32) (μ0 : Mem), Go Γ 5 4 [(0, .ref 38), (1, .int x1), (2, .int a2), (3, .int a3)] [] μ0 (lp_Search_isLayer_4 N x1 K n a2 a3 μ0) := by
  intro n
  induction n with
  | zero => intro a2 a3 μ0; exact go_none
  | succ n ih =>
    intro a2 a3 μ0
    rw [lp_Search_isLayer_4]
    refine go_iload_n (q := 3) (i := 3) (pc := 4) hΓ d_Search_isLayer_4 rfl rfl ?_
    refine go_aload_n (q := 0) (i := 0) (pc := 5) hΓ d_Search_isLayer_5 rfl rfl ?_
    refine go_getI (pc := 6) hΓ fl_Search_30 d_Search_isLayer_6 rfl rfl ?_
    refine go_icmp_ge 60 (pc := 9) hΓ d_Search_isLayer_9 (by decide) (fun h1 => go_eq (if_neg h1) ?_) (fun h1 => go_eq (if_pos h1) ?_)
    · refine go_sub' (lv' := []) rfl ?_
      exact hK  μ0
    · refine go_iload_n (q := 1) (i := 1) (pc := 12) hΓ d_Search_isLayer_12 rfl rfl ?_
      refine go_iload_n (q := 3) (i := 3) (pc := 13) hΓ d_Search_isLayer_13 rfl rfl ?_
      refine go_ishr (pc := 14) hΓ d_Search_isLayer_14 ?_
      refine go_iconst (v := 1) (pc := 15) hΓ d_Search_isLayer_15 (by decide) ?_
      refine go_iand (pc := 16) hΓ d_Search_isLayer_16 ?_
      refine go_iconst (v := 1) (pc := 17) hΓ d_Search_isLayer_17 (by decide) ?_
      refine go_join (fun (k2 : Int32 → Option (Int32 × Mem)) => ∀ (w3 : Int32), Go Γ 5 54 [(0, .ref 38), (1, .int x1), (2, .int w3), (3, .int a3)] [] μ0 (k2 w3)) ?_ (fun k2 k2h => ?_)
      · intro w3
        refine go_incI (q := 3) (i := 3) (n := 1) (c := 1) (pc := 54) hΓ d_Search_isLayer_54 rfl (by decide) (by decide) (fun v4 => ?_)
        refine go_sub' (lv' := [(3, .int v4), (0, .ref 38), (1, .int x1), (2, .int w3)]) rfl ?_
        refine go_goto 4 (pc := 57) hΓ d_Search_isLayer_57 (by decide) ?_
        refine go_sub' (lv' := [(0, .ref 38), (1, .int x1), (2, .int w3), (3, .int v4)]) rfl ?_
        exact ih w3 v4 μ0
      · refine go_icmp_ne 54 (pc := 18) hΓ d_Search_isLayer_18 (by decide) (fun h5 => go_eq (if_neg h5) ?_) (fun h5 => go_eq (if_pos h5) ?_)
        · refine go_sub' (lv' := [(0, .ref 38), (1, .int x1), (2, .int a2), (3, .int a3)]) rfl ?_
          exact k2h a2
        · refine go_iconst (v := 1) (pc := 21) hΓ d_Search_isLayer_21 (by decide) ?_
          refine go_aload_n (q := 0) (i := 0) (pc := 22) hΓ d_Search_isLayer_22 rfl rfl ?_
          refine go_getR (q := 39) (pc := 23) hΓ fl_Search_9 d_Search_isLayer_23 rfl rfl ?_
          refine go_iload_n (q := 3) (i := 3) (pc := 26) hΓ d_Search_isLayer_26 rfl rfl ?_
          refine go_ck (fun h6 => ?_)
          refine go_iald (pc := 27) hΓ d_Search_isLayer_27 rfl h6 ?_
          refine go_ishl (pc := 28) hΓ d_Search_isLayer_28 ?_
          refine go_iconst (v := 1) (pc := 29) hΓ d_Search_isLayer_29 (by decide) ?_
          refine go_aload_n (q := 0) (i := 0) (pc := 30) hΓ d_Search_isLayer_30 rfl rfl ?_
          refine go_getR (q := 40) (pc := 31) hΓ fl_Search_13 d_Search_isLayer_31 rfl rfl ?_
          refine go_iload_n (q := 3) (i := 3) (pc := 34) hΓ d_Search_isLayer_34 rfl rfl ?_
          refine go_ck (fun h7 => ?_)
          refine go_iald (pc := 35) hΓ d_Search_isLayer_35 rfl h7 ?_
          refine go_ishl (pc := 36) hΓ d_Search_isLayer_36 ?_
          refine go_ior (pc := 37) hΓ d_Search_isLayer_37 ?_
          refine go_letI (fun v8 => ?_)
          refine go_istore (lv' := [(4, .int v8), (0, .ref 38), (1, .int x1), (2, .int a2), (3, .int a3)]) (pc := 38) hΓ d_Search_isLayer_38 (by decide) rfl ?_
          refine go_iload_n (q := 3) (i := 2) (pc := 40) hΓ d_Search_isLayer_40 rfl rfl ?_
          refine go_iload (q := 0) (pc := 41) hΓ d_Search_isLayer_41 rfl ?_
          refine go_iand (pc := 43) hΓ d_Search_isLayer_43 ?_
          refine go_if_eq 49 (pc := 44) hΓ d_Search_isLayer_44 (by decide) (fun h9 => go_eq (if_pos h9) ?_) (fun h9 => go_eq (if_neg h9) ?_)
          · refine go_iload_n (q := 3) (i := 2) (pc := 49) hΓ d_Search_isLayer_49 rfl rfl ?_
            refine go_iload (q := 0) (pc := 50) hΓ d_Search_isLayer_50 rfl ?_
            refine go_ior (pc := 52) hΓ d_Search_isLayer_52 ?_
            refine go_letI (fun v10 => ?_)
            refine go_istore_n (i := 2) (lv' := [(2, .int v10), (4, .int v8), (0, .ref 38), (1, .int x1), (3, .int a3)]) (pc := 53) hΓ d_Search_isLayer_53 rfl (by decide) rfl ?_
            refine go_sub' (lv' := [(0, .ref 38), (1, .int x1), (2, .int v10), (3, .int a3)]) rfl ?_
            exact k2h v10
          · refine go_iconst (v := 0) (pc := 47) hΓ d_Search_isLayer_47 (by decide) ?_
            exact go_zret (pc := 48) hΓ hT d_Search_isLayer_48 rfl
set_option maxHeartbeats 4000000 in
set_option maxRecDepth 100000 in
theorem g_Search_isLayer (N d : Nat) (x1 : Int32)  : CallF eI y_Search_isLayer c_Search_isLayer 5 (some .boolean) (d + 0 + 1) [.ref 38, .int x1] (f_Search_isLayer N x1) := by
  refine call_of (d := d + 0) (n := 1) mi_Search_isLayer.1 (fun _ => rfl) ?_
  intro Γ μ0 hΓ hT hR
  show Go Γ 5 0 [(0, .ref 38), (1, .int x1)] [] μ0 (f_Search_isLayer N x1 μ0)
  unfold f_Search_isLayer
  refine go_iconst (v := 0) (pc := 0) hΓ d_Search_isLayer_0 (by decide) ?_
  refine go_istore_n (i := 2) (lv' := [(2, .int 0), (0, .ref 38), (1, .int x1)]) (pc := 1) hΓ d_Search_isLayer_1 rfl (by decide) rfl ?_
  refine go_iconst (v := 0) (pc := 2) hΓ d_Search_isLayer_2 (by decide) ?_
  refine go_istore_n (i := 3) (lv' := [(3, .int 0), (2, .int 0), (0, .ref 38), (1, .int x1)]) (pc := 3) hΓ d_Search_isLayer_3 rfl (by decide) rfl ?_
  refine go_sub' (lv' := [(0, .ref 38), (1, .int x1), (2, .int 0), (3, .int 0)]) rfl ?_
  refine glp_Search_isLayer_4 N d hΓ hT hR x1 _ (fun μ11 => ?_) N 0 0 μ0
  refine go_iconst (v := 1) (pc := 60) hΓ d_Search_isLayer_60 (by decide) ?_
  exact go_zret (pc := 61) hΓ hT d_Search_isLayer_61 rfl
def lp_Search_listMoves_7 (N : Nat) (x1 : Int32)  (K : Mem → Option (Unit × Mem)) : Nat → Int32 → Mem → Option (Unit × Mem)
  | 0, _, _ => none
  | n + 1, a2, μ0 => if a2 < (shlI 1 (gI μ0 38 6)) then (if (gI μ0 38 7) < 26 then (bnd (f_JInt_bitCount N a2 μ0) fun r4 μ5 => lt' (fun (μ7 : Mem) => lt' (a2 + 1) fun v8 => lp_Search_listMoves_7 N x1 K n v8 μ7) fun (k6 : Mem → Option (Unit × Mem)) => lt' (fun (μ10 : Mem) => ck (inb (gI μ10 38 7) 26) (lt' (sI μ10 41 (tn (gI μ10 38 7)) a2) fun μ12 => lt' (sI μ12 38 7 ((gI μ12 38 7) + 1)) fun μ13 => k6 μ13)) fun (k9 : Mem → Option (Unit × Mem)) => if r4 = 1 then (k9 μ5) else (if x1 = 0 then (k6 μ5) else (bnd (f_Search_isLayer N a2 μ5) fun r16 μ17 => if r16 = 0 then (k6 μ17) else (k9 μ17)))) else (K  μ0)) else (K  μ0)
def f_Search_listMoves (N : Nat) (x1 : Int32) (μ0 : Mem) : Option (Unit × Mem) :=
  lt' (sI μ0 38 7 0) fun μ1 => lp_Search_listMoves_7 N x1 (fun μ19 => some ((), μ19)) N 1 μ1
set_option maxHeartbeats 4000000 in
set_option maxRecDepth 100000 in
theorem glp_Search_listMoves_7 (N d : Nat) {Γ : Cx Unit} (hΓ : Ok Γ "SortingNets$Search" c_Search_listMoves 3) (hT : Rt Γ eV none) (hR : Rm Γ (d + 1)) (x1 : Int32)    (K : Mem → Option (Unit × Mem)) (hK : ∀  (ν : Mem), Go Γ 3 72 [] [] ν (K  ν)) : ∀ (n : Nat) (a2 : Int32) (μ0 : Mem), Go Γ 3 7 [(0, .ref 38), (1, .int x1), (2, .int a2)] [] μ0 (lp_Search_listMoves_7 N x1 K n a2 μ0) := by
  intro n
  induction n with
  | zero => intro a2 μ0; exact go_none
  | succ n ih =>
    intro a2 μ0
    rw [lp_Search_listMoves_7]
    refine go_iload_n (q := 2) (i := 2) (pc := 7) hΓ d_Search_listMoves_7 rfl rfl ?_
    refine go_iconst (v := 1) (pc := 8) hΓ d_Search_listMoves_8 (by decide) ?_
    refine go_aload_n (q := 0) (i := 0) (pc := 9) hΓ d_Search_listMoves_9 rfl rfl ?_
    refine go_getI (pc := 10) hΓ fl_Search_30 d_Search_listMoves_10 rfl rfl ?_
    refine go_ishl (pc := 13) hΓ d_Search_listMoves_13 ?_
    refine go_icmp_ge 72 (pc := 14) hΓ d_Search_listMoves_14 (by decide) (fun h2 => go_eq (if_neg h2) ?_) (fun h2 => go_eq (if_pos h2) ?_)
    · refine go_sub' (lv' := []) rfl ?_
      exact hK  μ0
    · refine go_aload_n (q := 0) (i := 0) (pc := 17) hΓ d_Search_listMoves_17 rfl rfl ?_
      refine go_getI (pc := 18) hΓ fl_Search_33 d_Search_listMoves_18 rfl rfl ?_
      refine go_bipush (v := 26) (pc := 21) hΓ d_Search_listMoves_21 (by decide) ?_
      refine go_icmp_ge 72 (pc := 23) hΓ d_Search_listMoves_23 (by decide) (fun h3 => go_eq (if_neg h3) ?_) (fun h3 => go_eq (if_pos h3) ?_)
      · refine go_sub' (lv' := []) rfl ?_
        exact hK  μ0
      · refine go_iload_n (q := 2) (i := 2) (pc := 26) hΓ d_Search_listMoves_26 rfl rfl ?_
        refine go_callS (index := 71) emI hΓ hR (g_JInt_bitCount N (d + 0) a2) mi_JInt_bitCount ml_Search_71 d_Search_listMoves_27 rfl rfl rfl (fun r4 μ5 => ?_)
        show Go Γ 3 30 [(0, .ref 38), (1, .int x1), (2, .int a2)] [.int r4] μ5 _
        refine go_iconst (v := 1) (pc := 30) hΓ d_Search_listMoves_30 (by decide) ?_
        refine go_join (fun (k6 : Mem → Option (Unit × Mem)) => ∀ (μ7 : Mem), Go Γ 3 66 [(0, .ref 38), (1, .int x1), (2, .int a2)] [] μ7 (k6 μ7)) ?_ (fun k6 k6h => ?_)
        · intro μ7
          refine go_incI (q := 2) (i := 2) (n := 1) (c := 1) (pc := 66) hΓ d_Search_listMoves_66 rfl (by decide) (by decide) (fun v8 => ?_)
          refine go_sub' (lv' := [(2, .int v8), (0, .ref 38), (1, .int x1)]) rfl ?_
          refine go_goto 7 (pc := 69) hΓ d_Search_listMoves_69 (by decide) ?_
          refine go_sub' (lv' := [(0, .ref 38), (1, .int x1), (2, .int v8)]) rfl ?_
          exact ih v8 μ7
        · refine go_join (fun (k9 : Mem → Option (Unit × Mem)) => ∀ (μ10 : Mem), Go Γ 3 46 [(0, .ref 38), (1, .int x1), (2, .int a2)] [] μ10 (k9 μ10)) ?_ (fun k9 k9h => ?_)
          · intro μ10
            refine go_aload_n (q := 0) (i := 0) (pc := 46) hΓ d_Search_listMoves_46 rfl rfl ?_
            refine go_getR (q := 41) (pc := 47) hΓ fl_Search_16 d_Search_listMoves_47 rfl rfl ?_
            refine go_aload_n (q := 0) (i := 0) (pc := 50) hΓ d_Search_listMoves_50 rfl rfl ?_
            refine go_getI (pc := 51) hΓ fl_Search_33 d_Search_listMoves_51 rfl rfl ?_
            refine go_iload_n (q := 2) (i := 2) (pc := 54) hΓ d_Search_listMoves_54 rfl rfl ?_
            refine go_ck (fun h11 => ?_)
            refine go_iast (pc := 55) hΓ d_Search_listMoves_55 rfl h11 ?_
            refine go_letM (fun μ12 => ?_)
            refine go_aload_n (q := 0) (i := 0) (pc := 56) hΓ d_Search_listMoves_56 rfl rfl ?_
            refine go_dup (pc := 57) hΓ d_Search_listMoves_57 rfl ?_
            refine go_getI (pc := 58) hΓ fl_Search_33 d_Search_listMoves_58 rfl rfl ?_
            refine go_iconst (v := 1) (pc := 61) hΓ d_Search_listMoves_61 (by decide) ?_
            refine go_iadd (pc := 62) hΓ d_Search_listMoves_62 ?_
            refine go_putI (pc := 63) hΓ fp_Search_33 d_Search_listMoves_63 rfl rfl ?_
            refine go_letM (fun μ13 => ?_)
            refine go_sub' (lv' := [(0, .ref 38), (1, .int x1), (2, .int a2)]) rfl ?_
            exact k6h μ13
          · refine go_icmp_eq 46 (pc := 31) hΓ d_Search_listMoves_31 (by decide) (fun h14 => go_eq (if_pos h14) ?_) (fun h14 => go_eq (if_neg h14) ?_)
            · refine go_sub' (lv' := [(0, .ref 38), (1, .int x1), (2, .int a2)]) rfl ?_
              exact k9h μ5
            · refine go_iload_n (q := 1) (i := 1) (pc := 34) hΓ d_Search_listMoves_34 rfl rfl ?_
              refine go_if_eq 66 (pc := 35) hΓ d_Search_listMoves_35 (by decide) (fun h15 => go_eq (if_pos h15) ?_) (fun h15 => go_eq (if_neg h15) ?_)
              · refine go_sub' (lv' := [(0, .ref 38), (1, .int x1), (2, .int a2)]) rfl ?_
                exact k6h μ5
              · refine go_aload_n (q := 0) (i := 0) (pc := 38) hΓ d_Search_listMoves_38 rfl rfl ?_
                refine go_iload_n (q := 2) (i := 2) (pc := 39) hΓ d_Search_listMoves_39 rfl rfl ?_
                refine go_callV (index := 77) emI hΓ hR (g_Search_isLayer N (d + 0) a2) mi_Search_isLayer ml_Search_77 d_Search_listMoves_40 rfl rfl rfl rfl rfl (fun r16 μ17 => ?_)
                show Go Γ 3 43 [(0, .ref 38), (1, .int x1), (2, .int a2)] [.int r16] μ17 _
                refine go_if_eq 66 (pc := 43) hΓ d_Search_listMoves_43 (by decide) (fun h18 => go_eq (if_pos h18) ?_) (fun h18 => go_eq (if_neg h18) ?_)
                · refine go_sub' (lv' := [(0, .ref 38), (1, .int x1), (2, .int a2)]) rfl ?_
                  exact k6h μ17
                · refine go_sub' (lv' := [(0, .ref 38), (1, .int x1), (2, .int a2)]) rfl ?_
                  exact k9h μ17
set_option maxHeartbeats 4000000 in
set_option maxRecDepth 100000 in
theorem g_Search_listMoves (N d : Nat) (x1 : Int32)  : CallF eV y_Search_listMoves c_Search_listMoves 3 none (d + 1 + 1) [.ref 38, .int x1] (f_Search_listMoves N x1) := by
  refine call_of (d := d + 1) (n := 1) mi_Search_listMoves.1 (fun _ => rfl) ?_
  intro Γ μ0 hΓ hT hR
  show Go Γ 3 0 [(0, .ref 38), (1, .int x1)] [] μ0 (f_Search_listMoves N x1 μ0)
  unfold f_Search_listMoves
  refine go_aload_n (q := 0) (i := 0) (pc := 0) hΓ d_Search_listMoves_0 rfl rfl ?_
  refine go_iconst (v := 0) (pc := 1) hΓ d_Search_listMoves_1 (by decide) ?_
  refine go_putI (pc := 2) hΓ fp_Search_33 d_Search_listMoves_2 rfl rfl ?_
  refine go_letM (fun μ1 => ?_)
  refine go_iconst (v := 1) (pc := 5) hΓ d_Search_listMoves_5 (by decide) ?_
  refine go_istore_n (i := 2) (lv' := [(2, .int 1), (0, .ref 38), (1, .int x1)]) (pc := 6) hΓ d_Search_listMoves_6 rfl (by decide) rfl ?_
  refine go_sub' (lv' := [(0, .ref 38), (1, .int x1), (2, .int 1)]) rfl ?_
  refine glp_Search_listMoves_7 N d hΓ hT hR x1 _ (fun μ19 => ?_) N 1 μ1
  exact go_vret (pc := 72) hΓ hT d_Search_listMoves_72
def f_Sets_all (N : Nat) (x0 : Int32) (μ0 : Mem) : Option (Int64 × Mem) :=
  if x0 < 6 then (some ((shlL 1 (shlI 1 x0)) - 1, μ0)) else (some ((-1), μ0))
set_option maxHeartbeats 4000000 in
set_option maxRecDepth 100000 in
theorem g_Sets_all (N d : Nat) (x0 : Int32)  : CallF eL y_Sets_all c_Sets_all 1 (some .long) (d + 0 + 1) [.int x0] (f_Sets_all N x0) := by
  refine call_of (d := d + 0) (n := 1) mi_Sets_all.1 (fun _ => rfl) ?_
  intro Γ μ0 hΓ hT hR
  show Go Γ 1 0 [(0, .int x0)] [] μ0 (f_Sets_all N x0 μ0)
  unfold f_Sets_all
  refine go_iload_n (q := 0) (i := 0) (pc := 0) hΓ d_Sets_all_0 rfl rfl ?_
  refine go_bipush (v := 6) (pc := 1) hΓ d_Sets_all_1 (by decide) ?_
  refine go_icmp_lt 12 (pc := 3) hΓ d_Sets_all_3 (by decide) (fun h1 => go_eq (if_pos h1) ?_) (fun h1 => go_eq (if_neg h1) ?_)
  · refine go_lconst (v := 1) (pc := 12) hΓ d_Sets_all_12 (by decide) ?_
    refine go_iconst (v := 1) (pc := 13) hΓ d_Sets_all_13 (by decide) ?_
    refine go_iload_n (q := 0) (i := 0) (pc := 14) hΓ d_Sets_all_14 rfl rfl ?_
    refine go_ishl (pc := 15) hΓ d_Sets_all_15 ?_
    refine go_lshl (pc := 16) hΓ d_Sets_all_16 ?_
    refine go_lconst (v := 1) (pc := 17) hΓ d_Sets_all_17 (by decide) ?_
    refine go_lsub (pc := 18) hΓ d_Sets_all_18 ?_
    exact go_lret (pc := 19) hΓ hT d_Sets_all_19
  · refine go_ldc2 (v := -1) (pc := 6) hΓ (tb_3 (List.mem_of_getElem? (i := 169) rfl) rfl) d_Sets_all_6 ?_
    refine go_goto 19 (pc := 9) hΓ d_Sets_all_9 (by decide) ?_
    exact go_lret (pc := 19) hΓ hT d_Sets_all_19
def lp_Search_isOver_2 (N : Nat)   (K : Mem → Option (Int32 × Mem)) : Nat → Int32 → Mem → Option (Int32 × Mem)
  | 0, _, _ => none
  | n + 1, a1, μ0 => if a1 < (gI μ0 38 8) then (ck (inb a1 64) (bnd (f_JLong_bitCount N (gL μ0 42 (tn a1)) μ0) fun r3 μ4 => if r3 = ((gI μ4 38 5) + 1) then (some (1, μ4)) else (lt' (a1 + 1) fun v6 => lp_Search_isOver_2 N K n v6 μ4))) else (K  μ0)
def f_Search_isOver (N : Nat)  (μ0 : Mem) : Option (Int32 × Mem) :=
  lp_Search_isOver_2 N  (fun μ7 => some (0, μ7)) N 0 μ0
set_option maxHeartbeats 4000000 in
set_option maxRecDepth 100000 in
theorem glp_Search_isOver_2 (N d : Nat) {Γ : Cx Int32} (hΓ : Ok Γ "SortingNets$Search" c_Search_isOver 2) (hT : Rt Γ eI (some .boolean)) (hR : Rm Γ (d + 1))     (K : Mem → Option (Int32 × Mem)) (hK : ∀  (ν : Mem), Go Γ 2 36 [] [] ν (K  ν)) : ∀ (n : Nat) (a1 : Int32) (μ0 : Mem), Go Γ 2 2 [(0, .ref 38), (1, .int a1)] [] μ0 (lp_Search_isOver_2 N K n a1 μ0) := by
  intro n
  induction n with
  | zero => intro a1 μ0; exact go_none
  | succ n ih =>
    intro a1 μ0
    rw [lp_Search_isOver_2]
    refine go_iload_n (q := 1) (i := 1) (pc := 2) hΓ d_Search_isOver_2 rfl rfl ?_
    refine go_aload_n (q := 0) (i := 0) (pc := 3) hΓ d_Search_isOver_3 rfl rfl ?_
    refine go_getI (pc := 4) hΓ fl_Search_36 d_Search_isOver_4 rfl rfl ?_
    refine go_icmp_ge 36 (pc := 7) hΓ d_Search_isOver_7 (by decide) (fun h1 => go_eq (if_neg h1) ?_) (fun h1 => go_eq (if_pos h1) ?_)
    · refine go_sub' (lv' := []) rfl ?_
      exact hK  μ0
    · refine go_aload_n (q := 0) (i := 0) (pc := 10) hΓ d_Search_isOver_10 rfl rfl ?_
      refine go_getR (q := 42) (pc := 11) hΓ fl_Search_19 d_Search_isOver_11 rfl rfl ?_
      refine go_iload_n (q := 1) (i := 1) (pc := 14) hΓ d_Search_isOver_14 rfl rfl ?_
      refine go_ck (fun h2 => ?_)
      refine go_lald (pc := 15) hΓ d_Search_isOver_15 rfl h2 ?_
      refine go_callS (index := 81) emI hΓ hR (g_JLong_bitCount N (d + 0) (gL μ0 42 (tn a1))) mi_JLong_bitCount ml_Search_81 d_Search_isOver_16 rfl rfl rfl (fun r3 μ4 => ?_)
      show Go Γ 2 19 [(0, .ref 38), (1, .int a1)] [.int r3] μ4 _
      refine go_aload_n (q := 0) (i := 0) (pc := 19) hΓ d_Search_isOver_19 rfl rfl ?_
      refine go_getI (pc := 20) hΓ fl_Search_26 d_Search_isOver_20 rfl rfl ?_
      refine go_iconst (v := 1) (pc := 23) hΓ d_Search_isOver_23 (by decide) ?_
      refine go_iadd (pc := 24) hΓ d_Search_isOver_24 ?_
      refine go_icmp_ne 30 (pc := 25) hΓ d_Search_isOver_25 (by decide) (fun h5 => go_eq (if_neg h5) ?_) (fun h5 => go_eq (if_pos h5) ?_)
      · refine go_incI (q := 1) (i := 1) (n := 1) (c := 1) (pc := 30) hΓ d_Search_isOver_30 rfl (by decide) (by decide) (fun v6 => ?_)
        refine go_sub' (lv' := [(1, .int v6), (0, .ref 38)]) rfl ?_
        refine go_goto 2 (pc := 33) hΓ d_Search_isOver_33 (by decide) ?_
        refine go_sub' (lv' := [(0, .ref 38), (1, .int v6)]) rfl ?_
        exact ih v6 μ4
      · refine go_iconst (v := 1) (pc := 28) hΓ d_Search_isOver_28 (by decide) ?_
        exact go_zret (pc := 29) hΓ hT d_Search_isOver_29 rfl
set_option maxHeartbeats 4000000 in
set_option maxRecDepth 100000 in
theorem g_Search_isOver (N d : Nat)   : CallF eI y_Search_isOver c_Search_isOver 2 (some .boolean) (d + 1 + 1) [.ref 38] (f_Search_isOver N ) := by
  refine call_of (d := d + 1) (n := 0) mi_Search_isOver.1 (fun _ => rfl) ?_
  intro Γ μ0 hΓ hT hR
  show Go Γ 2 0 [(0, .ref 38)] [] μ0 (f_Search_isOver N  μ0)
  unfold f_Search_isOver
  refine go_iconst (v := 0) (pc := 0) hΓ d_Search_isOver_0 (by decide) ?_
  refine go_istore_n (i := 1) (lv' := [(1, .int 0), (0, .ref 38)]) (pc := 1) hΓ d_Search_isOver_1 rfl (by decide) rfl ?_
  refine go_sub' (lv' := [(0, .ref 38), (1, .int 0)]) rfl ?_
  refine glp_Search_isOver_2 N d hΓ hT hR  _ (fun μ7 => ?_) N 0 μ0
  refine go_iconst (v := 0) (pc := 36) hΓ d_Search_isOver_36 (by decide) ?_
  exact go_zret (pc := 37) hΓ hT d_Search_isOver_37 rfl
def f_Sets_compared (N : Nat) (x0 : Int64) (x2 : Int32) (x3 : Int32) (μ0 : Mem) : Option (Int64 × Mem) :=
  ck (inb x2 6) (ck (inb x3 6) (lt' ((x0 &&& (colf (tn x2))) &&& ((colf (tn x3)) ^^^ (-1))) fun v3 => some ((x0 ^^^ v3) ||| (shlL v3 ((shlI 1 x3) - (shlI 1 x2))), μ0)))
set_option maxHeartbeats 4000000 in
set_option maxRecDepth 100000 in
theorem g_Sets_compared (N d : Nat) (x0 : Int64) (x2 : Int32) (x3 : Int32)  : CallF eL y_Sets_compared c_Sets_compared 6 (some .long) (d + 0 + 1) [.long x0, .int x2, .int x3] (f_Sets_compared N x0 x2 x3) := by
  refine call_of (d := d + 0) (n := 3) mi_Sets_compared.1 (fun _ => rfl) ?_
  intro Γ μ0 hΓ hT hR
  show Go Γ 6 0 [(0, .long x0), (2, .int x2), (3, .int x3)] [] μ0 (f_Sets_compared N x0 x2 x3 μ0)
  unfold f_Sets_compared
  refine go_lload_n (q := 0) (i := 0) (pc := 0) hΓ d_Sets_compared_0 rfl rfl ?_
  refine go_col2 (pc := 1) hΓ d_Sets_compared_1 ?_
  refine go_iload_n (q := 1) (i := 2) (pc := 4) hΓ d_Sets_compared_4 rfl rfl ?_
  refine go_ck (fun h1 => ?_)
  refine go_cold (pc := 5) hΓ d_Sets_compared_5 h1 ?_
  refine go_land (pc := 6) hΓ d_Sets_compared_6 ?_
  refine go_col2 (pc := 7) hΓ d_Sets_compared_7 ?_
  refine go_iload_n (q := 2) (i := 3) (pc := 10) hΓ d_Sets_compared_10 rfl rfl ?_
  refine go_ck (fun h2 => ?_)
  refine go_cold (pc := 11) hΓ d_Sets_compared_11 h2 ?_
  refine go_ldc2 (v := -1) (pc := 12) hΓ (tb_3 (List.mem_of_getElem? (i := 169) rfl) rfl) d_Sets_compared_12 ?_
  refine go_lxor (pc := 15) hΓ d_Sets_compared_15 ?_
  refine go_land (pc := 16) hΓ d_Sets_compared_16 ?_
  refine go_letL (fun v3 => ?_)
  refine go_lstore (lv' := [(4, .long v3), (0, .long x0), (2, .int x2), (3, .int x3)]) (pc := 17) hΓ d_Sets_compared_17 (by decide) rfl ?_
  refine go_lload_n (q := 1) (i := 0) (pc := 19) hΓ d_Sets_compared_19 rfl rfl ?_
  refine go_lload (q := 0) (pc := 20) hΓ d_Sets_compared_20 rfl ?_
  refine go_lxor (pc := 22) hΓ d_Sets_compared_22 ?_
  refine go_lload (q := 0) (pc := 23) hΓ d_Sets_compared_23 rfl ?_
  refine go_iconst (v := 1) (pc := 25) hΓ d_Sets_compared_25 (by decide) ?_
  refine go_iload_n (q := 3) (i := 3) (pc := 26) hΓ d_Sets_compared_26 rfl rfl ?_
  refine go_ishl (pc := 27) hΓ d_Sets_compared_27 ?_
  refine go_iconst (v := 1) (pc := 28) hΓ d_Sets_compared_28 (by decide) ?_
  refine go_iload_n (q := 2) (i := 2) (pc := 29) hΓ d_Sets_compared_29 rfl rfl ?_
  refine go_ishl (pc := 30) hΓ d_Sets_compared_30 ?_
  refine go_isub (pc := 31) hΓ d_Sets_compared_31 ?_
  refine go_lshl (pc := 32) hΓ d_Sets_compared_32 ?_
  refine go_lor (pc := 33) hΓ d_Sets_compared_33 ?_
  exact go_lret (pc := 34) hΓ hT d_Sets_compared_34
def lp_Search_moved_6 (N : Nat) (x3 : Int32)  (K : Int64 → Mem → Option (Int64 × Mem)) : Nat → Int64 → Int32 → Mem → Option (Int64 × Mem)
  | 0, _, _, _ => none
  | n + 1, a4, a6, μ0 => if a6 < (gI μ0 38 6) then (lt' (fun (w3 : Int64) (μ4 : Mem) => lt' (a6 + 1) fun v5 => lp_Search_moved_6 N x3 K n w3 v5 μ4) fun (k2 : Int64 → Mem → Option (Int64 × Mem)) => if ((shrI x3 a6) &&& 1) = 1 then (ck (inb a6 10) (ck (inb a6 10) (bnd (f_Sets_compared N a4 (gI μ0 39 (tn a6)) (gI μ0 40 (tn a6)) μ0) fun r9 μ10 => k2 r9 μ10))) else (k2 a4 μ0)) else (K a4 μ0)
def f_Search_moved (N : Nat) (x1 : Int64) (x3 : Int32) (μ0 : Mem) : Option (Int64 × Mem) :=
  lp_Search_moved_6 N x3 (fun v11 μ12 => some (v11, μ12)) N x1 0 μ0
set_option maxHeartbeats 4000000 in
set_option maxRecDepth 100000 in
theorem glp_Search_moved_6 (N d : Nat) {Γ : Cx Int64} (hΓ : Ok Γ "SortingNets$Search" c_Search_moved 7) (hT : Rt Γ eL (some .long)) (hR : Rm Γ (d + 1)) (x3 : Int32)    (K : Int64 → Mem → Option (Int64 × Mem)) (hK : ∀ (b4 : Int64) (ν : Mem), Go Γ 7 52 [(4, .long b4)] [] ν (K b4 ν)) : ∀ (n : Nat) (a4 : Int64) (a6 : Int32) (μ0 : Mem), Go Γ 7 6 [(0, .ref 38), (3, .int x3), (4, .long a4), (6, .int a6)] [] μ0 (lp_Search_moved_6 N x3 K n a4 a6 μ0) := by
  intro n
  induction n with
  | zero => intro a4 a6 μ0; exact go_none
  | succ n ih =>
    intro a4 a6 μ0
    rw [lp_Search_moved_6]
    refine go_iload (q := 3) (pc := 6) hΓ d_Search_moved_6 rfl ?_
    refine go_aload_n (q := 0) (i := 0) (pc := 8) hΓ d_Search_moved_8 rfl rfl ?_
    refine go_getI (pc := 9) hΓ fl_Search_30 d_Search_moved_9 rfl rfl ?_
    refine go_icmp_ge 52 (pc := 12) hΓ d_Search_moved_12 (by decide) (fun h1 => go_eq (if_neg h1) ?_) (fun h1 => go_eq (if_pos h1) ?_)
    · refine go_sub' (lv' := [(4, .long a4)]) rfl ?_
      exact hK a4 μ0
    · refine go_iload_n (q := 1) (i := 3) (pc := 15) hΓ d_Search_moved_15 rfl rfl ?_
      refine go_iload (q := 3) (pc := 16) hΓ d_Search_moved_16 rfl ?_
      refine go_ishr (pc := 18) hΓ d_Search_moved_18 ?_
      refine go_iconst (v := 1) (pc := 19) hΓ d_Search_moved_19 (by decide) ?_
      refine go_iand (pc := 20) hΓ d_Search_moved_20 ?_
      refine go_iconst (v := 1) (pc := 21) hΓ d_Search_moved_21 (by decide) ?_
      refine go_join (fun (k2 : Int64 → Mem → Option (Int64 × Mem)) => ∀ (w3 : Int64) (μ4 : Mem), Go Γ 7 46 [(0, .ref 38), (3, .int x3), (4, .long w3), (6, .int a6)] [] μ4 (k2 w3 μ4)) ?_ (fun k2 k2h => ?_)
      · intro w3 μ4
        refine go_incI (q := 3) (i := 6) (n := 1) (c := 1) (pc := 46) hΓ d_Search_moved_46 rfl (by decide) (by decide) (fun v5 => ?_)
        refine go_sub' (lv' := [(6, .int v5), (0, .ref 38), (3, .int x3), (4, .long w3)]) rfl ?_
        refine go_goto 6 (pc := 49) hΓ d_Search_moved_49 (by decide) ?_
        refine go_sub' (lv' := [(0, .ref 38), (3, .int x3), (4, .long w3), (6, .int v5)]) rfl ?_
        exact ih w3 v5 μ4
      · refine go_icmp_ne 46 (pc := 22) hΓ d_Search_moved_22 (by decide) (fun h6 => go_eq (if_neg h6) ?_) (fun h6 => go_eq (if_pos h6) ?_)
        · refine go_sub' (lv' := [(0, .ref 38), (3, .int x3), (4, .long a4), (6, .int a6)]) rfl ?_
          exact k2h a4 μ0
        · refine go_lload (q := 2) (pc := 25) hΓ d_Search_moved_25 rfl ?_
          refine go_aload_n (q := 0) (i := 0) (pc := 27) hΓ d_Search_moved_27 rfl rfl ?_
          refine go_getR (q := 39) (pc := 28) hΓ fl_Search_9 d_Search_moved_28 rfl rfl ?_
          refine go_iload (q := 3) (pc := 31) hΓ d_Search_moved_31 rfl ?_
          refine go_ck (fun h7 => ?_)
          refine go_iald (pc := 33) hΓ d_Search_moved_33 rfl h7 ?_
          refine go_aload_n (q := 0) (i := 0) (pc := 34) hΓ d_Search_moved_34 rfl rfl ?_
          refine go_getR (q := 40) (pc := 35) hΓ fl_Search_13 d_Search_moved_35 rfl rfl ?_
          refine go_iload (q := 3) (pc := 38) hΓ d_Search_moved_38 rfl ?_
          refine go_ck (fun h8 => ?_)
          refine go_iald (pc := 40) hΓ d_Search_moved_40 rfl h8 ?_
          refine go_callS (index := 93) emL hΓ hR (g_Sets_compared N (d + 0) a4 (gI μ0 39 (tn a6)) (gI μ0 40 (tn a6))) mi_Sets_compared ml_Search_93 d_Search_moved_41 rfl rfl rfl (fun r9 μ10 => ?_)
          show Go Γ 7 44 [(0, .ref 38), (3, .int x3), (4, .long a4), (6, .int a6)] [.long r9] μ10 _
          refine go_lstore (lv' := [(4, .long r9), (0, .ref 38), (3, .int x3), (6, .int a6)]) (pc := 44) hΓ d_Search_moved_44 (by decide) rfl ?_
          refine go_sub' (lv' := [(0, .ref 38), (3, .int x3), (4, .long r9), (6, .int a6)]) rfl ?_
          exact k2h r9 μ10
set_option maxHeartbeats 4000000 in
set_option maxRecDepth 100000 in
theorem g_Search_moved (N d : Nat) (x1 : Int64) (x3 : Int32)  : CallF eL y_Search_moved c_Search_moved 7 (some .long) (d + 1 + 1) [.ref 38, .long x1, .int x3] (f_Search_moved N x1 x3) := by
  refine call_of (d := d + 1) (n := 2) mi_Search_moved.1 (fun _ => rfl) ?_
  intro Γ μ0 hΓ hT hR
  show Go Γ 7 0 [(0, .ref 38), (1, .long x1), (3, .int x3)] [] μ0 (f_Search_moved N x1 x3 μ0)
  unfold f_Search_moved
  refine go_lload_n (q := 1) (i := 1) (pc := 0) hΓ d_Search_moved_0 rfl rfl ?_
  refine go_lstore (lv' := [(4, .long x1), (0, .ref 38), (1, .long x1), (3, .int x3)]) (pc := 1) hΓ d_Search_moved_1 (by decide) rfl ?_
  refine go_iconst (v := 0) (pc := 3) hΓ d_Search_moved_3 (by decide) ?_
  refine go_istore (lv' := [(6, .int 0), (4, .long x1), (0, .ref 38), (1, .long x1), (3, .int x3)]) (pc := 4) hΓ d_Search_moved_4 (by decide) rfl ?_
  refine go_sub' (lv' := [(0, .ref 38), (3, .int x3), (4, .long x1), (6, .int 0)]) rfl ?_
  refine glp_Search_moved_6 N d hΓ hT hR x3 _ (fun v11 μ12 => ?_) N x1 0 μ0
  refine go_lload (q := 0) (pc := 52) hΓ d_Search_moved_52 rfl ?_
  exact go_lret (pc := 54) hΓ hT d_Search_moved_54

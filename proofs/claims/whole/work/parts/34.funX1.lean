def lp_X_appendLayer_13 (N : Nat) (p1 : Nat) (x2 : Int32) (x3 : Int32)  (K : Mem → Option (Unit × Mem)) : Nat → Int32 → Mem → Option (Unit × Mem)
  | 0, _, _ => none
  | n + 1, a4, μ0 => if a4 < (gI μ0 p1 1) then (ck (inb a4 60) (lt' (fun (μ5 : Mem) => lt' (a4 + 1) fun v6 => lp_X_appendLayer_13 N p1 x2 x3 K n v6 μ5) fun (k4 : Mem → Option (Unit × Mem)) => if (gI μ0 24 (tn a4)) = x2 then (ck (inb a4 60) (if (gI μ0 (p1 + 1) (tn a4)) = x3 then (ck (inb a4 60) (bnd (f_Net_append N 18 x3 (gI μ0 (p1 + 2) (tn a4)) μ0) fun r11 μ12 => k4 μ12)) else (k4 μ0))) else (k4 μ0))) else (K  μ0)
def lp_X_appendLayer_2 (N : Nat) (p1 : Nat) (x2 : Int32)  (K : Mem → Option (Unit × Mem)) : Nat → Int32 → Mem → Option (Unit × Mem)
  | 0, _, _ => none
  | n + 1, a3, μ0 => if a3 < (gI μ0 p1 0) then (lp_X_appendLayer_13 N p1 x2 a3 (fun μ13 => lt' (a3 + 1) fun v14 => lp_X_appendLayer_2 N p1 x2 K n v14 μ13) N 0 μ0) else (K  μ0)
def f_X_appendLayer (N : Nat) (p1 : Nat) (x2 : Int32) (μ0 : Mem) : Option (Unit × Mem) :=
  lp_X_appendLayer_2 N p1 x2 (fun μ15 => some ((), μ15)) N 0 μ0
set_option maxHeartbeats 4000000 in
set_option maxRecDepth 100000 in
theorem glp_X_appendLayer_13 (N d : Nat) {Γ : Cx Unit} (hΓ : Ok Γ "SortingNets" c_X_appendLayer 5) (hT : Rt Γ eV none) (hR : Rm Γ (d + 1)) (p1 : Nat) (x2 : Int32) (x3 : Int32) (hp1 : isN p1)   (K : Mem → Option (Unit × Mem)) (hK : ∀  (ν : Mem), Go Γ 5 69 [(0, .ref 0), (1, .ref p1), (2, .int x2), (3, .int x3)] [] ν (K  ν)) : ∀ (n : Nat) (a4 : Int32) (μ0 : Mem), Go Γ 5 13 [(0, .ref 0), (1, .ref p1), (2, .int x2), (3, .int x3), (4, .int a4)] [] μ0 (lp_X_appendLayer_13 N p1 x2 x3 K n a4 μ0) := by
  intro n
  induction n with
  | zero => intro a4 μ0; exact go_none
  | succ n ih =>
    intro a4 μ0
    rw [lp_X_appendLayer_13]
    refine go_iload (q := 4) (pc := 13) hΓ d_X_appendLayer_13 rfl ?_
    refine go_aload_n (q := 1) (i := 1) (pc := 15) hΓ d_X_appendLayer_15 rfl rfl ?_
    refine go_getI (pc := 16) hΓ fl_X_121 d_X_appendLayer_16 (isN_sh hp1).1 rfl ?_
    refine go_icmp_ge 69 (pc := 19) hΓ d_X_appendLayer_19 (by decide) (fun h2 => go_eq (if_neg h2) ?_) (fun h2 => go_eq (if_pos h2) ?_)
    · refine go_sub' (lv' := [(0, .ref 0), (1, .ref p1), (2, .int x2), (3, .int x3)]) rfl ?_
      exact hK  μ0
    · refine go_aload_n (q := 0) (i := 0) (pc := 22) hΓ d_X_appendLayer_22 rfl rfl ?_
      refine go_getR (q := 23) (pc := 23) hΓ fl_X_44 d_X_appendLayer_23 rfl rfl ?_
      refine go_getR (q := 24) (pc := 26) hΓ fl_X_211 d_X_appendLayer_26 rfl rfl ?_
      refine go_iload (q := 4) (pc := 29) hΓ d_X_appendLayer_29 rfl ?_
      refine go_ck (fun h3 => ?_)
      refine go_iald (pc := 31) hΓ d_X_appendLayer_31 rfl h3 ?_
      refine go_iload_n (q := 2) (i := 2) (pc := 32) hΓ d_X_appendLayer_32 rfl rfl ?_
      refine go_join (fun (k4 : Mem → Option (Unit × Mem)) => ∀ (μ5 : Mem), Go Γ 5 63 [(0, .ref 0), (1, .ref p1), (2, .int x2), (3, .int x3), (4, .int a4)] [] μ5 (k4 μ5)) ?_ (fun k4 k4h => ?_)
      · intro μ5
        refine go_incI (q := 4) (i := 4) (n := 1) (c := 1) (pc := 63) hΓ d_X_appendLayer_63 rfl (by decide) (by decide) (fun v6 => ?_)
        refine go_sub' (lv' := [(4, .int v6), (0, .ref 0), (1, .ref p1), (2, .int x2), (3, .int x3)]) rfl ?_
        refine go_goto 13 (pc := 66) hΓ d_X_appendLayer_66 (by decide) ?_
        refine go_sub' (lv' := [(0, .ref 0), (1, .ref p1), (2, .int x2), (3, .int x3), (4, .int v6)]) rfl ?_
        exact ih v6 μ5
      · refine go_icmp_ne 63 (pc := 33) hΓ d_X_appendLayer_33 (by decide) (fun h7 => go_eq (if_neg h7) ?_) (fun h7 => go_eq (if_pos h7) ?_)
        · refine go_sub' (lv' := [(0, .ref 0), (1, .ref p1), (2, .int x2), (3, .int x3), (4, .int a4)]) rfl ?_
          exact k4h μ0
        · refine go_aload_n (q := 1) (i := 1) (pc := 36) hΓ d_X_appendLayer_36 rfl rfl ?_
          refine go_getR (q := p1 + 1) (pc := 37) hΓ fl_X_175 d_X_appendLayer_37 (isN_sh hp1).1 rfl ?_
          refine go_iload (q := 4) (pc := 40) hΓ d_X_appendLayer_40 rfl ?_
          refine go_ck (fun h8 => ?_)
          refine go_iald (pc := 42) hΓ d_X_appendLayer_42 (isN_sh hp1).2.1 h8 ?_
          refine go_iload_n (q := 3) (i := 3) (pc := 43) hΓ d_X_appendLayer_43 rfl rfl ?_
          refine go_icmp_ne 63 (pc := 44) hΓ d_X_appendLayer_44 (by decide) (fun h9 => go_eq (if_neg h9) ?_) (fun h9 => go_eq (if_pos h9) ?_)
          · refine go_sub' (lv' := [(0, .ref 0), (1, .ref p1), (2, .int x2), (3, .int x3), (4, .int a4)]) rfl ?_
            exact k4h μ0
          · refine go_aload_n (q := 0) (i := 0) (pc := 47) hΓ d_X_appendLayer_47 rfl rfl ?_
            refine go_getR (q := 18) (pc := 48) hΓ fl_X_16 d_X_appendLayer_48 rfl rfl ?_
            refine go_iload_n (q := 3) (i := 3) (pc := 51) hΓ d_X_appendLayer_51 rfl rfl ?_
            refine go_aload_n (q := 1) (i := 1) (pc := 52) hΓ d_X_appendLayer_52 rfl rfl ?_
            refine go_getR (q := p1 + 2) (pc := 53) hΓ fl_X_178 d_X_appendLayer_53 (isN_sh hp1).1 rfl ?_
            refine go_iload (q := 4) (pc := 56) hΓ d_X_appendLayer_56 rfl ?_
            refine go_ck (fun h10 => ?_)
            refine go_iald (pc := 58) hΓ d_X_appendLayer_58 (isN_sh hp1).2.2 h10 ?_
            refine go_callV (index := 154) emI hΓ hR (g_Net_append N (d + 0) 18 isN_18 x3 (gI μ0 (p1 + 2) (tn a4))) mi_Net_append ml_X_154 d_X_appendLayer_59 rfl rfl rfl rfl rfl (fun r11 μ12 => ?_)
            show Go Γ 5 62 [(0, .ref 0), (1, .ref p1), (2, .int x2), (3, .int x3), (4, .int a4)] [.int r11] μ12 _
            refine go_pop (pc := 62) hΓ d_X_appendLayer_62 rfl ?_
            refine go_sub' (lv' := [(0, .ref 0), (1, .ref p1), (2, .int x2), (3, .int x3), (4, .int a4)]) rfl ?_
            exact k4h μ12
set_option maxHeartbeats 4000000 in
set_option maxRecDepth 100000 in
theorem glp_X_appendLayer_2 (N d : Nat) {Γ : Cx Unit} (hΓ : Ok Γ "SortingNets" c_X_appendLayer 5) (hT : Rt Γ eV none) (hR : Rm Γ (d + 1)) (p1 : Nat) (x2 : Int32) (hp1 : isN p1)   (K : Mem → Option (Unit × Mem)) (hK : ∀  (ν : Mem), Go Γ 5 75 [] [] ν (K  ν)) : ∀ (n : Nat) (a3 : Int32) (μ0 : Mem), Go Γ 5 2 [(0, .ref 0), (1, .ref p1), (2, .int x2), (3, .int a3)] [] μ0 (lp_X_appendLayer_2 N p1 x2 K n a3 μ0) := by
  intro n
  induction n with
  | zero => intro a3 μ0; exact go_none
  | succ n ih =>
    intro a3 μ0
    rw [lp_X_appendLayer_2]
    refine go_iload_n (q := 3) (i := 3) (pc := 2) hΓ d_X_appendLayer_2 rfl rfl ?_
    refine go_aload_n (q := 1) (i := 1) (pc := 3) hΓ d_X_appendLayer_3 rfl rfl ?_
    refine go_getI (pc := 4) hΓ fl_X_111 d_X_appendLayer_4 (isN_sh hp1).1 rfl ?_
    refine go_icmp_ge 75 (pc := 7) hΓ d_X_appendLayer_7 (by decide) (fun h1 => go_eq (if_neg h1) ?_) (fun h1 => go_eq (if_pos h1) ?_)
    · refine go_sub' (lv' := []) rfl ?_
      exact hK  μ0
    · refine go_iconst (v := 0) (pc := 10) hΓ d_X_appendLayer_10 (by decide) ?_
      refine go_istore (lv' := [(4, .int 0), (0, .ref 0), (1, .ref p1), (2, .int x2), (3, .int a3)]) (pc := 11) hΓ d_X_appendLayer_11 (by decide) rfl ?_
      refine go_sub' (lv' := [(0, .ref 0), (1, .ref p1), (2, .int x2), (3, .int a3), (4, .int 0)]) rfl ?_
      refine glp_X_appendLayer_13 N d hΓ hT hR p1 x2 a3 hp1 _ (fun μ13 => ?_) N 0 μ0
      refine go_incI (q := 3) (i := 3) (n := 1) (c := 1) (pc := 69) hΓ d_X_appendLayer_69 rfl (by decide) (by decide) (fun v14 => ?_)
      refine go_sub' (lv' := [(3, .int v14), (0, .ref 0), (1, .ref p1), (2, .int x2)]) rfl ?_
      refine go_goto 2 (pc := 72) hΓ d_X_appendLayer_72 (by decide) ?_
      refine go_sub' (lv' := [(0, .ref 0), (1, .ref p1), (2, .int x2), (3, .int v14)]) rfl ?_
      exact ih v14 μ13
set_option maxHeartbeats 4000000 in
set_option maxRecDepth 100000 in
theorem g_X_appendLayer (N d : Nat) (p1 : Nat) (hp1 : isN p1) (x2 : Int32)  : CallF eV y_X_appendLayer c_X_appendLayer 5 none (d + 1 + 1) [.ref 0, .ref p1, .int x2] (f_X_appendLayer N p1 x2) := by
  refine call_of (d := d + 1) (n := 2) mi_X_appendLayer.1 (fun _ => rfl) ?_
  intro Γ μ0 hΓ hT hR
  show Go Γ 5 0 [(0, .ref 0), (1, .ref p1), (2, .int x2)] [] μ0 (f_X_appendLayer N p1 x2 μ0)
  unfold f_X_appendLayer
  refine go_iconst (v := 0) (pc := 0) hΓ d_X_appendLayer_0 (by decide) ?_
  refine go_istore_n (i := 3) (lv' := [(3, .int 0), (0, .ref 0), (1, .ref p1), (2, .int x2)]) (pc := 1) hΓ d_X_appendLayer_1 rfl (by decide) rfl ?_
  refine go_sub' (lv' := [(0, .ref 0), (1, .ref p1), (2, .int x2), (3, .int 0)]) rfl ?_
  refine glp_X_appendLayer_2 N d hΓ hT hR p1 x2 hp1 _ (fun μ15 => ?_) N 0 μ0
  exact go_vret (pc := 75) hΓ hT d_X_appendLayer_75
def lp_X_lays_37 (N : Nat) (p2 : Nat)  (K : Mem → Option (Int32 × Mem)) : Nat → Int32 → Mem → Option (Int32 × Mem)
  | 0, _, _ => none
  | n + 1, a3, μ0 => if (gI μ0 23 1) < a3 then (K  μ0) else (bnd (f_X_appendLayer N p2 a3 μ0) fun _ μ11 => lt' (a3 + 1) fun v12 => lp_X_lays_37 N p2 K n v12 μ11)
def f_X_lays (N : Nat) (x1 : Int32) (μ0 : Mem) : Option (Int32 × Mem) :=
  bnd (f_X_isNet N x1 μ0) fun r1 μ2 => if r1 = 0 then (some ((-1), μ2)) else (ck (inb x1 4) (bnd (f_Layers_read N (2 + 3 * tn x1) μ2) fun _ μ6 => bnd (f_Net_clear N 18 (gI μ6 (2 + 3 * tn x1) 0) μ6) fun _ μ8 => lp_X_lays_37 N (2 + 3 * tn x1) (fun μ13 => bnd (f_Net_differences N (2 + 3 * tn x1) 18 μ13) fun r14 μ15 => bnd (f_Net_take N (2 + 3 * tn x1) 18 μ15) fun _ μ17 => some (r14, μ17)) N 1 μ8))
set_option maxHeartbeats 4000000 in
set_option maxRecDepth 100000 in
theorem glp_X_lays_37 (N d : Nat) {Γ : Cx Int32} (hΓ : Ok Γ "SortingNets" c_X_lays 4) (hT : Rt Γ eI (some .int)) (hR : Rm Γ (d + 2)) (p2 : Nat) (hp2 : isN p2)   (K : Mem → Option (Int32 × Mem)) (hK : ∀  (ν : Mem), Go Γ 4 60 [(0, .ref 0), (2, .ref p2)] [] ν (K  ν)) : ∀ (n : Nat) (a3 : Int32) (μ0 : Mem), Go Γ 4 37 [(0, .ref 0), (2, .ref p2), (3, .int a3)] [] μ0 (lp_X_lays_37 N p2 K n a3 μ0) := by
  intro n
  induction n with
  | zero => intro a3 μ0; exact go_none
  | succ n ih =>
    intro a3 μ0
    rw [lp_X_lays_37]
    refine go_iload_n (q := 2) (i := 3) (pc := 37) hΓ d_X_lays_37 rfl rfl ?_
    refine go_aload_n (q := 0) (i := 0) (pc := 38) hΓ d_X_lays_38 rfl rfl ?_
    refine go_getR (q := 23) (pc := 39) hΓ fl_X_44 d_X_lays_39 rfl rfl ?_
    refine go_getI (pc := 42) hΓ fl_X_190 d_X_lays_42 rfl rfl ?_
    refine go_icmp_gt 60 (pc := 45) hΓ d_X_lays_45 (by decide) (fun h9 => go_eq (if_pos h9) ?_) (fun h9 => go_eq (if_neg h9) ?_)
    · refine go_sub' (lv' := [(0, .ref 0), (2, .ref p2)]) rfl ?_
      exact hK  μ0
    · refine go_aload_n (q := 0) (i := 0) (pc := 48) hΓ d_X_lays_48 rfl rfl ?_
      refine go_aload_n (q := 1) (i := 2) (pc := 49) hΓ d_X_lays_49 rfl rfl ?_
      refine go_iload_n (q := 2) (i := 3) (pc := 50) hΓ d_X_lays_50 rfl rfl ?_
      refine go_callV (index := 193) emV hΓ hR (g_X_appendLayer N (d + 0) p2 hp2 a3) mi_X_appendLayer ml_X_193 d_X_lays_51 rfl rfl rfl rfl rfl (fun _ μ11 => ?_)
      show Go Γ 4 54 [(0, .ref 0), (2, .ref p2), (3, .int a3)] [] μ11 _
      refine go_incI (q := 2) (i := 3) (n := 1) (c := 1) (pc := 54) hΓ d_X_lays_54 rfl (by decide) (by decide) (fun v12 => ?_)
      refine go_sub' (lv' := [(3, .int v12), (0, .ref 0), (2, .ref p2)]) rfl ?_
      refine go_goto 37 (pc := 57) hΓ d_X_lays_57 (by decide) ?_
      refine go_sub' (lv' := [(0, .ref 0), (2, .ref p2), (3, .int v12)]) rfl ?_
      exact ih v12 μ11
set_option maxHeartbeats 4000000 in
set_option maxRecDepth 100000 in
theorem g_X_lays (N d : Nat) (x1 : Int32)  : CallF eI y_X_lays c_X_lays 4 (some .int) (d + 2 + 1) [.ref 0, .int x1] (f_X_lays N x1) := by
  refine call_of (d := d + 2) (n := 1) mi_X_lays.1 (fun _ => rfl) ?_
  intro Γ μ0 hΓ hT hR
  show Go Γ 4 0 [(0, .ref 0), (1, .int x1)] [] μ0 (f_X_lays N x1 μ0)
  unfold f_X_lays
  refine go_iload_n (q := 1) (i := 1) (pc := 0) hΓ d_X_lays_0 rfl rfl ?_
  refine go_callS (index := 101) emI hΓ hR (g_X_isNet N (d + 1) x1) mi_X_isNet ml_X_101 d_X_lays_1 rfl rfl rfl (fun r1 μ2 => ?_)
  show Go Γ 4 4 [(0, .ref 0), (1, .int x1)] [.int r1] μ2 _
  refine go_if_ne 9 (pc := 4) hΓ d_X_lays_4 (by decide) (fun h3 => go_eq (if_neg h3) ?_) (fun h3 => go_eq (if_pos h3) ?_)
  · refine go_aload_n (q := 0) (i := 0) (pc := 9) hΓ d_X_lays_9 rfl rfl ?_
    refine go_getR (q := 1) (pc := 10) hΓ fl_X_11 d_X_lays_10 rfl rfl ?_
    refine go_iload_n (q := 1) (i := 1) (pc := 13) hΓ d_X_lays_13 rfl rfl ?_
    refine go_ck (fun h4 => ?_)
    refine go_aald (pc := 14) hΓ d_X_lays_14 h4 ?_
    refine go_astore_n (i := 2) (lv' := [(2, .ref (2 + 3 * tn x1)), (0, .ref 0), (1, .int x1)]) (pc := 15) hΓ d_X_lays_15 rfl (by decide) rfl ?_
    refine go_aload_n (q := 1) (i := 0) (pc := 16) hΓ d_X_lays_16 rfl rfl ?_
    refine go_getR (q := 23) (pc := 17) hΓ fl_X_44 d_X_lays_17 rfl rfl ?_
    refine go_aload_n (q := 0) (i := 2) (pc := 20) hΓ d_X_lays_20 rfl rfl ?_
    refine go_callV (index := 187) emV hΓ hR (g_Layers_read N (d + 1) (2 + 3 * tn x1) (isN_in h4)) mi_Layers_read ml_X_187 d_X_lays_21 rfl rfl rfl rfl rfl (fun _ μ6 => ?_)
    show Go Γ 4 24 [(2, .ref (2 + 3 * tn x1)), (0, .ref 0), (1, .int x1)] [] μ6 _
    refine go_aload_n (q := 1) (i := 0) (pc := 24) hΓ d_X_lays_24 rfl rfl ?_
    refine go_getR (q := 18) (pc := 25) hΓ fl_X_16 d_X_lays_25 rfl rfl ?_
    refine go_aload_n (q := 0) (i := 2) (pc := 28) hΓ d_X_lays_28 rfl rfl ?_
    refine go_getI (pc := 29) hΓ fl_X_111 d_X_lays_29 (isN_sh (isN_in h4)).1 rfl ?_
    refine go_callV (index := 127) emV hΓ hR (g_Net_clear N (d + 1) 18 isN_18 (gI μ6 (2 + 3 * tn x1) 0)) mi_Net_clear ml_X_127 d_X_lays_32 rfl rfl rfl rfl rfl (fun _ μ8 => ?_)
    show Go Γ 4 35 [(2, .ref (2 + 3 * tn x1)), (0, .ref 0), (1, .int x1)] [] μ8 _
    refine go_iconst (v := 1) (pc := 35) hΓ d_X_lays_35 (by decide) ?_
    refine go_istore_n (i := 3) (lv' := [(3, .int 1), (2, .ref (2 + 3 * tn x1)), (0, .ref 0), (1, .int x1)]) (pc := 36) hΓ d_X_lays_36 rfl (by decide) rfl ?_
    refine go_sub' (lv' := [(0, .ref 0), (2, .ref (2 + 3 * tn x1)), (3, .int 1)]) rfl ?_
    refine glp_X_lays_37 N d hΓ hT hR (2 + 3 * tn x1) (isN_in h4) _ (fun μ13 => ?_) N 1 μ8
    refine go_aload_n (q := 1) (i := 2) (pc := 60) hΓ d_X_lays_60 rfl rfl ?_
    refine go_aload_n (q := 0) (i := 0) (pc := 61) hΓ d_X_lays_61 rfl rfl ?_
    refine go_getR (q := 18) (pc := 62) hΓ fl_X_16 d_X_lays_62 rfl rfl ?_
    refine go_callV (index := 196) emI hΓ hR (g_Net_differences N (d + 1) (2 + 3 * tn x1) (isN_in h4) 18 isN_18) mi_Net_differences ml_X_196 d_X_lays_65 rfl (isN_sh (isN_in h4)).1 rfl rfl rfl (fun r14 μ15 => ?_)
    show Go Γ 4 68 [(0, .ref 0), (2, .ref (2 + 3 * tn x1))] [.int r14] μ15 _
    refine go_istore_n (i := 3) (lv' := [(3, .int r14), (0, .ref 0), (2, .ref (2 + 3 * tn x1))]) (pc := 68) hΓ d_X_lays_68 rfl (by decide) rfl ?_
    refine go_aload_n (q := 2) (i := 2) (pc := 69) hΓ d_X_lays_69 rfl rfl ?_
    refine go_aload_n (q := 1) (i := 0) (pc := 70) hΓ d_X_lays_70 rfl rfl ?_
    refine go_getR (q := 18) (pc := 71) hΓ fl_X_16 d_X_lays_71 rfl rfl ?_
    refine go_callV (index := 104) emV hΓ hR (g_Net_take N (d + 1) (2 + 3 * tn x1) (isN_in h4) 18 isN_18) mi_Net_take ml_X_104 d_X_lays_74 rfl (isN_sh (isN_in h4)).1 rfl rfl rfl (fun _ μ17 => ?_)
    show Go Γ 4 77 [(3, .int r14), (0, .ref 0), (2, .ref (2 + 3 * tn x1))] [] μ17 _
    refine go_iload_n (q := 0) (i := 3) (pc := 77) hΓ d_X_lays_77 rfl rfl ?_
    exact go_iret (pc := 78) hΓ hT d_X_lays_78
  · refine go_iconst (v := -1) (pc := 7) hΓ d_X_lays_7 (by decide) ?_
    exact go_iret (pc := 8) hΓ hT d_X_lays_8
def lp_X_nameLines_2 (N : Nat) (x1 : Int32) (x2 : Int32)  (K : Mem → Option (Unit × Mem)) : Nat → Int32 → Mem → Option (Unit × Mem)
  | 0, _, _ => none
  | n + 1, a3, μ0 => if a3 < x1 then (lt' (if x2 < a3 then (a3 - 1 : Int32) else (a3 : Int32)) fun q3 => ck (inb a3 8) (lt' (sI μ0 36 (tn a3) q3) fun μ5 => lt' (a3 + 1) fun v6 => lp_X_nameLines_2 N x1 x2 K n v6 μ5)) else (K  μ0)
def f_X_nameLines (N : Nat) (x1 : Int32) (x2 : Int32) (μ0 : Mem) : Option (Unit × Mem) :=
  lp_X_nameLines_2 N x1 x2 (fun μ8 => some ((), μ8)) N 0 μ0
set_option maxHeartbeats 4000000 in
set_option maxRecDepth 100000 in
theorem glp_X_nameLines_2 (N d : Nat) {Γ : Cx Unit} (hΓ : Ok Γ "SortingNets" c_X_nameLines 4) (hT : Rt Γ eV none) (hR : Rm Γ (d + 0)) (x1 : Int32) (x2 : Int32)    (K : Mem → Option (Unit × Mem)) (hK : ∀  (ν : Mem), Go Γ 4 31 [] [] ν (K  ν)) : ∀ (n : Nat) (a3 : Int32) (μ0 : Mem), Go Γ 4 2 [(0, .ref 0), (1, .int x1), (2, .int x2), (3, .int a3)] [] μ0 (lp_X_nameLines_2 N x1 x2 K n a3 μ0) := by
  intro n
  induction n with
  | zero => intro a3 μ0; exact go_none
  | succ n ih =>
    intro a3 μ0
    rw [lp_X_nameLines_2]
    refine go_iload_n (q := 3) (i := 3) (pc := 2) hΓ d_X_nameLines_2 rfl rfl ?_
    refine go_iload_n (q := 1) (i := 1) (pc := 3) hΓ d_X_nameLines_3 rfl rfl ?_
    refine go_icmp_ge 31 (pc := 4) hΓ d_X_nameLines_4 (by decide) (fun h1 => go_eq (if_neg h1) ?_) (fun h1 => go_eq (if_pos h1) ?_)
    · refine go_sub' (lv' := []) rfl ?_
      exact hK  μ0
    · refine go_aload_n (q := 0) (i := 0) (pc := 7) hΓ d_X_nameLines_7 rfl rfl ?_
      refine go_getR (q := 36) (pc := 8) hΓ fl_X_76 d_X_nameLines_8 rfl rfl ?_
      refine go_iload_n (q := 3) (i := 3) (pc := 11) hΓ d_X_nameLines_11 rfl rfl ?_
      refine go_iload_n (q := 3) (i := 3) (pc := 12) hΓ d_X_nameLines_12 rfl rfl ?_
      refine go_iload_n (q := 2) (i := 2) (pc := 13) hΓ d_X_nameLines_13 rfl rfl ?_
      refine go_mg (α := Int32) 24 (fun q3 => [(0, .ref 0), (1, .int x1), (2, .int x2), (3, .int a3)]) (fun q3 => [.int q3, .int a3, .ref 36]) (fun q3 => ?_) (fun g7 g7h => ?_)
      · refine go_ck (fun h4 => ?_)
        refine go_iast (pc := 24) hΓ d_X_nameLines_24 rfl h4 ?_
        refine go_letM (fun μ5 => ?_)
        refine go_incI (q := 3) (i := 3) (n := 1) (c := 1) (pc := 25) hΓ d_X_nameLines_25 rfl (by decide) (by decide) (fun v6 => ?_)
        refine go_sub' (lv' := [(3, .int v6), (0, .ref 0), (1, .int x1), (2, .int x2)]) rfl ?_
        refine go_goto 2 (pc := 28) hΓ d_X_nameLines_28 (by decide) ?_
        refine go_sub' (lv' := [(0, .ref 0), (1, .int x1), (2, .int x2), (3, .int v6)]) rfl ?_
        exact ih v6 μ5
      · refine go_icmp_gt 21 (pc := 14) hΓ d_X_nameLines_14 (by decide) (fun h2 => ?_) (fun h2 => ?_)
        · rw [if_pos h2]
          refine go_iload_n (q := 3) (i := 3) (pc := 21) hΓ d_X_nameLines_21 rfl rfl ?_
          refine go_iconst (v := 1) (pc := 22) hΓ d_X_nameLines_22 (by decide) ?_
          refine go_isub (pc := 23) hΓ d_X_nameLines_23 ?_
          refine go_sub' (lv' := [(0, .ref 0), (1, .int x1), (2, .int x2), (3, .int a3)]) rfl ?_
          exact g7h _
        · rw [if_neg h2]
          refine go_iload_n (q := 3) (i := 3) (pc := 17) hΓ d_X_nameLines_17 rfl rfl ?_
          refine go_goto 24 (pc := 18) hΓ d_X_nameLines_18 (by decide) ?_
          refine go_sub' (lv' := [(0, .ref 0), (1, .int x1), (2, .int x2), (3, .int a3)]) rfl ?_
          exact g7h _
set_option maxHeartbeats 4000000 in
set_option maxRecDepth 100000 in
theorem g_X_nameLines (N d : Nat) (x1 : Int32) (x2 : Int32)  : CallF eV y_X_nameLines c_X_nameLines 4 none (d + 0 + 1) [.ref 0, .int x1, .int x2] (f_X_nameLines N x1 x2) := by
  refine call_of (d := d + 0) (n := 2) mi_X_nameLines.1 (fun _ => rfl) ?_
  intro Γ μ0 hΓ hT hR
  show Go Γ 4 0 [(0, .ref 0), (1, .int x1), (2, .int x2)] [] μ0 (f_X_nameLines N x1 x2 μ0)
  unfold f_X_nameLines
  refine go_iconst (v := 0) (pc := 0) hΓ d_X_nameLines_0 (by decide) ?_
  refine go_istore_n (i := 3) (lv' := [(3, .int 0), (0, .ref 0), (1, .int x1), (2, .int x2)]) (pc := 1) hΓ d_X_nameLines_1 rfl (by decide) rfl ?_
  refine go_sub' (lv' := [(0, .ref 0), (1, .int x1), (2, .int x2), (3, .int 0)]) rfl ?_
  refine glp_X_nameLines_2 N d hΓ hT hR x1 x2 _ (fun μ8 => ?_) N 0 μ0
  exact go_vret (pc := 31) hΓ hT d_X_nameLines_31
def f_X_cutAt (N : Nat) (x1 : Int32) (x2 : Int32) (x3 : Int32) (x4 : Int32) (μ0 : Mem) : Option (Int32 × Mem) :=
  lt' (fun (_ : Unit) => lt' (if x4 = 0 then (x2 : Int32) else (x1 : Int32)) fun q3 => if x3 = q3 then (lt' (if x4 = 0 then (x1 : Int32) else (x2 : Int32)) fun q6 => ck (inb q6 8) (ck (inb x3 8) (lt' (sI μ0 36 (tn x3) (gI μ0 36 (tn q6))) fun μ9 => some (q6, μ9)))) else (some (x3, μ0))) fun (k1 : Unit → Option (Int32 × Mem)) => if x1 = x3 then (k1 ()) else (if x2 = x3 then (k1 ()) else (ck (inb x1 8) (ck (inb x2 8) (bnd (f_Tangle_untangle N (gI μ0 36 (tn x1)) (gI μ0 36 (tn x2)) 18 μ0) fun _ μ17 => some (x3, μ17)))))
set_option maxHeartbeats 4000000 in
set_option maxRecDepth 100000 in
theorem g_X_cutAt (N d : Nat) (x1 : Int32) (x2 : Int32) (x3 : Int32) (x4 : Int32)  : CallF eI y_X_cutAt c_X_cutAt 6 (some .int) (d + 2 + 1) [.ref 0, .int x1, .int x2, .int x3, .int x4] (f_X_cutAt N x1 x2 x3 x4) := by
  refine call_of (d := d + 2) (n := 4) mi_X_cutAt.1 (fun _ => rfl) ?_
  intro Γ μ0 hΓ hT hR
  show Go Γ 6 0 [(0, .ref 0), (1, .int x1), (2, .int x2), (3, .int x3), (4, .int x4)] [] μ0 (f_X_cutAt N x1 x2 x3 x4 μ0)
  unfold f_X_cutAt
  refine go_iload_n (q := 1) (i := 1) (pc := 0) hΓ d_X_cutAt_0 rfl rfl ?_
  refine go_iload_n (q := 3) (i := 3) (pc := 1) hΓ d_X_cutAt_1 rfl rfl ?_
  refine go_join (fun (k1 : Unit → Option (Int32 × Mem)) => ∀ (_ : Unit), Go Γ 6 35 [(0, .ref 0), (1, .int x1), (2, .int x2), (3, .int x3), (4, .int x4)] [] μ0 (k1 ())) ?_ (fun k1 k1h => ?_)
  · intro _
    refine go_iload_n (q := 3) (i := 3) (pc := 35) hΓ d_X_cutAt_35 rfl rfl ?_
    refine go_iload (q := 4) (pc := 36) hΓ d_X_cutAt_36 rfl ?_
    refine go_mg (α := Int32) 46 (fun q3 => [(0, .ref 0), (1, .int x1), (2, .int x2), (3, .int x3), (4, .int x4)]) (fun q3 => [.int q3, .int x3]) (fun q3 => ?_) (fun g11 g11h => ?_)
    · refine go_icmp_eq 51 (pc := 46) hΓ d_X_cutAt_46 (by decide) (fun h4 => go_eq (if_pos h4) ?_) (fun h4 => go_eq (if_neg h4) ?_)
      · refine go_iload (q := 4) (pc := 51) hΓ d_X_cutAt_51 rfl ?_
        refine go_mg (α := Int32) 61 (fun q6 => [(0, .ref 0), (3, .int x3)]) (fun q6 => [.int q6]) (fun q6 => ?_) (fun g10 g10h => ?_)
        · refine go_istore (lv' := [(5, .int q6), (0, .ref 0), (3, .int x3)]) (pc := 61) hΓ d_X_cutAt_61 (by decide) rfl ?_
          refine go_aload_n (q := 1) (i := 0) (pc := 63) hΓ d_X_cutAt_63 rfl rfl ?_
          refine go_getR (q := 36) (pc := 64) hΓ fl_X_76 d_X_cutAt_64 rfl rfl ?_
          refine go_iload_n (q := 2) (i := 3) (pc := 67) hΓ d_X_cutAt_67 rfl rfl ?_
          refine go_aload_n (q := 1) (i := 0) (pc := 68) hΓ d_X_cutAt_68 rfl rfl ?_
          refine go_getR (q := 36) (pc := 69) hΓ fl_X_76 d_X_cutAt_69 rfl rfl ?_
          refine go_iload (q := 0) (pc := 72) hΓ d_X_cutAt_72 rfl ?_
          refine go_ck (fun h7 => ?_)
          refine go_iald (pc := 74) hΓ d_X_cutAt_74 rfl h7 ?_
          refine go_ck (fun h8 => ?_)
          refine go_iast (pc := 75) hΓ d_X_cutAt_75 rfl h8 ?_
          refine go_letM (fun μ9 => ?_)
          refine go_iload (q := 0) (pc := 76) hΓ d_X_cutAt_76 rfl ?_
          exact go_iret (pc := 78) hΓ hT d_X_cutAt_78
        · refine go_if_eq 60 (pc := 53) hΓ d_X_cutAt_53 (by decide) (fun h5 => ?_) (fun h5 => ?_)
          · rw [if_pos h5]
            refine go_iload_n (q := 1) (i := 1) (pc := 60) hΓ d_X_cutAt_60 rfl rfl ?_
            refine go_sub' (lv' := [(0, .ref 0), (3, .int x3)]) rfl ?_
            exact g10h _
          · rw [if_neg h5]
            refine go_iload_n (q := 2) (i := 2) (pc := 56) hΓ d_X_cutAt_56 rfl rfl ?_
            refine go_goto 61 (pc := 57) hΓ d_X_cutAt_57 (by decide) ?_
            refine go_sub' (lv' := [(0, .ref 0), (3, .int x3)]) rfl ?_
            exact g10h _
      · refine go_iload_n (q := 3) (i := 3) (pc := 49) hΓ d_X_cutAt_49 rfl rfl ?_
        exact go_iret (pc := 50) hΓ hT d_X_cutAt_50
    · refine go_if_eq 45 (pc := 38) hΓ d_X_cutAt_38 (by decide) (fun h2 => ?_) (fun h2 => ?_)
      · rw [if_pos h2]
        refine go_iload_n (q := 2) (i := 2) (pc := 45) hΓ d_X_cutAt_45 rfl rfl ?_
        refine go_sub' (lv' := [(0, .ref 0), (1, .int x1), (2, .int x2), (3, .int x3), (4, .int x4)]) rfl ?_
        exact g11h _
      · rw [if_neg h2]
        refine go_iload_n (q := 1) (i := 1) (pc := 41) hΓ d_X_cutAt_41 rfl rfl ?_
        refine go_goto 46 (pc := 42) hΓ d_X_cutAt_42 (by decide) ?_
        refine go_sub' (lv' := [(0, .ref 0), (1, .int x1), (2, .int x2), (3, .int x3), (4, .int x4)]) rfl ?_
        exact g11h _
  · refine go_icmp_eq 35 (pc := 2) hΓ d_X_cutAt_2 (by decide) (fun h12 => go_eq (if_pos h12) ?_) (fun h12 => go_eq (if_neg h12) ?_)
    · refine go_sub' (lv' := [(0, .ref 0), (1, .int x1), (2, .int x2), (3, .int x3), (4, .int x4)]) rfl ?_
      exact k1h ()
    · refine go_iload_n (q := 2) (i := 2) (pc := 5) hΓ d_X_cutAt_5 rfl rfl ?_
      refine go_iload_n (q := 3) (i := 3) (pc := 6) hΓ d_X_cutAt_6 rfl rfl ?_
      refine go_icmp_eq 35 (pc := 7) hΓ d_X_cutAt_7 (by decide) (fun h13 => go_eq (if_pos h13) ?_) (fun h13 => go_eq (if_neg h13) ?_)
      · refine go_sub' (lv' := [(0, .ref 0), (1, .int x1), (2, .int x2), (3, .int x3), (4, .int x4)]) rfl ?_
        exact k1h ()
      · refine go_aload_n (q := 0) (i := 0) (pc := 10) hΓ d_X_cutAt_10 rfl rfl ?_
        refine go_getR (q := 21) (pc := 11) hΓ fl_X_23 d_X_cutAt_11 rfl rfl ?_
        refine go_aload_n (q := 0) (i := 0) (pc := 14) hΓ d_X_cutAt_14 rfl rfl ?_
        refine go_getR (q := 36) (pc := 15) hΓ fl_X_76 d_X_cutAt_15 rfl rfl ?_
        refine go_iload_n (q := 1) (i := 1) (pc := 18) hΓ d_X_cutAt_18 rfl rfl ?_
        refine go_ck (fun h14 => ?_)
        refine go_iald (pc := 19) hΓ d_X_cutAt_19 rfl h14 ?_
        refine go_aload_n (q := 0) (i := 0) (pc := 20) hΓ d_X_cutAt_20 rfl rfl ?_
        refine go_getR (q := 36) (pc := 21) hΓ fl_X_76 d_X_cutAt_21 rfl rfl ?_
        refine go_iload_n (q := 2) (i := 2) (pc := 24) hΓ d_X_cutAt_24 rfl rfl ?_
        refine go_ck (fun h15 => ?_)
        refine go_iald (pc := 25) hΓ d_X_cutAt_25 rfl h15 ?_
        refine go_aload_n (q := 0) (i := 0) (pc := 26) hΓ d_X_cutAt_26 rfl rfl ?_
        refine go_getR (q := 18) (pc := 27) hΓ fl_X_16 d_X_cutAt_27 rfl rfl ?_
        refine go_callV (index := 344) emV hΓ hR (g_Tangle_untangle N (d + 0) (gI μ0 36 (tn x1)) (gI μ0 36 (tn x2)) 18 isN_18) mi_Tangle_untangle ml_X_344 d_X_cutAt_30 rfl rfl rfl rfl rfl (fun _ μ17 => ?_)
        show Go Γ 6 33 [(0, .ref 0), (1, .int x1), (2, .int x2), (3, .int x3), (4, .int x4)] [] μ17 _
        refine go_iload_n (q := 3) (i := 3) (pc := 33) hΓ d_X_cutAt_33 rfl rfl ?_
        exact go_iret (pc := 34) hΓ hT d_X_cutAt_34
def lp_X_cuts_94 (N : Nat) (x3 : Int32) (x4 : Int32) (p5 : Nat)  (K : Int32 → Mem → Option (Int32 × Mem)) : Nat → Int32 → Int32 → Mem → Option (Int32 × Mem)
  | 0, _, _, _ => none
  | n + 1, a6, a7, μ0 => if a7 < (gI μ0 p5 1) then (ck (inb a7 60) (ck (inb a7 60) (bnd (f_X_cutAt N (gI μ0 (p5 + 1) (tn a7)) (gI μ0 (p5 + 2) (tn a7)) a6 x3 μ0) fun r22 μ23 => lt' (a7 + 1) fun v24 => lp_X_cuts_94 N x3 x4 p5 K n r22 v24 μ23))) else (K a6 μ0)
def f_X_cuts (N : Nat) (x1 : Int32) (x2 : Int32) (x3 : Int32) (x4 : Int32) (μ0 : Mem) : Option (Int32 × Mem) :=
  bnd (f_X_isNet N x1 μ0) fun r1 μ2 => if r1 = 0 then (some ((-1), μ2)) else (bnd (f_X_isNet N x4 μ2) fun r4 μ5 => if r4 = 0 then (some ((-1), μ5)) else (ck (inb x1 4) (bnd (f_Net_isWire N (2 + 3 * tn x1) x2 μ5) fun r8 μ9 => if r8 = 0 then (some ((-1), μ9)) else (ck (inb x1 4) (if 2 < (gI μ9 (2 + 3 * tn x1) 0) then (bnd (f_X_nameLines N (gI μ9 (2 + 3 * tn x1) 0) x2 μ9) fun _ μ14 => bnd (f_Tangle_start N ((gI μ14 (2 + 3 * tn x1) 0) - 1) μ14) fun _ μ16 => bnd (f_Net_clear N 18 ((gI μ16 (2 + 3 * tn x1) 0) - 1) μ16) fun _ μ18 => lp_X_cuts_94 N x3 x4 (2 + 3 * tn x1) (fun v25 μ26 => ck (inb x4 4) (bnd (f_Net_take N (2 + 3 * tn x4) 18 μ26) fun _ μ29 => bnd (f_Numbers_clear N  μ29) fun _ μ31 => bnd (f_Numbers_append N (Int32.toInt64 v25) μ31) fun _ μ33 => some (gI μ33 18 1, μ33))) N x2 0 μ18) else (some ((-2), μ9)))))))
set_option maxHeartbeats 4000000 in
set_option maxRecDepth 100000 in
theorem glp_X_cuts_94 (N d : Nat) {Γ : Cx Int32} (hΓ : Ok Γ "SortingNets" c_X_cuts 8) (hT : Rt Γ eI (some .int)) (hR : Rm Γ (d + 3)) (x3 : Int32) (x4 : Int32) (p5 : Nat) (hp5 : isN p5)   (K : Int32 → Mem → Option (Int32 × Mem)) (hK : ∀ (b6 : Int32) (ν : Mem), Go Γ 8 135 [(0, .ref 0), (4, .int x4), (6, .int b6)] [] ν (K b6 ν)) : ∀ (n : Nat) (a6 : Int32) (a7 : Int32) (μ0 : Mem), Go Γ 8 94 [(0, .ref 0), (3, .int x3), (4, .int x4), (5, .ref p5), (6, .int a6), (7, .int a7)] [] μ0 (lp_X_cuts_94 N x3 x4 p5 K n a6 a7 μ0) := by
  intro n
  induction n with
  | zero => intro a6 a7 μ0; exact go_none
  | succ n ih =>
    intro a6 a7 μ0
    rw [lp_X_cuts_94]
    refine go_iload (q := 5) (pc := 94) hΓ d_X_cuts_94 rfl ?_
    refine go_aload (q := 3) (pc := 96) hΓ d_X_cuts_96 rfl ?_
    refine go_getI (pc := 98) hΓ fl_X_121 d_X_cuts_98 (isN_sh hp5).1 rfl ?_
    refine go_icmp_ge 135 (pc := 101) hΓ d_X_cuts_101 (by decide) (fun h19 => go_eq (if_neg h19) ?_) (fun h19 => go_eq (if_pos h19) ?_)
    · refine go_sub' (lv' := [(0, .ref 0), (4, .int x4), (6, .int a6)]) rfl ?_
      exact hK a6 μ0
    · refine go_aload_n (q := 0) (i := 0) (pc := 104) hΓ d_X_cuts_104 rfl rfl ?_
      refine go_aload (q := 3) (pc := 105) hΓ d_X_cuts_105 rfl ?_
      refine go_getR (q := p5 + 1) (pc := 107) hΓ fl_X_175 d_X_cuts_107 (isN_sh hp5).1 rfl ?_
      refine go_iload (q := 5) (pc := 110) hΓ d_X_cuts_110 rfl ?_
      refine go_ck (fun h20 => ?_)
      refine go_iald (pc := 112) hΓ d_X_cuts_112 (isN_sh hp5).2.1 h20 ?_
      refine go_aload (q := 3) (pc := 113) hΓ d_X_cuts_113 rfl ?_
      refine go_getR (q := p5 + 2) (pc := 115) hΓ fl_X_178 d_X_cuts_115 (isN_sh hp5).1 rfl ?_
      refine go_iload (q := 5) (pc := 118) hΓ d_X_cuts_118 rfl ?_
      refine go_ck (fun h21 => ?_)
      refine go_iald (pc := 120) hΓ d_X_cuts_120 (isN_sh hp5).2.2 h21 ?_
      refine go_iload (q := 4) (pc := 121) hΓ d_X_cuts_121 rfl ?_
      refine go_iload_n (q := 1) (i := 3) (pc := 123) hΓ d_X_cuts_123 rfl rfl ?_
      refine go_callV (index := 207) emI hΓ hR (g_X_cutAt N (d + 0) (gI μ0 (p5 + 1) (tn a7)) (gI μ0 (p5 + 2) (tn a7)) a6 x3) mi_X_cutAt ml_X_207 d_X_cuts_124 rfl rfl rfl rfl rfl (fun r22 μ23 => ?_)
      show Go Γ 8 127 [(0, .ref 0), (3, .int x3), (4, .int x4), (5, .ref p5), (6, .int a6), (7, .int a7)] [.int r22] μ23 _
      refine go_istore (lv' := [(6, .int r22), (0, .ref 0), (3, .int x3), (4, .int x4), (5, .ref p5), (7, .int a7)]) (pc := 127) hΓ d_X_cuts_127 (by decide) rfl ?_
      refine go_incI (q := 5) (i := 7) (n := 1) (c := 1) (pc := 129) hΓ d_X_cuts_129 rfl (by decide) (by decide) (fun v24 => ?_)
      refine go_sub' (lv' := [(7, .int v24), (6, .int r22), (0, .ref 0), (3, .int x3), (4, .int x4), (5, .ref p5)]) rfl ?_
      refine go_goto 94 (pc := 132) hΓ d_X_cuts_132 (by decide) ?_
      refine go_sub' (lv' := [(0, .ref 0), (3, .int x3), (4, .int x4), (5, .ref p5), (6, .int r22), (7, .int v24)]) rfl ?_
      exact ih r22 v24 μ23
set_option maxHeartbeats 4000000 in
set_option maxRecDepth 100000 in
theorem g_X_cuts (N d : Nat) (x1 : Int32) (x2 : Int32) (x3 : Int32) (x4 : Int32)  : CallF eI y_X_cuts c_X_cuts 8 (some .int) (d + 3 + 1) [.ref 0, .int x1, .int x2, .int x3, .int x4] (f_X_cuts N x1 x2 x3 x4) := by
  refine call_of (d := d + 3) (n := 4) mi_X_cuts.1 (fun _ => rfl) ?_
  intro Γ μ0 hΓ hT hR
  show Go Γ 8 0 [(0, .ref 0), (1, .int x1), (2, .int x2), (3, .int x3), (4, .int x4)] [] μ0 (f_X_cuts N x1 x2 x3 x4 μ0)
  unfold f_X_cuts
  refine go_iload_n (q := 1) (i := 1) (pc := 0) hΓ d_X_cuts_0 rfl rfl ?_
  refine go_callS (index := 101) emI hΓ hR (g_X_isNet N (d + 2) x1) mi_X_isNet ml_X_101 d_X_cuts_1 rfl rfl rfl (fun r1 μ2 => ?_)
  show Go Γ 8 4 [(0, .ref 0), (1, .int x1), (2, .int x2), (3, .int x3), (4, .int x4)] [.int r1] μ2 _
  refine go_if_eq 28 (pc := 4) hΓ d_X_cuts_4 (by decide) (fun h3 => go_eq (if_pos h3) ?_) (fun h3 => go_eq (if_neg h3) ?_)
  · refine go_iconst (v := -1) (pc := 28) hΓ d_X_cuts_28 (by decide) ?_
    exact go_iret (pc := 29) hΓ hT d_X_cuts_29
  · refine go_iload (q := 4) (pc := 7) hΓ d_X_cuts_7 rfl ?_
    refine go_callS (index := 101) emI hΓ hR (g_X_isNet N (d + 2) x4) mi_X_isNet ml_X_101 d_X_cuts_9 rfl rfl rfl (fun r4 μ5 => ?_)
    show Go Γ 8 12 [(0, .ref 0), (1, .int x1), (2, .int x2), (3, .int x3), (4, .int x4)] [.int r4] μ5 _
    refine go_if_eq 28 (pc := 12) hΓ d_X_cuts_12 (by decide) (fun h6 => go_eq (if_pos h6) ?_) (fun h6 => go_eq (if_neg h6) ?_)
    · refine go_iconst (v := -1) (pc := 28) hΓ d_X_cuts_28 (by decide) ?_
      exact go_iret (pc := 29) hΓ hT d_X_cuts_29
    · refine go_aload_n (q := 0) (i := 0) (pc := 15) hΓ d_X_cuts_15 rfl rfl ?_
      refine go_getR (q := 1) (pc := 16) hΓ fl_X_11 d_X_cuts_16 rfl rfl ?_
      refine go_iload_n (q := 1) (i := 1) (pc := 19) hΓ d_X_cuts_19 rfl rfl ?_
      refine go_ck (fun h7 => ?_)
      refine go_aald (pc := 20) hΓ d_X_cuts_20 h7 ?_
      refine go_iload_n (q := 2) (i := 2) (pc := 21) hΓ d_X_cuts_21 rfl rfl ?_
      refine go_callV (index := 163) emI hΓ hR (g_Net_isWire N (d + 2) (2 + 3 * tn x1) (isN_in h7) x2) mi_Net_isWire ml_X_163 d_X_cuts_22 rfl (isN_sh (isN_in h7)).1 rfl rfl rfl (fun r8 μ9 => ?_)
      show Go Γ 8 25 [(0, .ref 0), (1, .int x1), (2, .int x2), (3, .int x3), (4, .int x4)] [.int r8] μ9 _
      refine go_if_ne 30 (pc := 25) hΓ d_X_cuts_25 (by decide) (fun h10 => go_eq (if_neg h10) ?_) (fun h10 => go_eq (if_pos h10) ?_)
      · refine go_aload_n (q := 0) (i := 0) (pc := 30) hΓ d_X_cuts_30 rfl rfl ?_
        refine go_getR (q := 1) (pc := 31) hΓ fl_X_11 d_X_cuts_31 rfl rfl ?_
        refine go_iload_n (q := 1) (i := 1) (pc := 34) hΓ d_X_cuts_34 rfl rfl ?_
        refine go_ck (fun h11 => ?_)
        refine go_aald (pc := 35) hΓ d_X_cuts_35 h11 ?_
        refine go_astore (lv' := [(5, .ref (2 + 3 * tn x1)), (0, .ref 0), (1, .int x1), (2, .int x2), (3, .int x3), (4, .int x4)]) (pc := 36) hΓ d_X_cuts_36 (by decide) rfl ?_
        refine go_aload (q := 0) (pc := 38) hΓ d_X_cuts_38 rfl ?_
        refine go_getI (pc := 40) hΓ fl_X_111 d_X_cuts_40 (isN_sh (isN_in h11)).1 rfl ?_
        refine go_iconst (v := 2) (pc := 43) hΓ d_X_cuts_43 (by decide) ?_
        refine go_icmp_gt 50 (pc := 44) hΓ d_X_cuts_44 (by decide) (fun h12 => go_eq (if_pos h12) ?_) (fun h12 => go_eq (if_neg h12) ?_)
        · refine go_aload_n (q := 1) (i := 0) (pc := 50) hΓ d_X_cuts_50 rfl rfl ?_
          refine go_aload (q := 0) (pc := 51) hΓ d_X_cuts_51 rfl ?_
          refine go_getI (pc := 53) hΓ fl_X_111 d_X_cuts_53 (isN_sh (isN_in h11)).1 rfl ?_
          refine go_iload_n (q := 3) (i := 2) (pc := 56) hΓ d_X_cuts_56 rfl rfl ?_
          refine go_callV (index := 200) emV hΓ hR (g_X_nameLines N (d + 2) (gI μ9 (2 + 3 * tn x1) 0) x2) mi_X_nameLines ml_X_200 d_X_cuts_57 rfl rfl rfl rfl rfl (fun _ μ14 => ?_)
          show Go Γ 8 60 [(5, .ref (2 + 3 * tn x1)), (0, .ref 0), (1, .int x1), (2, .int x2), (3, .int x3), (4, .int x4)] [] μ14 _
          refine go_aload_n (q := 1) (i := 0) (pc := 60) hΓ d_X_cuts_60 rfl rfl ?_
          refine go_getR (q := 21) (pc := 61) hΓ fl_X_23 d_X_cuts_61 rfl rfl ?_
          refine go_aload (q := 0) (pc := 64) hΓ d_X_cuts_64 rfl ?_
          refine go_getI (pc := 66) hΓ fl_X_111 d_X_cuts_66 (isN_sh (isN_in h11)).1 rfl ?_
          refine go_iconst (v := 1) (pc := 69) hΓ d_X_cuts_69 (by decide) ?_
          refine go_isub (pc := 70) hΓ d_X_cuts_70 ?_
          refine go_callV (index := 204) emV hΓ hR (g_Tangle_start N (d + 2) ((gI μ14 (2 + 3 * tn x1) 0) - 1)) mi_Tangle_start ml_X_204 d_X_cuts_71 rfl rfl rfl rfl rfl (fun _ μ16 => ?_)
          show Go Γ 8 74 [(5, .ref (2 + 3 * tn x1)), (0, .ref 0), (1, .int x1), (2, .int x2), (3, .int x3), (4, .int x4)] [] μ16 _
          refine go_aload_n (q := 1) (i := 0) (pc := 74) hΓ d_X_cuts_74 rfl rfl ?_
          refine go_getR (q := 18) (pc := 75) hΓ fl_X_16 d_X_cuts_75 rfl rfl ?_
          refine go_aload (q := 0) (pc := 78) hΓ d_X_cuts_78 rfl ?_
          refine go_getI (pc := 80) hΓ fl_X_111 d_X_cuts_80 (isN_sh (isN_in h11)).1 rfl ?_
          refine go_iconst (v := 1) (pc := 83) hΓ d_X_cuts_83 (by decide) ?_
          refine go_isub (pc := 84) hΓ d_X_cuts_84 ?_
          refine go_callV (index := 127) emV hΓ hR (g_Net_clear N (d + 2) 18 isN_18 ((gI μ16 (2 + 3 * tn x1) 0) - 1)) mi_Net_clear ml_X_127 d_X_cuts_85 rfl rfl rfl rfl rfl (fun _ μ18 => ?_)
          show Go Γ 8 88 [(5, .ref (2 + 3 * tn x1)), (0, .ref 0), (1, .int x1), (2, .int x2), (3, .int x3), (4, .int x4)] [] μ18 _
          refine go_iload_n (q := 3) (i := 2) (pc := 88) hΓ d_X_cuts_88 rfl rfl ?_
          refine go_istore (lv' := [(6, .int x2), (5, .ref (2 + 3 * tn x1)), (0, .ref 0), (1, .int x1), (2, .int x2), (3, .int x3), (4, .int x4)]) (pc := 89) hΓ d_X_cuts_89 (by decide) rfl ?_
          refine go_iconst (v := 0) (pc := 91) hΓ d_X_cuts_91 (by decide) ?_
          refine go_istore (lv' := [(7, .int 0), (6, .int x2), (5, .ref (2 + 3 * tn x1)), (0, .ref 0), (1, .int x1), (2, .int x2), (3, .int x3), (4, .int x4)]) (pc := 92) hΓ d_X_cuts_92 (by decide) rfl ?_
          refine go_sub' (lv' := [(0, .ref 0), (3, .int x3), (4, .int x4), (5, .ref (2 + 3 * tn x1)), (6, .int x2), (7, .int 0)]) rfl ?_
          refine glp_X_cuts_94 N d hΓ hT hR x3 x4 (2 + 3 * tn x1) (isN_in h11) _ (fun v25 μ26 => ?_) N x2 0 μ18
          refine go_aload_n (q := 0) (i := 0) (pc := 135) hΓ d_X_cuts_135 rfl rfl ?_
          refine go_getR (q := 1) (pc := 136) hΓ fl_X_11 d_X_cuts_136 rfl rfl ?_
          refine go_iload (q := 1) (pc := 139) hΓ d_X_cuts_139 rfl ?_
          refine go_ck (fun h27 => ?_)
          refine go_aald (pc := 141) hΓ d_X_cuts_141 h27 ?_
          refine go_aload_n (q := 0) (i := 0) (pc := 142) hΓ d_X_cuts_142 rfl rfl ?_
          refine go_getR (q := 18) (pc := 143) hΓ fl_X_16 d_X_cuts_143 rfl rfl ?_
          refine go_callV (index := 104) emV hΓ hR (g_Net_take N (d + 2) (2 + 3 * tn x4) (isN_in h27) 18 isN_18) mi_Net_take ml_X_104 d_X_cuts_146 rfl (isN_sh (isN_in h27)).1 rfl rfl rfl (fun _ μ29 => ?_)
          show Go Γ 8 149 [(0, .ref 0), (4, .int x4), (6, .int v25)] [] μ29 _
          refine go_aload_n (q := 0) (i := 0) (pc := 149) hΓ d_X_cuts_149 rfl rfl ?_
          refine go_getR (q := 16) (pc := 150) hΓ fl_X_37 d_X_cuts_150 rfl rfl ?_
          refine go_callV (index := 108) emV hΓ hR (g_Numbers_clear N (d + 2) ) mi_Numbers_clear ml_X_108 d_X_cuts_153 rfl rfl rfl rfl rfl (fun _ μ31 => ?_)
          show Go Γ 8 156 [(0, .ref 0), (4, .int x4), (6, .int v25)] [] μ31 _
          refine go_aload_n (q := 0) (i := 0) (pc := 156) hΓ d_X_cuts_156 rfl rfl ?_
          refine go_getR (q := 16) (pc := 157) hΓ fl_X_37 d_X_cuts_157 rfl rfl ?_
          refine go_iload (q := 2) (pc := 160) hΓ d_X_cuts_160 rfl ?_
          refine go_i2l (pc := 162) hΓ d_X_cuts_162 ?_
          refine go_callV (index := 118) emV hΓ hR (g_Numbers_append N (d + 2) (Int32.toInt64 v25)) mi_Numbers_append ml_X_118 d_X_cuts_163 rfl rfl rfl rfl rfl (fun _ μ33 => ?_)
          show Go Γ 8 166 [(0, .ref 0), (4, .int x4), (6, .int v25)] [] μ33 _
          refine go_aload_n (q := 0) (i := 0) (pc := 166) hΓ d_X_cuts_166 rfl rfl ?_
          refine go_getR (q := 18) (pc := 167) hΓ fl_X_16 d_X_cuts_167 rfl rfl ?_
          refine go_getI (pc := 170) hΓ fl_X_121 d_X_cuts_170 rfl rfl ?_
          exact go_iret (pc := 173) hΓ hT d_X_cuts_173
        · refine go_bipush (v := -2) (pc := 47) hΓ d_X_cuts_47 (by decide) ?_
          exact go_iret (pc := 49) hΓ hT d_X_cuts_49
      · refine go_iconst (v := -1) (pc := 28) hΓ d_X_cuts_28 (by decide) ?_
        exact go_iret (pc := 29) hΓ hT d_X_cuts_29
def f_X_code (N : Nat) (x0 : Int32) (x1 : Int32) (μ0 : Mem) : Option (Int32 × Mem) :=
  some ((10 * x0) + x1, μ0)
set_option maxHeartbeats 4000000 in
set_option maxRecDepth 100000 in
theorem g_X_code (N d : Nat) (x0 : Int32) (x1 : Int32)  : CallF eI y_X_code c_X_code 2 (some .int) (d + 0 + 1) [.int x0, .int x1] (f_X_code N x0 x1) := by
  refine call_of (d := d + 0) (n := 2) mi_X_code.1 (fun _ => rfl) ?_
  intro Γ μ0 hΓ hT hR
  show Go Γ 2 0 [(0, .int x0), (1, .int x1)] [] μ0 (f_X_code N x0 x1 μ0)
  unfold f_X_code
  refine go_bipush (v := 10) (pc := 0) hΓ d_X_code_0 (by decide) ?_
  refine go_iload_n (q := 0) (i := 0) (pc := 2) hΓ d_X_code_2 rfl rfl ?_
  refine go_imul (pc := 3) hΓ d_X_code_3 ?_
  refine go_iload_n (q := 1) (i := 1) (pc := 4) hΓ d_X_code_4 rfl rfl ?_
  refine go_iadd (pc := 5) hΓ d_X_code_5 ?_
  exact go_iret (pc := 6) hΓ hT d_X_code_6
def f_X_comparer (N : Nat) (x1 : Int32) (x2 : Int32) (μ0 : Mem) : Option (Int32 × Mem) :=
  bnd (f_X_isComparer N x1 x2 μ0) fun r1 μ2 => if r1 = 0 then (some ((-1), μ2)) else (ck (inb x1 4) (bnd (f_Layers_read N (2 + 3 * tn x1) μ2) fun _ μ6 => bnd (f_Numbers_clear N  μ6) fun _ μ8 => ck (inb x2 60) (bnd (f_Numbers_append N (Int32.toInt64 (gI μ8 24 (tn x2))) μ8) fun _ μ11 => ck (inb x1 4) (ck (inb x2 60) (ck (inb x1 4) (ck (inb x2 60) (bnd (f_X_code N (gI μ11 ((2 + 3 * tn x1) + 1) (tn x2)) (gI μ11 ((2 + 3 * tn x1) + 2) (tn x2)) μ11) fun r16 μ17 => some (r16, μ17))))))))
set_option maxHeartbeats 4000000 in
set_option maxRecDepth 100000 in
theorem g_X_comparer (N d : Nat) (x1 : Int32) (x2 : Int32)  : CallF eI y_X_comparer c_X_comparer 3 (some .int) (d + 2 + 1) [.ref 0, .int x1, .int x2] (f_X_comparer N x1 x2) := by
  refine call_of (d := d + 2) (n := 2) mi_X_comparer.1 (fun _ => rfl) ?_
  intro Γ μ0 hΓ hT hR
  show Go Γ 3 0 [(0, .ref 0), (1, .int x1), (2, .int x2)] [] μ0 (f_X_comparer N x1 x2 μ0)
  unfold f_X_comparer
  refine go_aload_n (q := 0) (i := 0) (pc := 0) hΓ d_X_comparer_0 rfl rfl ?_
  refine go_iload_n (q := 1) (i := 1) (pc := 1) hΓ d_X_comparer_1 rfl rfl ?_
  refine go_iload_n (q := 2) (i := 2) (pc := 2) hΓ d_X_comparer_2 rfl rfl ?_
  refine go_callV (index := 166) emI hΓ hR (g_X_isComparer N (d + 0) x1 x2) mi_X_isComparer ml_X_166 d_X_comparer_3 rfl rfl rfl rfl rfl (fun r1 μ2 => ?_)
  show Go Γ 3 6 [(0, .ref 0), (1, .int x1), (2, .int x2)] [.int r1] μ2 _
  refine go_if_ne 11 (pc := 6) hΓ d_X_comparer_6 (by decide) (fun h3 => go_eq (if_neg h3) ?_) (fun h3 => go_eq (if_pos h3) ?_)
  · refine go_aload_n (q := 0) (i := 0) (pc := 11) hΓ d_X_comparer_11 rfl rfl ?_
    refine go_getR (q := 23) (pc := 12) hΓ fl_X_44 d_X_comparer_12 rfl rfl ?_
    refine go_aload_n (q := 0) (i := 0) (pc := 15) hΓ d_X_comparer_15 rfl rfl ?_
    refine go_getR (q := 1) (pc := 16) hΓ fl_X_11 d_X_comparer_16 rfl rfl ?_
    refine go_iload_n (q := 1) (i := 1) (pc := 19) hΓ d_X_comparer_19 rfl rfl ?_
    refine go_ck (fun h4 => ?_)
    refine go_aald (pc := 20) hΓ d_X_comparer_20 h4 ?_
    refine go_callV (index := 187) emV hΓ hR (g_Layers_read N (d + 1) (2 + 3 * tn x1) (isN_in h4)) mi_Layers_read ml_X_187 d_X_comparer_21 rfl rfl rfl rfl rfl (fun _ μ6 => ?_)
    show Go Γ 3 24 [(0, .ref 0), (1, .int x1), (2, .int x2)] [] μ6 _
    refine go_aload_n (q := 0) (i := 0) (pc := 24) hΓ d_X_comparer_24 rfl rfl ?_
    refine go_getR (q := 16) (pc := 25) hΓ fl_X_37 d_X_comparer_25 rfl rfl ?_
    refine go_callV (index := 108) emV hΓ hR (g_Numbers_clear N (d + 1) ) mi_Numbers_clear ml_X_108 d_X_comparer_28 rfl rfl rfl rfl rfl (fun _ μ8 => ?_)
    show Go Γ 3 31 [(0, .ref 0), (1, .int x1), (2, .int x2)] [] μ8 _
    refine go_aload_n (q := 0) (i := 0) (pc := 31) hΓ d_X_comparer_31 rfl rfl ?_
    refine go_getR (q := 16) (pc := 32) hΓ fl_X_37 d_X_comparer_32 rfl rfl ?_
    refine go_aload_n (q := 0) (i := 0) (pc := 35) hΓ d_X_comparer_35 rfl rfl ?_
    refine go_getR (q := 23) (pc := 36) hΓ fl_X_44 d_X_comparer_36 rfl rfl ?_
    refine go_getR (q := 24) (pc := 39) hΓ fl_X_211 d_X_comparer_39 rfl rfl ?_
    refine go_iload_n (q := 2) (i := 2) (pc := 42) hΓ d_X_comparer_42 rfl rfl ?_
    refine go_ck (fun h9 => ?_)
    refine go_iald (pc := 43) hΓ d_X_comparer_43 rfl h9 ?_
    refine go_i2l (pc := 44) hΓ d_X_comparer_44 ?_
    refine go_callV (index := 118) emV hΓ hR (g_Numbers_append N (d + 1) (Int32.toInt64 (gI μ8 24 (tn x2)))) mi_Numbers_append ml_X_118 d_X_comparer_45 rfl rfl rfl rfl rfl (fun _ μ11 => ?_)
    show Go Γ 3 48 [(0, .ref 0), (1, .int x1), (2, .int x2)] [] μ11 _
    refine go_aload_n (q := 0) (i := 0) (pc := 48) hΓ d_X_comparer_48 rfl rfl ?_
    refine go_getR (q := 1) (pc := 49) hΓ fl_X_11 d_X_comparer_49 rfl rfl ?_
    refine go_iload_n (q := 1) (i := 1) (pc := 52) hΓ d_X_comparer_52 rfl rfl ?_
    refine go_ck (fun h12 => ?_)
    refine go_aald (pc := 53) hΓ d_X_comparer_53 h12 ?_
    refine go_getR (q := (2 + 3 * tn x1) + 1) (pc := 54) hΓ fl_X_175 d_X_comparer_54 (isN_sh (isN_in h12)).1 rfl ?_
    refine go_iload_n (q := 2) (i := 2) (pc := 57) hΓ d_X_comparer_57 rfl rfl ?_
    refine go_ck (fun h13 => ?_)
    refine go_iald (pc := 58) hΓ d_X_comparer_58 (isN_sh (isN_in h12)).2.1 h13 ?_
    refine go_aload_n (q := 0) (i := 0) (pc := 59) hΓ d_X_comparer_59 rfl rfl ?_
    refine go_getR (q := 1) (pc := 60) hΓ fl_X_11 d_X_comparer_60 rfl rfl ?_
    refine go_iload_n (q := 1) (i := 1) (pc := 63) hΓ d_X_comparer_63 rfl rfl ?_
    refine go_ck (fun h14 => ?_)
    refine go_aald (pc := 64) hΓ d_X_comparer_64 h14 ?_
    refine go_getR (q := (2 + 3 * tn x1) + 2) (pc := 65) hΓ fl_X_178 d_X_comparer_65 (isN_sh (isN_in h14)).1 rfl ?_
    refine go_iload_n (q := 2) (i := 2) (pc := 68) hΓ d_X_comparer_68 rfl rfl ?_
    refine go_ck (fun h15 => ?_)
    refine go_iald (pc := 69) hΓ d_X_comparer_69 (isN_sh (isN_in h14)).2.2 h15 ?_
    refine go_callS (index := 214) emI hΓ hR (g_X_code N (d + 1) (gI μ11 ((2 + 3 * tn x1) + 1) (tn x2)) (gI μ11 ((2 + 3 * tn x1) + 2) (tn x2))) mi_X_code ml_X_214 d_X_comparer_70 rfl rfl rfl (fun r16 μ17 => ?_)
    show Go Γ 3 73 [(0, .ref 0), (1, .int x1), (2, .int x2)] [.int r16] μ17 _
    exact go_iret (pc := 73) hΓ hT d_X_comparer_73
  · refine go_iconst (v := -1) (pc := 9) hΓ d_X_comparer_9 (by decide) ?_
    exact go_iret (pc := 10) hΓ hT d_X_comparer_10
def lp_X_depth_31 (N : Nat)   (K : Mem → Option (Int32 × Mem)) : Nat → Int32 → Mem → Option (Int32 × Mem)
  | 0, _, _ => none
  | n + 1, a2, μ0 => if (gI μ0 23 1) < a2 then (K  μ0) else (bnd (f_Layers_sizeOf N a2 μ0) fun r10 μ11 => bnd (f_Numbers_append N (Int32.toInt64 r10) μ11) fun _ μ13 => lt' (a2 + 1) fun v14 => lp_X_depth_31 N K n v14 μ13)
def f_X_depth (N : Nat) (x1 : Int32) (μ0 : Mem) : Option (Int32 × Mem) :=
  bnd (f_X_isNet N x1 μ0) fun r1 μ2 => if r1 = 0 then (some ((-1), μ2)) else (ck (inb x1 4) (bnd (f_Layers_read N (2 + 3 * tn x1) μ2) fun _ μ6 => bnd (f_Numbers_clear N  μ6) fun _ μ8 => lp_X_depth_31 N  (fun μ15 => some (gI μ15 23 1, μ15)) N 1 μ8))
set_option maxHeartbeats 4000000 in
set_option maxRecDepth 100000 in
theorem glp_X_depth_31 (N d : Nat) {Γ : Cx Int32} (hΓ : Ok Γ "SortingNets" c_X_depth 3) (hT : Rt Γ eI (some .int)) (hR : Rm Γ (d + 1))     (K : Mem → Option (Int32 × Mem)) (hK : ∀  (ν : Mem), Go Γ 3 64 [(0, .ref 0)] [] ν (K  ν)) : ∀ (n : Nat) (a2 : Int32) (μ0 : Mem), Go Γ 3 31 [(0, .ref 0), (2, .int a2)] [] μ0 (lp_X_depth_31 N K n a2 μ0) := by
  intro n
  induction n with
  | zero => intro a2 μ0; exact go_none
  | succ n ih =>
    intro a2 μ0
    rw [lp_X_depth_31]
    refine go_iload_n (q := 1) (i := 2) (pc := 31) hΓ d_X_depth_31 rfl rfl ?_
    refine go_aload_n (q := 0) (i := 0) (pc := 32) hΓ d_X_depth_32 rfl rfl ?_
    refine go_getR (q := 23) (pc := 33) hΓ fl_X_44 d_X_depth_33 rfl rfl ?_
    refine go_getI (pc := 36) hΓ fl_X_190 d_X_depth_36 rfl rfl ?_
    refine go_icmp_gt 64 (pc := 39) hΓ d_X_depth_39 (by decide) (fun h9 => go_eq (if_pos h9) ?_) (fun h9 => go_eq (if_neg h9) ?_)
    · refine go_sub' (lv' := [(0, .ref 0)]) rfl ?_
      exact hK  μ0
    · refine go_aload_n (q := 0) (i := 0) (pc := 42) hΓ d_X_depth_42 rfl rfl ?_
      refine go_getR (q := 16) (pc := 43) hΓ fl_X_37 d_X_depth_43 rfl rfl ?_
      refine go_aload_n (q := 0) (i := 0) (pc := 46) hΓ d_X_depth_46 rfl rfl ?_
      refine go_getR (q := 23) (pc := 47) hΓ fl_X_44 d_X_depth_47 rfl rfl ?_
      refine go_iload_n (q := 1) (i := 2) (pc := 50) hΓ d_X_depth_50 rfl rfl ?_
      refine go_callV (index := 217) emI hΓ hR (g_Layers_sizeOf N (d + 0) a2) mi_Layers_sizeOf ml_X_217 d_X_depth_51 rfl rfl rfl rfl rfl (fun r10 μ11 => ?_)
      show Go Γ 3 54 [(0, .ref 0), (2, .int a2)] [.int r10, .ref 16] μ11 _
      refine go_i2l (pc := 54) hΓ d_X_depth_54 ?_
      refine go_callV (index := 118) emV hΓ hR (g_Numbers_append N (d + 0) (Int32.toInt64 r10)) mi_Numbers_append ml_X_118 d_X_depth_55 rfl rfl rfl rfl rfl (fun _ μ13 => ?_)
      show Go Γ 3 58 [(0, .ref 0), (2, .int a2)] [] μ13 _
      refine go_incI (q := 1) (i := 2) (n := 1) (c := 1) (pc := 58) hΓ d_X_depth_58 rfl (by decide) (by decide) (fun v14 => ?_)
      refine go_sub' (lv' := [(2, .int v14), (0, .ref 0)]) rfl ?_
      refine go_goto 31 (pc := 61) hΓ d_X_depth_61 (by decide) ?_
      refine go_sub' (lv' := [(0, .ref 0), (2, .int v14)]) rfl ?_
      exact ih v14 μ13
set_option maxHeartbeats 4000000 in
set_option maxRecDepth 100000 in
theorem g_X_depth (N d : Nat) (x1 : Int32)  : CallF eI y_X_depth c_X_depth 3 (some .int) (d + 1 + 1) [.ref 0, .int x1] (f_X_depth N x1) := by
  refine call_of (d := d + 1) (n := 1) mi_X_depth.1 (fun _ => rfl) ?_
  intro Γ μ0 hΓ hT hR
  show Go Γ 3 0 [(0, .ref 0), (1, .int x1)] [] μ0 (f_X_depth N x1 μ0)
  unfold f_X_depth
  refine go_iload_n (q := 1) (i := 1) (pc := 0) hΓ d_X_depth_0 rfl rfl ?_
  refine go_callS (index := 101) emI hΓ hR (g_X_isNet N (d + 0) x1) mi_X_isNet ml_X_101 d_X_depth_1 rfl rfl rfl (fun r1 μ2 => ?_)
  show Go Γ 3 4 [(0, .ref 0), (1, .int x1)] [.int r1] μ2 _
  refine go_if_ne 9 (pc := 4) hΓ d_X_depth_4 (by decide) (fun h3 => go_eq (if_neg h3) ?_) (fun h3 => go_eq (if_pos h3) ?_)
  · refine go_aload_n (q := 0) (i := 0) (pc := 9) hΓ d_X_depth_9 rfl rfl ?_
    refine go_getR (q := 23) (pc := 10) hΓ fl_X_44 d_X_depth_10 rfl rfl ?_
    refine go_aload_n (q := 0) (i := 0) (pc := 13) hΓ d_X_depth_13 rfl rfl ?_
    refine go_getR (q := 1) (pc := 14) hΓ fl_X_11 d_X_depth_14 rfl rfl ?_
    refine go_iload_n (q := 1) (i := 1) (pc := 17) hΓ d_X_depth_17 rfl rfl ?_
    refine go_ck (fun h4 => ?_)
    refine go_aald (pc := 18) hΓ d_X_depth_18 h4 ?_
    refine go_callV (index := 187) emV hΓ hR (g_Layers_read N (d + 0) (2 + 3 * tn x1) (isN_in h4)) mi_Layers_read ml_X_187 d_X_depth_19 rfl rfl rfl rfl rfl (fun _ μ6 => ?_)
    show Go Γ 3 22 [(0, .ref 0), (1, .int x1)] [] μ6 _
    refine go_aload_n (q := 0) (i := 0) (pc := 22) hΓ d_X_depth_22 rfl rfl ?_
    refine go_getR (q := 16) (pc := 23) hΓ fl_X_37 d_X_depth_23 rfl rfl ?_
    refine go_callV (index := 108) emV hΓ hR (g_Numbers_clear N (d + 0) ) mi_Numbers_clear ml_X_108 d_X_depth_26 rfl rfl rfl rfl rfl (fun _ μ8 => ?_)
    show Go Γ 3 29 [(0, .ref 0), (1, .int x1)] [] μ8 _
    refine go_iconst (v := 1) (pc := 29) hΓ d_X_depth_29 (by decide) ?_
    refine go_istore_n (i := 2) (lv' := [(2, .int 1), (0, .ref 0), (1, .int x1)]) (pc := 30) hΓ d_X_depth_30 rfl (by decide) rfl ?_
    refine go_sub' (lv' := [(0, .ref 0), (2, .int 1)]) rfl ?_
    refine glp_X_depth_31 N d hΓ hT hR  _ (fun μ15 => ?_) N 1 μ8
    refine go_aload_n (q := 0) (i := 0) (pc := 64) hΓ d_X_depth_64 rfl rfl ?_
    refine go_getR (q := 23) (pc := 65) hΓ fl_X_44 d_X_depth_65 rfl rfl ?_
    refine go_getI (pc := 68) hΓ fl_X_190 d_X_depth_68 rfl rfl ?_
    exact go_iret (pc := 71) hΓ hT d_X_depth_71
  · refine go_iconst (v := -1) (pc := 7) hΓ d_X_depth_7 (by decide) ?_
    exact go_iret (pc := 8) hΓ hT d_X_depth_8
def f_X_isPattern (N : Nat) (x1 : Int32) (x2 : Int32) (μ0 : Mem) : Option (Int32 × Mem) :=
  bnd (f_X_isNet N x1 μ0) fun r1 μ2 => if r1 = 0 then (some (0, μ2)) else (if x2 < 0 then (some (0, μ2)) else (ck (inb x1 4) (if x2 < (shlI 1 (gI μ2 (2 + 3 * tn x1) 0)) then (some (1, μ2)) else (some (0, μ2)))))
set_option maxHeartbeats 4000000 in
set_option maxRecDepth 100000 in
theorem g_X_isPattern (N d : Nat) (x1 : Int32) (x2 : Int32)  : CallF eI y_X_isPattern c_X_isPattern 3 (some .boolean) (d + 1 + 1) [.ref 0, .int x1, .int x2] (f_X_isPattern N x1 x2) := by
  refine call_of (d := d + 1) (n := 2) mi_X_isPattern.1 (fun _ => rfl) ?_
  intro Γ μ0 hΓ hT hR
  show Go Γ 3 0 [(0, .ref 0), (1, .int x1), (2, .int x2)] [] μ0 (f_X_isPattern N x1 x2 μ0)
  unfold f_X_isPattern
  refine go_iload_n (q := 1) (i := 1) (pc := 0) hΓ d_X_isPattern_0 rfl rfl ?_
  refine go_callS (index := 101) emI hΓ hR (g_X_isNet N (d + 0) x1) mi_X_isNet ml_X_101 d_X_isPattern_1 rfl rfl rfl (fun r1 μ2 => ?_)
  show Go Γ 3 4 [(0, .ref 0), (1, .int x1), (2, .int x2)] [.int r1] μ2 _
  refine go_if_eq 30 (pc := 4) hΓ d_X_isPattern_4 (by decide) (fun h3 => go_eq (if_pos h3) ?_) (fun h3 => go_eq (if_neg h3) ?_)
  · refine go_iconst (v := 0) (pc := 30) hΓ d_X_isPattern_30 (by decide) ?_
    exact go_zret (pc := 31) hΓ hT d_X_isPattern_31 rfl
  · refine go_iload_n (q := 2) (i := 2) (pc := 7) hΓ d_X_isPattern_7 rfl rfl ?_
    refine go_if_lt 30 (pc := 8) hΓ d_X_isPattern_8 (by decide) (fun h4 => go_eq (if_pos h4) ?_) (fun h4 => go_eq (if_neg h4) ?_)
    · refine go_iconst (v := 0) (pc := 30) hΓ d_X_isPattern_30 (by decide) ?_
      exact go_zret (pc := 31) hΓ hT d_X_isPattern_31 rfl
    · refine go_iload_n (q := 2) (i := 2) (pc := 11) hΓ d_X_isPattern_11 rfl rfl ?_
      refine go_iconst (v := 1) (pc := 12) hΓ d_X_isPattern_12 (by decide) ?_
      refine go_aload_n (q := 0) (i := 0) (pc := 13) hΓ d_X_isPattern_13 rfl rfl ?_
      refine go_getR (q := 1) (pc := 14) hΓ fl_X_11 d_X_isPattern_14 rfl rfl ?_
      refine go_iload_n (q := 1) (i := 1) (pc := 17) hΓ d_X_isPattern_17 rfl rfl ?_
      refine go_ck (fun h5 => ?_)
      refine go_aald (pc := 18) hΓ d_X_isPattern_18 h5 ?_
      refine go_getI (pc := 19) hΓ fl_X_111 d_X_isPattern_19 (isN_sh (isN_in h5)).1 rfl ?_
      refine go_ishl (pc := 22) hΓ d_X_isPattern_22 ?_
      refine go_icmp_ge 30 (pc := 23) hΓ d_X_isPattern_23 (by decide) (fun h6 => go_eq (if_neg h6) ?_) (fun h6 => go_eq (if_pos h6) ?_)
      · refine go_iconst (v := 0) (pc := 30) hΓ d_X_isPattern_30 (by decide) ?_
        exact go_zret (pc := 31) hΓ hT d_X_isPattern_31 rfl
      · refine go_iconst (v := 1) (pc := 26) hΓ d_X_isPattern_26 (by decide) ?_
        refine go_goto 31 (pc := 27) hΓ d_X_isPattern_27 (by decide) ?_
        exact go_zret (pc := 31) hΓ hT d_X_isPattern_31 rfl
def lp_X_runs_27 (N : Nat) (p3 : Nat)  (K : Int32 → Int64 → Mem → Option (Int32 × Mem)) : Nat → Int32 → Int64 → Int32 → Mem → Option (Int32 × Mem)
  | 0, _, _, _, _ => none
  | n + 1, a4, a5, a7, μ0 => if a7 < (gI μ0 p3 1) then (ck (inb a7 60) (lt' (gI μ0 (p3 + 1) (tn a7)) fun v7 => ck (inb a7 60) (lt' (gI μ0 (p3 + 2) (tn a7)) fun v9 => lt' (if ((shrI a4 v9) &&& 1) < ((shrI a4 v7) &&& 1) then ((a4 ^^^ ((shlI 1 v7) ||| (shlI 1 v9)) : Int32), (a5 ||| (shlL 1 a7) : Int64)) else ((a4 : Int32), (a5 : Int64))) fun q11 => lt' (a7 + 1) fun v12 => lp_X_runs_27 N p3 K n q11.1 q11.2 v12 μ0))) else (K a4 a5 μ0)
def f_X_runs (N : Nat) (x1 : Int32) (x2 : Int32) (μ0 : Mem) : Option (Int32 × Mem) :=
  bnd (f_X_isPattern N x1 x2 μ0) fun r1 μ2 => if r1 = 0 then (some ((-1), μ2)) else (ck (inb x1 4) (lp_X_runs_27 N (2 + 3 * tn x1) (fun v14 v15 μ16 => bnd (f_Numbers_clear N  μ16) fun _ μ18 => bnd (f_Numbers_append N v15 μ18) fun _ μ20 => some (v14, μ20)) N x2 0 0 μ2))
set_option maxHeartbeats 4000000 in
set_option maxRecDepth 100000 in
theorem glp_X_runs_27 (N d : Nat) {Γ : Cx Int32} (hΓ : Ok Γ "SortingNets" c_X_runs 10) (hT : Rt Γ eI (some .int)) (hR : Rm Γ (d + 2)) (p3 : Nat) (hp3 : isN p3)   (K : Int32 → Int64 → Mem → Option (Int32 × Mem)) (hK : ∀ (b4 : Int32) (b5 : Int64) (ν : Mem), Go Γ 10 100 [(0, .ref 0), (4, .int b4), (5, .long b5)] [] ν (K b4 b5 ν)) : ∀ (n : Nat) (a4 : Int32) (a5 : Int64) (a7 : Int32) (μ0 : Mem), Go Γ 10 27 [(0, .ref 0), (3, .ref p3), (4, .int a4), (5, .long a5), (7, .int a7)] [] μ0 (lp_X_runs_27 N p3 K n a4 a5 a7 μ0) := by
  intro n
  induction n with
  | zero => intro a4 a5 a7 μ0; exact go_none
  | succ n ih =>
    intro a4 a5 a7 μ0
    rw [lp_X_runs_27]
    refine go_iload (q := 4) (pc := 27) hΓ d_X_runs_27 rfl ?_
    refine go_aload_n (q := 1) (i := 3) (pc := 29) hΓ d_X_runs_29 rfl rfl ?_
    refine go_getI (pc := 30) hΓ fl_X_121 d_X_runs_30 (isN_sh hp3).1 rfl ?_
    refine go_icmp_ge 100 (pc := 33) hΓ d_X_runs_33 (by decide) (fun h5 => go_eq (if_neg h5) ?_) (fun h5 => go_eq (if_pos h5) ?_)
    · refine go_sub' (lv' := [(0, .ref 0), (4, .int a4), (5, .long a5)]) rfl ?_
      exact hK a4 a5 μ0
    · refine go_aload_n (q := 1) (i := 3) (pc := 36) hΓ d_X_runs_36 rfl rfl ?_
      refine go_getR (q := p3 + 1) (pc := 37) hΓ fl_X_175 d_X_runs_37 (isN_sh hp3).1 rfl ?_
      refine go_iload (q := 4) (pc := 40) hΓ d_X_runs_40 rfl ?_
      refine go_ck (fun h6 => ?_)
      refine go_iald (pc := 42) hΓ d_X_runs_42 (isN_sh hp3).2.1 h6 ?_
      refine go_letI (fun v7 => ?_)
      refine go_istore (lv' := [(8, .int v7), (0, .ref 0), (3, .ref p3), (4, .int a4), (5, .long a5), (7, .int a7)]) (pc := 43) hΓ d_X_runs_43 (by decide) rfl ?_
      refine go_aload_n (q := 2) (i := 3) (pc := 45) hΓ d_X_runs_45 rfl rfl ?_
      refine go_getR (q := p3 + 2) (pc := 46) hΓ fl_X_178 d_X_runs_46 (isN_sh hp3).1 rfl ?_
      refine go_iload (q := 5) (pc := 49) hΓ d_X_runs_49 rfl ?_
      refine go_ck (fun h8 => ?_)
      refine go_iald (pc := 51) hΓ d_X_runs_51 (isN_sh hp3).2.2 h8 ?_
      refine go_letI (fun v9 => ?_)
      refine go_istore (lv' := [(9, .int v9), (8, .int v7), (0, .ref 0), (3, .ref p3), (4, .int a4), (5, .long a5), (7, .int a7)]) (pc := 52) hΓ d_X_runs_52 (by decide) rfl ?_
      refine go_iload (q := 4) (pc := 54) hΓ d_X_runs_54 rfl ?_
      refine go_iload (q := 1) (pc := 56) hΓ d_X_runs_56 rfl ?_
      refine go_ishr (pc := 58) hΓ d_X_runs_58 ?_
      refine go_iconst (v := 1) (pc := 59) hΓ d_X_runs_59 (by decide) ?_
      refine go_iand (pc := 60) hΓ d_X_runs_60 ?_
      refine go_iload (q := 4) (pc := 61) hΓ d_X_runs_61 rfl ?_
      refine go_iload (q := 0) (pc := 63) hΓ d_X_runs_63 rfl ?_
      refine go_ishr (pc := 65) hΓ d_X_runs_65 ?_
      refine go_iconst (v := 1) (pc := 66) hΓ d_X_runs_66 (by decide) ?_
      refine go_iand (pc := 67) hΓ d_X_runs_67 ?_
      refine go_mg (α := Int32 × Int64) 94 (fun q11 => [(0, .ref 0), (3, .ref p3), (4, .int q11.1), (5, .long q11.2), (7, .int a7)]) (fun q11 => []) (fun q11 => ?_) (fun g13 g13h => ?_)
      · refine go_incI (q := 4) (i := 7) (n := 1) (c := 1) (pc := 94) hΓ d_X_runs_94 rfl (by decide) (by decide) (fun v12 => ?_)
        refine go_sub' (lv' := [(7, .int v12), (0, .ref 0), (3, .ref p3), (4, .int q11.1), (5, .long q11.2)]) rfl ?_
        refine go_goto 27 (pc := 97) hΓ d_X_runs_97 (by decide) ?_
        refine go_sub' (lv' := [(0, .ref 0), (3, .ref p3), (4, .int q11.1), (5, .long q11.2), (7, .int v12)]) rfl ?_
        exact ih q11.1 q11.2 v12 μ0
      · refine go_icmp_le 94 (pc := 68) hΓ d_X_runs_68 (by decide) (fun h10 => ?_) (fun h10 => ?_)
        · rw [if_neg h10]
          refine go_sub' (lv' := [(0, .ref 0), (3, .ref p3), (4, .int a4), (5, .long a5), (7, .int a7)]) rfl ?_
          exact g13h _
        · rw [if_pos h10]
          refine go_lload (q := 5) (pc := 71) hΓ d_X_runs_71 rfl ?_
          refine go_lconst (v := 1) (pc := 73) hΓ d_X_runs_73 (by decide) ?_
          refine go_iload (q := 6) (pc := 74) hΓ d_X_runs_74 rfl ?_
          refine go_lshl (pc := 76) hΓ d_X_runs_76 ?_
          refine go_lor (pc := 77) hΓ d_X_runs_77 ?_
          refine go_lstore (lv' := [(5, .long (a5 ||| (shlL 1 a7))), (9, .int v9), (8, .int v7), (0, .ref 0), (3, .ref p3), (4, .int a4), (7, .int a7)]) (pc := 78) hΓ d_X_runs_78 (by decide) rfl ?_
          refine go_iload (q := 5) (pc := 80) hΓ d_X_runs_80 rfl ?_
          refine go_iconst (v := 1) (pc := 82) hΓ d_X_runs_82 (by decide) ?_
          refine go_iload (q := 2) (pc := 83) hΓ d_X_runs_83 rfl ?_
          refine go_ishl (pc := 85) hΓ d_X_runs_85 ?_
          refine go_iconst (v := 1) (pc := 86) hΓ d_X_runs_86 (by decide) ?_
          refine go_iload (q := 1) (pc := 87) hΓ d_X_runs_87 rfl ?_
          refine go_ishl (pc := 89) hΓ d_X_runs_89 ?_
          refine go_ior (pc := 90) hΓ d_X_runs_90 ?_
          refine go_ixor (pc := 91) hΓ d_X_runs_91 ?_
          refine go_istore (lv' := [(4, .int (a4 ^^^ ((shlI 1 v7) ||| (shlI 1 v9)))), (5, .long (a5 ||| (shlL 1 a7))), (9, .int v9), (8, .int v7), (0, .ref 0), (3, .ref p3), (7, .int a7)]) (pc := 92) hΓ d_X_runs_92 (by decide) rfl ?_
          refine go_sub' (lv' := [(0, .ref 0), (3, .ref p3), (4, .int (a4 ^^^ ((shlI 1 v7) ||| (shlI 1 v9)))), (5, .long (a5 ||| (shlL 1 a7))), (7, .int a7)]) rfl ?_
          exact g13h _
set_option maxHeartbeats 4000000 in
set_option maxRecDepth 100000 in
theorem g_X_runs (N d : Nat) (x1 : Int32) (x2 : Int32)  : CallF eI y_X_runs c_X_runs 10 (some .int) (d + 2 + 1) [.ref 0, .int x1, .int x2] (f_X_runs N x1 x2) := by
  refine call_of (d := d + 2) (n := 2) mi_X_runs.1 (fun _ => rfl) ?_
  intro Γ μ0 hΓ hT hR
  show Go Γ 10 0 [(0, .ref 0), (1, .int x1), (2, .int x2)] [] μ0 (f_X_runs N x1 x2 μ0)
  unfold f_X_runs
  refine go_aload_n (q := 0) (i := 0) (pc := 0) hΓ d_X_runs_0 rfl rfl ?_
  refine go_iload_n (q := 1) (i := 1) (pc := 1) hΓ d_X_runs_1 rfl rfl ?_
  refine go_iload_n (q := 2) (i := 2) (pc := 2) hΓ d_X_runs_2 rfl rfl ?_
  refine go_callV (index := 220) emI hΓ hR (g_X_isPattern N (d + 0) x1 x2) mi_X_isPattern ml_X_220 d_X_runs_3 rfl rfl rfl rfl rfl (fun r1 μ2 => ?_)
  show Go Γ 10 6 [(0, .ref 0), (1, .int x1), (2, .int x2)] [.int r1] μ2 _
  refine go_if_ne 11 (pc := 6) hΓ d_X_runs_6 (by decide) (fun h3 => go_eq (if_neg h3) ?_) (fun h3 => go_eq (if_pos h3) ?_)
  · refine go_aload_n (q := 0) (i := 0) (pc := 11) hΓ d_X_runs_11 rfl rfl ?_
    refine go_getR (q := 1) (pc := 12) hΓ fl_X_11 d_X_runs_12 rfl rfl ?_
    refine go_iload_n (q := 1) (i := 1) (pc := 15) hΓ d_X_runs_15 rfl rfl ?_
    refine go_ck (fun h4 => ?_)
    refine go_aald (pc := 16) hΓ d_X_runs_16 h4 ?_
    refine go_astore_n (i := 3) (lv' := [(3, .ref (2 + 3 * tn x1)), (0, .ref 0), (1, .int x1), (2, .int x2)]) (pc := 17) hΓ d_X_runs_17 rfl (by decide) rfl ?_
    refine go_iload_n (q := 3) (i := 2) (pc := 18) hΓ d_X_runs_18 rfl rfl ?_
    refine go_istore (lv' := [(4, .int x2), (3, .ref (2 + 3 * tn x1)), (0, .ref 0), (1, .int x1), (2, .int x2)]) (pc := 19) hΓ d_X_runs_19 (by decide) rfl ?_
    refine go_lconst (v := 0) (pc := 21) hΓ d_X_runs_21 (by decide) ?_
    refine go_lstore (lv' := [(5, .long 0), (4, .int x2), (3, .ref (2 + 3 * tn x1)), (0, .ref 0), (1, .int x1), (2, .int x2)]) (pc := 22) hΓ d_X_runs_22 (by decide) rfl ?_
    refine go_iconst (v := 0) (pc := 24) hΓ d_X_runs_24 (by decide) ?_
    refine go_istore (lv' := [(7, .int 0), (5, .long 0), (4, .int x2), (3, .ref (2 + 3 * tn x1)), (0, .ref 0), (1, .int x1), (2, .int x2)]) (pc := 25) hΓ d_X_runs_25 (by decide) rfl ?_
    refine go_sub' (lv' := [(0, .ref 0), (3, .ref (2 + 3 * tn x1)), (4, .int x2), (5, .long 0), (7, .int 0)]) rfl ?_
    refine glp_X_runs_27 N d hΓ hT hR (2 + 3 * tn x1) (isN_in h4) _ (fun v14 v15 μ16 => ?_) N x2 0 0 μ2
    refine go_aload_n (q := 0) (i := 0) (pc := 100) hΓ d_X_runs_100 rfl rfl ?_
    refine go_getR (q := 16) (pc := 101) hΓ fl_X_37 d_X_runs_101 rfl rfl ?_
    refine go_callV (index := 108) emV hΓ hR (g_Numbers_clear N (d + 1) ) mi_Numbers_clear ml_X_108 d_X_runs_104 rfl rfl rfl rfl rfl (fun _ μ18 => ?_)
    show Go Γ 10 107 [(0, .ref 0), (4, .int v14), (5, .long v15)] [] μ18 _
    refine go_aload_n (q := 0) (i := 0) (pc := 107) hΓ d_X_runs_107 rfl rfl ?_
    refine go_getR (q := 16) (pc := 108) hΓ fl_X_37 d_X_runs_108 rfl rfl ?_
    refine go_lload (q := 2) (pc := 111) hΓ d_X_runs_111 rfl ?_
    refine go_callV (index := 118) emV hΓ hR (g_Numbers_append N (d + 1) v15) mi_Numbers_append ml_X_118 d_X_runs_113 rfl rfl rfl rfl rfl (fun _ μ20 => ?_)
    show Go Γ 10 116 [(0, .ref 0), (4, .int v14), (5, .long v15)] [] μ20 _
    refine go_iload (q := 1) (pc := 116) hΓ d_X_runs_116 rfl ?_
    exact go_iret (pc := 118) hΓ hT d_X_runs_118
  · refine go_iconst (v := -1) (pc := 9) hΓ d_X_runs_9 (by decide) ?_
    exact go_iret (pc := 10) hΓ hT d_X_runs_10
def lp_X_readValues_50 (N : Nat) (x1 : Int32) (x3 : Int32)  (K : Int32 → Int32 → Mem → Option (Int32 × Mem)) : Nat → Int32 → Int32 → Int32 → Mem → Option (Int32 × Mem)
  | 0, _, _, _, _ => none
  | n + 1, a2, a4, a5, μ0 => if a5 < 4 then (bnd (f_Text_digitAt N a2 μ0) fun r9 μ10 => if r9 < 0 then (K a2 a4 μ10) else (bnd (f_Text_digitAt N a2 μ10) fun r12 μ13 => lt' ((10 * a4) + r12) fun v14 => lt' (a2 + 1) fun v15 => lt' (a5 + 1) fun v16 => lp_X_readValues_50 N x1 x3 K n v15 v14 v16 μ13)) else (K a2 a4 μ0)
def lp_X_readValues_4 (N : Nat) (x1 : Int32)  (K : Int32 → Mem → Option (Int32 × Mem)) : Nat → Int32 → Int32 → Mem → Option (Int32 × Mem)
  | 0, _, _, _ => none
  | n + 1, a2, a3, μ0 => if a3 < x1 then (lt' (fun (w3 : Int32) (μ4 : Mem) => bnd (f_Text_digitAt N w3 μ4) fun r5 μ6 => if r5 < 0 then (some (w3, μ6)) else (lp_X_readValues_50 N x1 a3 (fun v17 v18 μ19 => ck (inb a3 8) (lt' (sI μ19 35 (tn a3) v18) fun μ21 => lt' (a3 + 1) fun v22 => lp_X_readValues_4 N x1 K n v17 v22 μ21)) N w3 0 0 μ6)) fun (k2 : Int32 → Mem → Option (Int32 × Mem)) => if 0 < a3 then (bnd (f_Text_signAt N a2 μ0) fun r24 μ25 => if r24 = 44 then (lt' (a2 + 1) fun v27 => k2 v27 μ25) else (some (a2, μ25))) else (k2 a2 μ0)) else (K a2 μ0)
def f_X_readValues (N : Nat) (x1 : Int32) (μ0 : Mem) : Option (Int32 × Mem) :=
  lp_X_readValues_4 N x1 (fun v28 μ29 => if v28 = (gI μ29 14 1) then (some ((-1), μ29)) else (some (v28, μ29))) N 0 0 μ0
set_option maxHeartbeats 4000000 in
set_option maxRecDepth 100000 in
theorem glp_X_readValues_50 (N d : Nat) {Γ : Cx Int32} (hΓ : Ok Γ "SortingNets" c_X_readValues 6) (hT : Rt Γ eI (some .int)) (hR : Rm Γ (d + 2)) (x1 : Int32) (x3 : Int32)    (K : Int32 → Int32 → Mem → Option (Int32 × Mem)) (hK : ∀ (b2 : Int32) (b4 : Int32) (ν : Mem), Go Γ 6 92 [(0, .ref 0), (1, .int x1), (2, .int b2), (3, .int x3), (4, .int b4)] [] ν (K b2 b4 ν)) : ∀ (n : Nat) (a2 : Int32) (a4 : Int32) (a5 : Int32) (μ0 : Mem), Go Γ 6 50 [(0, .ref 0), (1, .int x1), (2, .int a2), (3, .int x3), (4, .int a4), (5, .int a5)] [] μ0 (lp_X_readValues_50 N x1 x3 K n a2 a4 a5 μ0) := by
  intro n
  induction n with
  | zero => intro a2 a4 a5 μ0; exact go_none
  | succ n ih =>
    intro a2 a4 a5 μ0
    rw [lp_X_readValues_50]
    refine go_iload (q := 5) (pc := 50) hΓ d_X_readValues_50 rfl ?_
    refine go_iconst (v := 4) (pc := 52) hΓ d_X_readValues_52 (by decide) ?_
    refine go_icmp_ge 92 (pc := 53) hΓ d_X_readValues_53 (by decide) (fun h8 => go_eq (if_neg h8) ?_) (fun h8 => go_eq (if_pos h8) ?_)
    · refine go_sub' (lv' := [(0, .ref 0), (1, .int x1), (2, .int a2), (3, .int x3), (4, .int a4)]) rfl ?_
      exact hK a2 a4 μ0
    · refine go_aload_n (q := 0) (i := 0) (pc := 56) hΓ d_X_readValues_56 rfl rfl ?_
      refine go_getR (q := 14) (pc := 57) hΓ fl_X_30 d_X_readValues_57 rfl rfl ?_
      refine go_iload_n (q := 2) (i := 2) (pc := 60) hΓ d_X_readValues_60 rfl rfl ?_
      refine go_callV (index := 338) emI hΓ hR (g_Text_digitAt N (d + 0) a2) mi_Text_digitAt ml_X_338 d_X_readValues_61 rfl rfl rfl rfl rfl (fun r9 μ10 => ?_)
      show Go Γ 6 64 [(0, .ref 0), (1, .int x1), (2, .int a2), (3, .int x3), (4, .int a4), (5, .int a5)] [.int r9] μ10 _
      refine go_if_lt 92 (pc := 64) hΓ d_X_readValues_64 (by decide) (fun h11 => go_eq (if_pos h11) ?_) (fun h11 => go_eq (if_neg h11) ?_)
      · refine go_sub' (lv' := [(0, .ref 0), (1, .int x1), (2, .int a2), (3, .int x3), (4, .int a4)]) rfl ?_
        exact hK a2 a4 μ10
      · refine go_bipush (v := 10) (pc := 67) hΓ d_X_readValues_67 (by decide) ?_
        refine go_iload (q := 4) (pc := 69) hΓ d_X_readValues_69 rfl ?_
        refine go_imul (pc := 71) hΓ d_X_readValues_71 ?_
        refine go_aload_n (q := 0) (i := 0) (pc := 72) hΓ d_X_readValues_72 rfl rfl ?_
        refine go_getR (q := 14) (pc := 73) hΓ fl_X_30 d_X_readValues_73 rfl rfl ?_
        refine go_iload_n (q := 2) (i := 2) (pc := 76) hΓ d_X_readValues_76 rfl rfl ?_
        refine go_callV (index := 338) emI hΓ hR (g_Text_digitAt N (d + 0) a2) mi_Text_digitAt ml_X_338 d_X_readValues_77 rfl rfl rfl rfl rfl (fun r12 μ13 => ?_)
        show Go Γ 6 80 [(0, .ref 0), (1, .int x1), (2, .int a2), (3, .int x3), (4, .int a4), (5, .int a5)] [.int r12, .int (10 * a4)] μ13 _
        refine go_iadd (pc := 80) hΓ d_X_readValues_80 ?_
        refine go_letI (fun v14 => ?_)
        refine go_istore (lv' := [(4, .int v14), (0, .ref 0), (1, .int x1), (2, .int a2), (3, .int x3), (5, .int a5)]) (pc := 81) hΓ d_X_readValues_81 (by decide) rfl ?_
        refine go_incI (q := 3) (i := 2) (n := 1) (c := 1) (pc := 83) hΓ d_X_readValues_83 rfl (by decide) (by decide) (fun v15 => ?_)
        refine go_sub' (lv' := [(2, .int v15), (4, .int v14), (0, .ref 0), (1, .int x1), (3, .int x3), (5, .int a5)]) rfl ?_
        refine go_incI (q := 5) (i := 5) (n := 1) (c := 1) (pc := 86) hΓ d_X_readValues_86 rfl (by decide) (by decide) (fun v16 => ?_)
        refine go_sub' (lv' := [(5, .int v16), (2, .int v15), (4, .int v14), (0, .ref 0), (1, .int x1), (3, .int x3)]) rfl ?_
        refine go_goto 50 (pc := 89) hΓ d_X_readValues_89 (by decide) ?_
        refine go_sub' (lv' := [(0, .ref 0), (1, .int x1), (2, .int v15), (3, .int x3), (4, .int v14), (5, .int v16)]) rfl ?_
        exact ih v15 v14 v16 μ13
set_option maxHeartbeats 4000000 in
set_option maxRecDepth 100000 in
theorem glp_X_readValues_4 (N d : Nat) {Γ : Cx Int32} (hΓ : Ok Γ "SortingNets" c_X_readValues 6) (hT : Rt Γ eI (some .int)) (hR : Rm Γ (d + 2)) (x1 : Int32)    (K : Int32 → Mem → Option (Int32 × Mem)) (hK : ∀ (b2 : Int32) (ν : Mem), Go Γ 6 106 [(0, .ref 0), (2, .int b2)] [] ν (K b2 ν)) : ∀ (n : Nat) (a2 : Int32) (a3 : Int32) (μ0 : Mem), Go Γ 6 4 [(0, .ref 0), (1, .int x1), (2, .int a2), (3, .int a3)] [] μ0 (lp_X_readValues_4 N x1 K n a2 a3 μ0) := by
  intro n
  induction n with
  | zero => intro a2 a3 μ0; exact go_none
  | succ n ih =>
    intro a2 a3 μ0
    rw [lp_X_readValues_4]
    refine go_iload_n (q := 3) (i := 3) (pc := 4) hΓ d_X_readValues_4 rfl rfl ?_
    refine go_iload_n (q := 1) (i := 1) (pc := 5) hΓ d_X_readValues_5 rfl rfl ?_
    refine go_icmp_ge 106 (pc := 6) hΓ d_X_readValues_6 (by decide) (fun h1 => go_eq (if_neg h1) ?_) (fun h1 => go_eq (if_pos h1) ?_)
    · refine go_sub' (lv' := [(0, .ref 0), (2, .int a2)]) rfl ?_
      exact hK a2 μ0
    · refine go_iload_n (q := 3) (i := 3) (pc := 9) hΓ d_X_readValues_9 rfl rfl ?_
      refine go_join (fun (k2 : Int32 → Mem → Option (Int32 × Mem)) => ∀ (w3 : Int32) (μ4 : Mem), Go Γ 6 31 [(0, .ref 0), (1, .int x1), (2, .int w3), (3, .int a3)] [] μ4 (k2 w3 μ4)) ?_ (fun k2 k2h => ?_)
      · intro w3 μ4
        refine go_aload_n (q := 0) (i := 0) (pc := 31) hΓ d_X_readValues_31 rfl rfl ?_
        refine go_getR (q := 14) (pc := 32) hΓ fl_X_30 d_X_readValues_32 rfl rfl ?_
        refine go_iload_n (q := 2) (i := 2) (pc := 35) hΓ d_X_readValues_35 rfl rfl ?_
        refine go_callV (index := 338) emI hΓ hR (g_Text_digitAt N (d + 0) w3) mi_Text_digitAt ml_X_338 d_X_readValues_36 rfl rfl rfl rfl rfl (fun r5 μ6 => ?_)
        show Go Γ 6 39 [(0, .ref 0), (1, .int x1), (2, .int w3), (3, .int a3)] [.int r5] μ6 _
        refine go_if_ge 44 (pc := 39) hΓ d_X_readValues_39 (by decide) (fun h7 => go_eq (if_neg h7) ?_) (fun h7 => go_eq (if_pos h7) ?_)
        · refine go_iconst (v := 0) (pc := 44) hΓ d_X_readValues_44 (by decide) ?_
          refine go_istore (lv' := [(4, .int 0), (0, .ref 0), (1, .int x1), (2, .int w3), (3, .int a3)]) (pc := 45) hΓ d_X_readValues_45 (by decide) rfl ?_
          refine go_iconst (v := 0) (pc := 47) hΓ d_X_readValues_47 (by decide) ?_
          refine go_istore (lv' := [(5, .int 0), (4, .int 0), (0, .ref 0), (1, .int x1), (2, .int w3), (3, .int a3)]) (pc := 48) hΓ d_X_readValues_48 (by decide) rfl ?_
          refine go_sub' (lv' := [(0, .ref 0), (1, .int x1), (2, .int w3), (3, .int a3), (4, .int 0), (5, .int 0)]) rfl ?_
          refine glp_X_readValues_50 N d hΓ hT hR x1 a3 _ (fun v17 v18 μ19 => ?_) N w3 0 0 μ6
          refine go_aload_n (q := 0) (i := 0) (pc := 92) hΓ d_X_readValues_92 rfl rfl ?_
          refine go_getR (q := 35) (pc := 93) hΓ fl_X_73 d_X_readValues_93 rfl rfl ?_
          refine go_iload_n (q := 3) (i := 3) (pc := 96) hΓ d_X_readValues_96 rfl rfl ?_
          refine go_iload (q := 4) (pc := 97) hΓ d_X_readValues_97 rfl ?_
          refine go_ck (fun h20 => ?_)
          refine go_iast (pc := 99) hΓ d_X_readValues_99 rfl h20 ?_
          refine go_letM (fun μ21 => ?_)
          refine go_incI (q := 3) (i := 3) (n := 1) (c := 1) (pc := 100) hΓ d_X_readValues_100 rfl (by decide) (by decide) (fun v22 => ?_)
          refine go_sub' (lv' := [(3, .int v22), (0, .ref 0), (1, .int x1), (2, .int v17), (4, .int v18)]) rfl ?_
          refine go_goto 4 (pc := 103) hΓ d_X_readValues_103 (by decide) ?_
          refine go_sub' (lv' := [(0, .ref 0), (1, .int x1), (2, .int v17), (3, .int v22)]) rfl ?_
          exact ih v17 v22 μ21
        · refine go_iload_n (q := 2) (i := 2) (pc := 42) hΓ d_X_readValues_42 rfl rfl ?_
          exact go_iret (pc := 43) hΓ hT d_X_readValues_43
      · refine go_if_le 31 (pc := 10) hΓ d_X_readValues_10 (by decide) (fun h23 => go_eq (if_neg h23) ?_) (fun h23 => go_eq (if_pos h23) ?_)
        · refine go_sub' (lv' := [(0, .ref 0), (1, .int x1), (2, .int a2), (3, .int a3)]) rfl ?_
          exact k2h a2 μ0
        · refine go_aload_n (q := 0) (i := 0) (pc := 13) hΓ d_X_readValues_13 rfl rfl ?_
          refine go_getR (q := 14) (pc := 14) hΓ fl_X_30 d_X_readValues_14 rfl rfl ?_
          refine go_iload_n (q := 2) (i := 2) (pc := 17) hΓ d_X_readValues_17 rfl rfl ?_
          refine go_callV (index := 341) emI hΓ hR (g_Text_signAt N (d + 1) a2) mi_Text_signAt ml_X_341 d_X_readValues_18 rfl rfl rfl rfl rfl (fun r24 μ25 => ?_)
          show Go Γ 6 21 [(0, .ref 0), (1, .int x1), (2, .int a2), (3, .int a3)] [.int r24] μ25 _
          refine go_bipush (v := 44) (pc := 21) hΓ d_X_readValues_21 (by decide) ?_
          refine go_icmp_eq 28 (pc := 23) hΓ d_X_readValues_23 (by decide) (fun h26 => go_eq (if_pos h26) ?_) (fun h26 => go_eq (if_neg h26) ?_)
          · refine go_incI (q := 2) (i := 2) (n := 1) (c := 1) (pc := 28) hΓ d_X_readValues_28 rfl (by decide) (by decide) (fun v27 => ?_)
            refine go_sub' (lv' := [(2, .int v27), (0, .ref 0), (1, .int x1), (3, .int a3)]) rfl ?_
            refine go_sub' (lv' := [(0, .ref 0), (1, .int x1), (2, .int v27), (3, .int a3)]) rfl ?_
            exact k2h v27 μ25
          · refine go_iload_n (q := 2) (i := 2) (pc := 26) hΓ d_X_readValues_26 rfl rfl ?_
            exact go_iret (pc := 27) hΓ hT d_X_readValues_27
set_option maxHeartbeats 4000000 in
set_option maxRecDepth 100000 in
theorem g_X_readValues (N d : Nat) (x1 : Int32)  : CallF eI y_X_readValues c_X_readValues 6 (some .int) (d + 2 + 1) [.ref 0, .int x1] (f_X_readValues N x1) := by
  refine call_of (d := d + 2) (n := 1) mi_X_readValues.1 (fun _ => rfl) ?_
  intro Γ μ0 hΓ hT hR
  show Go Γ 6 0 [(0, .ref 0), (1, .int x1)] [] μ0 (f_X_readValues N x1 μ0)
  unfold f_X_readValues
  refine go_iconst (v := 0) (pc := 0) hΓ d_X_readValues_0 (by decide) ?_
  refine go_istore_n (i := 2) (lv' := [(2, .int 0), (0, .ref 0), (1, .int x1)]) (pc := 1) hΓ d_X_readValues_1 rfl (by decide) rfl ?_
  refine go_iconst (v := 0) (pc := 2) hΓ d_X_readValues_2 (by decide) ?_
  refine go_istore_n (i := 3) (lv' := [(3, .int 0), (2, .int 0), (0, .ref 0), (1, .int x1)]) (pc := 3) hΓ d_X_readValues_3 rfl (by decide) rfl ?_
  refine go_sub' (lv' := [(0, .ref 0), (1, .int x1), (2, .int 0), (3, .int 0)]) rfl ?_
  refine glp_X_readValues_4 N d hΓ hT hR x1 _ (fun v28 μ29 => ?_) N 0 0 μ0
  refine go_iload_n (q := 1) (i := 2) (pc := 106) hΓ d_X_readValues_106 rfl rfl ?_
  refine go_aload_n (q := 0) (i := 0) (pc := 107) hΓ d_X_readValues_107 rfl rfl ?_
  refine go_getR (q := 14) (pc := 108) hΓ fl_X_30 d_X_readValues_108 rfl rfl ?_
  refine go_getI (pc := 111) hΓ fl_X_93 d_X_readValues_111 rfl rfl ?_
  refine go_icmp_ne 121 (pc := 114) hΓ d_X_readValues_114 (by decide) (fun h30 => go_eq (if_neg h30) ?_) (fun h30 => go_eq (if_pos h30) ?_)
  · refine go_iload_n (q := 1) (i := 2) (pc := 121) hΓ d_X_readValues_121 rfl rfl ?_
    exact go_iret (pc := 122) hΓ hT d_X_readValues_122
  · refine go_iconst (v := -1) (pc := 117) hΓ d_X_readValues_117 (by decide) ?_
    refine go_goto 122 (pc := 118) hΓ d_X_readValues_118 (by decide) ?_
    exact go_iret (pc := 122) hΓ hT d_X_readValues_122
def f_X_orderValues (N : Nat) (x1 : Int32) (x2 : Int32) (μ0 : Mem) : Option (Int32 × Mem) :=
  ck (inb x1 8) (ck (inb x2 8) (if (gI μ0 35 (tn x2)) < (gI μ0 35 (tn x1)) then (ck (inb x1 8) (lt' (gI μ0 35 (tn x1)) fun v5 => ck (inb x2 8) (ck (inb x1 8) (lt' (sI μ0 35 (tn x1) (gI μ0 35 (tn x2))) fun μ8 => ck (inb x2 8) (lt' (sI μ8 35 (tn x2) v5) fun μ10 => some (1, μ10)))))) else (some (0, μ0))))
set_option maxHeartbeats 4000000 in
set_option maxRecDepth 100000 in
theorem g_X_orderValues (N d : Nat) (x1 : Int32) (x2 : Int32)  : CallF eI y_X_orderValues c_X_orderValues 4 (some .int) (d + 0 + 1) [.ref 0, .int x1, .int x2] (f_X_orderValues N x1 x2) := by
  refine call_of (d := d + 0) (n := 2) mi_X_orderValues.1 (fun _ => rfl) ?_
  intro Γ μ0 hΓ hT hR
  show Go Γ 4 0 [(0, .ref 0), (1, .int x1), (2, .int x2)] [] μ0 (f_X_orderValues N x1 x2 μ0)
  unfold f_X_orderValues
  refine go_aload_n (q := 0) (i := 0) (pc := 0) hΓ d_X_orderValues_0 rfl rfl ?_
  refine go_getR (q := 35) (pc := 1) hΓ fl_X_73 d_X_orderValues_1 rfl rfl ?_
  refine go_iload_n (q := 1) (i := 1) (pc := 4) hΓ d_X_orderValues_4 rfl rfl ?_
  refine go_ck (fun h1 => ?_)
  refine go_iald (pc := 5) hΓ d_X_orderValues_5 rfl h1 ?_
  refine go_aload_n (q := 0) (i := 0) (pc := 6) hΓ d_X_orderValues_6 rfl rfl ?_
  refine go_getR (q := 35) (pc := 7) hΓ fl_X_73 d_X_orderValues_7 rfl rfl ?_
  refine go_iload_n (q := 2) (i := 2) (pc := 10) hΓ d_X_orderValues_10 rfl rfl ?_
  refine go_ck (fun h2 => ?_)
  refine go_iald (pc := 11) hΓ d_X_orderValues_11 rfl h2 ?_
  refine go_icmp_gt 17 (pc := 12) hΓ d_X_orderValues_12 (by decide) (fun h3 => go_eq (if_pos h3) ?_) (fun h3 => go_eq (if_neg h3) ?_)
  · refine go_aload_n (q := 0) (i := 0) (pc := 17) hΓ d_X_orderValues_17 rfl rfl ?_
    refine go_getR (q := 35) (pc := 18) hΓ fl_X_73 d_X_orderValues_18 rfl rfl ?_
    refine go_iload_n (q := 1) (i := 1) (pc := 21) hΓ d_X_orderValues_21 rfl rfl ?_
    refine go_ck (fun h4 => ?_)
    refine go_iald (pc := 22) hΓ d_X_orderValues_22 rfl h4 ?_
    refine go_letI (fun v5 => ?_)
    refine go_istore_n (i := 3) (lv' := [(3, .int v5), (0, .ref 0), (1, .int x1), (2, .int x2)]) (pc := 23) hΓ d_X_orderValues_23 rfl (by decide) rfl ?_
    refine go_aload_n (q := 1) (i := 0) (pc := 24) hΓ d_X_orderValues_24 rfl rfl ?_
    refine go_getR (q := 35) (pc := 25) hΓ fl_X_73 d_X_orderValues_25 rfl rfl ?_
    refine go_iload_n (q := 2) (i := 1) (pc := 28) hΓ d_X_orderValues_28 rfl rfl ?_
    refine go_aload_n (q := 1) (i := 0) (pc := 29) hΓ d_X_orderValues_29 rfl rfl ?_
    refine go_getR (q := 35) (pc := 30) hΓ fl_X_73 d_X_orderValues_30 rfl rfl ?_
    refine go_iload_n (q := 3) (i := 2) (pc := 33) hΓ d_X_orderValues_33 rfl rfl ?_
    refine go_ck (fun h6 => ?_)
    refine go_iald (pc := 34) hΓ d_X_orderValues_34 rfl h6 ?_
    refine go_ck (fun h7 => ?_)
    refine go_iast (pc := 35) hΓ d_X_orderValues_35 rfl h7 ?_
    refine go_letM (fun μ8 => ?_)
    refine go_aload_n (q := 1) (i := 0) (pc := 36) hΓ d_X_orderValues_36 rfl rfl ?_
    refine go_getR (q := 35) (pc := 37) hΓ fl_X_73 d_X_orderValues_37 rfl rfl ?_
    refine go_iload_n (q := 3) (i := 2) (pc := 40) hΓ d_X_orderValues_40 rfl rfl ?_
    refine go_iload_n (q := 0) (i := 3) (pc := 41) hΓ d_X_orderValues_41 rfl rfl ?_
    refine go_ck (fun h9 => ?_)
    refine go_iast (pc := 42) hΓ d_X_orderValues_42 rfl h9 ?_
    refine go_letM (fun μ10 => ?_)
    refine go_iconst (v := 1) (pc := 43) hΓ d_X_orderValues_43 (by decide) ?_
    exact go_iret (pc := 44) hΓ hT d_X_orderValues_44
  · refine go_iconst (v := 0) (pc := 15) hΓ d_X_orderValues_15 (by decide) ?_
    exact go_iret (pc := 16) hΓ hT d_X_orderValues_16
def lp_X_tellFirst_9 (N : Nat) (p1 : Nat) (n1 : Nat) (x2 : Int32)  (K : Mem → Option (Unit × Mem)) : Nat → Int32 → Mem → Option (Unit × Mem)
  | 0, _, _ => none
  | n + 1, a3, μ0 => if a3 < x2 then (if a3 < (Int32.ofNat n1) then (ck (inb a3 n1) (bnd (f_Numbers_append N (Int32.toInt64 (gI μ0 p1 (tn a3))) μ0) fun _ μ7 => lt' (a3 + 1) fun v8 => lp_X_tellFirst_9 N p1 n1 x2 K n v8 μ7)) else (K  μ0)) else (K  μ0)
def f_X_tellFirst (N : Nat) (p1 : Nat) (n1 : Nat) (x2 : Int32) (μ0 : Mem) : Option (Unit × Mem) :=
  bnd (f_Numbers_clear N  μ0) fun _ μ2 => lp_X_tellFirst_9 N p1 n1 x2 (fun μ9 => some ((), μ9)) N 0 μ2
set_option maxHeartbeats 4000000 in
set_option maxRecDepth 100000 in
theorem glp_X_tellFirst_9 (N d : Nat) {Γ : Cx Unit} (hΓ : Ok Γ "SortingNets" c_X_tellFirst 4) (hT : Rt Γ eV none) (hR : Rm Γ (d + 1)) (p1 : Nat) (n1 : Nat) (x2 : Int32) (hp1 : sh[p1]? = some (.inl (n1, 0)))   (K : Mem → Option (Unit × Mem)) (hK : ∀  (ν : Mem), Go Γ 4 37 [] [] ν (K  ν)) : ∀ (n : Nat) (a3 : Int32) (μ0 : Mem), Go Γ 4 9 [(0, .ref 0), (1, .ref p1), (2, .int x2), (3, .int a3)] [] μ0 (lp_X_tellFirst_9 N p1 n1 x2 K n a3 μ0) := by
  intro n
  induction n with
  | zero => intro a3 μ0; exact go_none
  | succ n ih =>
    intro a3 μ0
    rw [lp_X_tellFirst_9]
    refine go_iload_n (q := 3) (i := 3) (pc := 9) hΓ d_X_tellFirst_9 rfl rfl ?_
    refine go_iload_n (q := 2) (i := 2) (pc := 10) hΓ d_X_tellFirst_10 rfl rfl ?_
    refine go_icmp_ge 37 (pc := 11) hΓ d_X_tellFirst_11 (by decide) (fun h3 => go_eq (if_neg h3) ?_) (fun h3 => go_eq (if_pos h3) ?_)
    · refine go_sub' (lv' := []) rfl ?_
      exact hK  μ0
    · refine go_iload_n (q := 3) (i := 3) (pc := 14) hΓ d_X_tellFirst_14 rfl rfl ?_
      refine go_aload_n (q := 1) (i := 1) (pc := 15) hΓ d_X_tellFirst_15 rfl rfl ?_
      refine go_alen (pc := 16) hΓ d_X_tellFirst_16 hp1 (by decide) ?_
      refine go_icmp_ge 37 (pc := 17) hΓ d_X_tellFirst_17 (by decide) (fun h4 => go_eq (if_neg h4) ?_) (fun h4 => go_eq (if_pos h4) ?_)
      · refine go_sub' (lv' := []) rfl ?_
        exact hK  μ0
      · refine go_aload_n (q := 0) (i := 0) (pc := 20) hΓ d_X_tellFirst_20 rfl rfl ?_
        refine go_getR (q := 16) (pc := 21) hΓ fl_X_37 d_X_tellFirst_21 rfl rfl ?_
        refine go_aload_n (q := 1) (i := 1) (pc := 24) hΓ d_X_tellFirst_24 rfl rfl ?_
        refine go_iload_n (q := 3) (i := 3) (pc := 25) hΓ d_X_tellFirst_25 rfl rfl ?_
        refine go_ck (fun h5 => ?_)
        refine go_iald (pc := 26) hΓ d_X_tellFirst_26 hp1 h5 ?_
        refine go_i2l (pc := 27) hΓ d_X_tellFirst_27 ?_
        refine go_callV (index := 118) emV hΓ hR (g_Numbers_append N (d + 0) (Int32.toInt64 (gI μ0 p1 (tn a3)))) mi_Numbers_append ml_X_118 d_X_tellFirst_28 rfl rfl rfl rfl rfl (fun _ μ7 => ?_)
        show Go Γ 4 31 [(0, .ref 0), (1, .ref p1), (2, .int x2), (3, .int a3)] [] μ7 _
        refine go_incI (q := 3) (i := 3) (n := 1) (c := 1) (pc := 31) hΓ d_X_tellFirst_31 rfl (by decide) (by decide) (fun v8 => ?_)
        refine go_sub' (lv' := [(3, .int v8), (0, .ref 0), (1, .ref p1), (2, .int x2)]) rfl ?_
        refine go_goto 9 (pc := 34) hΓ d_X_tellFirst_34 (by decide) ?_
        refine go_sub' (lv' := [(0, .ref 0), (1, .ref p1), (2, .int x2), (3, .int v8)]) rfl ?_
        exact ih v8 μ7
set_option maxHeartbeats 4000000 in
set_option maxRecDepth 100000 in
theorem g_X_tellFirst (N d : Nat) (p1 : Nat) (n1 : Nat) (hp1 : sh[p1]? = some (.inl (n1, 0))) (x2 : Int32)  : CallF eV y_X_tellFirst c_X_tellFirst 4 none (d + 1 + 1) [.ref 0, .ref p1, .int x2] (f_X_tellFirst N p1 n1 x2) := by
  refine call_of (d := d + 1) (n := 2) mi_X_tellFirst.1 (fun _ => rfl) ?_
  intro Γ μ0 hΓ hT hR
  show Go Γ 4 0 [(0, .ref 0), (1, .ref p1), (2, .int x2)] [] μ0 (f_X_tellFirst N p1 n1 x2 μ0)
  unfold f_X_tellFirst
  refine go_aload_n (q := 0) (i := 0) (pc := 0) hΓ d_X_tellFirst_0 rfl rfl ?_
  refine go_getR (q := 16) (pc := 1) hΓ fl_X_37 d_X_tellFirst_1 rfl rfl ?_
  refine go_callV (index := 108) emV hΓ hR (g_Numbers_clear N (d + 0) ) mi_Numbers_clear ml_X_108 d_X_tellFirst_4 rfl rfl rfl rfl rfl (fun _ μ2 => ?_)
  show Go Γ 4 7 [(0, .ref 0), (1, .ref p1), (2, .int x2)] [] μ2 _
  refine go_iconst (v := 0) (pc := 7) hΓ d_X_tellFirst_7 (by decide) ?_
  refine go_istore_n (i := 3) (lv' := [(3, .int 0), (0, .ref 0), (1, .ref p1), (2, .int x2)]) (pc := 8) hΓ d_X_tellFirst_8 rfl (by decide) rfl ?_
  refine go_sub' (lv' := [(0, .ref 0), (1, .ref p1), (2, .int x2), (3, .int 0)]) rfl ?_
  refine glp_X_tellFirst_9 N d hΓ hT hR p1 n1 x2 hp1 _ (fun μ9 => ?_) N 0 μ2
  exact go_vret (pc := 37) hΓ hT d_X_tellFirst_37
def lp_X_tells_56 (N : Nat) (p2 : Nat)  (K : Int32 → Mem → Option (Int32 × Mem)) : Nat → Int32 → Int32 → Mem → Option (Int32 × Mem)
  | 0, _, _, _ => none
  | n + 1, a4, a5, μ0 => if a5 < (gI μ0 p2 1) then (ck (inb a5 60) (ck (inb a5 60) (bnd (f_X_orderValues N (gI μ0 (p2 + 1) (tn a5)) (gI μ0 (p2 + 2) (tn a5)) μ0) fun r12 μ13 => lt' (a4 + r12) fun v14 => lt' (a5 + 1) fun v15 => lp_X_tells_56 N p2 K n v14 v15 μ13))) else (K a4 μ0)
def f_X_tells (N : Nat) (x1 : Int32) (μ0 : Mem) : Option (Int32 × Mem) :=
  bnd (f_X_isNet N x1 μ0) fun r1 μ2 => if r1 = 0 then (lt' (sI μ2 14 1 0) fun μ20 => some ((-1), μ20)) else (ck (inb x1 4) (bnd (f_X_readValues N (gI μ2 (2 + 3 * tn x1) 0) μ2) fun r5 μ6 => lt' (sI μ6 14 1 0) fun μ7 => if r5 < 0 then (lp_X_tells_56 N (2 + 3 * tn x1) (fun v16 μ17 => bnd (f_X_tellFirst N 35 8 (gI μ17 (2 + 3 * tn x1) 0) μ17) fun _ μ19 => some (v16, μ19)) N 0 0 μ7) else (some ((-21) - r5, μ7))))
set_option maxHeartbeats 4000000 in
set_option maxRecDepth 100000 in
theorem glp_X_tells_56 (N d : Nat) {Γ : Cx Int32} (hΓ : Ok Γ "SortingNets" c_X_tells 6) (hT : Rt Γ eI (some .int)) (hR : Rm Γ (d + 3)) (p2 : Nat) (hp2 : isN p2)   (K : Int32 → Mem → Option (Int32 × Mem)) (hK : ∀ (b4 : Int32) (ν : Mem), Go Γ 6 94 [(0, .ref 0), (2, .ref p2), (4, .int b4)] [] ν (K b4 ν)) : ∀ (n : Nat) (a4 : Int32) (a5 : Int32) (μ0 : Mem), Go Γ 6 56 [(0, .ref 0), (2, .ref p2), (4, .int a4), (5, .int a5)] [] μ0 (lp_X_tells_56 N p2 K n a4 a5 μ0) := by
  intro n
  induction n with
  | zero => intro a4 a5 μ0; exact go_none
  | succ n ih =>
    intro a4 a5 μ0
    rw [lp_X_tells_56]
    refine go_iload (q := 3) (pc := 56) hΓ d_X_tells_56 rfl ?_
    refine go_aload_n (q := 1) (i := 2) (pc := 58) hΓ d_X_tells_58 rfl rfl ?_
    refine go_getI (pc := 59) hΓ fl_X_121 d_X_tells_59 (isN_sh hp2).1 rfl ?_
    refine go_icmp_ge 94 (pc := 62) hΓ d_X_tells_62 (by decide) (fun h9 => go_eq (if_neg h9) ?_) (fun h9 => go_eq (if_pos h9) ?_)
    · refine go_sub' (lv' := [(0, .ref 0), (2, .ref p2), (4, .int a4)]) rfl ?_
      exact hK a4 μ0
    · refine go_iload (q := 2) (pc := 65) hΓ d_X_tells_65 rfl ?_
      refine go_aload_n (q := 0) (i := 0) (pc := 67) hΓ d_X_tells_67 rfl rfl ?_
      refine go_aload_n (q := 1) (i := 2) (pc := 68) hΓ d_X_tells_68 rfl rfl ?_
      refine go_getR (q := p2 + 1) (pc := 69) hΓ fl_X_175 d_X_tells_69 (isN_sh hp2).1 rfl ?_
      refine go_iload (q := 3) (pc := 72) hΓ d_X_tells_72 rfl ?_
      refine go_ck (fun h10 => ?_)
      refine go_iald (pc := 74) hΓ d_X_tells_74 (isN_sh hp2).2.1 h10 ?_
      refine go_aload_n (q := 1) (i := 2) (pc := 75) hΓ d_X_tells_75 rfl rfl ?_
      refine go_getR (q := p2 + 2) (pc := 76) hΓ fl_X_178 d_X_tells_76 (isN_sh hp2).1 rfl ?_
      refine go_iload (q := 3) (pc := 79) hΓ d_X_tells_79 rfl ?_
      refine go_ck (fun h11 => ?_)
      refine go_iald (pc := 81) hΓ d_X_tells_81 (isN_sh hp2).2.2 h11 ?_
      refine go_callV (index := 226) emI hΓ hR (g_X_orderValues N (d + 2) (gI μ0 (p2 + 1) (tn a5)) (gI μ0 (p2 + 2) (tn a5))) mi_X_orderValues ml_X_226 d_X_tells_82 rfl rfl rfl rfl rfl (fun r12 μ13 => ?_)
      show Go Γ 6 85 [(0, .ref 0), (2, .ref p2), (4, .int a4), (5, .int a5)] [.int r12, .int a4] μ13 _
      refine go_iadd (pc := 85) hΓ d_X_tells_85 ?_
      refine go_letI (fun v14 => ?_)
      refine go_istore (lv' := [(4, .int v14), (0, .ref 0), (2, .ref p2), (5, .int a5)]) (pc := 86) hΓ d_X_tells_86 (by decide) rfl ?_
      refine go_incI (q := 3) (i := 5) (n := 1) (c := 1) (pc := 88) hΓ d_X_tells_88 rfl (by decide) (by decide) (fun v15 => ?_)
      refine go_sub' (lv' := [(5, .int v15), (4, .int v14), (0, .ref 0), (2, .ref p2)]) rfl ?_
      refine go_goto 56 (pc := 91) hΓ d_X_tells_91 (by decide) ?_
      refine go_sub' (lv' := [(0, .ref 0), (2, .ref p2), (4, .int v14), (5, .int v15)]) rfl ?_
      exact ih v14 v15 μ13
set_option maxHeartbeats 4000000 in
set_option maxRecDepth 100000 in
theorem g_X_tells (N d : Nat) (x1 : Int32)  : CallF eI y_X_tells c_X_tells 6 (some .int) (d + 3 + 1) [.ref 0, .int x1] (f_X_tells N x1) := by
  refine call_of (d := d + 3) (n := 1) mi_X_tells.1 (fun _ => rfl) ?_
  intro Γ μ0 hΓ hT hR
  show Go Γ 6 0 [(0, .ref 0), (1, .int x1)] [] μ0 (f_X_tells N x1 μ0)
  unfold f_X_tells
  refine go_iload_n (q := 1) (i := 1) (pc := 0) hΓ d_X_tells_0 rfl rfl ?_
  refine go_callS (index := 101) emI hΓ hR (g_X_isNet N (d + 2) x1) mi_X_isNet ml_X_101 d_X_tells_1 rfl rfl rfl (fun r1 μ2 => ?_)
  show Go Γ 6 4 [(0, .ref 0), (1, .int x1)] [.int r1] μ2 _
  refine go_if_ne 17 (pc := 4) hΓ d_X_tells_4 (by decide) (fun h3 => go_eq (if_neg h3) ?_) (fun h3 => go_eq (if_pos h3) ?_)
  · refine go_aload_n (q := 0) (i := 0) (pc := 17) hΓ d_X_tells_17 rfl rfl ?_
    refine go_getR (q := 1) (pc := 18) hΓ fl_X_11 d_X_tells_18 rfl rfl ?_
    refine go_iload_n (q := 1) (i := 1) (pc := 21) hΓ d_X_tells_21 rfl rfl ?_
    refine go_ck (fun h4 => ?_)
    refine go_aald (pc := 22) hΓ d_X_tells_22 h4 ?_
    refine go_astore_n (i := 2) (lv' := [(2, .ref (2 + 3 * tn x1)), (0, .ref 0), (1, .int x1)]) (pc := 23) hΓ d_X_tells_23 rfl (by decide) rfl ?_
    refine go_aload_n (q := 1) (i := 0) (pc := 24) hΓ d_X_tells_24 rfl rfl ?_
    refine go_aload_n (q := 0) (i := 2) (pc := 25) hΓ d_X_tells_25 rfl rfl ?_
    refine go_getI (pc := 26) hΓ fl_X_111 d_X_tells_26 (isN_sh (isN_in h4)).1 rfl ?_
    refine go_callV (index := 223) emI hΓ hR (g_X_readValues N (d + 0) (gI μ2 (2 + 3 * tn x1) 0)) mi_X_readValues ml_X_223 d_X_tells_29 rfl rfl rfl rfl rfl (fun r5 μ6 => ?_)
    show Go Γ 6 32 [(2, .ref (2 + 3 * tn x1)), (0, .ref 0), (1, .int x1)] [.int r5] μ6 _
    refine go_istore_n (i := 3) (lv' := [(3, .int r5), (2, .ref (2 + 3 * tn x1)), (0, .ref 0), (1, .int x1)]) (pc := 32) hΓ d_X_tells_32 rfl (by decide) rfl ?_
    refine go_aload_n (q := 2) (i := 0) (pc := 33) hΓ d_X_tells_33 rfl rfl ?_
    refine go_getR (q := 14) (pc := 34) hΓ fl_X_30 d_X_tells_34 rfl rfl ?_
    refine go_iconst (v := 0) (pc := 37) hΓ d_X_tells_37 (by decide) ?_
    refine go_putI (pc := 38) hΓ fp_X_93 d_X_tells_38 rfl rfl ?_
    refine go_letM (fun μ7 => ?_)
    refine go_iload_n (q := 0) (i := 3) (pc := 41) hΓ d_X_tells_41 rfl rfl ?_
    refine go_if_lt 50 (pc := 42) hΓ d_X_tells_42 (by decide) (fun h8 => go_eq (if_pos h8) ?_) (fun h8 => go_eq (if_neg h8) ?_)
    · refine go_iconst (v := 0) (pc := 50) hΓ d_X_tells_50 (by decide) ?_
      refine go_istore (lv' := [(4, .int 0), (3, .int r5), (2, .ref (2 + 3 * tn x1)), (0, .ref 0), (1, .int x1)]) (pc := 51) hΓ d_X_tells_51 (by decide) rfl ?_
      refine go_iconst (v := 0) (pc := 53) hΓ d_X_tells_53 (by decide) ?_
      refine go_istore (lv' := [(5, .int 0), (4, .int 0), (3, .int r5), (2, .ref (2 + 3 * tn x1)), (0, .ref 0), (1, .int x1)]) (pc := 54) hΓ d_X_tells_54 (by decide) rfl ?_
      refine go_sub' (lv' := [(0, .ref 0), (2, .ref (2 + 3 * tn x1)), (4, .int 0), (5, .int 0)]) rfl ?_
      refine glp_X_tells_56 N d hΓ hT hR (2 + 3 * tn x1) (isN_in h4) _ (fun v16 μ17 => ?_) N 0 0 μ7
      refine go_aload_n (q := 0) (i := 0) (pc := 94) hΓ d_X_tells_94 rfl rfl ?_
      refine go_aload_n (q := 0) (i := 0) (pc := 95) hΓ d_X_tells_95 rfl rfl ?_
      refine go_getR (q := 35) (pc := 96) hΓ fl_X_73 d_X_tells_96 rfl rfl ?_
      refine go_aload_n (q := 1) (i := 2) (pc := 99) hΓ d_X_tells_99 rfl rfl ?_
      refine go_getI (pc := 100) hΓ fl_X_111 d_X_tells_100 (isN_sh (isN_in h4)).1 rfl ?_
      refine go_callV (index := 229) emV hΓ hR (g_X_tellFirst N (d + 1) 35 8 rfl (gI μ17 (2 + 3 * tn x1) 0)) mi_X_tellFirst ml_X_229 d_X_tells_103 rfl rfl rfl rfl rfl (fun _ μ19 => ?_)
      show Go Γ 6 106 [(0, .ref 0), (2, .ref (2 + 3 * tn x1)), (4, .int v16)] [] μ19 _
      refine go_iload (q := 2) (pc := 106) hΓ d_X_tells_106 rfl ?_
      exact go_iret (pc := 108) hΓ hT d_X_tells_108
    · refine go_bipush (v := -21) (pc := 45) hΓ d_X_tells_45 (by decide) ?_
      refine go_iload_n (q := 0) (i := 3) (pc := 47) hΓ d_X_tells_47 rfl rfl ?_
      refine go_isub (pc := 48) hΓ d_X_tells_48 ?_
      exact go_iret (pc := 49) hΓ hT d_X_tells_49
  · refine go_aload_n (q := 0) (i := 0) (pc := 7) hΓ d_X_tells_7 rfl rfl ?_
    refine go_getR (q := 14) (pc := 8) hΓ fl_X_30 d_X_tells_8 rfl rfl ?_
    refine go_iconst (v := 0) (pc := 11) hΓ d_X_tells_11 (by decide) ?_
    refine go_putI (pc := 12) hΓ fp_X_93 d_X_tells_12 rfl rfl ?_
    refine go_letM (fun μ20 => ?_)
    refine go_iconst (v := -1) (pc := 15) hΓ d_X_tells_15 (by decide) ?_
    exact go_iret (pc := 16) hΓ hT d_X_tells_16
def f_X_sorts (N : Nat) (x1 : Int32) (μ0 : Mem) : Option (Int32 × Mem) :=
  bnd (f_X_isNet N x1 μ0) fun r1 μ2 => if r1 = 0 then (some ((-1), μ2)) else (ck (inb x1 4) (bnd (f_X_judge N (2 + 3 * tn x1) (-1) μ2) fun _ μ6 => bnd (f_Numbers_clear N  μ6) fun _ μ8 => bnd (f_PatternSet_size N  μ8) fun r9 μ10 => bnd (f_Numbers_append N (Int32.toInt64 r9) μ10) fun _ μ12 => bnd (f_PatternSet_first N  μ12) fun r13 μ14 => bnd (f_Numbers_append N (Int32.toInt64 r13) μ14) fun _ μ16 => bnd (f_PatternSet_isEmpty N  μ16) fun r17 μ18 => if r17 = 0 then (some (0, μ18)) else (some (1, μ18))))
set_option maxHeartbeats 4000000 in
set_option maxRecDepth 100000 in
theorem g_X_sorts (N d : Nat) (x1 : Int32)  : CallF eI y_X_sorts c_X_sorts 2 (some .int) (d + 3 + 1) [.ref 0, .int x1] (f_X_sorts N x1) := by
  refine call_of (d := d + 3) (n := 1) mi_X_sorts.1 (fun _ => rfl) ?_
  intro Γ μ0 hΓ hT hR
  show Go Γ 2 0 [(0, .ref 0), (1, .int x1)] [] μ0 (f_X_sorts N x1 μ0)
  unfold f_X_sorts
  refine go_iload_n (q := 1) (i := 1) (pc := 0) hΓ d_X_sorts_0 rfl rfl ?_
  refine go_callS (index := 101) emI hΓ hR (g_X_isNet N (d + 2) x1) mi_X_isNet ml_X_101 d_X_sorts_1 rfl rfl rfl (fun r1 μ2 => ?_)
  show Go Γ 2 4 [(0, .ref 0), (1, .int x1)] [.int r1] μ2 _
  refine go_if_ne 9 (pc := 4) hΓ d_X_sorts_4 (by decide) (fun h3 => go_eq (if_neg h3) ?_) (fun h3 => go_eq (if_pos h3) ?_)
  · refine go_aload_n (q := 0) (i := 0) (pc := 9) hΓ d_X_sorts_9 rfl rfl ?_
    refine go_aload_n (q := 0) (i := 0) (pc := 10) hΓ d_X_sorts_10 rfl rfl ?_
    refine go_getR (q := 1) (pc := 11) hΓ fl_X_11 d_X_sorts_11 rfl rfl ?_
    refine go_iload_n (q := 1) (i := 1) (pc := 14) hΓ d_X_sorts_14 rfl rfl ?_
    refine go_ck (fun h4 => ?_)
    refine go_aald (pc := 15) hΓ d_X_sorts_15 h4 ?_
    refine go_iconst (v := -1) (pc := 16) hΓ d_X_sorts_16 (by decide) ?_
    refine go_callV (index := 157) emV hΓ hR (g_X_judge N (d + 0) (2 + 3 * tn x1) (isN_in h4) (-1)) mi_X_judge ml_X_157 d_X_sorts_17 rfl rfl rfl rfl rfl (fun _ μ6 => ?_)
    show Go Γ 2 20 [(0, .ref 0), (1, .int x1)] [] μ6 _
    refine go_aload_n (q := 0) (i := 0) (pc := 20) hΓ d_X_sorts_20 rfl rfl ?_
    refine go_getR (q := 16) (pc := 21) hΓ fl_X_37 d_X_sorts_21 rfl rfl ?_
    refine go_callV (index := 108) emV hΓ hR (g_Numbers_clear N (d + 2) ) mi_Numbers_clear ml_X_108 d_X_sorts_24 rfl rfl rfl rfl rfl (fun _ μ8 => ?_)
    show Go Γ 2 27 [(0, .ref 0), (1, .int x1)] [] μ8 _
    refine go_aload_n (q := 0) (i := 0) (pc := 27) hΓ d_X_sorts_27 rfl rfl ?_
    refine go_getR (q := 16) (pc := 28) hΓ fl_X_37 d_X_sorts_28 rfl rfl ?_
    refine go_aload_n (q := 0) (i := 0) (pc := 31) hΓ d_X_sorts_31 rfl rfl ?_
    refine go_getR (q := 31) (pc := 32) hΓ fl_X_61 d_X_sorts_32 rfl rfl ?_
    refine go_callV (index := 161) emI hΓ hR (g_PatternSet_size N (d + 1) ) mi_PatternSet_size ml_X_161 d_X_sorts_35 rfl rfl rfl rfl rfl (fun r9 μ10 => ?_)
    show Go Γ 2 38 [(0, .ref 0), (1, .int x1)] [.int r9, .ref 16] μ10 _
    refine go_i2l (pc := 38) hΓ d_X_sorts_38 ?_
    refine go_callV (index := 118) emV hΓ hR (g_Numbers_append N (d + 2) (Int32.toInt64 r9)) mi_Numbers_append ml_X_118 d_X_sorts_39 rfl rfl rfl rfl rfl (fun _ μ12 => ?_)
    show Go Γ 2 42 [(0, .ref 0), (1, .int x1)] [] μ12 _
    refine go_aload_n (q := 0) (i := 0) (pc := 42) hΓ d_X_sorts_42 rfl rfl ?_
    refine go_getR (q := 16) (pc := 43) hΓ fl_X_37 d_X_sorts_43 rfl rfl ?_
    refine go_aload_n (q := 0) (i := 0) (pc := 46) hΓ d_X_sorts_46 rfl rfl ?_
    refine go_getR (q := 31) (pc := 47) hΓ fl_X_61 d_X_sorts_47 rfl rfl ?_
    refine go_callV (index := 233) emI hΓ hR (g_PatternSet_first N (d + 1) ) mi_PatternSet_first ml_X_233 d_X_sorts_50 rfl rfl rfl rfl rfl (fun r13 μ14 => ?_)
    show Go Γ 2 53 [(0, .ref 0), (1, .int x1)] [.int r13, .ref 16] μ14 _
    refine go_i2l (pc := 53) hΓ d_X_sorts_53 ?_
    refine go_callV (index := 118) emV hΓ hR (g_Numbers_append N (d + 2) (Int32.toInt64 r13)) mi_Numbers_append ml_X_118 d_X_sorts_54 rfl rfl rfl rfl rfl (fun _ μ16 => ?_)
    show Go Γ 2 57 [(0, .ref 0), (1, .int x1)] [] μ16 _
    refine go_aload_n (q := 0) (i := 0) (pc := 57) hΓ d_X_sorts_57 rfl rfl ?_
    refine go_getR (q := 31) (pc := 58) hΓ fl_X_61 d_X_sorts_58 rfl rfl ?_
    refine go_callV (index := 236) emI hΓ hR (g_PatternSet_isEmpty N (d + 0) ) mi_PatternSet_isEmpty ml_X_236 d_X_sorts_61 rfl rfl rfl rfl rfl (fun r17 μ18 => ?_)
    show Go Γ 2 64 [(0, .ref 0), (1, .int x1)] [.int r17] μ18 _
    refine go_if_eq 71 (pc := 64) hΓ d_X_sorts_64 (by decide) (fun h19 => go_eq (if_pos h19) ?_) (fun h19 => go_eq (if_neg h19) ?_)
    · refine go_iconst (v := 0) (pc := 71) hΓ d_X_sorts_71 (by decide) ?_
      exact go_iret (pc := 72) hΓ hT d_X_sorts_72
    · refine go_iconst (v := 1) (pc := 67) hΓ d_X_sorts_67 (by decide) ?_
      refine go_goto 72 (pc := 68) hΓ d_X_sorts_68 (by decide) ?_
      exact go_iret (pc := 72) hΓ hT d_X_sorts_72
  · refine go_iconst (v := -1) (pc := 7) hΓ d_X_sorts_7 (by decide) ?_
    exact go_iret (pc := 8) hΓ hT d_X_sorts_8
def f_X_findResults (N : Nat) (p1 : Nat) (μ0 : Mem) : Option (Unit × Mem) :=
  bnd (f_Trial_start N 27 (gI μ0 p1 0) μ0) fun _ μ2 => bnd (f_Trial_runPart N 27 p1 0 (gI μ2 p1 1) μ2) fun _ μ4 => bnd (f_Trial_listResults N 27 μ4) fun _ μ6 => some ((), μ6)
set_option maxHeartbeats 4000000 in
set_option maxRecDepth 100000 in
theorem g_X_findResults (N d : Nat) (p1 : Nat) (hp1 : isN p1)  : CallF eV y_X_findResults c_X_findResults 2 none (d + 2 + 1) [.ref 0, .ref p1] (f_X_findResults N p1) := by
  refine call_of (d := d + 2) (n := 1) mi_X_findResults.1 (fun _ => rfl) ?_
  intro Γ μ0 hΓ hT hR
  show Go Γ 2 0 [(0, .ref 0), (1, .ref p1)] [] μ0 (f_X_findResults N p1 μ0)
  unfold f_X_findResults
  refine go_aload_n (q := 0) (i := 0) (pc := 0) hΓ d_X_findResults_0 rfl rfl ?_
  refine go_getR (q := 27) (pc := 1) hΓ fl_X_51 d_X_findResults_1 rfl rfl ?_
  refine go_aload_n (q := 1) (i := 1) (pc := 4) hΓ d_X_findResults_4 rfl rfl ?_
  refine go_getI (pc := 5) hΓ fl_X_111 d_X_findResults_5 (isN_sh hp1).1 rfl ?_
  refine go_callV (index := 266) emV hΓ hR (g_Trial_start N (d + 0) 27 isT_27 (gI μ0 p1 0)) mi_Trial_start ml_X_266 d_X_findResults_8 rfl rfl rfl rfl rfl (fun _ μ2 => ?_)
  show Go Γ 2 11 [(0, .ref 0), (1, .ref p1)] [] μ2 _
  refine go_aload_n (q := 0) (i := 0) (pc := 11) hΓ d_X_findResults_11 rfl rfl ?_
  refine go_getR (q := 27) (pc := 12) hΓ fl_X_51 d_X_findResults_12 rfl rfl ?_
  refine go_aload_n (q := 1) (i := 1) (pc := 15) hΓ d_X_findResults_15 rfl rfl ?_
  refine go_iconst (v := 0) (pc := 16) hΓ d_X_findResults_16 (by decide) ?_
  refine go_aload_n (q := 1) (i := 1) (pc := 17) hΓ d_X_findResults_17 rfl rfl ?_
  refine go_getI (pc := 18) hΓ fl_X_121 d_X_findResults_18 (isN_sh hp1).1 rfl ?_
  refine go_callV (index := 285) emV hΓ hR (g_Trial_runPart N (d + 0) 27 isT_27 p1 hp1 0 (gI μ2 p1 1)) mi_Trial_runPart ml_X_285 d_X_findResults_21 rfl rfl rfl rfl rfl (fun _ μ4 => ?_)
  show Go Γ 2 24 [(0, .ref 0), (1, .ref p1)] [] μ4 _
  refine go_aload_n (q := 0) (i := 0) (pc := 24) hΓ d_X_findResults_24 rfl rfl ?_
  refine go_getR (q := 27) (pc := 25) hΓ fl_X_51 d_X_findResults_25 rfl rfl ?_
  refine go_aload_n (q := 0) (i := 0) (pc := 28) hΓ d_X_findResults_28 rfl rfl ?_
  refine go_getR (q := 33) (pc := 29) hΓ fl_X_65 d_X_findResults_29 rfl rfl ?_
  refine go_callV (index := 353) emV hΓ hR (g_Trial_listResults N (d + 1) 27 isT_27) mi_Trial_listResults ml_X_353 d_X_findResults_32 rfl rfl rfl rfl rfl (fun _ μ6 => ?_)
  show Go Γ 2 35 [(0, .ref 0), (1, .ref p1)] [] μ6 _
  exact go_vret (pc := 35) hΓ hT d_X_findResults_35
def lp_X_takeImage_14 (N : Nat) (p1 : Nat)  (K : Mem → Option (Unit × Mem)) : Nat → Int32 → Mem → Option (Unit × Mem)
  | 0, _, _ => none
  | n + 1, a2, μ0 => if a2 < (shlI 1 (gI μ0 p1 0)) then (ck (inb a2 256) (bnd (f_PatternSet_put N (gI μ0 33 (tn a2)) μ0) fun _ μ8 => lt' (a2 + 1) fun v9 => lp_X_takeImage_14 N p1 K n v9 μ8)) else (K  μ0)
def f_X_takeImage (N : Nat) (p1 : Nat) (μ0 : Mem) : Option (Unit × Mem) :=
  bnd (f_X_findResults N p1 μ0) fun _ μ2 => bnd (f_PatternSet_clear N  μ2) fun _ μ4 => lp_X_takeImage_14 N p1 (fun μ10 => some ((), μ10)) N 0 μ4
set_option maxHeartbeats 4000000 in
set_option maxRecDepth 100000 in
theorem glp_X_takeImage_14 (N d : Nat) {Γ : Cx Unit} (hΓ : Ok Γ "SortingNets" c_X_takeImage 3) (hT : Rt Γ eV none) (hR : Rm Γ (d + 3)) (p1 : Nat) (hp1 : isN p1)   (K : Mem → Option (Unit × Mem)) (hK : ∀  (ν : Mem), Go Γ 3 43 [] [] ν (K  ν)) : ∀ (n : Nat) (a2 : Int32) (μ0 : Mem), Go Γ 3 14 [(0, .ref 0), (1, .ref p1), (2, .int a2)] [] μ0 (lp_X_takeImage_14 N p1 K n a2 μ0) := by
  intro n
  induction n with
  | zero => intro a2 μ0; exact go_none
  | succ n ih =>
    intro a2 μ0
    rw [lp_X_takeImage_14]
    refine go_iload_n (q := 2) (i := 2) (pc := 14) hΓ d_X_takeImage_14 rfl rfl ?_
    refine go_iconst (v := 1) (pc := 15) hΓ d_X_takeImage_15 (by decide) ?_
    refine go_aload_n (q := 1) (i := 1) (pc := 16) hΓ d_X_takeImage_16 rfl rfl ?_
    refine go_getI (pc := 17) hΓ fl_X_111 d_X_takeImage_17 (isN_sh hp1).1 rfl ?_
    refine go_ishl (pc := 20) hΓ d_X_takeImage_20 ?_
    refine go_icmp_ge 43 (pc := 21) hΓ d_X_takeImage_21 (by decide) (fun h5 => go_eq (if_neg h5) ?_) (fun h5 => go_eq (if_pos h5) ?_)
    · refine go_sub' (lv' := []) rfl ?_
      exact hK  μ0
    · refine go_aload_n (q := 0) (i := 0) (pc := 24) hΓ d_X_takeImage_24 rfl rfl ?_
      refine go_getR (q := 31) (pc := 25) hΓ fl_X_61 d_X_takeImage_25 rfl rfl ?_
      refine go_aload_n (q := 0) (i := 0) (pc := 28) hΓ d_X_takeImage_28 rfl rfl ?_
      refine go_getR (q := 33) (pc := 29) hΓ fl_X_65 d_X_takeImage_29 rfl rfl ?_
      refine go_iload_n (q := 2) (i := 2) (pc := 32) hΓ d_X_takeImage_32 rfl rfl ?_
      refine go_ck (fun h6 => ?_)
      refine go_iald (pc := 33) hΓ d_X_takeImage_33 rfl h6 ?_
      refine go_callV (index := 358) emV hΓ hR (g_PatternSet_put N (d + 2) (gI μ0 33 (tn a2))) mi_PatternSet_put ml_X_358 d_X_takeImage_34 rfl rfl rfl rfl rfl (fun _ μ8 => ?_)
      show Go Γ 3 37 [(0, .ref 0), (1, .ref p1), (2, .int a2)] [] μ8 _
      refine go_incI (q := 2) (i := 2) (n := 1) (c := 1) (pc := 37) hΓ d_X_takeImage_37 rfl (by decide) (by decide) (fun v9 => ?_)
      refine go_sub' (lv' := [(2, .int v9), (0, .ref 0), (1, .ref p1)]) rfl ?_
      refine go_goto 14 (pc := 40) hΓ d_X_takeImage_40 (by decide) ?_
      refine go_sub' (lv' := [(0, .ref 0), (1, .ref p1), (2, .int v9)]) rfl ?_
      exact ih v9 μ8
set_option maxHeartbeats 4000000 in
set_option maxRecDepth 100000 in
theorem g_X_takeImage (N d : Nat) (p1 : Nat) (hp1 : isN p1)  : CallF eV y_X_takeImage c_X_takeImage 3 none (d + 3 + 1) [.ref 0, .ref p1] (f_X_takeImage N p1) := by
  refine call_of (d := d + 3) (n := 1) mi_X_takeImage.1 (fun _ => rfl) ?_
  intro Γ μ0 hΓ hT hR
  show Go Γ 3 0 [(0, .ref 0), (1, .ref p1)] [] μ0 (f_X_takeImage N p1 μ0)
  unfold f_X_takeImage
  refine go_aload_n (q := 0) (i := 0) (pc := 0) hΓ d_X_takeImage_0 rfl rfl ?_
  refine go_aload_n (q := 1) (i := 1) (pc := 1) hΓ d_X_takeImage_1 rfl rfl ?_
  refine go_callV (index := 249) emV hΓ hR (g_X_findResults N (d + 0) p1 hp1) mi_X_findResults ml_X_249 d_X_takeImage_2 rfl rfl rfl rfl rfl (fun _ μ2 => ?_)
  show Go Γ 3 5 [(0, .ref 0), (1, .ref p1)] [] μ2 _
  refine go_aload_n (q := 0) (i := 0) (pc := 5) hΓ d_X_takeImage_5 rfl rfl ?_
  refine go_getR (q := 31) (pc := 6) hΓ fl_X_61 d_X_takeImage_6 rfl rfl ?_
  refine go_callV (index := 357) emV hΓ hR (g_PatternSet_clear N (d + 2) ) mi_PatternSet_clear ml_X_357 d_X_takeImage_9 rfl rfl rfl rfl rfl (fun _ μ4 => ?_)
  show Go Γ 3 12 [(0, .ref 0), (1, .ref p1)] [] μ4 _
  refine go_iconst (v := 0) (pc := 12) hΓ d_X_takeImage_12 (by decide) ?_
  refine go_istore_n (i := 2) (lv' := [(2, .int 0), (0, .ref 0), (1, .ref p1)]) (pc := 13) hΓ d_X_takeImage_13 rfl (by decide) rfl ?_
  refine go_sub' (lv' := [(0, .ref 0), (1, .ref p1), (2, .int 0)]) rfl ?_
  refine glp_X_takeImage_14 N d hΓ hT hR p1 hp1 _ (fun μ10 => ?_) N 0 μ4
  exact go_vret (pc := 43) hΓ hT d_X_takeImage_43
def f_X_topOnes (N : Nat) (x0 : Int32) (x1 : Int32) (μ0 : Mem) : Option (Int32 × Mem) :=
  some ((shlI 1 x0) - (shlI 1 (x0 - x1)), μ0)
set_option maxHeartbeats 4000000 in
set_option maxRecDepth 100000 in
theorem g_X_topOnes (N d : Nat) (x0 : Int32) (x1 : Int32)  : CallF eI y_X_topOnes c_X_topOnes 2 (some .int) (d + 0 + 1) [.int x0, .int x1] (f_X_topOnes N x0 x1) := by
  refine call_of (d := d + 0) (n := 2) mi_X_topOnes.1 (fun _ => rfl) ?_
  intro Γ μ0 hΓ hT hR
  show Go Γ 2 0 [(0, .int x0), (1, .int x1)] [] μ0 (f_X_topOnes N x0 x1 μ0)
  unfold f_X_topOnes
  refine go_iconst (v := 1) (pc := 0) hΓ d_X_topOnes_0 (by decide) ?_
  refine go_iload_n (q := 0) (i := 0) (pc := 1) hΓ d_X_topOnes_1 rfl rfl ?_
  refine go_ishl (pc := 2) hΓ d_X_topOnes_2 ?_
  refine go_iconst (v := 1) (pc := 3) hΓ d_X_topOnes_3 (by decide) ?_
  refine go_iload_n (q := 0) (i := 0) (pc := 4) hΓ d_X_topOnes_4 rfl rfl ?_
  refine go_iload_n (q := 1) (i := 1) (pc := 5) hΓ d_X_topOnes_5 rfl rfl ?_
  refine go_isub (pc := 6) hΓ d_X_topOnes_6 ?_
  refine go_ishl (pc := 7) hΓ d_X_topOnes_7 ?_
  refine go_isub (pc := 8) hΓ d_X_topOnes_8 ?_
  exact go_iret (pc := 9) hΓ hT d_X_topOnes_9
def lp_X_image_23 (N : Nat) (x1 : Int32)  (K : Int32 → Mem → Option (Int32 × Mem)) : Nat → Int32 → Int32 → Mem → Option (Int32 × Mem)
  | 0, _, _, _ => none
  | n + 1, a2, a3, μ0 => ck (inb x1 4) (if (gI μ0 (2 + 3 * tn x1) 0) < a3 then (K a2 μ0) else (ck (inb x1 4) (bnd (f_X_topOnes N (gI μ0 (2 + 3 * tn x1) 0) a3 μ0) fun r10 μ11 => bnd (f_PatternSet_holds N r10 μ11) fun r12 μ13 => lt' (if r12 = 0 then (a2 : Int32) else (a2 + 1 : Int32)) fun q15 => lt' (a3 + 1) fun v16 => lp_X_image_23 N x1 K n q15 v16 μ13)))
def f_X_image (N : Nat) (x1 : Int32) (μ0 : Mem) : Option (Int32 × Mem) :=
  bnd (f_X_isNet N x1 μ0) fun r1 μ2 => if r1 = 0 then (some ((-1), μ2)) else (ck (inb x1 4) (bnd (f_X_takeImage N (2 + 3 * tn x1) μ2) fun _ μ6 => lp_X_image_23 N x1 (fun v18 μ19 => bnd (f_Numbers_clear N  μ19) fun _ μ21 => bnd (f_Numbers_append N (Int32.toInt64 v18) μ21) fun _ μ23 => bnd (f_PatternSet_size N  μ23) fun r24 μ25 => some (r24, μ25)) N 0 0 μ6))
set_option maxHeartbeats 4000000 in
set_option maxRecDepth 100000 in
theorem glp_X_image_23 (N d : Nat) {Γ : Cx Int32} (hΓ : Ok Γ "SortingNets" c_X_image 4) (hT : Rt Γ eI (some .int)) (hR : Rm Γ (d + 4)) (x1 : Int32)    (K : Int32 → Mem → Option (Int32 × Mem)) (hK : ∀ (b2 : Int32) (ν : Mem), Go Γ 4 68 [(0, .ref 0), (2, .int b2)] [] ν (K b2 ν)) : ∀ (n : Nat) (a2 : Int32) (a3 : Int32) (μ0 : Mem), Go Γ 4 23 [(0, .ref 0), (1, .int x1), (2, .int a2), (3, .int a3)] [] μ0 (lp_X_image_23 N x1 K n a2 a3 μ0) := by
  intro n
  induction n with
  | zero => intro a2 a3 μ0; exact go_none
  | succ n ih =>
    intro a2 a3 μ0
    rw [lp_X_image_23]
    refine go_iload_n (q := 3) (i := 3) (pc := 23) hΓ d_X_image_23 rfl rfl ?_
    refine go_aload_n (q := 0) (i := 0) (pc := 24) hΓ d_X_image_24 rfl rfl ?_
    refine go_getR (q := 1) (pc := 25) hΓ fl_X_11 d_X_image_25 rfl rfl ?_
    refine go_iload_n (q := 1) (i := 1) (pc := 28) hΓ d_X_image_28 rfl rfl ?_
    refine go_ck (fun h7 => ?_)
    refine go_aald (pc := 29) hΓ d_X_image_29 h7 ?_
    refine go_getI (pc := 30) hΓ fl_X_111 d_X_image_30 (isN_sh (isN_in h7)).1 rfl ?_
    refine go_icmp_gt 68 (pc := 33) hΓ d_X_image_33 (by decide) (fun h8 => go_eq (if_pos h8) ?_) (fun h8 => go_eq (if_neg h8) ?_)
    · refine go_sub' (lv' := [(0, .ref 0), (2, .int a2)]) rfl ?_
      exact hK a2 μ0
    · refine go_aload_n (q := 0) (i := 0) (pc := 36) hΓ d_X_image_36 rfl rfl ?_
      refine go_getR (q := 31) (pc := 37) hΓ fl_X_61 d_X_image_37 rfl rfl ?_
      refine go_aload_n (q := 0) (i := 0) (pc := 40) hΓ d_X_image_40 rfl rfl ?_
      refine go_getR (q := 1) (pc := 41) hΓ fl_X_11 d_X_image_41 rfl rfl ?_
      refine go_iload_n (q := 1) (i := 1) (pc := 44) hΓ d_X_image_44 rfl rfl ?_
      refine go_ck (fun h9 => ?_)
      refine go_aald (pc := 45) hΓ d_X_image_45 h9 ?_
      refine go_getI (pc := 46) hΓ fl_X_111 d_X_image_46 (isN_sh (isN_in h9)).1 rfl ?_
      refine go_iload_n (q := 3) (i := 3) (pc := 49) hΓ d_X_image_49 rfl rfl ?_
      refine go_callS (index := 243) emI hΓ hR (g_X_topOnes N (d + 3) (gI μ0 (2 + 3 * tn x1) 0) a3) mi_X_topOnes ml_X_243 d_X_image_50 rfl rfl rfl (fun r10 μ11 => ?_)
      show Go Γ 4 53 [(0, .ref 0), (1, .int x1), (2, .int a2), (3, .int a3)] [.int r10, .ref 31] μ11 _
      refine go_callV (index := 246) emI hΓ hR (g_PatternSet_holds N (d + 3) r10) mi_PatternSet_holds ml_X_246 d_X_image_53 rfl rfl rfl rfl rfl (fun r12 μ13 => ?_)
      show Go Γ 4 56 [(0, .ref 0), (1, .int x1), (2, .int a2), (3, .int a3)] [.int r12] μ13 _
      refine go_mg (α := Int32) 62 (fun q15 => [(0, .ref 0), (1, .int x1), (2, .int q15), (3, .int a3)]) (fun q15 => []) (fun q15 => ?_) (fun g17 g17h => ?_)
      · refine go_incI (q := 3) (i := 3) (n := 1) (c := 1) (pc := 62) hΓ d_X_image_62 rfl (by decide) (by decide) (fun v16 => ?_)
        refine go_sub' (lv' := [(3, .int v16), (0, .ref 0), (1, .int x1), (2, .int q15)]) rfl ?_
        refine go_goto 23 (pc := 65) hΓ d_X_image_65 (by decide) ?_
        refine go_sub' (lv' := [(0, .ref 0), (1, .int x1), (2, .int q15), (3, .int v16)]) rfl ?_
        exact ih q15 v16 μ13
      · refine go_if_eq 62 (pc := 56) hΓ d_X_image_56 (by decide) (fun h14 => ?_) (fun h14 => ?_)
        · rw [if_pos h14]
          refine go_sub' (lv' := [(0, .ref 0), (1, .int x1), (2, .int a2), (3, .int a3)]) rfl ?_
          exact g17h _
        · rw [if_neg h14]
          refine go_iinc (q := 2) (i := 2) (n := 1) (v := a2 + 1) (lv' := [(2, .int (a2 + 1)), (0, .ref 0), (1, .int x1), (3, .int a3)]) (pc := 59) hΓ d_X_image_59 rfl rfl (by decide) rfl ?_
          refine go_sub' (lv' := [(0, .ref 0), (1, .int x1), (2, .int (a2 + 1)), (3, .int a3)]) rfl ?_
          exact g17h _
set_option maxHeartbeats 4000000 in
set_option maxRecDepth 100000 in
theorem g_X_image (N d : Nat) (x1 : Int32)  : CallF eI y_X_image c_X_image 4 (some .int) (d + 4 + 1) [.ref 0, .int x1] (f_X_image N x1) := by
  refine call_of (d := d + 4) (n := 1) mi_X_image.1 (fun _ => rfl) ?_
  intro Γ μ0 hΓ hT hR
  show Go Γ 4 0 [(0, .ref 0), (1, .int x1)] [] μ0 (f_X_image N x1 μ0)
  unfold f_X_image
  refine go_iload_n (q := 1) (i := 1) (pc := 0) hΓ d_X_image_0 rfl rfl ?_
  refine go_callS (index := 101) emI hΓ hR (g_X_isNet N (d + 3) x1) mi_X_isNet ml_X_101 d_X_image_1 rfl rfl rfl (fun r1 μ2 => ?_)
  show Go Γ 4 4 [(0, .ref 0), (1, .int x1)] [.int r1] μ2 _
  refine go_if_ne 9 (pc := 4) hΓ d_X_image_4 (by decide) (fun h3 => go_eq (if_neg h3) ?_) (fun h3 => go_eq (if_pos h3) ?_)
  · refine go_aload_n (q := 0) (i := 0) (pc := 9) hΓ d_X_image_9 rfl rfl ?_
    refine go_aload_n (q := 0) (i := 0) (pc := 10) hΓ d_X_image_10 rfl rfl ?_
    refine go_getR (q := 1) (pc := 11) hΓ fl_X_11 d_X_image_11 rfl rfl ?_
    refine go_iload_n (q := 1) (i := 1) (pc := 14) hΓ d_X_image_14 rfl rfl ?_
    refine go_ck (fun h4 => ?_)
    refine go_aald (pc := 15) hΓ d_X_image_15 h4 ?_
    refine go_callV (index := 240) emV hΓ hR (g_X_takeImage N (d + 0) (2 + 3 * tn x1) (isN_in h4)) mi_X_takeImage ml_X_240 d_X_image_16 rfl rfl rfl rfl rfl (fun _ μ6 => ?_)
    show Go Γ 4 19 [(0, .ref 0), (1, .int x1)] [] μ6 _
    refine go_iconst (v := 0) (pc := 19) hΓ d_X_image_19 (by decide) ?_
    refine go_istore_n (i := 2) (lv' := [(2, .int 0), (0, .ref 0), (1, .int x1)]) (pc := 20) hΓ d_X_image_20 rfl (by decide) rfl ?_
    refine go_iconst (v := 0) (pc := 21) hΓ d_X_image_21 (by decide) ?_
    refine go_istore_n (i := 3) (lv' := [(3, .int 0), (2, .int 0), (0, .ref 0), (1, .int x1)]) (pc := 22) hΓ d_X_image_22 rfl (by decide) rfl ?_
    refine go_sub' (lv' := [(0, .ref 0), (1, .int x1), (2, .int 0), (3, .int 0)]) rfl ?_
    refine glp_X_image_23 N d hΓ hT hR x1 _ (fun v18 μ19 => ?_) N 0 0 μ6
    refine go_aload_n (q := 0) (i := 0) (pc := 68) hΓ d_X_image_68 rfl rfl ?_
    refine go_getR (q := 16) (pc := 69) hΓ fl_X_37 d_X_image_69 rfl rfl ?_
    refine go_callV (index := 108) emV hΓ hR (g_Numbers_clear N (d + 3) ) mi_Numbers_clear ml_X_108 d_X_image_72 rfl rfl rfl rfl rfl (fun _ μ21 => ?_)
    show Go Γ 4 75 [(0, .ref 0), (2, .int v18)] [] μ21 _
    refine go_aload_n (q := 0) (i := 0) (pc := 75) hΓ d_X_image_75 rfl rfl ?_
    refine go_getR (q := 16) (pc := 76) hΓ fl_X_37 d_X_image_76 rfl rfl ?_
    refine go_iload_n (q := 1) (i := 2) (pc := 79) hΓ d_X_image_79 rfl rfl ?_
    refine go_i2l (pc := 80) hΓ d_X_image_80 ?_
    refine go_callV (index := 118) emV hΓ hR (g_Numbers_append N (d + 3) (Int32.toInt64 v18)) mi_Numbers_append ml_X_118 d_X_image_81 rfl rfl rfl rfl rfl (fun _ μ23 => ?_)
    show Go Γ 4 84 [(0, .ref 0), (2, .int v18)] [] μ23 _
    refine go_aload_n (q := 0) (i := 0) (pc := 84) hΓ d_X_image_84 rfl rfl ?_
    refine go_getR (q := 31) (pc := 85) hΓ fl_X_61 d_X_image_85 rfl rfl ?_
    refine go_callV (index := 161) emI hΓ hR (g_PatternSet_size N (d + 2) ) mi_PatternSet_size ml_X_161 d_X_image_88 rfl rfl rfl rfl rfl (fun r24 μ25 => ?_)
    show Go Γ 4 91 [(0, .ref 0), (2, .int v18)] [.int r24] μ25 _
    exact go_iret (pc := 91) hΓ hT d_X_image_91
  · refine go_iconst (v := -1) (pc := 7) hΓ d_X_image_7 (by decide) ?_
    exact go_iret (pc := 8) hΓ hT d_X_image_8

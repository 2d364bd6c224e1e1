def lp_Text_append_17 (N : Nat) (x1 : Int32)  (K : Mem → Option (Int32 × Mem)) : Nat → Int32 → Mem → Option (Int32 × Mem)
  | 0, _, _ => none
  | n + 1, a2, μ0 => if a2 < 0 then (K  μ0) else (ck (inb (gI μ0 14 1) 200) (lt' (sI μ0 15 (tn (gI μ0 14 1)) (vp_nar .char (chI ((ushI x1 a2) &&& 255)))) fun μ4 => lt' (sI μ4 14 1 ((gI μ4 14 1) + 1)) fun μ5 => lt' (a2 + (-8)) fun v6 => lp_Text_append_17 N x1 K n v6 μ5))
def f_Text_append (N : Nat) (x1 : Int32) (μ0 : Mem) : Option (Int32 × Mem) :=
  if 200 < ((gI μ0 14 1) + 4) then (some (0, μ0)) else (lp_Text_append_17 N x1 (fun μ7 => some (1, μ7)) N 24 μ0)
set_option maxHeartbeats 4000000 in
set_option maxRecDepth 100000 in
theorem glp_Text_append_17 (N d : Nat) {Γ : Cx Int32} (hΓ : Ok Γ "SortingNets$Text" c_Text_append 3) (hT : Rt Γ eI (some .boolean)) (hR : Rm Γ (d + 0)) (x1 : Int32)    (K : Mem → Option (Int32 × Mem)) (hK : ∀  (ν : Mem), Go Γ 3 54 [] [] ν (K  ν)) : ∀ (n : Nat) (a2 : Int32) (μ0 : Mem), Go Γ 3 17 [(0, .ref 14), (1, .int x1), (2, .int a2)] [] μ0 (lp_Text_append_17 N x1 K n a2 μ0) := by
  intro n
  induction n with
  | zero => intro a2 μ0; exact go_none
  | succ n ih =>
    intro a2 μ0
    rw [lp_Text_append_17]
    refine go_iload_n (q := 2) (i := 2) (pc := 17) hΓ d_Text_append_17 rfl rfl ?_
    refine go_if_lt 54 (pc := 18) hΓ d_Text_append_18 (by decide) (fun h2 => go_eq (if_pos h2) ?_) (fun h2 => go_eq (if_neg h2) ?_)
    · refine go_sub' (lv' := []) rfl ?_
      exact hK  μ0
    · refine go_aload_n (q := 0) (i := 0) (pc := 21) hΓ d_Text_append_21 rfl rfl ?_
      refine go_getR (q := 15) (pc := 22) hΓ fl_Text_9 d_Text_append_22 rfl rfl ?_
      refine go_aload_n (q := 0) (i := 0) (pc := 25) hΓ d_Text_append_25 rfl rfl ?_
      refine go_getI (pc := 26) hΓ fl_Text_15 d_Text_append_26 rfl rfl ?_
      refine go_iload_n (q := 1) (i := 1) (pc := 29) hΓ d_Text_append_29 rfl rfl ?_
      refine go_iload_n (q := 2) (i := 2) (pc := 30) hΓ d_Text_append_30 rfl rfl ?_
      refine go_iushr (pc := 31) hΓ d_Text_append_31 ?_
      refine go_sipush (v := 255) (pc := 32) hΓ d_Text_append_32 (by decide) ?_
      refine go_iand (pc := 35) hΓ d_Text_append_35 ?_
      refine go_i2c (pc := 36) hΓ d_Text_append_36 ?_
      refine go_ck (fun h3 => ?_)
      refine go_cast (pc := 37) hΓ d_Text_append_37 rfl h3 ?_
      refine go_letM (fun μ4 => ?_)
      refine go_aload_n (q := 0) (i := 0) (pc := 38) hΓ d_Text_append_38 rfl rfl ?_
      refine go_dup (pc := 39) hΓ d_Text_append_39 rfl ?_
      refine go_getI (pc := 40) hΓ fl_Text_15 d_Text_append_40 rfl rfl ?_
      refine go_iconst (v := 1) (pc := 43) hΓ d_Text_append_43 (by decide) ?_
      refine go_iadd (pc := 44) hΓ d_Text_append_44 ?_
      refine go_putI (pc := 45) hΓ fp_Text_15 d_Text_append_45 rfl rfl ?_
      refine go_letM (fun μ5 => ?_)
      refine go_incI (q := 2) (i := 2) (n := -8) (c := -8) (pc := 48) hΓ d_Text_append_48 rfl (by decide) (by decide) (fun v6 => ?_)
      refine go_sub' (lv' := [(2, .int v6), (0, .ref 14), (1, .int x1)]) rfl ?_
      refine go_goto 17 (pc := 51) hΓ d_Text_append_51 (by decide) ?_
      refine go_sub' (lv' := [(0, .ref 14), (1, .int x1), (2, .int v6)]) rfl ?_
      exact ih v6 μ5
set_option maxHeartbeats 4000000 in
set_option maxRecDepth 100000 in
theorem g_Text_append (N d : Nat) (x1 : Int32)  : CallF eI y_Text_append c_Text_append 3 (some .boolean) (d + 0 + 1) [.ref 14, .int x1] (f_Text_append N x1) := by
  refine call_of (d := d + 0) (n := 1) mi_Text_append.1 (fun _ => rfl) ?_
  intro Γ μ0 hΓ hT hR
  show Go Γ 3 0 [(0, .ref 14), (1, .int x1)] [] μ0 (f_Text_append N x1 μ0)
  unfold f_Text_append
  refine go_aload_n (q := 0) (i := 0) (pc := 0) hΓ d_Text_append_0 rfl rfl ?_
  refine go_getI (pc := 1) hΓ fl_Text_15 d_Text_append_1 rfl rfl ?_
  refine go_iconst (v := 4) (pc := 4) hΓ d_Text_append_4 (by decide) ?_
  refine go_iadd (pc := 5) hΓ d_Text_append_5 ?_
  refine go_sipush (v := 200) (pc := 6) hΓ d_Text_append_6 (by decide) ?_
  refine go_icmp_le 14 (pc := 9) hΓ d_Text_append_9 (by decide) (fun h1 => go_eq (if_neg h1) ?_) (fun h1 => go_eq (if_pos h1) ?_)
  · refine go_bipush (v := 24) (pc := 14) hΓ d_Text_append_14 (by decide) ?_
    refine go_istore_n (i := 2) (lv' := [(2, .int 24), (0, .ref 14), (1, .int x1)]) (pc := 16) hΓ d_Text_append_16 rfl (by decide) rfl ?_
    refine go_sub' (lv' := [(0, .ref 14), (1, .int x1), (2, .int 24)]) rfl ?_
    refine glp_Text_append_17 N d hΓ hT hR x1 _ (fun μ7 => ?_) N 24 μ0
    refine go_iconst (v := 1) (pc := 54) hΓ d_Text_append_54 (by decide) ?_
    exact go_zret (pc := 55) hΓ hT d_Text_append_55 rfl
  · refine go_iconst (v := 0) (pc := 12) hΓ d_Text_append_12 (by decide) ?_
    exact go_zret (pc := 13) hΓ hT d_Text_append_13 rfl
def f_Text_signAt (N : Nat) (x1 : Int32) (μ0 : Mem) : Option (Int32 × Mem) :=
  if x1 < 0 then (some ((-1), μ0)) else (if x1 < (gI μ0 14 1) then (ck (inb x1 200) (some (gI μ0 15 (tn x1), μ0))) else (some ((-1), μ0)))
set_option maxHeartbeats 4000000 in
set_option maxRecDepth 100000 in
theorem g_Text_signAt (N d : Nat) (x1 : Int32)  : CallF eI y_Text_signAt c_Text_signAt 2 (some .int) (d + 0 + 1) [.ref 14, .int x1] (f_Text_signAt N x1) := by
  refine call_of (d := d + 0) (n := 1) mi_Text_signAt.1 (fun _ => rfl) ?_
  intro Γ μ0 hΓ hT hR
  show Go Γ 2 0 [(0, .ref 14), (1, .int x1)] [] μ0 (f_Text_signAt N x1 μ0)
  unfold f_Text_signAt
  refine go_iload_n (q := 1) (i := 1) (pc := 0) hΓ d_Text_signAt_0 rfl rfl ?_
  refine go_if_lt 21 (pc := 1) hΓ d_Text_signAt_1 (by decide) (fun h1 => go_eq (if_pos h1) ?_) (fun h1 => go_eq (if_neg h1) ?_)
  · refine go_iconst (v := -1) (pc := 21) hΓ d_Text_signAt_21 (by decide) ?_
    exact go_iret (pc := 22) hΓ hT d_Text_signAt_22
  · refine go_iload_n (q := 1) (i := 1) (pc := 4) hΓ d_Text_signAt_4 rfl rfl ?_
    refine go_aload_n (q := 0) (i := 0) (pc := 5) hΓ d_Text_signAt_5 rfl rfl ?_
    refine go_getI (pc := 6) hΓ fl_Text_15 d_Text_signAt_6 rfl rfl ?_
    refine go_icmp_ge 21 (pc := 9) hΓ d_Text_signAt_9 (by decide) (fun h2 => go_eq (if_neg h2) ?_) (fun h2 => go_eq (if_pos h2) ?_)
    · refine go_iconst (v := -1) (pc := 21) hΓ d_Text_signAt_21 (by decide) ?_
      exact go_iret (pc := 22) hΓ hT d_Text_signAt_22
    · refine go_aload_n (q := 0) (i := 0) (pc := 12) hΓ d_Text_signAt_12 rfl rfl ?_
      refine go_getR (q := 15) (pc := 13) hΓ fl_Text_9 d_Text_signAt_13 rfl rfl ?_
      refine go_iload_n (q := 1) (i := 1) (pc := 16) hΓ d_Text_signAt_16 rfl rfl ?_
      refine go_ck (fun h3 => ?_)
      refine go_cald (pc := 17) hΓ d_Text_signAt_17 rfl h3 ?_
      refine go_goto 22 (pc := 18) hΓ d_Text_signAt_18 (by decide) ?_
      exact go_iret (pc := 22) hΓ hT d_Text_signAt_22
def f_Text_digitAt (N : Nat) (x1 : Int32) (μ0 : Mem) : Option (Int32 × Mem) :=
  bnd (f_Text_signAt N x1 μ0) fun r1 μ2 => if r1 < 48 then (some ((-1), μ2)) else (if 57 < r1 then (some ((-1), μ2)) else (some (r1 - 48, μ2)))
set_option maxHeartbeats 4000000 in
set_option maxRecDepth 100000 in
theorem g_Text_digitAt (N d : Nat) (x1 : Int32)  : CallF eI y_Text_digitAt c_Text_digitAt 3 (some .int) (d + 1 + 1) [.ref 14, .int x1] (f_Text_digitAt N x1) := by
  refine call_of (d := d + 1) (n := 1) mi_Text_digitAt.1 (fun _ => rfl) ?_
  intro Γ μ0 hΓ hT hR
  show Go Γ 3 0 [(0, .ref 14), (1, .int x1)] [] μ0 (f_Text_digitAt N x1 μ0)
  unfold f_Text_digitAt
  refine go_aload_n (q := 0) (i := 0) (pc := 0) hΓ d_Text_digitAt_0 rfl rfl ?_
  refine go_iload_n (q := 1) (i := 1) (pc := 1) hΓ d_Text_digitAt_1 rfl rfl ?_
  refine go_callV (index := 19) emI hΓ hR (g_Text_signAt N (d + 0) x1) mi_Text_signAt ml_Text_19 d_Text_digitAt_2 rfl rfl rfl rfl rfl (fun r1 μ2 => ?_)
  show Go Γ 3 5 [(0, .ref 14), (1, .int x1)] [.int r1] μ2 _
  refine go_istore_n (i := 2) (lv' := [(2, .int r1), (0, .ref 14), (1, .int x1)]) (pc := 5) hΓ d_Text_digitAt_5 rfl (by decide) rfl ?_
  refine go_iload_n (q := 0) (i := 2) (pc := 6) hΓ d_Text_digitAt_6 rfl rfl ?_
  refine go_bipush (v := 48) (pc := 7) hΓ d_Text_digitAt_7 (by decide) ?_
  refine go_icmp_lt 25 (pc := 9) hΓ d_Text_digitAt_9 (by decide) (fun h3 => go_eq (if_pos h3) ?_) (fun h3 => go_eq (if_neg h3) ?_)
  · refine go_iconst (v := -1) (pc := 25) hΓ d_Text_digitAt_25 (by decide) ?_
    exact go_iret (pc := 26) hΓ hT d_Text_digitAt_26
  · refine go_iload_n (q := 0) (i := 2) (pc := 12) hΓ d_Text_digitAt_12 rfl rfl ?_
    refine go_bipush (v := 57) (pc := 13) hΓ d_Text_digitAt_13 (by decide) ?_
    refine go_icmp_gt 25 (pc := 15) hΓ d_Text_digitAt_15 (by decide) (fun h4 => go_eq (if_pos h4) ?_) (fun h4 => go_eq (if_neg h4) ?_)
    · refine go_iconst (v := -1) (pc := 25) hΓ d_Text_digitAt_25 (by decide) ?_
      exact go_iret (pc := 26) hΓ hT d_Text_digitAt_26
    · refine go_iload_n (q := 0) (i := 2) (pc := 18) hΓ d_Text_digitAt_18 rfl rfl ?_
      refine go_bipush (v := 48) (pc := 19) hΓ d_Text_digitAt_19 (by decide) ?_
      refine go_isub (pc := 21) hΓ d_Text_digitAt_21 ?_
      refine go_goto 26 (pc := 22) hΓ d_Text_digitAt_22 (by decide) ?_
      exact go_iret (pc := 26) hΓ hT d_Text_digitAt_26
def f_Net_clear (N : Nat) (p0 : Nat) (x1 : Int32) (μ0 : Mem) : Option (Unit × Mem) :=
  lt' (sI μ0 p0 0 x1) fun μ1 => lt' (sI μ1 p0 1 0) fun μ2 => some ((), μ2)
set_option maxHeartbeats 4000000 in
set_option maxRecDepth 100000 in
theorem g_Net_clear (N d : Nat) (p0 : Nat) (hp0 : isN p0) (x1 : Int32)  : CallF eV y_Net_clear c_Net_clear 2 none (d + 0 + 1) [.ref p0, .int x1] (f_Net_clear N p0 x1) := by
  refine call_of (d := d + 0) (n := 1) mi_Net_clear.1 (fun _ => rfl) ?_
  intro Γ μ0 hΓ hT hR
  show Go Γ 2 0 [(0, .ref p0), (1, .int x1)] [] μ0 (f_Net_clear N p0 x1 μ0)
  unfold f_Net_clear
  refine go_aload_n (q := 0) (i := 0) (pc := 0) hΓ d_Net_clear_0 rfl rfl ?_
  refine go_iload_n (q := 1) (i := 1) (pc := 1) hΓ d_Net_clear_1 rfl rfl ?_
  refine go_putI (pc := 2) hΓ fp_Net_9 d_Net_clear_2 (isN_sh hp0).1 rfl ?_
  refine go_letM (fun μ1 => ?_)
  refine go_aload_n (q := 0) (i := 0) (pc := 5) hΓ d_Net_clear_5 rfl rfl ?_
  refine go_iconst (v := 0) (pc := 6) hΓ d_Net_clear_6 (by decide) ?_
  refine go_putI (pc := 7) hΓ fp_Net_15 d_Net_clear_7 (isN_sh hp0).1 rfl ?_
  refine go_letM (fun μ2 => ?_)
  exact go_vret (pc := 10) hΓ hT d_Net_clear_10
def lp_Tangle_start_2 (N : Nat) (x1 : Int32)  (K : Mem → Option (Unit × Mem)) : Nat → Int32 → Mem → Option (Unit × Mem)
  | 0, _, _ => none
  | n + 1, a2, μ0 => if a2 < x1 then (if a2 < 8 then (ck (inb a2 8) (lt' (sI μ0 22 (tn a2) a2) fun μ4 => lt' (a2 + 1) fun v5 => lp_Tangle_start_2 N x1 K n v5 μ4)) else (K  μ0)) else (K  μ0)
def f_Tangle_start (N : Nat) (x1 : Int32) (μ0 : Mem) : Option (Unit × Mem) :=
  lp_Tangle_start_2 N x1 (fun μ6 => some ((), μ6)) N 0 μ0
set_option maxHeartbeats 4000000 in
set_option maxRecDepth 100000 in
theorem glp_Tangle_start_2 (N d : Nat) {Γ : Cx Unit} (hΓ : Ok Γ "SortingNets$Tangle" c_Tangle_start 3) (hT : Rt Γ eV none) (hR : Rm Γ (d + 0)) (x1 : Int32)    (K : Mem → Option (Unit × Mem)) (hK : ∀  (ν : Mem), Go Γ 3 26 [] [] ν (K  ν)) : ∀ (n : Nat) (a2 : Int32) (μ0 : Mem), Go Γ 3 2 [(0, .ref 21), (1, .int x1), (2, .int a2)] [] μ0 (lp_Tangle_start_2 N x1 K n a2 μ0) := by
  intro n
  induction n with
  | zero => intro a2 μ0; exact go_none
  | succ n ih =>
    intro a2 μ0
    rw [lp_Tangle_start_2]
    refine go_iload_n (q := 2) (i := 2) (pc := 2) hΓ d_Tangle_start_2 rfl rfl ?_
    refine go_iload_n (q := 1) (i := 1) (pc := 3) hΓ d_Tangle_start_3 rfl rfl ?_
    refine go_icmp_ge 26 (pc := 4) hΓ d_Tangle_start_4 (by decide) (fun h1 => go_eq (if_neg h1) ?_) (fun h1 => go_eq (if_pos h1) ?_)
    · refine go_sub' (lv' := []) rfl ?_
      exact hK  μ0
    · refine go_iload_n (q := 2) (i := 2) (pc := 7) hΓ d_Tangle_start_7 rfl rfl ?_
      refine go_bipush (v := 8) (pc := 8) hΓ d_Tangle_start_8 (by decide) ?_
      refine go_icmp_ge 26 (pc := 10) hΓ d_Tangle_start_10 (by decide) (fun h2 => go_eq (if_neg h2) ?_) (fun h2 => go_eq (if_pos h2) ?_)
      · refine go_sub' (lv' := []) rfl ?_
        exact hK  μ0
      · refine go_aload_n (q := 0) (i := 0) (pc := 13) hΓ d_Tangle_start_13 rfl rfl ?_
        refine go_getR (q := 22) (pc := 14) hΓ fl_Tangle_9 d_Tangle_start_14 rfl rfl ?_
        refine go_iload_n (q := 2) (i := 2) (pc := 17) hΓ d_Tangle_start_17 rfl rfl ?_
        refine go_iload_n (q := 2) (i := 2) (pc := 18) hΓ d_Tangle_start_18 rfl rfl ?_
        refine go_ck (fun h3 => ?_)
        refine go_iast (pc := 19) hΓ d_Tangle_start_19 rfl h3 ?_
        refine go_letM (fun μ4 => ?_)
        refine go_incI (q := 2) (i := 2) (n := 1) (c := 1) (pc := 20) hΓ d_Tangle_start_20 rfl (by decide) (by decide) (fun v5 => ?_)
        refine go_sub' (lv' := [(2, .int v5), (0, .ref 21), (1, .int x1)]) rfl ?_
        refine go_goto 2 (pc := 23) hΓ d_Tangle_start_23 (by decide) ?_
        refine go_sub' (lv' := [(0, .ref 21), (1, .int x1), (2, .int v5)]) rfl ?_
        exact ih v5 μ4
set_option maxHeartbeats 4000000 in
set_option maxRecDepth 100000 in
theorem g_Tangle_start (N d : Nat) (x1 : Int32)  : CallF eV y_Tangle_start c_Tangle_start 3 none (d + 0 + 1) [.ref 21, .int x1] (f_Tangle_start N x1) := by
  refine call_of (d := d + 0) (n := 1) mi_Tangle_start.1 (fun _ => rfl) ?_
  intro Γ μ0 hΓ hT hR
  show Go Γ 3 0 [(0, .ref 21), (1, .int x1)] [] μ0 (f_Tangle_start N x1 μ0)
  unfold f_Tangle_start
  refine go_iconst (v := 0) (pc := 0) hΓ d_Tangle_start_0 (by decide) ?_
  refine go_istore_n (i := 2) (lv' := [(2, .int 0), (0, .ref 21), (1, .int x1)]) (pc := 1) hΓ d_Tangle_start_1 rfl (by decide) rfl ?_
  refine go_sub' (lv' := [(0, .ref 21), (1, .int x1), (2, .int 0)]) rfl ?_
  refine glp_Tangle_start_2 N d hΓ hT hR x1 _ (fun μ6 => ?_) N 0 μ0
  exact go_vret (pc := 26) hΓ hT d_Tangle_start_26
def f_Net_isWire (N : Nat) (p0 : Nat) (x1 : Int32) (μ0 : Mem) : Option (Int32 × Mem) :=
  if x1 < 0 then (some (0, μ0)) else (if x1 < (gI μ0 p0 0) then (some (1, μ0)) else (some (0, μ0)))
set_option maxHeartbeats 4000000 in
set_option maxRecDepth 100000 in
theorem g_Net_isWire (N d : Nat) (p0 : Nat) (hp0 : isN p0) (x1 : Int32)  : CallF eI y_Net_isWire c_Net_isWire 2 (some .boolean) (d + 0 + 1) [.ref p0, .int x1] (f_Net_isWire N p0 x1) := by
  refine call_of (d := d + 0) (n := 1) mi_Net_isWire.1 (fun _ => rfl) ?_
  intro Γ μ0 hΓ hT hR
  show Go Γ 2 0 [(0, .ref p0), (1, .int x1)] [] μ0 (f_Net_isWire N p0 x1 μ0)
  unfold f_Net_isWire
  refine go_iload_n (q := 1) (i := 1) (pc := 0) hΓ d_Net_isWire_0 rfl rfl ?_
  refine go_if_lt 16 (pc := 1) hΓ d_Net_isWire_1 (by decide) (fun h1 => go_eq (if_pos h1) ?_) (fun h1 => go_eq (if_neg h1) ?_)
  · refine go_iconst (v := 0) (pc := 16) hΓ d_Net_isWire_16 (by decide) ?_
    exact go_zret (pc := 17) hΓ hT d_Net_isWire_17 rfl
  · refine go_iload_n (q := 1) (i := 1) (pc := 4) hΓ d_Net_isWire_4 rfl rfl ?_
    refine go_aload_n (q := 0) (i := 0) (pc := 5) hΓ d_Net_isWire_5 rfl rfl ?_
    refine go_getI (pc := 6) hΓ fl_Net_9 d_Net_isWire_6 (isN_sh hp0).1 rfl ?_
    refine go_icmp_ge 16 (pc := 9) hΓ d_Net_isWire_9 (by decide) (fun h2 => go_eq (if_neg h2) ?_) (fun h2 => go_eq (if_pos h2) ?_)
    · refine go_iconst (v := 0) (pc := 16) hΓ d_Net_isWire_16 (by decide) ?_
      exact go_zret (pc := 17) hΓ hT d_Net_isWire_17 rfl
    · refine go_iconst (v := 1) (pc := 12) hΓ d_Net_isWire_12 (by decide) ?_
      refine go_goto 17 (pc := 13) hΓ d_Net_isWire_13 (by decide) ?_
      exact go_zret (pc := 17) hΓ hT d_Net_isWire_17 rfl
def f_Net_append (N : Nat) (p0 : Nat) (x1 : Int32) (x2 : Int32) (μ0 : Mem) : Option (Int32 × Mem) :=
  if (gI μ0 p0 1) < 60 then (ck (inb (gI μ0 p0 1) 60) (lt' (sI μ0 (p0 + 1) (tn (gI μ0 p0 1)) x1) fun μ3 => ck (inb (gI μ3 p0 1) 60) (lt' (sI μ3 (p0 + 2) (tn (gI μ3 p0 1)) x2) fun μ5 => lt' (sI μ5 p0 1 ((gI μ5 p0 1) + 1)) fun μ6 => some (1, μ6)))) else (some (0, μ0))
set_option maxHeartbeats 4000000 in
set_option maxRecDepth 100000 in
theorem g_Net_append (N d : Nat) (p0 : Nat) (hp0 : isN p0) (x1 : Int32) (x2 : Int32)  : CallF eI y_Net_append c_Net_append 3 (some .boolean) (d + 0 + 1) [.ref p0, .int x1, .int x2] (f_Net_append N p0 x1 x2) := by
  refine call_of (d := d + 0) (n := 2) mi_Net_append.1 (fun _ => rfl) ?_
  intro Γ μ0 hΓ hT hR
  show Go Γ 3 0 [(0, .ref p0), (1, .int x1), (2, .int x2)] [] μ0 (f_Net_append N p0 x1 x2 μ0)
  unfold f_Net_append
  refine go_aload_n (q := 0) (i := 0) (pc := 0) hΓ d_Net_append_0 rfl rfl ?_
  refine go_getI (pc := 1) hΓ fl_Net_15 d_Net_append_1 (isN_sh hp0).1 rfl ?_
  refine go_bipush (v := 60) (pc := 4) hΓ d_Net_append_4 (by decide) ?_
  refine go_icmp_lt 11 (pc := 6) hΓ d_Net_append_6 (by decide) (fun h1 => go_eq (if_pos h1) ?_) (fun h1 => go_eq (if_neg h1) ?_)
  · refine go_aload_n (q := 0) (i := 0) (pc := 11) hΓ d_Net_append_11 rfl rfl ?_
    refine go_getR (q := p0 + 1) (pc := 12) hΓ fl_Net_18 d_Net_append_12 (isN_sh hp0).1 rfl ?_
    refine go_aload_n (q := 0) (i := 0) (pc := 15) hΓ d_Net_append_15 rfl rfl ?_
    refine go_getI (pc := 16) hΓ fl_Net_15 d_Net_append_16 (isN_sh hp0).1 rfl ?_
    refine go_iload_n (q := 1) (i := 1) (pc := 19) hΓ d_Net_append_19 rfl rfl ?_
    refine go_ck (fun h2 => ?_)
    refine go_iast (pc := 20) hΓ d_Net_append_20 (isN_sh hp0).2.1 h2 ?_
    refine go_letM (fun μ3 => ?_)
    refine go_aload_n (q := 0) (i := 0) (pc := 21) hΓ d_Net_append_21 rfl rfl ?_
    refine go_getR (q := p0 + 2) (pc := 22) hΓ fl_Net_22 d_Net_append_22 (isN_sh hp0).1 rfl ?_
    refine go_aload_n (q := 0) (i := 0) (pc := 25) hΓ d_Net_append_25 rfl rfl ?_
    refine go_getI (pc := 26) hΓ fl_Net_15 d_Net_append_26 (isN_sh hp0).1 rfl ?_
    refine go_iload_n (q := 2) (i := 2) (pc := 29) hΓ d_Net_append_29 rfl rfl ?_
    refine go_ck (fun h4 => ?_)
    refine go_iast (pc := 30) hΓ d_Net_append_30 (isN_sh hp0).2.2 h4 ?_
    refine go_letM (fun μ5 => ?_)
    refine go_aload_n (q := 0) (i := 0) (pc := 31) hΓ d_Net_append_31 rfl rfl ?_
    refine go_dup (pc := 32) hΓ d_Net_append_32 rfl ?_
    refine go_getI (pc := 33) hΓ fl_Net_15 d_Net_append_33 (isN_sh hp0).1 rfl ?_
    refine go_iconst (v := 1) (pc := 36) hΓ d_Net_append_36 (by decide) ?_
    refine go_iadd (pc := 37) hΓ d_Net_append_37 ?_
    refine go_putI (pc := 38) hΓ fp_Net_15 d_Net_append_38 (isN_sh hp0).1 rfl ?_
    refine go_letM (fun μ6 => ?_)
    refine go_iconst (v := 1) (pc := 41) hΓ d_Net_append_41 (by decide) ?_
    exact go_zret (pc := 42) hΓ hT d_Net_append_42 rfl
  · refine go_iconst (v := 0) (pc := 9) hΓ d_Net_append_9 (by decide) ?_
    exact go_zret (pc := 10) hΓ hT d_Net_append_10 rfl
def f_Tangle_untangle (N : Nat) (x1 : Int32) (x2 : Int32) (p3 : Nat) (μ0 : Mem) : Option (Unit × Mem) :=
  ck (inb x1 8) (lt' (gI μ0 22 (tn x1)) fun v2 => ck (inb x2 8) (lt' (gI μ0 22 (tn x2)) fun v4 => if v2 < v4 then (bnd (f_Net_append N p3 v2 v4 μ0) fun r12 μ13 => some ((), μ13)) else (bnd (f_Net_append N p3 v4 v2 μ0) fun r6 μ7 => ck (inb x1 8) (lt' (sI μ7 22 (tn x1) v4) fun μ9 => ck (inb x2 8) (lt' (sI μ9 22 (tn x2) v2) fun μ11 => some ((), μ11))))))
set_option maxHeartbeats 4000000 in
set_option maxRecDepth 100000 in
theorem g_Tangle_untangle (N d : Nat) (x1 : Int32) (x2 : Int32) (p3 : Nat) (hp3 : isN p3)  : CallF eV y_Tangle_untangle c_Tangle_untangle 6 none (d + 1 + 1) [.ref 21, .int x1, .int x2, .ref p3] (f_Tangle_untangle N x1 x2 p3) := by
  refine call_of (d := d + 1) (n := 3) mi_Tangle_untangle.1 (fun _ => rfl) ?_
  intro Γ μ0 hΓ hT hR
  show Go Γ 6 0 [(0, .ref 21), (1, .int x1), (2, .int x2), (3, .ref p3)] [] μ0 (f_Tangle_untangle N x1 x2 p3 μ0)
  unfold f_Tangle_untangle
  refine go_aload_n (q := 0) (i := 0) (pc := 0) hΓ d_Tangle_untangle_0 rfl rfl ?_
  refine go_getR (q := 22) (pc := 1) hΓ fl_Tangle_9 d_Tangle_untangle_1 rfl rfl ?_
  refine go_iload_n (q := 1) (i := 1) (pc := 4) hΓ d_Tangle_untangle_4 rfl rfl ?_
  refine go_ck (fun h1 => ?_)
  refine go_iald (pc := 5) hΓ d_Tangle_untangle_5 rfl h1 ?_
  refine go_letI (fun v2 => ?_)
  refine go_istore (lv' := [(4, .int v2), (0, .ref 21), (1, .int x1), (2, .int x2), (3, .ref p3)]) (pc := 6) hΓ d_Tangle_untangle_6 (by decide) rfl ?_
  refine go_aload_n (q := 1) (i := 0) (pc := 8) hΓ d_Tangle_untangle_8 rfl rfl ?_
  refine go_getR (q := 22) (pc := 9) hΓ fl_Tangle_9 d_Tangle_untangle_9 rfl rfl ?_
  refine go_iload_n (q := 3) (i := 2) (pc := 12) hΓ d_Tangle_untangle_12 rfl rfl ?_
  refine go_ck (fun h3 => ?_)
  refine go_iald (pc := 13) hΓ d_Tangle_untangle_13 rfl h3 ?_
  refine go_letI (fun v4 => ?_)
  refine go_istore (lv' := [(5, .int v4), (4, .int v2), (0, .ref 21), (1, .int x1), (2, .int x2), (3, .ref p3)]) (pc := 14) hΓ d_Tangle_untangle_14 (by decide) rfl ?_
  refine go_iload (q := 1) (pc := 16) hΓ d_Tangle_untangle_16 rfl ?_
  refine go_iload (q := 0) (pc := 18) hΓ d_Tangle_untangle_18 rfl ?_
  refine go_icmp_ge 35 (pc := 20) hΓ d_Tangle_untangle_20 (by decide) (fun h5 => go_eq (if_neg h5) ?_) (fun h5 => go_eq (if_pos h5) ?_)
  · refine go_aload_n (q := 5) (i := 3) (pc := 35) hΓ d_Tangle_untangle_35 rfl rfl ?_
    refine go_iload (q := 0) (pc := 36) hΓ d_Tangle_untangle_36 rfl ?_
    refine go_iload (q := 1) (pc := 38) hΓ d_Tangle_untangle_38 rfl ?_
    refine go_callV (index := 15) emI hΓ hR (g_Net_append N (d + 0) p3 hp3 v4 v2) mi_Net_append ml_Tangle_15 d_Tangle_untangle_40 rfl (isN_sh hp3).1 rfl rfl rfl (fun r6 μ7 => ?_)
    show Go Γ 6 43 [(5, .int v4), (4, .int v2), (0, .ref 21), (1, .int x1), (2, .int x2), (3, .ref p3)] [.int r6] μ7 _
    refine go_pop (pc := 43) hΓ d_Tangle_untangle_43 rfl ?_
    refine go_aload_n (q := 2) (i := 0) (pc := 44) hΓ d_Tangle_untangle_44 rfl rfl ?_
    refine go_getR (q := 22) (pc := 45) hΓ fl_Tangle_9 d_Tangle_untangle_45 rfl rfl ?_
    refine go_iload_n (q := 3) (i := 1) (pc := 48) hΓ d_Tangle_untangle_48 rfl rfl ?_
    refine go_iload (q := 0) (pc := 49) hΓ d_Tangle_untangle_49 rfl ?_
    refine go_ck (fun h8 => ?_)
    refine go_iast (pc := 51) hΓ d_Tangle_untangle_51 rfl h8 ?_
    refine go_letM (fun μ9 => ?_)
    refine go_aload_n (q := 2) (i := 0) (pc := 52) hΓ d_Tangle_untangle_52 rfl rfl ?_
    refine go_getR (q := 22) (pc := 53) hΓ fl_Tangle_9 d_Tangle_untangle_53 rfl rfl ?_
    refine go_iload_n (q := 4) (i := 2) (pc := 56) hΓ d_Tangle_untangle_56 rfl rfl ?_
    refine go_iload (q := 1) (pc := 57) hΓ d_Tangle_untangle_57 rfl ?_
    refine go_ck (fun h10 => ?_)
    refine go_iast (pc := 59) hΓ d_Tangle_untangle_59 rfl h10 ?_
    refine go_letM (fun μ11 => ?_)
    exact go_vret (pc := 60) hΓ hT d_Tangle_untangle_60
  · refine go_aload_n (q := 5) (i := 3) (pc := 23) hΓ d_Tangle_untangle_23 rfl rfl ?_
    refine go_iload (q := 1) (pc := 24) hΓ d_Tangle_untangle_24 rfl ?_
    refine go_iload (q := 0) (pc := 26) hΓ d_Tangle_untangle_26 rfl ?_
    refine go_callV (index := 15) emI hΓ hR (g_Net_append N (d + 0) p3 hp3 v2 v4) mi_Net_append ml_Tangle_15 d_Tangle_untangle_28 rfl (isN_sh hp3).1 rfl rfl rfl (fun r12 μ13 => ?_)
    show Go Γ 6 31 [(5, .int v4), (4, .int v2), (0, .ref 21), (1, .int x1), (2, .int x2), (3, .ref p3)] [.int r12] μ13 _
    refine go_pop (pc := 31) hΓ d_Tangle_untangle_31 rfl ?_
    refine go_goto 60 (pc := 32) hΓ d_Tangle_untangle_32 (by decide) ?_
    exact go_vret (pc := 60) hΓ hT d_Tangle_untangle_60
def lp_Net_take_18 (N : Nat) (p0 : Nat) (p1 : Nat)  (K : Mem → Option (Unit × Mem)) : Nat → Int32 → Mem → Option (Unit × Mem)
  | 0, _, _ => none
  | n + 1, a2, μ0 => if a2 < (gI μ0 p0 1) then (ck (inb a2 60) (ck (inb a2 60) (lt' (sI μ0 (p0 + 1) (tn a2) (gI μ0 (p1 + 1) (tn a2))) fun μ6 => ck (inb a2 60) (ck (inb a2 60) (lt' (sI μ6 (p0 + 2) (tn a2) (gI μ6 (p1 + 2) (tn a2))) fun μ9 => lt' (a2 + 1) fun v10 => lp_Net_take_18 N p0 p1 K n v10 μ9))))) else (K  μ0)
def f_Net_take (N : Nat) (p0 : Nat) (p1 : Nat) (μ0 : Mem) : Option (Unit × Mem) :=
  lt' (sI μ0 p0 0 (gI μ0 p1 0)) fun μ1 => lt' (sI μ1 p0 1 (gI μ1 p1 1)) fun μ2 => lp_Net_take_18 N p0 p1 (fun μ11 => some ((), μ11)) N 0 μ2
set_option maxHeartbeats 4000000 in
set_option maxRecDepth 100000 in
theorem glp_Net_take_18 (N d : Nat) {Γ : Cx Unit} (hΓ : Ok Γ "SortingNets$Net" c_Net_take 3) (hT : Rt Γ eV none) (hR : Rm Γ (d + 0)) (p0 : Nat) (p1 : Nat) (hp0 : isN p0) (hp1 : isN p1)   (K : Mem → Option (Unit × Mem)) (hK : ∀  (ν : Mem), Go Γ 3 56 [] [] ν (K  ν)) : ∀ (n : Nat) (a2 : Int32) (μ0 : Mem), Go Γ 3 18 [(0, .ref p0), (1, .ref p1), (2, .int a2)] [] μ0 (lp_Net_take_18 N p0 p1 K n a2 μ0) := by
  intro n
  induction n with
  | zero => intro a2 μ0; exact go_none
  | succ n ih =>
    intro a2 μ0
    rw [lp_Net_take_18]
    refine go_iload_n (q := 2) (i := 2) (pc := 18) hΓ d_Net_take_18 rfl rfl ?_
    refine go_aload_n (q := 0) (i := 0) (pc := 19) hΓ d_Net_take_19 rfl rfl ?_
    refine go_getI (pc := 20) hΓ fl_Net_15 d_Net_take_20 (isN_sh hp0).1 rfl ?_
    refine go_icmp_ge 56 (pc := 23) hΓ d_Net_take_23 (by decide) (fun h3 => go_eq (if_neg h3) ?_) (fun h3 => go_eq (if_pos h3) ?_)
    · refine go_sub' (lv' := []) rfl ?_
      exact hK  μ0
    · refine go_aload_n (q := 0) (i := 0) (pc := 26) hΓ d_Net_take_26 rfl rfl ?_
      refine go_getR (q := p0 + 1) (pc := 27) hΓ fl_Net_18 d_Net_take_27 (isN_sh hp0).1 rfl ?_
      refine go_iload_n (q := 2) (i := 2) (pc := 30) hΓ d_Net_take_30 rfl rfl ?_
      refine go_aload_n (q := 1) (i := 1) (pc := 31) hΓ d_Net_take_31 rfl rfl ?_
      refine go_getR (q := p1 + 1) (pc := 32) hΓ fl_Net_18 d_Net_take_32 (isN_sh hp1).1 rfl ?_
      refine go_iload_n (q := 2) (i := 2) (pc := 35) hΓ d_Net_take_35 rfl rfl ?_
      refine go_ck (fun h4 => ?_)
      refine go_iald (pc := 36) hΓ d_Net_take_36 (isN_sh hp1).2.1 h4 ?_
      refine go_ck (fun h5 => ?_)
      refine go_iast (pc := 37) hΓ d_Net_take_37 (isN_sh hp0).2.1 h5 ?_
      refine go_letM (fun μ6 => ?_)
      refine go_aload_n (q := 0) (i := 0) (pc := 38) hΓ d_Net_take_38 rfl rfl ?_
      refine go_getR (q := p0 + 2) (pc := 39) hΓ fl_Net_22 d_Net_take_39 (isN_sh hp0).1 rfl ?_
      refine go_iload_n (q := 2) (i := 2) (pc := 42) hΓ d_Net_take_42 rfl rfl ?_
      refine go_aload_n (q := 1) (i := 1) (pc := 43) hΓ d_Net_take_43 rfl rfl ?_
      refine go_getR (q := p1 + 2) (pc := 44) hΓ fl_Net_22 d_Net_take_44 (isN_sh hp1).1 rfl ?_
      refine go_iload_n (q := 2) (i := 2) (pc := 47) hΓ d_Net_take_47 rfl rfl ?_
      refine go_ck (fun h7 => ?_)
      refine go_iald (pc := 48) hΓ d_Net_take_48 (isN_sh hp1).2.2 h7 ?_
      refine go_ck (fun h8 => ?_)
      refine go_iast (pc := 49) hΓ d_Net_take_49 (isN_sh hp0).2.2 h8 ?_
      refine go_letM (fun μ9 => ?_)
      refine go_incI (q := 2) (i := 2) (n := 1) (c := 1) (pc := 50) hΓ d_Net_take_50 rfl (by decide) (by decide) (fun v10 => ?_)
      refine go_sub' (lv' := [(2, .int v10), (0, .ref p0), (1, .ref p1)]) rfl ?_
      refine go_goto 18 (pc := 53) hΓ d_Net_take_53 (by decide) ?_
      refine go_sub' (lv' := [(0, .ref p0), (1, .ref p1), (2, .int v10)]) rfl ?_
      exact ih v10 μ9
set_option maxHeartbeats 4000000 in
set_option maxRecDepth 100000 in
theorem g_Net_take (N d : Nat) (p0 : Nat) (hp0 : isN p0) (p1 : Nat) (hp1 : isN p1)  : CallF eV y_Net_take c_Net_take 3 none (d + 0 + 1) [.ref p0, .ref p1] (f_Net_take N p0 p1) := by
  refine call_of (d := d + 0) (n := 1) mi_Net_take.1 (fun _ => rfl) ?_
  intro Γ μ0 hΓ hT hR
  show Go Γ 3 0 [(0, .ref p0), (1, .ref p1)] [] μ0 (f_Net_take N p0 p1 μ0)
  unfold f_Net_take
  refine go_aload_n (q := 0) (i := 0) (pc := 0) hΓ d_Net_take_0 rfl rfl ?_
  refine go_aload_n (q := 1) (i := 1) (pc := 1) hΓ d_Net_take_1 rfl rfl ?_
  refine go_getI (pc := 2) hΓ fl_Net_9 d_Net_take_2 (isN_sh hp1).1 rfl ?_
  refine go_putI (pc := 5) hΓ fp_Net_9 d_Net_take_5 (isN_sh hp0).1 rfl ?_
  refine go_letM (fun μ1 => ?_)
  refine go_aload_n (q := 0) (i := 0) (pc := 8) hΓ d_Net_take_8 rfl rfl ?_
  refine go_aload_n (q := 1) (i := 1) (pc := 9) hΓ d_Net_take_9 rfl rfl ?_
  refine go_getI (pc := 10) hΓ fl_Net_15 d_Net_take_10 (isN_sh hp1).1 rfl ?_
  refine go_putI (pc := 13) hΓ fp_Net_15 d_Net_take_13 (isN_sh hp0).1 rfl ?_
  refine go_letM (fun μ2 => ?_)
  refine go_iconst (v := 0) (pc := 16) hΓ d_Net_take_16 (by decide) ?_
  refine go_istore_n (i := 2) (lv' := [(2, .int 0), (0, .ref p0), (1, .ref p1)]) (pc := 17) hΓ d_Net_take_17 rfl (by decide) rfl ?_
  refine go_sub' (lv' := [(0, .ref p0), (1, .ref p1), (2, .int 0)]) rfl ?_
  refine glp_Net_take_18 N d hΓ hT hR p0 p1 hp0 hp1 _ (fun μ11 => ?_) N 0 μ2
  exact go_vret (pc := 56) hΓ hT d_Net_take_56
def f_Numbers_clear (N : Nat)  (μ0 : Mem) : Option (Unit × Mem) :=
  lt' (sI μ0 16 1 0) fun μ1 => some ((), μ1)
set_option maxHeartbeats 4000000 in
set_option maxRecDepth 100000 in
theorem g_Numbers_clear (N d : Nat)   : CallF eV y_Numbers_clear c_Numbers_clear 1 none (d + 0 + 1) [.ref 16] (f_Numbers_clear N ) := by
  refine call_of (d := d + 0) (n := 0) mi_Numbers_clear.1 (fun _ => rfl) ?_
  intro Γ μ0 hΓ hT hR
  show Go Γ 1 0 [(0, .ref 16)] [] μ0 (f_Numbers_clear N  μ0)
  unfold f_Numbers_clear
  refine go_aload_n (q := 0) (i := 0) (pc := 0) hΓ d_Numbers_clear_0 rfl rfl ?_
  refine go_iconst (v := 0) (pc := 1) hΓ d_Numbers_clear_1 (by decide) ?_
  refine go_putI (pc := 2) hΓ fp_Numbers_13 d_Numbers_clear_2 rfl rfl ?_
  refine go_letM (fun μ1 => ?_)
  exact go_vret (pc := 5) hΓ hT d_Numbers_clear_5
def f_Tangle_placeOf (N : Nat) (x1 : Int32) (μ0 : Mem) : Option (Int32 × Mem) :=
  ck (inb x1 8) (some (gI μ0 22 (tn x1), μ0))
set_option maxHeartbeats 4000000 in
set_option maxRecDepth 100000 in
theorem g_Tangle_placeOf (N d : Nat) (x1 : Int32)  : CallF eI y_Tangle_placeOf c_Tangle_placeOf 2 (some .int) (d + 0 + 1) [.ref 21, .int x1] (f_Tangle_placeOf N x1) := by
  refine call_of (d := d + 0) (n := 1) mi_Tangle_placeOf.1 (fun _ => rfl) ?_
  intro Γ μ0 hΓ hT hR
  show Go Γ 2 0 [(0, .ref 21), (1, .int x1)] [] μ0 (f_Tangle_placeOf N x1 μ0)
  unfold f_Tangle_placeOf
  refine go_aload_n (q := 0) (i := 0) (pc := 0) hΓ d_Tangle_placeOf_0 rfl rfl ?_
  refine go_getR (q := 22) (pc := 1) hΓ fl_Tangle_9 d_Tangle_placeOf_1 rfl rfl ?_
  refine go_iload_n (q := 1) (i := 1) (pc := 4) hΓ d_Tangle_placeOf_4 rfl rfl ?_
  refine go_ck (fun h1 => ?_)
  refine go_iald (pc := 5) hΓ d_Tangle_placeOf_5 rfl h1 ?_
  exact go_iret (pc := 6) hΓ hT d_Tangle_placeOf_6
def f_Numbers_append (N : Nat) (x1 : Int64) (μ0 : Mem) : Option (Unit × Mem) :=
  if (gI μ0 16 1) < 64 then (ck (inb (gI μ0 16 1) 64) (lt' (sL μ0 17 (tn (gI μ0 16 1)) x1) fun μ3 => lt' (sI μ3 16 1 ((gI μ3 16 1) + 1)) fun μ4 => some ((), μ4))) else (some ((), μ0))
set_option maxHeartbeats 4000000 in
set_option maxRecDepth 100000 in
theorem g_Numbers_append (N d : Nat) (x1 : Int64)  : CallF eV y_Numbers_append c_Numbers_append 3 none (d + 0 + 1) [.ref 16, .long x1] (f_Numbers_append N x1) := by
  refine call_of (d := d + 0) (n := 1) mi_Numbers_append.1 (fun _ => rfl) ?_
  intro Γ μ0 hΓ hT hR
  show Go Γ 3 0 [(0, .ref 16), (1, .long x1)] [] μ0 (f_Numbers_append N x1 μ0)
  unfold f_Numbers_append
  refine go_aload_n (q := 0) (i := 0) (pc := 0) hΓ d_Numbers_append_0 rfl rfl ?_
  refine go_getI (pc := 1) hΓ fl_Numbers_13 d_Numbers_append_1 rfl rfl ?_
  refine go_bipush (v := 64) (pc := 4) hΓ d_Numbers_append_4 (by decide) ?_
  refine go_icmp_ge 29 (pc := 6) hΓ d_Numbers_append_6 (by decide) (fun h1 => go_eq (if_neg h1) ?_) (fun h1 => go_eq (if_pos h1) ?_)
  · exact go_vret (pc := 29) hΓ hT d_Numbers_append_29
  · refine go_aload_n (q := 0) (i := 0) (pc := 9) hΓ d_Numbers_append_9 rfl rfl ?_
    refine go_getR (q := 17) (pc := 10) hΓ fl_Numbers_9 d_Numbers_append_10 rfl rfl ?_
    refine go_aload_n (q := 0) (i := 0) (pc := 13) hΓ d_Numbers_append_13 rfl rfl ?_
    refine go_getI (pc := 14) hΓ fl_Numbers_13 d_Numbers_append_14 rfl rfl ?_
    refine go_lload_n (q := 1) (i := 1) (pc := 17) hΓ d_Numbers_append_17 rfl rfl ?_
    refine go_ck (fun h2 => ?_)
    refine go_last (pc := 18) hΓ d_Numbers_append_18 rfl h2 ?_
    refine go_letM (fun μ3 => ?_)
    refine go_aload_n (q := 0) (i := 0) (pc := 19) hΓ d_Numbers_append_19 rfl rfl ?_
    refine go_dup (pc := 20) hΓ d_Numbers_append_20 rfl ?_
    refine go_getI (pc := 21) hΓ fl_Numbers_13 d_Numbers_append_21 rfl rfl ?_
    refine go_iconst (v := 1) (pc := 24) hΓ d_Numbers_append_24 (by decide) ?_
    refine go_iadd (pc := 25) hΓ d_Numbers_append_25 ?_
    refine go_putI (pc := 26) hΓ fp_Numbers_13 d_Numbers_append_26 rfl rfl ?_
    refine go_letM (fun μ4 => ?_)
    exact go_vret (pc := 29) hΓ hT d_Numbers_append_29
def f_Trial_column (N : Nat) (x0 : Int32) (x1 : Int32) (μ0 : Mem) : Option (Int64 × Mem) :=
  if x0 < 6 then (ck (inb x0 6) (some (colf (tn x0), μ0))) else (if ((shrI x1 (x0 - 6)) &&& 1) = 1 then (some ((-1), μ0)) else (some (0, μ0)))
set_option maxHeartbeats 4000000 in
set_option maxRecDepth 100000 in
theorem g_Trial_column (N d : Nat) (x0 : Int32) (x1 : Int32)  : CallF eL y_Trial_column c_Trial_column 2 (some .long) (d + 0 + 1) [.int x0, .int x1] (f_Trial_column N x0 x1) := by
  refine call_of (d := d + 0) (n := 2) mi_Trial_column.1 (fun _ => rfl) ?_
  intro Γ μ0 hΓ hT hR
  show Go Γ 2 0 [(0, .int x0), (1, .int x1)] [] μ0 (f_Trial_column N x0 x1 μ0)
  unfold f_Trial_column
  refine go_iload_n (q := 0) (i := 0) (pc := 0) hΓ d_Trial_column_0 rfl rfl ?_
  refine go_col1 (pc := 1) hΓ d_Trial_column_1 ?_
  refine go_collen (pc := 4) hΓ d_Trial_column_4 ?_
  refine go_icmp_ge 14 (pc := 5) hΓ d_Trial_column_5 (by decide) (fun h1 => go_eq (if_neg h1) ?_) (fun h1 => go_eq (if_pos h1) ?_)
  · refine go_iload_n (q := 1) (i := 1) (pc := 14) hΓ d_Trial_column_14 rfl rfl ?_
    refine go_iload_n (q := 0) (i := 0) (pc := 15) hΓ d_Trial_column_15 rfl rfl ?_
    refine go_col1 (pc := 16) hΓ d_Trial_column_16 ?_
    refine go_collen (pc := 19) hΓ d_Trial_column_19 ?_
    refine go_isub (pc := 20) hΓ d_Trial_column_20 ?_
    refine go_ishr (pc := 21) hΓ d_Trial_column_21 ?_
    refine go_iconst (v := 1) (pc := 22) hΓ d_Trial_column_22 (by decide) ?_
    refine go_iand (pc := 23) hΓ d_Trial_column_23 ?_
    refine go_iconst (v := 1) (pc := 24) hΓ d_Trial_column_24 (by decide) ?_
    refine go_icmp_ne 34 (pc := 25) hΓ d_Trial_column_25 (by decide) (fun h2 => go_eq (if_neg h2) ?_) (fun h2 => go_eq (if_pos h2) ?_)
    · refine go_lconst (v := 0) (pc := 34) hΓ d_Trial_column_34 (by decide) ?_
      exact go_lret (pc := 35) hΓ hT d_Trial_column_35
    · refine go_ldc2 (v := -1) (pc := 28) hΓ (tb_2 (List.mem_of_getElem? (i := 103) rfl) rfl) d_Trial_column_28 ?_
      refine go_goto 35 (pc := 31) hΓ d_Trial_column_31 (by decide) ?_
      exact go_lret (pc := 35) hΓ hT d_Trial_column_35
  · refine go_col1 (pc := 8) hΓ d_Trial_column_8 ?_
    refine go_iload_n (q := 0) (i := 0) (pc := 11) hΓ d_Trial_column_11 rfl rfl ?_
    refine go_ck (fun h3 => ?_)
    refine go_cold (pc := 12) hΓ d_Trial_column_12 h3 ?_
    exact go_lret (pc := 13) hΓ hT d_Trial_column_13
def lp_Trial_start_57 (N : Nat) (p0 : Nat) (x1 : Int32) (x2 : Int64) (x4 : Int32)  (K : Mem → Option (Unit × Mem)) : Nat → Int32 → Mem → Option (Unit × Mem)
  | 0, _, _ => none
  | n + 1, a5, μ0 => if a5 < (gI μ0 p0 2) then (bnd (f_Trial_column N x4 a5 μ0) fun r9 μ10 => ck (inb ((4 * x4) + a5) 32) (lt' (sL μ10 (p0 + 1) (tn ((4 * x4) + a5)) (r9 &&& x2)) fun μ12 => lt' (a5 + 1) fun v13 => lp_Trial_start_57 N p0 x1 x2 x4 K n v13 μ12)) else (K  μ0)
def lp_Trial_start_48 (N : Nat) (p0 : Nat) (x1 : Int32) (x2 : Int64)  (K : Mem → Option (Unit × Mem)) : Nat → Int32 → Mem → Option (Unit × Mem)
  | 0, _, _ => none
  | n + 1, a4, μ0 => if a4 < x1 then (lp_Trial_start_57 N p0 x1 x2 a4 (fun μ14 => lt' (a4 + 1) fun v15 => lp_Trial_start_48 N p0 x1 x2 K n v15 μ14) N 0 μ0) else (K  μ0)
def f_Trial_start (N : Nat) (p0 : Nat) (x1 : Int32) (μ0 : Mem) : Option (Unit × Mem) :=
  lt' (sI μ0 p0 1 x1) fun μ1 => lt' (if 6 < x1 then (shlI 1 (x1 - 6) : Int32) else (1 : Int32)) fun q3 => lt' (sI μ1 p0 2 q3) fun μ4 => lt' (if x1 < 6 then ((shlL 1 (shlI 1 x1)) - 1 : Int64) else ((-1) : Int64)) fun q6 => lp_Trial_start_48 N p0 x1 q6 (fun μ16 => some ((), μ16)) N 0 μ4
set_option maxHeartbeats 4000000 in
set_option maxRecDepth 100000 in
theorem glp_Trial_start_57 (N d : Nat) {Γ : Cx Unit} (hΓ : Ok Γ "SortingNets$Trial" c_Trial_start 6) (hT : Rt Γ eV none) (hR : Rm Γ (d + 1)) (p0 : Nat) (x1 : Int32) (x2 : Int64) (x4 : Int32) (hp0 : isT p0)   (K : Mem → Option (Unit × Mem)) (hK : ∀  (ν : Mem), Go Γ 6 93 [(0, .ref p0), (1, .int x1), (2, .long x2), (4, .int x4)] [] ν (K  ν)) : ∀ (n : Nat) (a5 : Int32) (μ0 : Mem), Go Γ 6 57 [(0, .ref p0), (1, .int x1), (2, .long x2), (4, .int x4), (5, .int a5)] [] μ0 (lp_Trial_start_57 N p0 x1 x2 x4 K n a5 μ0) := by
  intro n
  induction n with
  | zero => intro a5 μ0; exact go_none
  | succ n ih =>
    intro a5 μ0
    rw [lp_Trial_start_57]
    refine go_iload (q := 4) (pc := 57) hΓ d_Trial_start_57 rfl ?_
    refine go_aload_n (q := 0) (i := 0) (pc := 59) hΓ d_Trial_start_59 rfl rfl ?_
    refine go_getI (pc := 60) hΓ fl_Trial_21 d_Trial_start_60 (isT_sh hp0).1 rfl ?_
    refine go_icmp_ge 93 (pc := 63) hΓ d_Trial_start_63 (by decide) (fun h8 => go_eq (if_neg h8) ?_) (fun h8 => go_eq (if_pos h8) ?_)
    · refine go_sub' (lv' := [(0, .ref p0), (1, .int x1), (2, .long x2), (4, .int x4)]) rfl ?_
      exact hK  μ0
    · refine go_aload_n (q := 0) (i := 0) (pc := 66) hΓ d_Trial_start_66 rfl rfl ?_
      refine go_getR (q := p0 + 1) (pc := 67) hΓ fl_Trial_13 d_Trial_start_67 (isT_sh hp0).1 rfl ?_
      refine go_iconst (v := 4) (pc := 70) hΓ d_Trial_start_70 (by decide) ?_
      refine go_iload (q := 3) (pc := 71) hΓ d_Trial_start_71 rfl ?_
      refine go_imul (pc := 73) hΓ d_Trial_start_73 ?_
      refine go_iload (q := 4) (pc := 74) hΓ d_Trial_start_74 rfl ?_
      refine go_iadd (pc := 76) hΓ d_Trial_start_76 ?_
      refine go_iload (q := 3) (pc := 77) hΓ d_Trial_start_77 rfl ?_
      refine go_iload (q := 4) (pc := 79) hΓ d_Trial_start_79 rfl ?_
      refine go_callS (index := 26) emL hΓ hR (g_Trial_column N (d + 0) x4 a5) mi_Trial_column ml_Trial_26 d_Trial_start_81 rfl rfl rfl (fun r9 μ10 => ?_)
      show Go Γ 6 84 [(0, .ref p0), (1, .int x1), (2, .long x2), (4, .int x4), (5, .int a5)] [.long r9, .int ((4 * x4) + a5), .ref (p0 + 1)] μ10 _
      refine go_lload_n (q := 2) (i := 2) (pc := 84) hΓ d_Trial_start_84 rfl rfl ?_
      refine go_land (pc := 85) hΓ d_Trial_start_85 ?_
      refine go_ck (fun h11 => ?_)
      refine go_last (pc := 86) hΓ d_Trial_start_86 (isT_sh hp0).2 h11 ?_
      refine go_letM (fun μ12 => ?_)
      refine go_incI (q := 4) (i := 5) (n := 1) (c := 1) (pc := 87) hΓ d_Trial_start_87 rfl (by decide) (by decide) (fun v13 => ?_)
      refine go_sub' (lv' := [(5, .int v13), (0, .ref p0), (1, .int x1), (2, .long x2), (4, .int x4)]) rfl ?_
      refine go_goto 57 (pc := 90) hΓ d_Trial_start_90 (by decide) ?_
      refine go_sub' (lv' := [(0, .ref p0), (1, .int x1), (2, .long x2), (4, .int x4), (5, .int v13)]) rfl ?_
      exact ih v13 μ12
set_option maxHeartbeats 4000000 in
set_option maxRecDepth 100000 in
theorem glp_Trial_start_48 (N d : Nat) {Γ : Cx Unit} (hΓ : Ok Γ "SortingNets$Trial" c_Trial_start 6) (hT : Rt Γ eV none) (hR : Rm Γ (d + 1)) (p0 : Nat) (x1 : Int32) (x2 : Int64) (hp0 : isT p0)   (K : Mem → Option (Unit × Mem)) (hK : ∀  (ν : Mem), Go Γ 6 99 [] [] ν (K  ν)) : ∀ (n : Nat) (a4 : Int32) (μ0 : Mem), Go Γ 6 48 [(0, .ref p0), (1, .int x1), (2, .long x2), (4, .int a4)] [] μ0 (lp_Trial_start_48 N p0 x1 x2 K n a4 μ0) := by
  intro n
  induction n with
  | zero => intro a4 μ0; exact go_none
  | succ n ih =>
    intro a4 μ0
    rw [lp_Trial_start_48]
    refine go_iload (q := 3) (pc := 48) hΓ d_Trial_start_48 rfl ?_
    refine go_iload_n (q := 1) (i := 1) (pc := 50) hΓ d_Trial_start_50 rfl rfl ?_
    refine go_icmp_ge 99 (pc := 51) hΓ d_Trial_start_51 (by decide) (fun h7 => go_eq (if_neg h7) ?_) (fun h7 => go_eq (if_pos h7) ?_)
    · refine go_sub' (lv' := []) rfl ?_
      exact hK  μ0
    · refine go_iconst (v := 0) (pc := 54) hΓ d_Trial_start_54 (by decide) ?_
      refine go_istore (lv' := [(5, .int 0), (0, .ref p0), (1, .int x1), (2, .long x2), (4, .int a4)]) (pc := 55) hΓ d_Trial_start_55 (by decide) rfl ?_
      refine go_sub' (lv' := [(0, .ref p0), (1, .int x1), (2, .long x2), (4, .int a4), (5, .int 0)]) rfl ?_
      refine glp_Trial_start_57 N d hΓ hT hR p0 x1 x2 a4 hp0 _ (fun μ14 => ?_) N 0 μ0
      refine go_incI (q := 3) (i := 4) (n := 1) (c := 1) (pc := 93) hΓ d_Trial_start_93 rfl (by decide) (by decide) (fun v15 => ?_)
      refine go_sub' (lv' := [(4, .int v15), (0, .ref p0), (1, .int x1), (2, .long x2)]) rfl ?_
      refine go_goto 48 (pc := 96) hΓ d_Trial_start_96 (by decide) ?_
      refine go_sub' (lv' := [(0, .ref p0), (1, .int x1), (2, .long x2), (4, .int v15)]) rfl ?_
      exact ih v15 μ14
set_option maxHeartbeats 4000000 in
set_option maxRecDepth 100000 in
theorem g_Trial_start (N d : Nat) (p0 : Nat) (hp0 : isT p0) (x1 : Int32)  : CallF eV y_Trial_start c_Trial_start 6 none (d + 1 + 1) [.ref p0, .int x1] (f_Trial_start N p0 x1) := by
  refine call_of (d := d + 1) (n := 1) mi_Trial_start.1 (fun _ => rfl) ?_
  intro Γ μ0 hΓ hT hR
  show Go Γ 6 0 [(0, .ref p0), (1, .int x1)] [] μ0 (f_Trial_start N p0 x1 μ0)
  unfold f_Trial_start
  refine go_aload_n (q := 0) (i := 0) (pc := 0) hΓ d_Trial_start_0 rfl rfl ?_
  refine go_iload_n (q := 1) (i := 1) (pc := 1) hΓ d_Trial_start_1 rfl rfl ?_
  refine go_putI (pc := 2) hΓ fp_Trial_17 d_Trial_start_2 (isT_sh hp0).1 rfl ?_
  refine go_letM (fun μ1 => ?_)
  refine go_aload_n (q := 0) (i := 0) (pc := 5) hΓ d_Trial_start_5 rfl rfl ?_
  refine go_iload_n (q := 1) (i := 1) (pc := 6) hΓ d_Trial_start_6 rfl rfl ?_
  refine go_bipush (v := 6) (pc := 7) hΓ d_Trial_start_7 (by decide) ?_
  refine go_mg (α := Int32) 22 (fun q3 => [(0, .ref p0), (1, .int x1)]) (fun q3 => [.int q3, .ref p0]) (fun q3 => ?_) (fun g18 g18h => ?_)
  · refine go_putI (pc := 22) hΓ fp_Trial_21 d_Trial_start_22 (isT_sh hp0).1 rfl ?_
    refine go_letM (fun μ4 => ?_)
    refine go_iload_n (q := 1) (i := 1) (pc := 25) hΓ d_Trial_start_25 rfl rfl ?_
    refine go_bipush (v := 6) (pc := 26) hΓ d_Trial_start_26 (by decide) ?_
    refine go_mg (α := Int64) 44 (fun q6 => [(0, .ref p0), (1, .int x1)]) (fun q6 => [.long q6]) (fun q6 => ?_) (fun g17 g17h => ?_)
    · refine go_lstore_n (i := 2) (lv' := [(2, .long q6), (0, .ref p0), (1, .int x1)]) (pc := 44) hΓ d_Trial_start_44 rfl (by decide) rfl ?_
      refine go_iconst (v := 0) (pc := 45) hΓ d_Trial_start_45 (by decide) ?_
      refine go_istore (lv' := [(4, .int 0), (2, .long q6), (0, .ref p0), (1, .int x1)]) (pc := 46) hΓ d_Trial_start_46 (by decide) rfl ?_
      refine go_sub' (lv' := [(0, .ref p0), (1, .int x1), (2, .long q6), (4, .int 0)]) rfl ?_
      refine glp_Trial_start_48 N d hΓ hT hR p0 x1 q6 hp0 _ (fun μ16 => ?_) N 0 μ4
      exact go_vret (pc := 99) hΓ hT d_Trial_start_99
    · refine go_icmp_lt 37 (pc := 28) hΓ d_Trial_start_28 (by decide) (fun h5 => ?_) (fun h5 => ?_)
      · rw [if_pos h5]
        refine go_lconst (v := 1) (pc := 37) hΓ d_Trial_start_37 (by decide) ?_
        refine go_iconst (v := 1) (pc := 38) hΓ d_Trial_start_38 (by decide) ?_
        refine go_iload_n (q := 1) (i := 1) (pc := 39) hΓ d_Trial_start_39 rfl rfl ?_
        refine go_ishl (pc := 40) hΓ d_Trial_start_40 ?_
        refine go_lshl (pc := 41) hΓ d_Trial_start_41 ?_
        refine go_lconst (v := 1) (pc := 42) hΓ d_Trial_start_42 (by decide) ?_
        refine go_lsub (pc := 43) hΓ d_Trial_start_43 ?_
        refine go_sub' (lv' := [(0, .ref p0), (1, .int x1)]) rfl ?_
        exact g17h _
      · rw [if_neg h5]
        refine go_ldc2 (v := -1) (pc := 31) hΓ (tb_2 (List.mem_of_getElem? (i := 103) rfl) rfl) d_Trial_start_31 ?_
        refine go_goto 44 (pc := 34) hΓ d_Trial_start_34 (by decide) ?_
        refine go_sub' (lv' := [(0, .ref p0), (1, .int x1)]) rfl ?_
        exact g17h _
  · refine go_icmp_gt 16 (pc := 9) hΓ d_Trial_start_9 (by decide) (fun h2 => ?_) (fun h2 => ?_)
    · rw [if_pos h2]
      refine go_iconst (v := 1) (pc := 16) hΓ d_Trial_start_16 (by decide) ?_
      refine go_iload_n (q := 1) (i := 1) (pc := 17) hΓ d_Trial_start_17 rfl rfl ?_
      refine go_bipush (v := 6) (pc := 18) hΓ d_Trial_start_18 (by decide) ?_
      refine go_isub (pc := 20) hΓ d_Trial_start_20 ?_
      refine go_ishl (pc := 21) hΓ d_Trial_start_21 ?_
      refine go_sub' (lv' := [(0, .ref p0), (1, .int x1)]) rfl ?_
      exact g18h _
    · rw [if_neg h2]
      refine go_iconst (v := 1) (pc := 12) hΓ d_Trial_start_12 (by decide) ?_
      refine go_goto 22 (pc := 13) hΓ d_Trial_start_13 (by decide) ?_
      refine go_sub' (lv' := [(0, .ref p0), (1, .int x1)]) rfl ?_
      exact g18h _
def lp_Trial_compare_2 (N : Nat) (p0 : Nat) (x1 : Int32) (x2 : Int32)  (K : Mem → Option (Unit × Mem)) : Nat → Int32 → Mem → Option (Unit × Mem)
  | 0, _, _ => none
  | n + 1, a3, μ0 => if a3 < (gI μ0 p0 2) then (ck (inb ((4 * x1) + a3) 32) (lt' (gL μ0 (p0 + 1) (tn ((4 * x1) + a3))) fun v3 => ck (inb ((4 * x2) + a3) 32) (lt' (gL μ0 (p0 + 1) (tn ((4 * x2) + a3))) fun v5 => ck (inb ((4 * x1) + a3) 32) (lt' (sL μ0 (p0 + 1) (tn ((4 * x1) + a3)) (v3 &&& v5)) fun μ7 => ck (inb ((4 * x2) + a3) 32) (lt' (sL μ7 (p0 + 1) (tn ((4 * x2) + a3)) (v3 ||| v5)) fun μ9 => lt' (a3 + 1) fun v10 => lp_Trial_compare_2 N p0 x1 x2 K n v10 μ9))))) else (K  μ0)
def f_Trial_compare (N : Nat) (p0 : Nat) (x1 : Int32) (x2 : Int32) (μ0 : Mem) : Option (Unit × Mem) :=
  lp_Trial_compare_2 N p0 x1 x2 (fun μ11 => some ((), μ11)) N 0 μ0
set_option maxHeartbeats 4000000 in
set_option maxRecDepth 100000 in
theorem glp_Trial_compare_2 (N d : Nat) {Γ : Cx Unit} (hΓ : Ok Γ "SortingNets$Trial" c_Trial_compare 8) (hT : Rt Γ eV none) (hR : Rm Γ (d + 0)) (p0 : Nat) (x1 : Int32) (x2 : Int32) (hp0 : isT p0)   (K : Mem → Option (Unit × Mem)) (hK : ∀  (ν : Mem), Go Γ 8 70 [] [] ν (K  ν)) : ∀ (n : Nat) (a3 : Int32) (μ0 : Mem), Go Γ 8 2 [(0, .ref p0), (1, .int x1), (2, .int x2), (3, .int a3)] [] μ0 (lp_Trial_compare_2 N p0 x1 x2 K n a3 μ0) := by
  intro n
  induction n with
  | zero => intro a3 μ0; exact go_none
  | succ n ih =>
    intro a3 μ0
    rw [lp_Trial_compare_2]
    refine go_iload_n (q := 3) (i := 3) (pc := 2) hΓ d_Trial_compare_2 rfl rfl ?_
    refine go_aload_n (q := 0) (i := 0) (pc := 3) hΓ d_Trial_compare_3 rfl rfl ?_
    refine go_getI (pc := 4) hΓ fl_Trial_21 d_Trial_compare_4 (isT_sh hp0).1 rfl ?_
    refine go_icmp_ge 70 (pc := 7) hΓ d_Trial_compare_7 (by decide) (fun h1 => go_eq (if_neg h1) ?_) (fun h1 => go_eq (if_pos h1) ?_)
    · refine go_sub' (lv' := []) rfl ?_
      exact hK  μ0
    · refine go_aload_n (q := 0) (i := 0) (pc := 10) hΓ d_Trial_compare_10 rfl rfl ?_
      refine go_getR (q := p0 + 1) (pc := 11) hΓ fl_Trial_13 d_Trial_compare_11 (isT_sh hp0).1 rfl ?_
      refine go_iconst (v := 4) (pc := 14) hΓ d_Trial_compare_14 (by decide) ?_
      refine go_iload_n (q := 1) (i := 1) (pc := 15) hΓ d_Trial_compare_15 rfl rfl ?_
      refine go_imul (pc := 16) hΓ d_Trial_compare_16 ?_
      refine go_iload_n (q := 3) (i := 3) (pc := 17) hΓ d_Trial_compare_17 rfl rfl ?_
      refine go_iadd (pc := 18) hΓ d_Trial_compare_18 ?_
      refine go_ck (fun h2 => ?_)
      refine go_lald (pc := 19) hΓ d_Trial_compare_19 (isT_sh hp0).2 h2 ?_
      refine go_letL (fun v3 => ?_)
      refine go_lstore (lv' := [(4, .long v3), (0, .ref p0), (1, .int x1), (2, .int x2), (3, .int a3)]) (pc := 20) hΓ d_Trial_compare_20 (by decide) rfl ?_
      refine go_aload_n (q := 1) (i := 0) (pc := 22) hΓ d_Trial_compare_22 rfl rfl ?_
      refine go_getR (q := p0 + 1) (pc := 23) hΓ fl_Trial_13 d_Trial_compare_23 (isT_sh hp0).1 rfl ?_
      refine go_iconst (v := 4) (pc := 26) hΓ d_Trial_compare_26 (by decide) ?_
      refine go_iload_n (q := 3) (i := 2) (pc := 27) hΓ d_Trial_compare_27 rfl rfl ?_
      refine go_imul (pc := 28) hΓ d_Trial_compare_28 ?_
      refine go_iload_n (q := 4) (i := 3) (pc := 29) hΓ d_Trial_compare_29 rfl rfl ?_
      refine go_iadd (pc := 30) hΓ d_Trial_compare_30 ?_
      refine go_ck (fun h4 => ?_)
      refine go_lald (pc := 31) hΓ d_Trial_compare_31 (isT_sh hp0).2 h4 ?_
      refine go_letL (fun v5 => ?_)
      refine go_lstore (lv' := [(6, .long v5), (4, .long v3), (0, .ref p0), (1, .int x1), (2, .int x2), (3, .int a3)]) (pc := 32) hΓ d_Trial_compare_32 (by decide) rfl ?_
      refine go_aload_n (q := 2) (i := 0) (pc := 34) hΓ d_Trial_compare_34 rfl rfl ?_
      refine go_getR (q := p0 + 1) (pc := 35) hΓ fl_Trial_13 d_Trial_compare_35 (isT_sh hp0).1 rfl ?_
      refine go_iconst (v := 4) (pc := 38) hΓ d_Trial_compare_38 (by decide) ?_
      refine go_iload_n (q := 3) (i := 1) (pc := 39) hΓ d_Trial_compare_39 rfl rfl ?_
      refine go_imul (pc := 40) hΓ d_Trial_compare_40 ?_
      refine go_iload_n (q := 5) (i := 3) (pc := 41) hΓ d_Trial_compare_41 rfl rfl ?_
      refine go_iadd (pc := 42) hΓ d_Trial_compare_42 ?_
      refine go_lload (q := 1) (pc := 43) hΓ d_Trial_compare_43 rfl ?_
      refine go_lload (q := 0) (pc := 45) hΓ d_Trial_compare_45 rfl ?_
      refine go_land (pc := 47) hΓ d_Trial_compare_47 ?_
      refine go_ck (fun h6 => ?_)
      refine go_last (pc := 48) hΓ d_Trial_compare_48 (isT_sh hp0).2 h6 ?_
      refine go_letM (fun μ7 => ?_)
      refine go_aload_n (q := 2) (i := 0) (pc := 49) hΓ d_Trial_compare_49 rfl rfl ?_
      refine go_getR (q := p0 + 1) (pc := 50) hΓ fl_Trial_13 d_Trial_compare_50 (isT_sh hp0).1 rfl ?_
      refine go_iconst (v := 4) (pc := 53) hΓ d_Trial_compare_53 (by decide) ?_
      refine go_iload_n (q := 4) (i := 2) (pc := 54) hΓ d_Trial_compare_54 rfl rfl ?_
      refine go_imul (pc := 55) hΓ d_Trial_compare_55 ?_
      refine go_iload_n (q := 5) (i := 3) (pc := 56) hΓ d_Trial_compare_56 rfl rfl ?_
      refine go_iadd (pc := 57) hΓ d_Trial_compare_57 ?_
      refine go_lload (q := 1) (pc := 58) hΓ d_Trial_compare_58 rfl ?_
      refine go_lload (q := 0) (pc := 60) hΓ d_Trial_compare_60 rfl ?_
      refine go_lor (pc := 62) hΓ d_Trial_compare_62 ?_
      refine go_ck (fun h8 => ?_)
      refine go_last (pc := 63) hΓ d_Trial_compare_63 (isT_sh hp0).2 h8 ?_
      refine go_letM (fun μ9 => ?_)
      refine go_incI (q := 5) (i := 3) (n := 1) (c := 1) (pc := 64) hΓ d_Trial_compare_64 rfl (by decide) (by decide) (fun v10 => ?_)
      refine go_sub' (lv' := [(3, .int v10), (6, .long v5), (4, .long v3), (0, .ref p0), (1, .int x1), (2, .int x2)]) rfl ?_
      refine go_goto 2 (pc := 67) hΓ d_Trial_compare_67 (by decide) ?_
      refine go_sub' (lv' := [(0, .ref p0), (1, .int x1), (2, .int x2), (3, .int v10)]) rfl ?_
      exact ih v10 μ9
set_option maxHeartbeats 4000000 in
set_option maxRecDepth 100000 in
theorem g_Trial_compare (N d : Nat) (p0 : Nat) (hp0 : isT p0) (x1 : Int32) (x2 : Int32)  : CallF eV y_Trial_compare c_Trial_compare 8 none (d + 0 + 1) [.ref p0, .int x1, .int x2] (f_Trial_compare N p0 x1 x2) := by
  refine call_of (d := d + 0) (n := 2) mi_Trial_compare.1 (fun _ => rfl) ?_
  intro Γ μ0 hΓ hT hR
  show Go Γ 8 0 [(0, .ref p0), (1, .int x1), (2, .int x2)] [] μ0 (f_Trial_compare N p0 x1 x2 μ0)
  unfold f_Trial_compare
  refine go_iconst (v := 0) (pc := 0) hΓ d_Trial_compare_0 (by decide) ?_
  refine go_istore_n (i := 3) (lv' := [(3, .int 0), (0, .ref p0), (1, .int x1), (2, .int x2)]) (pc := 1) hΓ d_Trial_compare_1 rfl (by decide) rfl ?_
  refine go_sub' (lv' := [(0, .ref p0), (1, .int x1), (2, .int x2), (3, .int 0)]) rfl ?_
  refine glp_Trial_compare_2 N d hΓ hT hR p0 x1 x2 hp0 _ (fun μ11 => ?_) N 0 μ0
  exact go_vret (pc := 70) hΓ hT d_Trial_compare_70
def lp_Trial_runPart_3 (N : Nat) (p0 : Nat) (p1 : Nat) (x3 : Int32)  (K : Mem → Option (Unit × Mem)) : Nat → Int32 → Mem → Option (Unit × Mem)
  | 0, _, _ => none
  | n + 1, a4, μ0 => if a4 < x3 then (ck (inb a4 60) (ck (inb a4 60) (bnd (f_Trial_compare N p0 (gI μ0 (p1 + 1) (tn a4)) (gI μ0 (p1 + 2) (tn a4)) μ0) fun _ μ5 => lt' (a4 + 1) fun v6 => lp_Trial_runPart_3 N p0 p1 x3 K n v6 μ5))) else (K  μ0)
def f_Trial_runPart (N : Nat) (p0 : Nat) (p1 : Nat) (x2 : Int32) (x3 : Int32) (μ0 : Mem) : Option (Unit × Mem) :=
  lp_Trial_runPart_3 N p0 p1 x3 (fun μ7 => some ((), μ7)) N x2 μ0
set_option maxHeartbeats 4000000 in
set_option maxRecDepth 100000 in
theorem glp_Trial_runPart_3 (N d : Nat) {Γ : Cx Unit} (hΓ : Ok Γ "SortingNets$Trial" c_Trial_runPart 5) (hT : Rt Γ eV none) (hR : Rm Γ (d + 1)) (p0 : Nat) (p1 : Nat) (x3 : Int32) (hp0 : isT p0) (hp1 : isN p1)   (K : Mem → Option (Unit × Mem)) (hK : ∀  (ν : Mem), Go Γ 5 33 [] [] ν (K  ν)) : ∀ (n : Nat) (a4 : Int32) (μ0 : Mem), Go Γ 5 3 [(0, .ref p0), (1, .ref p1), (3, .int x3), (4, .int a4)] [] μ0 (lp_Trial_runPart_3 N p0 p1 x3 K n a4 μ0) := by
  intro n
  induction n with
  | zero => intro a4 μ0; exact go_none
  | succ n ih =>
    intro a4 μ0
    rw [lp_Trial_runPart_3]
    refine go_iload (q := 3) (pc := 3) hΓ d_Trial_runPart_3 rfl ?_
    refine go_iload_n (q := 2) (i := 3) (pc := 5) hΓ d_Trial_runPart_5 rfl rfl ?_
    refine go_icmp_ge 33 (pc := 6) hΓ d_Trial_runPart_6 (by decide) (fun h1 => go_eq (if_neg h1) ?_) (fun h1 => go_eq (if_pos h1) ?_)
    · refine go_sub' (lv' := []) rfl ?_
      exact hK  μ0
    · refine go_aload_n (q := 0) (i := 0) (pc := 9) hΓ d_Trial_runPart_9 rfl rfl ?_
      refine go_aload_n (q := 1) (i := 1) (pc := 10) hΓ d_Trial_runPart_10 rfl rfl ?_
      refine go_getR (q := p1 + 1) (pc := 11) hΓ fl_Trial_33 d_Trial_runPart_11 (isN_sh hp1).1 rfl ?_
      refine go_iload (q := 3) (pc := 14) hΓ d_Trial_runPart_14 rfl ?_
      refine go_ck (fun h2 => ?_)
      refine go_iald (pc := 16) hΓ d_Trial_runPart_16 (isN_sh hp1).2.1 h2 ?_
      refine go_aload_n (q := 1) (i := 1) (pc := 17) hΓ d_Trial_runPart_17 rfl rfl ?_
      refine go_getR (q := p1 + 2) (pc := 18) hΓ fl_Trial_39 d_Trial_runPart_18 (isN_sh hp1).1 rfl ?_
      refine go_iload (q := 3) (pc := 21) hΓ d_Trial_runPart_21 rfl ?_
      refine go_ck (fun h3 => ?_)
      refine go_iald (pc := 23) hΓ d_Trial_runPart_23 (isN_sh hp1).2.2 h3 ?_
      refine go_callV (index := 42) emV hΓ hR (g_Trial_compare N (d + 0) p0 hp0 (gI μ0 (p1 + 1) (tn a4)) (gI μ0 (p1 + 2) (tn a4))) mi_Trial_compare ml_Trial_42 d_Trial_runPart_24 rfl (isT_sh hp0).1 rfl rfl rfl (fun _ μ5 => ?_)
      show Go Γ 5 27 [(0, .ref p0), (1, .ref p1), (3, .int x3), (4, .int a4)] [] μ5 _
      refine go_incI (q := 3) (i := 4) (n := 1) (c := 1) (pc := 27) hΓ d_Trial_runPart_27 rfl (by decide) (by decide) (fun v6 => ?_)
      refine go_sub' (lv' := [(4, .int v6), (0, .ref p0), (1, .ref p1), (3, .int x3)]) rfl ?_
      refine go_goto 3 (pc := 30) hΓ d_Trial_runPart_30 (by decide) ?_
      refine go_sub' (lv' := [(0, .ref p0), (1, .ref p1), (3, .int x3), (4, .int v6)]) rfl ?_
      exact ih v6 μ5
set_option maxHeartbeats 4000000 in
set_option maxRecDepth 100000 in
theorem g_Trial_runPart (N d : Nat) (p0 : Nat) (hp0 : isT p0) (p1 : Nat) (hp1 : isN p1) (x2 : Int32) (x3 : Int32)  : CallF eV y_Trial_runPart c_Trial_runPart 5 none (d + 1 + 1) [.ref p0, .ref p1, .int x2, .int x3] (f_Trial_runPart N p0 p1 x2 x3) := by
  refine call_of (d := d + 1) (n := 3) mi_Trial_runPart.1 (fun _ => rfl) ?_
  intro Γ μ0 hΓ hT hR
  show Go Γ 5 0 [(0, .ref p0), (1, .ref p1), (2, .int x2), (3, .int x3)] [] μ0 (f_Trial_runPart N p0 p1 x2 x3 μ0)
  unfold f_Trial_runPart
  refine go_iload_n (q := 2) (i := 2) (pc := 0) hΓ d_Trial_runPart_0 rfl rfl ?_
  refine go_istore (lv' := [(4, .int x2), (0, .ref p0), (1, .ref p1), (2, .int x2), (3, .int x3)]) (pc := 1) hΓ d_Trial_runPart_1 (by decide) rfl ?_
  refine go_sub' (lv' := [(0, .ref p0), (1, .ref p1), (3, .int x3), (4, .int x2)]) rfl ?_
  refine glp_Trial_runPart_3 N d hΓ hT hR p0 p1 x3 hp0 hp1 _ (fun μ7 => ?_) N x2 μ0
  exact go_vret (pc := 33) hΓ hT d_Trial_runPart_33
def lp_PatternSet_clear_2 (N : Nat)   (K : Mem → Option (Unit × Mem)) : Nat → Int32 → Mem → Option (Unit × Mem)
  | 0, _, _ => none
  | n + 1, a1, μ0 => if a1 < 4 then (ck (inb a1 4) (lt' (sL μ0 32 (tn a1) 0) fun μ3 => lt' (a1 + 1) fun v4 => lp_PatternSet_clear_2 N K n v4 μ3)) else (K  μ0)
def f_PatternSet_clear (N : Nat)  (μ0 : Mem) : Option (Unit × Mem) :=
  lp_PatternSet_clear_2 N  (fun μ5 => some ((), μ5)) N 0 μ0
set_option maxHeartbeats 4000000 in
set_option maxRecDepth 100000 in
theorem glp_PatternSet_clear_2 (N d : Nat) {Γ : Cx Unit} (hΓ : Ok Γ "SortingNets$PatternSet" c_PatternSet_clear 2) (hT : Rt Γ eV none) (hR : Rm Γ (d + 0))     (K : Mem → Option (Unit × Mem)) (hK : ∀  (ν : Mem), Go Γ 2 20 [] [] ν (K  ν)) : ∀ (n : Nat) (a1 : Int32) (μ0 : Mem), Go Γ 2 2 [(0, .ref 31), (1, .int a1)] [] μ0 (lp_PatternSet_clear_2 N K n a1 μ0) := by
  intro n
  induction n with
  | zero => intro a1 μ0; exact go_none
  | succ n ih =>
    intro a1 μ0
    rw [lp_PatternSet_clear_2]
    refine go_iload_n (q := 1) (i := 1) (pc := 2) hΓ d_PatternSet_clear_2 rfl rfl ?_
    refine go_iconst (v := 4) (pc := 3) hΓ d_PatternSet_clear_3 (by decide) ?_
    refine go_icmp_ge 20 (pc := 4) hΓ d_PatternSet_clear_4 (by decide) (fun h1 => go_eq (if_neg h1) ?_) (fun h1 => go_eq (if_pos h1) ?_)
    · refine go_sub' (lv' := []) rfl ?_
      exact hK  μ0
    · refine go_aload_n (q := 0) (i := 0) (pc := 7) hΓ d_PatternSet_clear_7 rfl rfl ?_
      refine go_getR (q := 32) (pc := 8) hΓ fl_PatternSet_11 d_PatternSet_clear_8 rfl rfl ?_
      refine go_iload_n (q := 1) (i := 1) (pc := 11) hΓ d_PatternSet_clear_11 rfl rfl ?_
      refine go_lconst (v := 0) (pc := 12) hΓ d_PatternSet_clear_12 (by decide) ?_
      refine go_ck (fun h2 => ?_)
      refine go_last (pc := 13) hΓ d_PatternSet_clear_13 rfl h2 ?_
      refine go_letM (fun μ3 => ?_)
      refine go_incI (q := 1) (i := 1) (n := 1) (c := 1) (pc := 14) hΓ d_PatternSet_clear_14 rfl (by decide) (by decide) (fun v4 => ?_)
      refine go_sub' (lv' := [(1, .int v4), (0, .ref 31)]) rfl ?_
      refine go_goto 2 (pc := 17) hΓ d_PatternSet_clear_17 (by decide) ?_
      refine go_sub' (lv' := [(0, .ref 31), (1, .int v4)]) rfl ?_
      exact ih v4 μ3
set_option maxHeartbeats 4000000 in
set_option maxRecDepth 100000 in
theorem g_PatternSet_clear (N d : Nat)   : CallF eV y_PatternSet_clear c_PatternSet_clear 2 none (d + 0 + 1) [.ref 31] (f_PatternSet_clear N ) := by
  refine call_of (d := d + 0) (n := 0) mi_PatternSet_clear.1 (fun _ => rfl) ?_
  intro Γ μ0 hΓ hT hR
  show Go Γ 2 0 [(0, .ref 31)] [] μ0 (f_PatternSet_clear N  μ0)
  unfold f_PatternSet_clear
  refine go_iconst (v := 0) (pc := 0) hΓ d_PatternSet_clear_0 (by decide) ?_
  refine go_istore_n (i := 1) (lv' := [(1, .int 0), (0, .ref 31)]) (pc := 1) hΓ d_PatternSet_clear_1 rfl (by decide) rfl ?_
  refine go_sub' (lv' := [(0, .ref 31), (1, .int 0)]) rfl ?_
  refine glp_PatternSet_clear_2 N d hΓ hT hR  _ (fun μ5 => ?_) N 0 μ0
  exact go_vret (pc := 20) hΓ hT d_PatternSet_clear_20
def lp_Trial_findUnsorted_18 (N : Nat) (p0 : Nat) (x2 : Int32)  (K : Mem → Option (Unit × Mem)) : Nat → Int32 → Mem → Option (Unit × Mem)
  | 0, _, _ => none
  | n + 1, a3, μ0 => if a3 < (gI μ0 p0 2) then (ck (inb a3 4) (ck (inb ((4 * x2) + a3) 32) (ck (inb ((4 * (x2 + 1)) + a3) 32) (ck (inb a3 4) (lt' (sL μ0 32 (tn a3) ((gL μ0 32 (tn a3)) ||| ((gL μ0 (p0 + 1) (tn ((4 * x2) + a3))) &&& ((gL μ0 (p0 + 1) (tn ((4 * (x2 + 1)) + a3))) ^^^ (-1))))) fun μ9 => lt' (a3 + 1) fun v10 => lp_Trial_findUnsorted_18 N p0 x2 K n v10 μ9))))) else (K  μ0)
def lp_Trial_findUnsorted_6 (N : Nat) (p0 : Nat)  (K : Mem → Option (Unit × Mem)) : Nat → Int32 → Mem → Option (Unit × Mem)
  | 0, _, _ => none
  | n + 1, a2, μ0 => if a2 < ((gI μ0 p0 1) - 1) then (lp_Trial_findUnsorted_18 N p0 a2 (fun μ11 => lt' (a2 + 1) fun v12 => lp_Trial_findUnsorted_6 N p0 K n v12 μ11) N 0 μ0) else (K  μ0)
def f_Trial_findUnsorted (N : Nat) (p0 : Nat) (μ0 : Mem) : Option (Unit × Mem) :=
  bnd (f_PatternSet_clear N  μ0) fun _ μ2 => lp_Trial_findUnsorted_6 N p0 (fun μ13 => some ((), μ13)) N 0 μ2
set_option maxHeartbeats 4000000 in
set_option maxRecDepth 100000 in
theorem glp_Trial_findUnsorted_18 (N d : Nat) {Γ : Cx Unit} (hΓ : Ok Γ "SortingNets$Trial" c_Trial_findUnsorted 4) (hT : Rt Γ eV none) (hR : Rm Γ (d + 1)) (p0 : Nat) (x2 : Int32) (hp0 : isT p0)   (K : Mem → Option (Unit × Mem)) (hK : ∀  (ν : Mem), Go Γ 4 68 [(0, .ref p0), (1, .ref 31), (2, .int x2)] [] ν (K  ν)) : ∀ (n : Nat) (a3 : Int32) (μ0 : Mem), Go Γ 4 18 [(0, .ref p0), (1, .ref 31), (2, .int x2), (3, .int a3)] [] μ0 (lp_Trial_findUnsorted_18 N p0 x2 K n a3 μ0) := by
  intro n
  induction n with
  | zero => intro a3 μ0; exact go_none
  | succ n ih =>
    intro a3 μ0
    rw [lp_Trial_findUnsorted_18]
    refine go_iload_n (q := 3) (i := 3) (pc := 18) hΓ d_Trial_findUnsorted_18 rfl rfl ?_
    refine go_aload_n (q := 0) (i := 0) (pc := 19) hΓ d_Trial_findUnsorted_19 rfl rfl ?_
    refine go_getI (pc := 20) hΓ fl_Trial_21 d_Trial_findUnsorted_20 (isT_sh hp0).1 rfl ?_
    refine go_icmp_ge 68 (pc := 23) hΓ d_Trial_findUnsorted_23 (by decide) (fun h4 => go_eq (if_neg h4) ?_) (fun h4 => go_eq (if_pos h4) ?_)
    · refine go_sub' (lv' := [(0, .ref p0), (1, .ref 31), (2, .int x2)]) rfl ?_
      exact hK  μ0
    · refine go_aload_n (q := 1) (i := 1) (pc := 26) hΓ d_Trial_findUnsorted_26 rfl rfl ?_
      refine go_getR (q := 32) (pc := 27) hΓ fl_Trial_49 d_Trial_findUnsorted_27 rfl rfl ?_
      refine go_iload_n (q := 3) (i := 3) (pc := 30) hΓ d_Trial_findUnsorted_30 rfl rfl ?_
      refine go_dup2 (pc := 31) hΓ d_Trial_findUnsorted_31 rfl rfl ?_
      refine go_ck (fun h5 => ?_)
      refine go_lald (pc := 32) hΓ d_Trial_findUnsorted_32 rfl h5 ?_
      refine go_aload_n (q := 0) (i := 0) (pc := 33) hΓ d_Trial_findUnsorted_33 rfl rfl ?_
      refine go_getR (q := p0 + 1) (pc := 34) hΓ fl_Trial_13 d_Trial_findUnsorted_34 (isT_sh hp0).1 rfl ?_
      refine go_iconst (v := 4) (pc := 37) hΓ d_Trial_findUnsorted_37 (by decide) ?_
      refine go_iload_n (q := 2) (i := 2) (pc := 38) hΓ d_Trial_findUnsorted_38 rfl rfl ?_
      refine go_imul (pc := 39) hΓ d_Trial_findUnsorted_39 ?_
      refine go_iload_n (q := 3) (i := 3) (pc := 40) hΓ d_Trial_findUnsorted_40 rfl rfl ?_
      refine go_iadd (pc := 41) hΓ d_Trial_findUnsorted_41 ?_
      refine go_ck (fun h6 => ?_)
      refine go_lald (pc := 42) hΓ d_Trial_findUnsorted_42 (isT_sh hp0).2 h6 ?_
      refine go_aload_n (q := 0) (i := 0) (pc := 43) hΓ d_Trial_findUnsorted_43 rfl rfl ?_
      refine go_getR (q := p0 + 1) (pc := 44) hΓ fl_Trial_13 d_Trial_findUnsorted_44 (isT_sh hp0).1 rfl ?_
      refine go_iconst (v := 4) (pc := 47) hΓ d_Trial_findUnsorted_47 (by decide) ?_
      refine go_iload_n (q := 2) (i := 2) (pc := 48) hΓ d_Trial_findUnsorted_48 rfl rfl ?_
      refine go_iconst (v := 1) (pc := 49) hΓ d_Trial_findUnsorted_49 (by decide) ?_
      refine go_iadd (pc := 50) hΓ d_Trial_findUnsorted_50 ?_
      refine go_imul (pc := 51) hΓ d_Trial_findUnsorted_51 ?_
      refine go_iload_n (q := 3) (i := 3) (pc := 52) hΓ d_Trial_findUnsorted_52 rfl rfl ?_
      refine go_iadd (pc := 53) hΓ d_Trial_findUnsorted_53 ?_
      refine go_ck (fun h7 => ?_)
      refine go_lald (pc := 54) hΓ d_Trial_findUnsorted_54 (isT_sh hp0).2 h7 ?_
      refine go_ldc2 (v := -1) (pc := 55) hΓ (tb_2 (List.mem_of_getElem? (i := 103) rfl) rfl) d_Trial_findUnsorted_55 ?_
      refine go_lxor (pc := 58) hΓ d_Trial_findUnsorted_58 ?_
      refine go_land (pc := 59) hΓ d_Trial_findUnsorted_59 ?_
      refine go_lor (pc := 60) hΓ d_Trial_findUnsorted_60 ?_
      refine go_ck (fun h8 => ?_)
      refine go_last (pc := 61) hΓ d_Trial_findUnsorted_61 rfl h8 ?_
      refine go_letM (fun μ9 => ?_)
      refine go_incI (q := 3) (i := 3) (n := 1) (c := 1) (pc := 62) hΓ d_Trial_findUnsorted_62 rfl (by decide) (by decide) (fun v10 => ?_)
      refine go_sub' (lv' := [(3, .int v10), (0, .ref p0), (1, .ref 31), (2, .int x2)]) rfl ?_
      refine go_goto 18 (pc := 65) hΓ d_Trial_findUnsorted_65 (by decide) ?_
      refine go_sub' (lv' := [(0, .ref p0), (1, .ref 31), (2, .int x2), (3, .int v10)]) rfl ?_
      exact ih v10 μ9
set_option maxHeartbeats 4000000 in
set_option maxRecDepth 100000 in
theorem glp_Trial_findUnsorted_6 (N d : Nat) {Γ : Cx Unit} (hΓ : Ok Γ "SortingNets$Trial" c_Trial_findUnsorted 4) (hT : Rt Γ eV none) (hR : Rm Γ (d + 1)) (p0 : Nat) (hp0 : isT p0)   (K : Mem → Option (Unit × Mem)) (hK : ∀  (ν : Mem), Go Γ 4 74 [] [] ν (K  ν)) : ∀ (n : Nat) (a2 : Int32) (μ0 : Mem), Go Γ 4 6 [(0, .ref p0), (1, .ref 31), (2, .int a2)] [] μ0 (lp_Trial_findUnsorted_6 N p0 K n a2 μ0) := by
  intro n
  induction n with
  | zero => intro a2 μ0; exact go_none
  | succ n ih =>
    intro a2 μ0
    rw [lp_Trial_findUnsorted_6]
    refine go_iload_n (q := 2) (i := 2) (pc := 6) hΓ d_Trial_findUnsorted_6 rfl rfl ?_
    refine go_aload_n (q := 0) (i := 0) (pc := 7) hΓ d_Trial_findUnsorted_7 rfl rfl ?_
    refine go_getI (pc := 8) hΓ fl_Trial_17 d_Trial_findUnsorted_8 (isT_sh hp0).1 rfl ?_
    refine go_iconst (v := 1) (pc := 11) hΓ d_Trial_findUnsorted_11 (by decide) ?_
    refine go_isub (pc := 12) hΓ d_Trial_findUnsorted_12 ?_
    refine go_icmp_ge 74 (pc := 13) hΓ d_Trial_findUnsorted_13 (by decide) (fun h3 => go_eq (if_neg h3) ?_) (fun h3 => go_eq (if_pos h3) ?_)
    · refine go_sub' (lv' := []) rfl ?_
      exact hK  μ0
    · refine go_iconst (v := 0) (pc := 16) hΓ d_Trial_findUnsorted_16 (by decide) ?_
      refine go_istore_n (i := 3) (lv' := [(3, .int 0), (0, .ref p0), (1, .ref 31), (2, .int a2)]) (pc := 17) hΓ d_Trial_findUnsorted_17 rfl (by decide) rfl ?_
      refine go_sub' (lv' := [(0, .ref p0), (1, .ref 31), (2, .int a2), (3, .int 0)]) rfl ?_
      refine glp_Trial_findUnsorted_18 N d hΓ hT hR p0 a2 hp0 _ (fun μ11 => ?_) N 0 μ0
      refine go_incI (q := 2) (i := 2) (n := 1) (c := 1) (pc := 68) hΓ d_Trial_findUnsorted_68 rfl (by decide) (by decide) (fun v12 => ?_)
      refine go_sub' (lv' := [(2, .int v12), (0, .ref p0), (1, .ref 31)]) rfl ?_
      refine go_goto 6 (pc := 71) hΓ d_Trial_findUnsorted_71 (by decide) ?_
      refine go_sub' (lv' := [(0, .ref p0), (1, .ref 31), (2, .int v12)]) rfl ?_
      exact ih v12 μ11
set_option maxHeartbeats 4000000 in
set_option maxRecDepth 100000 in
theorem g_Trial_findUnsorted (N d : Nat) (p0 : Nat) (hp0 : isT p0)  : CallF eV y_Trial_findUnsorted c_Trial_findUnsorted 4 none (d + 1 + 1) [.ref p0, .ref 31] (f_Trial_findUnsorted N p0) := by
  refine call_of (d := d + 1) (n := 1) mi_Trial_findUnsorted.1 (fun _ => rfl) ?_
  intro Γ μ0 hΓ hT hR
  show Go Γ 4 0 [(0, .ref p0), (1, .ref 31)] [] μ0 (f_Trial_findUnsorted N p0 μ0)
  unfold f_Trial_findUnsorted
  refine go_aload_n (q := 1) (i := 1) (pc := 0) hΓ d_Trial_findUnsorted_0 rfl rfl ?_
  refine go_callV (index := 46) emV hΓ hR (g_PatternSet_clear N (d + 0) ) mi_PatternSet_clear ml_Trial_46 d_Trial_findUnsorted_1 rfl rfl rfl rfl rfl (fun _ μ2 => ?_)
  show Go Γ 4 4 [(0, .ref p0), (1, .ref 31)] [] μ2 _
  refine go_iconst (v := 0) (pc := 4) hΓ d_Trial_findUnsorted_4 (by decide) ?_
  refine go_istore_n (i := 2) (lv' := [(2, .int 0), (0, .ref p0), (1, .ref 31)]) (pc := 5) hΓ d_Trial_findUnsorted_5 rfl (by decide) rfl ?_
  refine go_sub' (lv' := [(0, .ref p0), (1, .ref 31), (2, .int 0)]) rfl ?_
  refine glp_Trial_findUnsorted_6 N d hΓ hT hR p0 hp0 _ (fun μ13 => ?_) N 0 μ2
  exact go_vret (pc := 74) hΓ hT d_Trial_findUnsorted_74
def f_JLong_bitCount (N : Nat) (x0 : Int64) (μ0 : Mem) : Option (Int32 × Mem) :=
  lt' (x0 - ((ushL x0 1) &&& 6148914691236517205)) fun v1 => lt' ((v1 &&& 3689348814741910323) + ((ushL v1 2) &&& 3689348814741910323)) fun v2 => lt' ((v2 + (ushL v2 4)) &&& 1085102592571150095) fun v3 => lt' (v3 + (ushL v3 8)) fun v4 => lt' (v4 + (ushL v4 16)) fun v5 => lt' (v5 + (ushL v5 32)) fun v6 => some ((Int64.toInt32 v6) &&& 127, μ0)
set_option maxHeartbeats 4000000 in
set_option maxRecDepth 100000 in
theorem g_JLong_bitCount (N d : Nat) (x0 : Int64)  : CallF eI y_JLong_bitCount c_JLong_bitCount 2 (some .int) (d + 0 + 1) [.long x0] (f_JLong_bitCount N x0) := by
  refine call_of (d := d + 0) (n := 1) mi_JLong_bitCount.1 (fun _ => rfl) ?_
  intro Γ μ0 hΓ hT hR
  show Go Γ 2 0 [(0, .long x0)] [] μ0 (f_JLong_bitCount N x0 μ0)
  unfold f_JLong_bitCount
  refine go_lload_n (q := 0) (i := 0) (pc := 0) hΓ d_JLong_bitCount_0 rfl rfl ?_
  refine go_lload_n (q := 0) (i := 0) (pc := 1) hΓ d_JLong_bitCount_1 rfl rfl ?_
  refine go_iconst (v := 1) (pc := 2) hΓ d_JLong_bitCount_2 (by decide) ?_
  refine go_lushr (pc := 3) hΓ d_JLong_bitCount_3 ?_
  refine go_ldc2 (v := 6148914691236517205) (pc := 4) hΓ (tb_2 (List.mem_of_getElem? (i := 132) rfl) rfl) d_JLong_bitCount_4 ?_
  refine go_land (pc := 7) hΓ d_JLong_bitCount_7 ?_
  refine go_lsub (pc := 8) hΓ d_JLong_bitCount_8 ?_
  refine go_letL (fun v1 => ?_)
  refine go_lstore_n (i := 0) (lv' := [(0, .long v1)]) (pc := 9) hΓ d_JLong_bitCount_9 rfl (by decide) rfl ?_
  refine go_lload_n (q := 0) (i := 0) (pc := 10) hΓ d_JLong_bitCount_10 rfl rfl ?_
  refine go_ldc2 (v := 3689348814741910323) (pc := 11) hΓ (tb_2 (List.mem_of_getElem? (i := 133) rfl) rfl) d_JLong_bitCount_11 ?_
  refine go_land (pc := 14) hΓ d_JLong_bitCount_14 ?_
  refine go_lload_n (q := 0) (i := 0) (pc := 15) hΓ d_JLong_bitCount_15 rfl rfl ?_
  refine go_iconst (v := 2) (pc := 16) hΓ d_JLong_bitCount_16 (by decide) ?_
  refine go_lushr (pc := 17) hΓ d_JLong_bitCount_17 ?_
  refine go_ldc2 (v := 3689348814741910323) (pc := 18) hΓ (tb_2 (List.mem_of_getElem? (i := 133) rfl) rfl) d_JLong_bitCount_18 ?_
  refine go_land (pc := 21) hΓ d_JLong_bitCount_21 ?_
  refine go_ladd (pc := 22) hΓ d_JLong_bitCount_22 ?_
  refine go_letL (fun v2 => ?_)
  refine go_lstore_n (i := 0) (lv' := [(0, .long v2)]) (pc := 23) hΓ d_JLong_bitCount_23 rfl (by decide) rfl ?_
  refine go_lload_n (q := 0) (i := 0) (pc := 24) hΓ d_JLong_bitCount_24 rfl rfl ?_
  refine go_lload_n (q := 0) (i := 0) (pc := 25) hΓ d_JLong_bitCount_25 rfl rfl ?_
  refine go_iconst (v := 4) (pc := 26) hΓ d_JLong_bitCount_26 (by decide) ?_
  refine go_lushr (pc := 27) hΓ d_JLong_bitCount_27 ?_
  refine go_ladd (pc := 28) hΓ d_JLong_bitCount_28 ?_
  refine go_ldc2 (v := 1085102592571150095) (pc := 29) hΓ (tb_2 (List.mem_of_getElem? (i := 134) rfl) rfl) d_JLong_bitCount_29 ?_
  refine go_land (pc := 32) hΓ d_JLong_bitCount_32 ?_
  refine go_letL (fun v3 => ?_)
  refine go_lstore_n (i := 0) (lv' := [(0, .long v3)]) (pc := 33) hΓ d_JLong_bitCount_33 rfl (by decide) rfl ?_
  refine go_lload_n (q := 0) (i := 0) (pc := 34) hΓ d_JLong_bitCount_34 rfl rfl ?_
  refine go_lload_n (q := 0) (i := 0) (pc := 35) hΓ d_JLong_bitCount_35 rfl rfl ?_
  refine go_bipush (v := 8) (pc := 36) hΓ d_JLong_bitCount_36 (by decide) ?_
  refine go_lushr (pc := 38) hΓ d_JLong_bitCount_38 ?_
  refine go_ladd (pc := 39) hΓ d_JLong_bitCount_39 ?_
  refine go_letL (fun v4 => ?_)
  refine go_lstore_n (i := 0) (lv' := [(0, .long v4)]) (pc := 40) hΓ d_JLong_bitCount_40 rfl (by decide) rfl ?_
  refine go_lload_n (q := 0) (i := 0) (pc := 41) hΓ d_JLong_bitCount_41 rfl rfl ?_
  refine go_lload_n (q := 0) (i := 0) (pc := 42) hΓ d_JLong_bitCount_42 rfl rfl ?_
  refine go_bipush (v := 16) (pc := 43) hΓ d_JLong_bitCount_43 (by decide) ?_
  refine go_lushr (pc := 45) hΓ d_JLong_bitCount_45 ?_
  refine go_ladd (pc := 46) hΓ d_JLong_bitCount_46 ?_
  refine go_letL (fun v5 => ?_)
  refine go_lstore_n (i := 0) (lv' := [(0, .long v5)]) (pc := 47) hΓ d_JLong_bitCount_47 rfl (by decide) rfl ?_
  refine go_lload_n (q := 0) (i := 0) (pc := 48) hΓ d_JLong_bitCount_48 rfl rfl ?_
  refine go_lload_n (q := 0) (i := 0) (pc := 49) hΓ d_JLong_bitCount_49 rfl rfl ?_
  refine go_bipush (v := 32) (pc := 50) hΓ d_JLong_bitCount_50 (by decide) ?_
  refine go_lushr (pc := 52) hΓ d_JLong_bitCount_52 ?_
  refine go_ladd (pc := 53) hΓ d_JLong_bitCount_53 ?_
  refine go_letL (fun v6 => ?_)
  refine go_lstore_n (i := 0) (lv' := [(0, .long v6)]) (pc := 54) hΓ d_JLong_bitCount_54 rfl (by decide) rfl ?_
  refine go_lload_n (q := 0) (i := 0) (pc := 55) hΓ d_JLong_bitCount_55 rfl rfl ?_
  refine go_l2i (pc := 56) hΓ d_JLong_bitCount_56 ?_
  refine go_bipush (v := 127) (pc := 57) hΓ d_JLong_bitCount_57 (by decide) ?_
  refine go_iand (pc := 59) hΓ d_JLong_bitCount_59 ?_
  exact go_iret (pc := 60) hΓ hT d_JLong_bitCount_60
def lp_PatternSet_size_4 (N : Nat)   (K : Int32 → Mem → Option (Int32 × Mem)) : Nat → Int32 → Int32 → Mem → Option (Int32 × Mem)
  | 0, _, _, _ => none
  | n + 1, a1, a2, μ0 => if a2 < 4 then (ck (inb a2 4) (bnd (f_JLong_bitCount N (gL μ0 32 (tn a2)) μ0) fun r3 μ4 => lt' (a1 + r3) fun v5 => lt' (a2 + 1) fun v6 => lp_PatternSet_size_4 N K n v5 v6 μ4)) else (K a1 μ0)
def f_PatternSet_size (N : Nat)  (μ0 : Mem) : Option (Int32 × Mem) :=
  lp_PatternSet_size_4 N  (fun v7 μ8 => some (v7, μ8)) N 0 0 μ0
set_option maxHeartbeats 4000000 in
set_option maxRecDepth 100000 in
theorem glp_PatternSet_size_4 (N d : Nat) {Γ : Cx Int32} (hΓ : Ok Γ "SortingNets$PatternSet" c_PatternSet_size 3) (hT : Rt Γ eI (some .int)) (hR : Rm Γ (d + 1))     (K : Int32 → Mem → Option (Int32 × Mem)) (hK : ∀ (b1 : Int32) (ν : Mem), Go Γ 3 27 [(1, .int b1)] [] ν (K b1 ν)) : ∀ (n : Nat) (a1 : Int32) (a2 : Int32) (μ0 : Mem), Go Γ 3 4 [(0, .ref 31), (1, .int a1), (2, .int a2)] [] μ0 (lp_PatternSet_size_4 N K n a1 a2 μ0) := by
  intro n
  induction n with
  | zero => intro a1 a2 μ0; exact go_none
  | succ n ih =>
    intro a1 a2 μ0
    rw [lp_PatternSet_size_4]
    refine go_iload_n (q := 2) (i := 2) (pc := 4) hΓ d_PatternSet_size_4 rfl rfl ?_
    refine go_iconst (v := 4) (pc := 5) hΓ d_PatternSet_size_5 (by decide) ?_
    refine go_icmp_ge 27 (pc := 6) hΓ d_PatternSet_size_6 (by decide) (fun h1 => go_eq (if_neg h1) ?_) (fun h1 => go_eq (if_pos h1) ?_)
    · refine go_sub' (lv' := [(1, .int a1)]) rfl ?_
      exact hK a1 μ0
    · refine go_iload_n (q := 1) (i := 1) (pc := 9) hΓ d_PatternSet_size_9 rfl rfl ?_
      refine go_aload_n (q := 0) (i := 0) (pc := 10) hΓ d_PatternSet_size_10 rfl rfl ?_
      refine go_getR (q := 32) (pc := 11) hΓ fl_PatternSet_11 d_PatternSet_size_11 rfl rfl ?_
      refine go_iload_n (q := 2) (i := 2) (pc := 14) hΓ d_PatternSet_size_14 rfl rfl ?_
      refine go_ck (fun h2 => ?_)
      refine go_lald (pc := 15) hΓ d_PatternSet_size_15 rfl h2 ?_
      refine go_callS (index := 15) emI hΓ hR (g_JLong_bitCount N (d + 0) (gL μ0 32 (tn a2))) mi_JLong_bitCount ml_PatternSet_15 d_PatternSet_size_16 rfl rfl rfl (fun r3 μ4 => ?_)
      show Go Γ 3 19 [(0, .ref 31), (1, .int a1), (2, .int a2)] [.int r3, .int a1] μ4 _
      refine go_iadd (pc := 19) hΓ d_PatternSet_size_19 ?_
      refine go_letI (fun v5 => ?_)
      refine go_istore_n (i := 1) (lv' := [(1, .int v5), (0, .ref 31), (2, .int a2)]) (pc := 20) hΓ d_PatternSet_size_20 rfl (by decide) rfl ?_
      refine go_incI (q := 2) (i := 2) (n := 1) (c := 1) (pc := 21) hΓ d_PatternSet_size_21 rfl (by decide) (by decide) (fun v6 => ?_)
      refine go_sub' (lv' := [(2, .int v6), (1, .int v5), (0, .ref 31)]) rfl ?_
      refine go_goto 4 (pc := 24) hΓ d_PatternSet_size_24 (by decide) ?_
      refine go_sub' (lv' := [(0, .ref 31), (1, .int v5), (2, .int v6)]) rfl ?_
      exact ih v5 v6 μ4
set_option maxHeartbeats 4000000 in
set_option maxRecDepth 100000 in
theorem g_PatternSet_size (N d : Nat)   : CallF eI y_PatternSet_size c_PatternSet_size 3 (some .int) (d + 1 + 1) [.ref 31] (f_PatternSet_size N ) := by
  refine call_of (d := d + 1) (n := 0) mi_PatternSet_size.1 (fun _ => rfl) ?_
  intro Γ μ0 hΓ hT hR
  show Go Γ 3 0 [(0, .ref 31)] [] μ0 (f_PatternSet_size N  μ0)
  unfold f_PatternSet_size
  refine go_iconst (v := 0) (pc := 0) hΓ d_PatternSet_size_0 (by decide) ?_
  refine go_istore_n (i := 1) (lv' := [(1, .int 0), (0, .ref 31)]) (pc := 1) hΓ d_PatternSet_size_1 rfl (by decide) rfl ?_
  refine go_iconst (v := 0) (pc := 2) hΓ d_PatternSet_size_2 (by decide) ?_
  refine go_istore_n (i := 2) (lv' := [(2, .int 0), (1, .int 0), (0, .ref 31)]) (pc := 3) hΓ d_PatternSet_size_3 rfl (by decide) rfl ?_
  refine go_sub' (lv' := [(0, .ref 31), (1, .int 0), (2, .int 0)]) rfl ?_
  refine glp_PatternSet_size_4 N d hΓ hT hR  _ (fun v7 μ8 => ?_) N 0 0 μ0
  refine go_iload_n (q := 0) (i := 1) (pc := 27) hΓ d_PatternSet_size_27 rfl rfl ?_
  exact go_iret (pc := 28) hΓ hT d_PatternSet_size_28
def lp_Net_remove_12 (N : Nat) (p0 : Nat)  (K : Mem → Option (Unit × Mem)) : Nat → Int32 → Mem → Option (Unit × Mem)
  | 0, _, _ => none
  | n + 1, a2, μ0 => if a2 < (gI μ0 p0 1) then (ck (inb (a2 + 1) 60) (ck (inb a2 60) (lt' (sI μ0 (p0 + 1) (tn a2) (gI μ0 (p0 + 1) (tn (a2 + 1)))) fun μ5 => ck (inb (a2 + 1) 60) (ck (inb a2 60) (lt' (sI μ5 (p0 + 2) (tn a2) (gI μ5 (p0 + 2) (tn (a2 + 1)))) fun μ8 => lt' (a2 + 1) fun v9 => lp_Net_remove_12 N p0 K n v9 μ8))))) else (K  μ0)
def f_Net_remove (N : Nat) (p0 : Nat) (x1 : Int32) (μ0 : Mem) : Option (Unit × Mem) :=
  lt' (sI μ0 p0 1 ((gI μ0 p0 1) - 1)) fun μ1 => lp_Net_remove_12 N p0 (fun μ10 => some ((), μ10)) N x1 μ1
set_option maxHeartbeats 4000000 in
set_option maxRecDepth 100000 in
theorem glp_Net_remove_12 (N d : Nat) {Γ : Cx Unit} (hΓ : Ok Γ "SortingNets$Net" c_Net_remove 3) (hT : Rt Γ eV none) (hR : Rm Γ (d + 0)) (p0 : Nat) (hp0 : isN p0)   (K : Mem → Option (Unit × Mem)) (hK : ∀  (ν : Mem), Go Γ 3 54 [] [] ν (K  ν)) : ∀ (n : Nat) (a2 : Int32) (μ0 : Mem), Go Γ 3 12 [(0, .ref p0), (2, .int a2)] [] μ0 (lp_Net_remove_12 N p0 K n a2 μ0) := by
  intro n
  induction n with
  | zero => intro a2 μ0; exact go_none
  | succ n ih =>
    intro a2 μ0
    rw [lp_Net_remove_12]
    refine go_iload_n (q := 1) (i := 2) (pc := 12) hΓ d_Net_remove_12 rfl rfl ?_
    refine go_aload_n (q := 0) (i := 0) (pc := 13) hΓ d_Net_remove_13 rfl rfl ?_
    refine go_getI (pc := 14) hΓ fl_Net_15 d_Net_remove_14 (isN_sh hp0).1 rfl ?_
    refine go_icmp_ge 54 (pc := 17) hΓ d_Net_remove_17 (by decide) (fun h2 => go_eq (if_neg h2) ?_) (fun h2 => go_eq (if_pos h2) ?_)
    · refine go_sub' (lv' := []) rfl ?_
      exact hK  μ0
    · refine go_aload_n (q := 0) (i := 0) (pc := 20) hΓ d_Net_remove_20 rfl rfl ?_
      refine go_getR (q := p0 + 1) (pc := 21) hΓ fl_Net_18 d_Net_remove_21 (isN_sh hp0).1 rfl ?_
      refine go_iload_n (q := 1) (i := 2) (pc := 24) hΓ d_Net_remove_24 rfl rfl ?_
      refine go_aload_n (q := 0) (i := 0) (pc := 25) hΓ d_Net_remove_25 rfl rfl ?_
      refine go_getR (q := p0 + 1) (pc := 26) hΓ fl_Net_18 d_Net_remove_26 (isN_sh hp0).1 rfl ?_
      refine go_iload_n (q := 1) (i := 2) (pc := 29) hΓ d_Net_remove_29 rfl rfl ?_
      refine go_iconst (v := 1) (pc := 30) hΓ d_Net_remove_30 (by decide) ?_
      refine go_iadd (pc := 31) hΓ d_Net_remove_31 ?_
      refine go_ck (fun h3 => ?_)
      refine go_iald (pc := 32) hΓ d_Net_remove_32 (isN_sh hp0).2.1 h3 ?_
      refine go_ck (fun h4 => ?_)
      refine go_iast (pc := 33) hΓ d_Net_remove_33 (isN_sh hp0).2.1 h4 ?_
      refine go_letM (fun μ5 => ?_)
      refine go_aload_n (q := 0) (i := 0) (pc := 34) hΓ d_Net_remove_34 rfl rfl ?_
      refine go_getR (q := p0 + 2) (pc := 35) hΓ fl_Net_22 d_Net_remove_35 (isN_sh hp0).1 rfl ?_
      refine go_iload_n (q := 1) (i := 2) (pc := 38) hΓ d_Net_remove_38 rfl rfl ?_
      refine go_aload_n (q := 0) (i := 0) (pc := 39) hΓ d_Net_remove_39 rfl rfl ?_
      refine go_getR (q := p0 + 2) (pc := 40) hΓ fl_Net_22 d_Net_remove_40 (isN_sh hp0).1 rfl ?_
      refine go_iload_n (q := 1) (i := 2) (pc := 43) hΓ d_Net_remove_43 rfl rfl ?_
      refine go_iconst (v := 1) (pc := 44) hΓ d_Net_remove_44 (by decide) ?_
      refine go_iadd (pc := 45) hΓ d_Net_remove_45 ?_
      refine go_ck (fun h6 => ?_)
      refine go_iald (pc := 46) hΓ d_Net_remove_46 (isN_sh hp0).2.2 h6 ?_
      refine go_ck (fun h7 => ?_)
      refine go_iast (pc := 47) hΓ d_Net_remove_47 (isN_sh hp0).2.2 h7 ?_
      refine go_letM (fun μ8 => ?_)
      refine go_incI (q := 1) (i := 2) (n := 1) (c := 1) (pc := 48) hΓ d_Net_remove_48 rfl (by decide) (by decide) (fun v9 => ?_)
      refine go_sub' (lv' := [(2, .int v9), (0, .ref p0)]) rfl ?_
      refine go_goto 12 (pc := 51) hΓ d_Net_remove_51 (by decide) ?_
      refine go_sub' (lv' := [(0, .ref p0), (2, .int v9)]) rfl ?_
      exact ih v9 μ8
set_option maxHeartbeats 4000000 in
set_option maxRecDepth 100000 in
theorem g_Net_remove (N d : Nat) (p0 : Nat) (hp0 : isN p0) (x1 : Int32)  : CallF eV y_Net_remove c_Net_remove 3 none (d + 0 + 1) [.ref p0, .int x1] (f_Net_remove N p0 x1) := by
  refine call_of (d := d + 0) (n := 1) mi_Net_remove.1 (fun _ => rfl) ?_
  intro Γ μ0 hΓ hT hR
  show Go Γ 3 0 [(0, .ref p0), (1, .int x1)] [] μ0 (f_Net_remove N p0 x1 μ0)
  unfold f_Net_remove
  refine go_aload_n (q := 0) (i := 0) (pc := 0) hΓ d_Net_remove_0 rfl rfl ?_
  refine go_dup (pc := 1) hΓ d_Net_remove_1 rfl ?_
  refine go_getI (pc := 2) hΓ fl_Net_15 d_Net_remove_2 (isN_sh hp0).1 rfl ?_
  refine go_iconst (v := 1) (pc := 5) hΓ d_Net_remove_5 (by decide) ?_
  refine go_isub (pc := 6) hΓ d_Net_remove_6 ?_
  refine go_putI (pc := 7) hΓ fp_Net_15 d_Net_remove_7 (isN_sh hp0).1 rfl ?_
  refine go_letM (fun μ1 => ?_)
  refine go_iload_n (q := 1) (i := 1) (pc := 10) hΓ d_Net_remove_10 rfl rfl ?_
  refine go_istore_n (i := 2) (lv' := [(2, .int x1), (0, .ref p0), (1, .int x1)]) (pc := 11) hΓ d_Net_remove_11 rfl (by decide) rfl ?_
  refine go_sub' (lv' := [(0, .ref p0), (2, .int x1)]) rfl ?_
  refine glp_Net_remove_12 N d hΓ hT hR p0 hp0 _ (fun μ10 => ?_) N x1 μ1
  exact go_vret (pc := 54) hΓ hT d_Net_remove_54
def f_Net_exchangeAt (N : Nat) (p0 : Nat) (x1 : Int32) (x2 : Int32) (μ0 : Mem) : Option (Unit × Mem) :=
  ck (inb x1 60) (lt' (gI μ0 (p0 + 1) (tn x1)) fun v2 => ck (inb x1 60) (lt' (gI μ0 (p0 + 2) (tn x1)) fun v4 => ck (inb x2 60) (ck (inb x1 60) (lt' (sI μ0 (p0 + 1) (tn x1) (gI μ0 (p0 + 1) (tn x2))) fun μ7 => ck (inb x2 60) (ck (inb x1 60) (lt' (sI μ7 (p0 + 2) (tn x1) (gI μ7 (p0 + 2) (tn x2))) fun μ10 => ck (inb x2 60) (lt' (sI μ10 (p0 + 1) (tn x2) v2) fun μ12 => ck (inb x2 60) (lt' (sI μ12 (p0 + 2) (tn x2) v4) fun μ14 => some ((), μ14)))))))))
set_option maxHeartbeats 4000000 in
set_option maxRecDepth 100000 in
theorem g_Net_exchangeAt (N d : Nat) (p0 : Nat) (hp0 : isN p0) (x1 : Int32) (x2 : Int32)  : CallF eV y_Net_exchangeAt c_Net_exchangeAt 5 none (d + 0 + 1) [.ref p0, .int x1, .int x2] (f_Net_exchangeAt N p0 x1 x2) := by
  refine call_of (d := d + 0) (n := 2) mi_Net_exchangeAt.1 (fun _ => rfl) ?_
  intro Γ μ0 hΓ hT hR
  show Go Γ 5 0 [(0, .ref p0), (1, .int x1), (2, .int x2)] [] μ0 (f_Net_exchangeAt N p0 x1 x2 μ0)
  unfold f_Net_exchangeAt
  refine go_aload_n (q := 0) (i := 0) (pc := 0) hΓ d_Net_exchangeAt_0 rfl rfl ?_
  refine go_getR (q := p0 + 1) (pc := 1) hΓ fl_Net_18 d_Net_exchangeAt_1 (isN_sh hp0).1 rfl ?_
  refine go_iload_n (q := 1) (i := 1) (pc := 4) hΓ d_Net_exchangeAt_4 rfl rfl ?_
  refine go_ck (fun h1 => ?_)
  refine go_iald (pc := 5) hΓ d_Net_exchangeAt_5 (isN_sh hp0).2.1 h1 ?_
  refine go_letI (fun v2 => ?_)
  refine go_istore_n (i := 3) (lv' := [(3, .int v2), (0, .ref p0), (1, .int x1), (2, .int x2)]) (pc := 6) hΓ d_Net_exchangeAt_6 rfl (by decide) rfl ?_
  refine go_aload_n (q := 1) (i := 0) (pc := 7) hΓ d_Net_exchangeAt_7 rfl rfl ?_
  refine go_getR (q := p0 + 2) (pc := 8) hΓ fl_Net_22 d_Net_exchangeAt_8 (isN_sh hp0).1 rfl ?_
  refine go_iload_n (q := 2) (i := 1) (pc := 11) hΓ d_Net_exchangeAt_11 rfl rfl ?_
  refine go_ck (fun h3 => ?_)
  refine go_iald (pc := 12) hΓ d_Net_exchangeAt_12 (isN_sh hp0).2.2 h3 ?_
  refine go_letI (fun v4 => ?_)
  refine go_istore (lv' := [(4, .int v4), (3, .int v2), (0, .ref p0), (1, .int x1), (2, .int x2)]) (pc := 13) hΓ d_Net_exchangeAt_13 (by decide) rfl ?_
  refine go_aload_n (q := 2) (i := 0) (pc := 15) hΓ d_Net_exchangeAt_15 rfl rfl ?_
  refine go_getR (q := p0 + 1) (pc := 16) hΓ fl_Net_18 d_Net_exchangeAt_16 (isN_sh hp0).1 rfl ?_
  refine go_iload_n (q := 3) (i := 1) (pc := 19) hΓ d_Net_exchangeAt_19 rfl rfl ?_
  refine go_aload_n (q := 2) (i := 0) (pc := 20) hΓ d_Net_exchangeAt_20 rfl rfl ?_
  refine go_getR (q := p0 + 1) (pc := 21) hΓ fl_Net_18 d_Net_exchangeAt_21 (isN_sh hp0).1 rfl ?_
  refine go_iload_n (q := 4) (i := 2) (pc := 24) hΓ d_Net_exchangeAt_24 rfl rfl ?_
  refine go_ck (fun h5 => ?_)
  refine go_iald (pc := 25) hΓ d_Net_exchangeAt_25 (isN_sh hp0).2.1 h5 ?_
  refine go_ck (fun h6 => ?_)
  refine go_iast (pc := 26) hΓ d_Net_exchangeAt_26 (isN_sh hp0).2.1 h6 ?_
  refine go_letM (fun μ7 => ?_)
  refine go_aload_n (q := 2) (i := 0) (pc := 27) hΓ d_Net_exchangeAt_27 rfl rfl ?_
  refine go_getR (q := p0 + 2) (pc := 28) hΓ fl_Net_22 d_Net_exchangeAt_28 (isN_sh hp0).1 rfl ?_
  refine go_iload_n (q := 3) (i := 1) (pc := 31) hΓ d_Net_exchangeAt_31 rfl rfl ?_
  refine go_aload_n (q := 2) (i := 0) (pc := 32) hΓ d_Net_exchangeAt_32 rfl rfl ?_
  refine go_getR (q := p0 + 2) (pc := 33) hΓ fl_Net_22 d_Net_exchangeAt_33 (isN_sh hp0).1 rfl ?_
  refine go_iload_n (q := 4) (i := 2) (pc := 36) hΓ d_Net_exchangeAt_36 rfl rfl ?_
  refine go_ck (fun h8 => ?_)
  refine go_iald (pc := 37) hΓ d_Net_exchangeAt_37 (isN_sh hp0).2.2 h8 ?_
  refine go_ck (fun h9 => ?_)
  refine go_iast (pc := 38) hΓ d_Net_exchangeAt_38 (isN_sh hp0).2.2 h9 ?_
  refine go_letM (fun μ10 => ?_)
  refine go_aload_n (q := 2) (i := 0) (pc := 39) hΓ d_Net_exchangeAt_39 rfl rfl ?_
  refine go_getR (q := p0 + 1) (pc := 40) hΓ fl_Net_18 d_Net_exchangeAt_40 (isN_sh hp0).1 rfl ?_
  refine go_iload_n (q := 4) (i := 2) (pc := 43) hΓ d_Net_exchangeAt_43 rfl rfl ?_
  refine go_iload_n (q := 1) (i := 3) (pc := 44) hΓ d_Net_exchangeAt_44 rfl rfl ?_
  refine go_ck (fun h11 => ?_)
  refine go_iast (pc := 45) hΓ d_Net_exchangeAt_45 (isN_sh hp0).2.1 h11 ?_
  refine go_letM (fun μ12 => ?_)
  refine go_aload_n (q := 2) (i := 0) (pc := 46) hΓ d_Net_exchangeAt_46 rfl rfl ?_
  refine go_getR (q := p0 + 2) (pc := 47) hΓ fl_Net_22 d_Net_exchangeAt_47 (isN_sh hp0).1 rfl ?_
  refine go_iload_n (q := 4) (i := 2) (pc := 50) hΓ d_Net_exchangeAt_50 rfl rfl ?_
  refine go_iload (q := 0) (pc := 51) hΓ d_Net_exchangeAt_51 rfl ?_
  refine go_ck (fun h13 => ?_)
  refine go_iast (pc := 53) hΓ d_Net_exchangeAt_53 (isN_sh hp0).2.2 h13 ?_
  refine go_letM (fun μ14 => ?_)
  exact go_vret (pc := 54) hΓ hT d_Net_exchangeAt_54
def f_Net_exchangeWithNext (N : Nat) (p0 : Nat) (x1 : Int32) (μ0 : Mem) : Option (Int32 × Mem) :=
  bnd (f_Net_exchangeAt N p0 x1 (x1 + 1) μ0) fun _ μ2 => ck (inb x1 60) (ck (inb (x1 + 1) 60) (if (gI μ2 (p0 + 1) (tn x1)) = (gI μ2 (p0 + 1) (tn (x1 + 1))) then (some (0, μ2)) else (ck (inb x1 60) (ck (inb (x1 + 1) 60) (if (gI μ2 (p0 + 1) (tn x1)) = (gI μ2 (p0 + 2) (tn (x1 + 1))) then (some (0, μ2)) else (ck (inb x1 60) (ck (inb (x1 + 1) 60) (if (gI μ2 (p0 + 2) (tn x1)) = (gI μ2 (p0 + 1) (tn (x1 + 1))) then (some (0, μ2)) else (ck (inb x1 60) (ck (inb (x1 + 1) 60) (if (gI μ2 (p0 + 2) (tn x1)) = (gI μ2 (p0 + 2) (tn (x1 + 1))) then (some (0, μ2)) else (some (1, μ2)))))))))))))
set_option maxHeartbeats 4000000 in
set_option maxRecDepth 100000 in
theorem g_Net_exchangeWithNext (N d : Nat) (p0 : Nat) (hp0 : isN p0) (x1 : Int32)  : CallF eI y_Net_exchangeWithNext c_Net_exchangeWithNext 2 (some .boolean) (d + 1 + 1) [.ref p0, .int x1] (f_Net_exchangeWithNext N p0 x1) := by
  refine call_of (d := d + 1) (n := 1) mi_Net_exchangeWithNext.1 (fun _ => rfl) ?_
  intro Γ μ0 hΓ hT hR
  show Go Γ 2 0 [(0, .ref p0), (1, .int x1)] [] μ0 (f_Net_exchangeWithNext N p0 x1 μ0)
  unfold f_Net_exchangeWithNext
  refine go_aload_n (q := 0) (i := 0) (pc := 0) hΓ d_Net_exchangeWithNext_0 rfl rfl ?_
  refine go_iload_n (q := 1) (i := 1) (pc := 1) hΓ d_Net_exchangeWithNext_1 rfl rfl ?_
  refine go_iload_n (q := 1) (i := 1) (pc := 2) hΓ d_Net_exchangeWithNext_2 rfl rfl ?_
  refine go_iconst (v := 1) (pc := 3) hΓ d_Net_exchangeWithNext_3 (by decide) ?_
  refine go_iadd (pc := 4) hΓ d_Net_exchangeWithNext_4 ?_
  refine go_callV (index := 25) emV hΓ hR (g_Net_exchangeAt N (d + 0) p0 hp0 x1 (x1 + 1)) mi_Net_exchangeAt ml_Net_25 d_Net_exchangeWithNext_5 rfl (isN_sh hp0).1 rfl rfl rfl (fun _ μ2 => ?_)
  show Go Γ 2 8 [(0, .ref p0), (1, .int x1)] [] μ2 _
  refine go_aload_n (q := 0) (i := 0) (pc := 8) hΓ d_Net_exchangeWithNext_8 rfl rfl ?_
  refine go_getR (q := p0 + 1) (pc := 9) hΓ fl_Net_18 d_Net_exchangeWithNext_9 (isN_sh hp0).1 rfl ?_
  refine go_iload_n (q := 1) (i := 1) (pc := 12) hΓ d_Net_exchangeWithNext_12 rfl rfl ?_
  refine go_ck (fun h3 => ?_)
  refine go_iald (pc := 13) hΓ d_Net_exchangeWithNext_13 (isN_sh hp0).2.1 h3 ?_
  refine go_aload_n (q := 0) (i := 0) (pc := 14) hΓ d_Net_exchangeWithNext_14 rfl rfl ?_
  refine go_getR (q := p0 + 1) (pc := 15) hΓ fl_Net_18 d_Net_exchangeWithNext_15 (isN_sh hp0).1 rfl ?_
  refine go_iload_n (q := 1) (i := 1) (pc := 18) hΓ d_Net_exchangeWithNext_18 rfl rfl ?_
  refine go_iconst (v := 1) (pc := 19) hΓ d_Net_exchangeWithNext_19 (by decide) ?_
  refine go_iadd (pc := 20) hΓ d_Net_exchangeWithNext_20 ?_
  refine go_ck (fun h4 => ?_)
  refine go_iald (pc := 21) hΓ d_Net_exchangeWithNext_21 (isN_sh hp0).2.1 h4 ?_
  refine go_icmp_eq 80 (pc := 22) hΓ d_Net_exchangeWithNext_22 (by decide) (fun h5 => go_eq (if_pos h5) ?_) (fun h5 => go_eq (if_neg h5) ?_)
  · refine go_iconst (v := 0) (pc := 80) hΓ d_Net_exchangeWithNext_80 (by decide) ?_
    exact go_zret (pc := 81) hΓ hT d_Net_exchangeWithNext_81 rfl
  · refine go_aload_n (q := 0) (i := 0) (pc := 25) hΓ d_Net_exchangeWithNext_25 rfl rfl ?_
    refine go_getR (q := p0 + 1) (pc := 26) hΓ fl_Net_18 d_Net_exchangeWithNext_26 (isN_sh hp0).1 rfl ?_
    refine go_iload_n (q := 1) (i := 1) (pc := 29) hΓ d_Net_exchangeWithNext_29 rfl rfl ?_
    refine go_ck (fun h6 => ?_)
    refine go_iald (pc := 30) hΓ d_Net_exchangeWithNext_30 (isN_sh hp0).2.1 h6 ?_
    refine go_aload_n (q := 0) (i := 0) (pc := 31) hΓ d_Net_exchangeWithNext_31 rfl rfl ?_
    refine go_getR (q := p0 + 2) (pc := 32) hΓ fl_Net_22 d_Net_exchangeWithNext_32 (isN_sh hp0).1 rfl ?_
    refine go_iload_n (q := 1) (i := 1) (pc := 35) hΓ d_Net_exchangeWithNext_35 rfl rfl ?_
    refine go_iconst (v := 1) (pc := 36) hΓ d_Net_exchangeWithNext_36 (by decide) ?_
    refine go_iadd (pc := 37) hΓ d_Net_exchangeWithNext_37 ?_
    refine go_ck (fun h7 => ?_)
    refine go_iald (pc := 38) hΓ d_Net_exchangeWithNext_38 (isN_sh hp0).2.2 h7 ?_
    refine go_icmp_eq 80 (pc := 39) hΓ d_Net_exchangeWithNext_39 (by decide) (fun h8 => go_eq (if_pos h8) ?_) (fun h8 => go_eq (if_neg h8) ?_)
    · refine go_iconst (v := 0) (pc := 80) hΓ d_Net_exchangeWithNext_80 (by decide) ?_
      exact go_zret (pc := 81) hΓ hT d_Net_exchangeWithNext_81 rfl
    · refine go_aload_n (q := 0) (i := 0) (pc := 42) hΓ d_Net_exchangeWithNext_42 rfl rfl ?_
      refine go_getR (q := p0 + 2) (pc := 43) hΓ fl_Net_22 d_Net_exchangeWithNext_43 (isN_sh hp0).1 rfl ?_
      refine go_iload_n (q := 1) (i := 1) (pc := 46) hΓ d_Net_exchangeWithNext_46 rfl rfl ?_
      refine go_ck (fun h9 => ?_)
      refine go_iald (pc := 47) hΓ d_Net_exchangeWithNext_47 (isN_sh hp0).2.2 h9 ?_
      refine go_aload_n (q := 0) (i := 0) (pc := 48) hΓ d_Net_exchangeWithNext_48 rfl rfl ?_
      refine go_getR (q := p0 + 1) (pc := 49) hΓ fl_Net_18 d_Net_exchangeWithNext_49 (isN_sh hp0).1 rfl ?_
      refine go_iload_n (q := 1) (i := 1) (pc := 52) hΓ d_Net_exchangeWithNext_52 rfl rfl ?_
      refine go_iconst (v := 1) (pc := 53) hΓ d_Net_exchangeWithNext_53 (by decide) ?_
      refine go_iadd (pc := 54) hΓ d_Net_exchangeWithNext_54 ?_
      refine go_ck (fun h10 => ?_)
      refine go_iald (pc := 55) hΓ d_Net_exchangeWithNext_55 (isN_sh hp0).2.1 h10 ?_
      refine go_icmp_eq 80 (pc := 56) hΓ d_Net_exchangeWithNext_56 (by decide) (fun h11 => go_eq (if_pos h11) ?_) (fun h11 => go_eq (if_neg h11) ?_)
      · refine go_iconst (v := 0) (pc := 80) hΓ d_Net_exchangeWithNext_80 (by decide) ?_
        exact go_zret (pc := 81) hΓ hT d_Net_exchangeWithNext_81 rfl
      · refine go_aload_n (q := 0) (i := 0) (pc := 59) hΓ d_Net_exchangeWithNext_59 rfl rfl ?_
        refine go_getR (q := p0 + 2) (pc := 60) hΓ fl_Net_22 d_Net_exchangeWithNext_60 (isN_sh hp0).1 rfl ?_
        refine go_iload_n (q := 1) (i := 1) (pc := 63) hΓ d_Net_exchangeWithNext_63 rfl rfl ?_
        refine go_ck (fun h12 => ?_)
        refine go_iald (pc := 64) hΓ d_Net_exchangeWithNext_64 (isN_sh hp0).2.2 h12 ?_
        refine go_aload_n (q := 0) (i := 0) (pc := 65) hΓ d_Net_exchangeWithNext_65 rfl rfl ?_
        refine go_getR (q := p0 + 2) (pc := 66) hΓ fl_Net_22 d_Net_exchangeWithNext_66 (isN_sh hp0).1 rfl ?_
        refine go_iload_n (q := 1) (i := 1) (pc := 69) hΓ d_Net_exchangeWithNext_69 rfl rfl ?_
        refine go_iconst (v := 1) (pc := 70) hΓ d_Net_exchangeWithNext_70 (by decide) ?_
        refine go_iadd (pc := 71) hΓ d_Net_exchangeWithNext_71 ?_
        refine go_ck (fun h13 => ?_)
        refine go_iald (pc := 72) hΓ d_Net_exchangeWithNext_72 (isN_sh hp0).2.2 h13 ?_
        refine go_icmp_eq 80 (pc := 73) hΓ d_Net_exchangeWithNext_73 (by decide) (fun h14 => go_eq (if_pos h14) ?_) (fun h14 => go_eq (if_neg h14) ?_)
        · refine go_iconst (v := 0) (pc := 80) hΓ d_Net_exchangeWithNext_80 (by decide) ?_
          exact go_zret (pc := 81) hΓ hT d_Net_exchangeWithNext_81 rfl
        · refine go_iconst (v := 1) (pc := 76) hΓ d_Net_exchangeWithNext_76 (by decide) ?_
          refine go_goto 81 (pc := 77) hΓ d_Net_exchangeWithNext_77 (by decide) ?_
          exact go_zret (pc := 81) hΓ hT d_Net_exchangeWithNext_81 rfl
def lp_Net_reverse_9 (N : Nat) (p0 : Nat)  (K : Mem → Option (Unit × Mem)) : Nat → Int32 → Int32 → Mem → Option (Unit × Mem)
  | 0, _, _, _ => none
  | n + 1, a1, a2, μ0 => if a1 < a2 then (bnd (f_Net_exchangeAt N p0 a1 a2 μ0) fun _ μ4 => lt' (a1 + 1) fun v5 => lt' (a2 + (-1)) fun v6 => lp_Net_reverse_9 N p0 K n v5 v6 μ4) else (K  μ0)
def f_Net_reverse (N : Nat) (p0 : Nat) (μ0 : Mem) : Option (Unit × Mem) :=
  lt' ((gI μ0 p0 1) - 1) fun v1 => lp_Net_reverse_9 N p0 (fun μ7 => some ((), μ7)) N 0 v1 μ0
set_option maxHeartbeats 4000000 in
set_option maxRecDepth 100000 in
theorem glp_Net_reverse_9 (N d : Nat) {Γ : Cx Unit} (hΓ : Ok Γ "SortingNets$Net" c_Net_reverse 3) (hT : Rt Γ eV none) (hR : Rm Γ (d + 1)) (p0 : Nat) (hp0 : isN p0)   (K : Mem → Option (Unit × Mem)) (hK : ∀  (ν : Mem), Go Γ 3 29 [] [] ν (K  ν)) : ∀ (n : Nat) (a1 : Int32) (a2 : Int32) (μ0 : Mem), Go Γ 3 9 [(0, .ref p0), (1, .int a1), (2, .int a2)] [] μ0 (lp_Net_reverse_9 N p0 K n a1 a2 μ0) := by
  intro n
  induction n with
  | zero => intro a1 a2 μ0; exact go_none
  | succ n ih =>
    intro a1 a2 μ0
    rw [lp_Net_reverse_9]
    refine go_iload_n (q := 1) (i := 1) (pc := 9) hΓ d_Net_reverse_9 rfl rfl ?_
    refine go_iload_n (q := 2) (i := 2) (pc := 10) hΓ d_Net_reverse_10 rfl rfl ?_
    refine go_icmp_ge 29 (pc := 11) hΓ d_Net_reverse_11 (by decide) (fun h2 => go_eq (if_neg h2) ?_) (fun h2 => go_eq (if_pos h2) ?_)
    · refine go_sub' (lv' := []) rfl ?_
      exact hK  μ0
    · refine go_aload_n (q := 0) (i := 0) (pc := 14) hΓ d_Net_reverse_14 rfl rfl ?_
      refine go_iload_n (q := 1) (i := 1) (pc := 15) hΓ d_Net_reverse_15 rfl rfl ?_
      refine go_iload_n (q := 2) (i := 2) (pc := 16) hΓ d_Net_reverse_16 rfl rfl ?_
      refine go_callV (index := 25) emV hΓ hR (g_Net_exchangeAt N (d + 0) p0 hp0 a1 a2) mi_Net_exchangeAt ml_Net_25 d_Net_reverse_17 rfl (isN_sh hp0).1 rfl rfl rfl (fun _ μ4 => ?_)
      show Go Γ 3 20 [(0, .ref p0), (1, .int a1), (2, .int a2)] [] μ4 _
      refine go_incI (q := 1) (i := 1) (n := 1) (c := 1) (pc := 20) hΓ d_Net_reverse_20 rfl (by decide) (by decide) (fun v5 => ?_)
      refine go_sub' (lv' := [(1, .int v5), (0, .ref p0), (2, .int a2)]) rfl ?_
      refine go_incI (q := 2) (i := 2) (n := -1) (c := -1) (pc := 23) hΓ d_Net_reverse_23 rfl (by decide) (by decide) (fun v6 => ?_)
      refine go_sub' (lv' := [(2, .int v6), (1, .int v5), (0, .ref p0)]) rfl ?_
      refine go_goto 9 (pc := 26) hΓ d_Net_reverse_26 (by decide) ?_
      refine go_sub' (lv' := [(0, .ref p0), (1, .int v5), (2, .int v6)]) rfl ?_
      exact ih v5 v6 μ4
set_option maxHeartbeats 4000000 in
set_option maxRecDepth 100000 in
theorem g_Net_reverse (N d : Nat) (p0 : Nat) (hp0 : isN p0)  : CallF eV y_Net_reverse c_Net_reverse 3 none (d + 1 + 1) [.ref p0] (f_Net_reverse N p0) := by
  refine call_of (d := d + 1) (n := 0) mi_Net_reverse.1 (fun _ => rfl) ?_
  intro Γ μ0 hΓ hT hR
  show Go Γ 3 0 [(0, .ref p0)] [] μ0 (f_Net_reverse N p0 μ0)
  unfold f_Net_reverse
  refine go_iconst (v := 0) (pc := 0) hΓ d_Net_reverse_0 (by decide) ?_
  refine go_istore_n (i := 1) (lv' := [(1, .int 0), (0, .ref p0)]) (pc := 1) hΓ d_Net_reverse_1 rfl (by decide) rfl ?_
  refine go_aload_n (q := 1) (i := 0) (pc := 2) hΓ d_Net_reverse_2 rfl rfl ?_
  refine go_getI (pc := 3) hΓ fl_Net_15 d_Net_reverse_3 (isN_sh hp0).1 rfl ?_
  refine go_iconst (v := 1) (pc := 6) hΓ d_Net_reverse_6 (by decide) ?_
  refine go_isub (pc := 7) hΓ d_Net_reverse_7 ?_
  refine go_letI (fun v1 => ?_)
  refine go_istore_n (i := 2) (lv' := [(2, .int v1), (1, .int 0), (0, .ref p0)]) (pc := 8) hΓ d_Net_reverse_8 rfl (by decide) rfl ?_
  refine go_sub' (lv' := [(0, .ref p0), (1, .int 0), (2, .int v1)]) rfl ?_
  refine glp_Net_reverse_9 N d hΓ hT hR p0 hp0 _ (fun μ7 => ?_) N 0 v1 μ0
  exact go_vret (pc := 29) hΓ hT d_Net_reverse_29
def lp_Net_reflect_2 (N : Nat) (p0 : Nat)  (K : Mem → Option (Unit × Mem)) : Nat → Int32 → Mem → Option (Unit × Mem)
  | 0, _, _ => none
  | n + 1, a1, μ0 => if a1 < (gI μ0 p0 1) then (ck (inb a1 60) (lt' (gI μ0 (p0 + 1) (tn a1)) fun v3 => ck (inb a1 60) (ck (inb a1 60) (lt' (sI μ0 (p0 + 1) (tn a1) (((gI μ0 p0 0) - 1) - (gI μ0 (p0 + 2) (tn a1)))) fun μ6 => ck (inb a1 60) (lt' (sI μ6 (p0 + 2) (tn a1) (((gI μ6 p0 0) - 1) - v3)) fun μ8 => lt' (a1 + 1) fun v9 => lp_Net_reflect_2 N p0 K n v9 μ8))))) else (K  μ0)
def f_Net_reflect (N : Nat) (p0 : Nat) (μ0 : Mem) : Option (Unit × Mem) :=
  lp_Net_reflect_2 N p0 (fun μ10 => some ((), μ10)) N 0 μ0
set_option maxHeartbeats 4000000 in
set_option maxRecDepth 100000 in
theorem glp_Net_reflect_2 (N d : Nat) {Γ : Cx Unit} (hΓ : Ok Γ "SortingNets$Net" c_Net_reflect 3) (hT : Rt Γ eV none) (hR : Rm Γ (d + 0)) (p0 : Nat) (hp0 : isN p0)   (K : Mem → Option (Unit × Mem)) (hK : ∀  (ν : Mem), Go Γ 3 56 [] [] ν (K  ν)) : ∀ (n : Nat) (a1 : Int32) (μ0 : Mem), Go Γ 3 2 [(0, .ref p0), (1, .int a1)] [] μ0 (lp_Net_reflect_2 N p0 K n a1 μ0) := by
  intro n
  induction n with
  | zero => intro a1 μ0; exact go_none
  | succ n ih =>
    intro a1 μ0
    rw [lp_Net_reflect_2]
    refine go_iload_n (q := 1) (i := 1) (pc := 2) hΓ d_Net_reflect_2 rfl rfl ?_
    refine go_aload_n (q := 0) (i := 0) (pc := 3) hΓ d_Net_reflect_3 rfl rfl ?_
    refine go_getI (pc := 4) hΓ fl_Net_15 d_Net_reflect_4 (isN_sh hp0).1 rfl ?_
    refine go_icmp_ge 56 (pc := 7) hΓ d_Net_reflect_7 (by decide) (fun h1 => go_eq (if_neg h1) ?_) (fun h1 => go_eq (if_pos h1) ?_)
    · refine go_sub' (lv' := []) rfl ?_
      exact hK  μ0
    · refine go_aload_n (q := 0) (i := 0) (pc := 10) hΓ d_Net_reflect_10 rfl rfl ?_
      refine go_getR (q := p0 + 1) (pc := 11) hΓ fl_Net_18 d_Net_reflect_11 (isN_sh hp0).1 rfl ?_
      refine go_iload_n (q := 1) (i := 1) (pc := 14) hΓ d_Net_reflect_14 rfl rfl ?_
      refine go_ck (fun h2 => ?_)
      refine go_iald (pc := 15) hΓ d_Net_reflect_15 (isN_sh hp0).2.1 h2 ?_
      refine go_letI (fun v3 => ?_)
      refine go_istore_n (i := 2) (lv' := [(2, .int v3), (0, .ref p0), (1, .int a1)]) (pc := 16) hΓ d_Net_reflect_16 rfl (by decide) rfl ?_
      refine go_aload_n (q := 1) (i := 0) (pc := 17) hΓ d_Net_reflect_17 rfl rfl ?_
      refine go_getR (q := p0 + 1) (pc := 18) hΓ fl_Net_18 d_Net_reflect_18 (isN_sh hp0).1 rfl ?_
      refine go_iload_n (q := 2) (i := 1) (pc := 21) hΓ d_Net_reflect_21 rfl rfl ?_
      refine go_aload_n (q := 1) (i := 0) (pc := 22) hΓ d_Net_reflect_22 rfl rfl ?_
      refine go_getI (pc := 23) hΓ fl_Net_9 d_Net_reflect_23 (isN_sh hp0).1 rfl ?_
      refine go_iconst (v := 1) (pc := 26) hΓ d_Net_reflect_26 (by decide) ?_
      refine go_isub (pc := 27) hΓ d_Net_reflect_27 ?_
      refine go_aload_n (q := 1) (i := 0) (pc := 28) hΓ d_Net_reflect_28 rfl rfl ?_
      refine go_getR (q := p0 + 2) (pc := 29) hΓ fl_Net_22 d_Net_reflect_29 (isN_sh hp0).1 rfl ?_
      refine go_iload_n (q := 2) (i := 1) (pc := 32) hΓ d_Net_reflect_32 rfl rfl ?_
      refine go_ck (fun h4 => ?_)
      refine go_iald (pc := 33) hΓ d_Net_reflect_33 (isN_sh hp0).2.2 h4 ?_
      refine go_isub (pc := 34) hΓ d_Net_reflect_34 ?_
      refine go_ck (fun h5 => ?_)
      refine go_iast (pc := 35) hΓ d_Net_reflect_35 (isN_sh hp0).2.1 h5 ?_
      refine go_letM (fun μ6 => ?_)
      refine go_aload_n (q := 1) (i := 0) (pc := 36) hΓ d_Net_reflect_36 rfl rfl ?_
      refine go_getR (q := p0 + 2) (pc := 37) hΓ fl_Net_22 d_Net_reflect_37 (isN_sh hp0).1 rfl ?_
      refine go_iload_n (q := 2) (i := 1) (pc := 40) hΓ d_Net_reflect_40 rfl rfl ?_
      refine go_aload_n (q := 1) (i := 0) (pc := 41) hΓ d_Net_reflect_41 rfl rfl ?_
      refine go_getI (pc := 42) hΓ fl_Net_9 d_Net_reflect_42 (isN_sh hp0).1 rfl ?_
      refine go_iconst (v := 1) (pc := 45) hΓ d_Net_reflect_45 (by decide) ?_
      refine go_isub (pc := 46) hΓ d_Net_reflect_46 ?_
      refine go_iload_n (q := 0) (i := 2) (pc := 47) hΓ d_Net_reflect_47 rfl rfl ?_
      refine go_isub (pc := 48) hΓ d_Net_reflect_48 ?_
      refine go_ck (fun h7 => ?_)
      refine go_iast (pc := 49) hΓ d_Net_reflect_49 (isN_sh hp0).2.2 h7 ?_
      refine go_letM (fun μ8 => ?_)
      refine go_incI (q := 2) (i := 1) (n := 1) (c := 1) (pc := 50) hΓ d_Net_reflect_50 rfl (by decide) (by decide) (fun v9 => ?_)
      refine go_sub' (lv' := [(1, .int v9), (2, .int v3), (0, .ref p0)]) rfl ?_
      refine go_goto 2 (pc := 53) hΓ d_Net_reflect_53 (by decide) ?_
      refine go_sub' (lv' := [(0, .ref p0), (1, .int v9)]) rfl ?_
      exact ih v9 μ8
set_option maxHeartbeats 4000000 in
set_option maxRecDepth 100000 in
theorem g_Net_reflect (N d : Nat) (p0 : Nat) (hp0 : isN p0)  : CallF eV y_Net_reflect c_Net_reflect 3 none (d + 0 + 1) [.ref p0] (f_Net_reflect N p0) := by
  refine call_of (d := d + 0) (n := 0) mi_Net_reflect.1 (fun _ => rfl) ?_
  intro Γ μ0 hΓ hT hR
  show Go Γ 3 0 [(0, .ref p0)] [] μ0 (f_Net_reflect N p0 μ0)
  unfold f_Net_reflect
  refine go_iconst (v := 0) (pc := 0) hΓ d_Net_reflect_0 (by decide) ?_
  refine go_istore_n (i := 1) (lv' := [(1, .int 0), (0, .ref p0)]) (pc := 1) hΓ d_Net_reflect_1 rfl (by decide) rfl ?_
  refine go_sub' (lv' := [(0, .ref p0), (1, .int 0)]) rfl ?_
  refine glp_Net_reflect_2 N d hΓ hT hR p0 hp0 _ (fun μ10 => ?_) N 0 μ0
  exact go_vret (pc := 56) hΓ hT d_Net_reflect_56
def lp_Layers_read_7 (N : Nat) (p1 : Nat)  (K : Mem → Option (Unit × Mem)) : Nat → Int32 → Mem → Option (Unit × Mem)
  | 0, _, _ => none
  | n + 1, a2, μ0 => if a2 < 8 then (ck (inb a2 8) (lt' (sI μ0 26 (tn a2) 0) fun μ4 => lt' (a2 + 1) fun v5 => lp_Layers_read_7 N p1 K n v5 μ4)) else (K  μ0)
def lp_Layers_read_28 (N : Nat) (p1 : Nat)  (K : Mem → Option (Unit × Mem)) : Nat → Int32 → Mem → Option (Unit × Mem)
  | 0, _, _ => none
  | n + 1, a2, μ0 => if 60 < a2 then (K  μ0) else (ck (inb a2 61) (lt' (sI μ0 25 (tn a2) 0) fun μ9 => lt' (a2 + 1) fun v10 => lp_Layers_read_28 N p1 K n v10 μ9))
def lp_Layers_read_49 (N : Nat) (p1 : Nat)  (K : Mem → Option (Unit × Mem)) : Nat → Int32 → Mem → Option (Unit × Mem)
  | 0, _, _ => none
  | n + 1, a2, μ0 => if a2 < (gI μ0 p1 1) then (ck (inb a2 60) (ck (inb (gI μ0 (p1 + 1) (tn a2)) 8) (ck (inb a2 60) (ck (inb (gI μ0 (p1 + 2) (tn a2)) 8) (lt' ((mxI (gI μ0 26 (tn (gI μ0 (p1 + 1) (tn a2)))) (gI μ0 26 (tn (gI μ0 (p1 + 2) (tn a2))))) + 1) fun v17 => ck (inb a2 60) (ck (inb (gI μ0 (p1 + 1) (tn a2)) 8) (lt' (sI μ0 26 (tn (gI μ0 (p1 + 1) (tn a2))) v17) fun μ20 => ck (inb a2 60) (ck (inb (gI μ20 (p1 + 2) (tn a2)) 8) (lt' (sI μ20 26 (tn (gI μ20 (p1 + 2) (tn a2))) v17) fun μ23 => ck (inb a2 60) (lt' (sI μ23 24 (tn a2) v17) fun μ25 => ck (inb v17 61) (ck (inb v17 61) (lt' (sI μ25 25 (tn v17) ((gI μ25 25 (tn v17)) + 1)) fun μ28 => lt' (sI μ28 23 1 (mxI (gI μ28 23 1) v17)) fun μ29 => lt' (a2 + 1) fun v30 => lp_Layers_read_49 N p1 K n v30 μ29)))))))))))) else (K  μ0)
def f_Layers_read (N : Nat) (p1 : Nat) (μ0 : Mem) : Option (Unit × Mem) :=
  lt' (sI μ0 23 1 0) fun μ1 => lp_Layers_read_7 N p1 (fun μ6 => lp_Layers_read_28 N p1 (fun μ11 => lp_Layers_read_49 N p1 (fun μ31 => some ((), μ31)) N 0 μ11) N 0 μ6) N 0 μ1
set_option maxHeartbeats 4000000 in
set_option maxRecDepth 100000 in
theorem glp_Layers_read_7 (N d : Nat) {Γ : Cx Unit} (hΓ : Ok Γ "SortingNets$Layers" c_Layers_read 4) (hT : Rt Γ eV none) (hR : Rm Γ (d + 0)) (p1 : Nat) (hp1 : isN p1)   (K : Mem → Option (Unit × Mem)) (hK : ∀  (ν : Mem), Go Γ 4 26 [(0, .ref 23), (1, .ref p1)] [] ν (K  ν)) : ∀ (n : Nat) (a2 : Int32) (μ0 : Mem), Go Γ 4 7 [(0, .ref 23), (1, .ref p1), (2, .int a2)] [] μ0 (lp_Layers_read_7 N p1 K n a2 μ0) := by
  intro n
  induction n with
  | zero => intro a2 μ0; exact go_none
  | succ n ih =>
    intro a2 μ0
    rw [lp_Layers_read_7]
    refine go_iload_n (q := 2) (i := 2) (pc := 7) hΓ d_Layers_read_7 rfl rfl ?_
    refine go_bipush (v := 8) (pc := 8) hΓ d_Layers_read_8 (by decide) ?_
    refine go_icmp_ge 26 (pc := 10) hΓ d_Layers_read_10 (by decide) (fun h2 => go_eq (if_neg h2) ?_) (fun h2 => go_eq (if_pos h2) ?_)
    · refine go_sub' (lv' := [(0, .ref 23), (1, .ref p1)]) rfl ?_
      exact hK  μ0
    · refine go_aload_n (q := 0) (i := 0) (pc := 13) hΓ d_Layers_read_13 rfl rfl ?_
      refine go_getR (q := 26) (pc := 14) hΓ fl_Layers_22 d_Layers_read_14 rfl rfl ?_
      refine go_iload_n (q := 2) (i := 2) (pc := 17) hΓ d_Layers_read_17 rfl rfl ?_
      refine go_iconst (v := 0) (pc := 18) hΓ d_Layers_read_18 (by decide) ?_
      refine go_ck (fun h3 => ?_)
      refine go_iast (pc := 19) hΓ d_Layers_read_19 rfl h3 ?_
      refine go_letM (fun μ4 => ?_)
      refine go_incI (q := 2) (i := 2) (n := 1) (c := 1) (pc := 20) hΓ d_Layers_read_20 rfl (by decide) (by decide) (fun v5 => ?_)
      refine go_sub' (lv' := [(2, .int v5), (0, .ref 23), (1, .ref p1)]) rfl ?_
      refine go_goto 7 (pc := 23) hΓ d_Layers_read_23 (by decide) ?_
      refine go_sub' (lv' := [(0, .ref 23), (1, .ref p1), (2, .int v5)]) rfl ?_
      exact ih v5 μ4
set_option maxHeartbeats 4000000 in
set_option maxRecDepth 100000 in
theorem glp_Layers_read_28 (N d : Nat) {Γ : Cx Unit} (hΓ : Ok Γ "SortingNets$Layers" c_Layers_read 4) (hT : Rt Γ eV none) (hR : Rm Γ (d + 0)) (p1 : Nat) (hp1 : isN p1)   (K : Mem → Option (Unit × Mem)) (hK : ∀  (ν : Mem), Go Γ 4 47 [(0, .ref 23), (1, .ref p1)] [] ν (K  ν)) : ∀ (n : Nat) (a2 : Int32) (μ0 : Mem), Go Γ 4 28 [(0, .ref 23), (1, .ref p1), (2, .int a2)] [] μ0 (lp_Layers_read_28 N p1 K n a2 μ0) := by
  intro n
  induction n with
  | zero => intro a2 μ0; exact go_none
  | succ n ih =>
    intro a2 μ0
    rw [lp_Layers_read_28]
    refine go_iload_n (q := 2) (i := 2) (pc := 28) hΓ d_Layers_read_28 rfl rfl ?_
    refine go_bipush (v := 60) (pc := 29) hΓ d_Layers_read_29 (by decide) ?_
    refine go_icmp_gt 47 (pc := 31) hΓ d_Layers_read_31 (by decide) (fun h7 => go_eq (if_pos h7) ?_) (fun h7 => go_eq (if_neg h7) ?_)
    · refine go_sub' (lv' := [(0, .ref 23), (1, .ref p1)]) rfl ?_
      exact hK  μ0
    · refine go_aload_n (q := 0) (i := 0) (pc := 34) hΓ d_Layers_read_34 rfl rfl ?_
      refine go_getR (q := 25) (pc := 35) hΓ fl_Layers_19 d_Layers_read_35 rfl rfl ?_
      refine go_iload_n (q := 2) (i := 2) (pc := 38) hΓ d_Layers_read_38 rfl rfl ?_
      refine go_iconst (v := 0) (pc := 39) hΓ d_Layers_read_39 (by decide) ?_
      refine go_ck (fun h8 => ?_)
      refine go_iast (pc := 40) hΓ d_Layers_read_40 rfl h8 ?_
      refine go_letM (fun μ9 => ?_)
      refine go_incI (q := 2) (i := 2) (n := 1) (c := 1) (pc := 41) hΓ d_Layers_read_41 rfl (by decide) (by decide) (fun v10 => ?_)
      refine go_sub' (lv' := [(2, .int v10), (0, .ref 23), (1, .ref p1)]) rfl ?_
      refine go_goto 28 (pc := 44) hΓ d_Layers_read_44 (by decide) ?_
      refine go_sub' (lv' := [(0, .ref 23), (1, .ref p1), (2, .int v10)]) rfl ?_
      exact ih v10 μ9
set_option maxHeartbeats 4000000 in
set_option maxRecDepth 100000 in
theorem glp_Layers_read_49 (N d : Nat) {Γ : Cx Unit} (hΓ : Ok Γ "SortingNets$Layers" c_Layers_read 4) (hT : Rt Γ eV none) (hR : Rm Γ (d + 0)) (p1 : Nat) (hp1 : isN p1)   (K : Mem → Option (Unit × Mem)) (hK : ∀  (ν : Mem), Go Γ 4 144 [] [] ν (K  ν)) : ∀ (n : Nat) (a2 : Int32) (μ0 : Mem), Go Γ 4 49 [(0, .ref 23), (1, .ref p1), (2, .int a2)] [] μ0 (lp_Layers_read_49 N p1 K n a2 μ0) := by
  intro n
  induction n with
  | zero => intro a2 μ0; exact go_none
  | succ n ih =>
    intro a2 μ0
    rw [lp_Layers_read_49]
    refine go_iload_n (q := 2) (i := 2) (pc := 49) hΓ d_Layers_read_49 rfl rfl ?_
    refine go_aload_n (q := 1) (i := 1) (pc := 50) hΓ d_Layers_read_50 rfl rfl ?_
    refine go_getI (pc := 51) hΓ fl_Layers_25 d_Layers_read_51 (isN_sh hp1).1 rfl ?_
    refine go_icmp_ge 144 (pc := 54) hΓ d_Layers_read_54 (by decide) (fun h12 => go_eq (if_neg h12) ?_) (fun h12 => go_eq (if_pos h12) ?_)
    · refine go_sub' (lv' := []) rfl ?_
      exact hK  μ0
    · refine go_aload_n (q := 0) (i := 0) (pc := 57) hΓ d_Layers_read_57 rfl rfl ?_
      refine go_getR (q := 26) (pc := 58) hΓ fl_Layers_22 d_Layers_read_58 rfl rfl ?_
      refine go_aload_n (q := 1) (i := 1) (pc := 61) hΓ d_Layers_read_61 rfl rfl ?_
      refine go_getR (q := p1 + 1) (pc := 62) hΓ fl_Layers_30 d_Layers_read_62 (isN_sh hp1).1 rfl ?_
      refine go_iload_n (q := 2) (i := 2) (pc := 65) hΓ d_Layers_read_65 rfl rfl ?_
      refine go_ck (fun h13 => ?_)
      refine go_iald (pc := 66) hΓ d_Layers_read_66 (isN_sh hp1).2.1 h13 ?_
      refine go_ck (fun h14 => ?_)
      refine go_iald (pc := 67) hΓ d_Layers_read_67 rfl h14 ?_
      refine go_aload_n (q := 0) (i := 0) (pc := 68) hΓ d_Layers_read_68 rfl rfl ?_
      refine go_getR (q := 26) (pc := 69) hΓ fl_Layers_22 d_Layers_read_69 rfl rfl ?_
      refine go_aload_n (q := 1) (i := 1) (pc := 72) hΓ d_Layers_read_72 rfl rfl ?_
      refine go_getR (q := p1 + 2) (pc := 73) hΓ fl_Layers_33 d_Layers_read_73 (isN_sh hp1).1 rfl ?_
      refine go_iload_n (q := 2) (i := 2) (pc := 76) hΓ d_Layers_read_76 rfl rfl ?_
      refine go_ck (fun h15 => ?_)
      refine go_iald (pc := 77) hΓ d_Layers_read_77 (isN_sh hp1).2.2 h15 ?_
      refine go_ck (fun h16 => ?_)
      refine go_iald (pc := 78) hΓ d_Layers_read_78 rfl h16 ?_
      refine go_max (index := 36) (pc := 79) hΓ hR ml_Layers_36 d_Layers_read_79 rfl ?_
      refine go_iconst (v := 1) (pc := 82) hΓ d_Layers_read_82 (by decide) ?_
      refine go_iadd (pc := 83) hΓ d_Layers_read_83 ?_
      refine go_letI (fun v17 => ?_)
      refine go_istore_n (i := 3) (lv' := [(3, .int v17), (0, .ref 23), (1, .ref p1), (2, .int a2)]) (pc := 84) hΓ d_Layers_read_84 rfl (by decide) rfl ?_
      refine go_aload_n (q := 1) (i := 0) (pc := 85) hΓ d_Layers_read_85 rfl rfl ?_
      refine go_getR (q := 26) (pc := 86) hΓ fl_Layers_22 d_Layers_read_86 rfl rfl ?_
      refine go_aload_n (q := 2) (i := 1) (pc := 89) hΓ d_Layers_read_89 rfl rfl ?_
      refine go_getR (q := p1 + 1) (pc := 90) hΓ fl_Layers_30 d_Layers_read_90 (isN_sh hp1).1 rfl ?_
      refine go_iload_n (q := 3) (i := 2) (pc := 93) hΓ d_Layers_read_93 rfl rfl ?_
      refine go_ck (fun h18 => ?_)
      refine go_iald (pc := 94) hΓ d_Layers_read_94 (isN_sh hp1).2.1 h18 ?_
      refine go_iload_n (q := 0) (i := 3) (pc := 95) hΓ d_Layers_read_95 rfl rfl ?_
      refine go_ck (fun h19 => ?_)
      refine go_iast (pc := 96) hΓ d_Layers_read_96 rfl h19 ?_
      refine go_letM (fun μ20 => ?_)
      refine go_aload_n (q := 1) (i := 0) (pc := 97) hΓ d_Layers_read_97 rfl rfl ?_
      refine go_getR (q := 26) (pc := 98) hΓ fl_Layers_22 d_Layers_read_98 rfl rfl ?_
      refine go_aload_n (q := 2) (i := 1) (pc := 101) hΓ d_Layers_read_101 rfl rfl ?_
      refine go_getR (q := p1 + 2) (pc := 102) hΓ fl_Layers_33 d_Layers_read_102 (isN_sh hp1).1 rfl ?_
      refine go_iload_n (q := 3) (i := 2) (pc := 105) hΓ d_Layers_read_105 rfl rfl ?_
      refine go_ck (fun h21 => ?_)
      refine go_iald (pc := 106) hΓ d_Layers_read_106 (isN_sh hp1).2.2 h21 ?_
      refine go_iload_n (q := 0) (i := 3) (pc := 107) hΓ d_Layers_read_107 rfl rfl ?_
      refine go_ck (fun h22 => ?_)
      refine go_iast (pc := 108) hΓ d_Layers_read_108 rfl h22 ?_
      refine go_letM (fun μ23 => ?_)
      refine go_aload_n (q := 1) (i := 0) (pc := 109) hΓ d_Layers_read_109 rfl rfl ?_
      refine go_getR (q := 24) (pc := 110) hΓ fl_Layers_9 d_Layers_read_110 rfl rfl ?_
      refine go_iload_n (q := 3) (i := 2) (pc := 113) hΓ d_Layers_read_113 rfl rfl ?_
      refine go_iload_n (q := 0) (i := 3) (pc := 114) hΓ d_Layers_read_114 rfl rfl ?_
      refine go_ck (fun h24 => ?_)
      refine go_iast (pc := 115) hΓ d_Layers_read_115 rfl h24 ?_
      refine go_letM (fun μ25 => ?_)
      refine go_aload_n (q := 1) (i := 0) (pc := 116) hΓ d_Layers_read_116 rfl rfl ?_
      refine go_getR (q := 25) (pc := 117) hΓ fl_Layers_19 d_Layers_read_117 rfl rfl ?_
      refine go_iload_n (q := 0) (i := 3) (pc := 120) hΓ d_Layers_read_120 rfl rfl ?_
      refine go_dup2 (pc := 121) hΓ d_Layers_read_121 rfl rfl ?_
      refine go_ck (fun h26 => ?_)
      refine go_iald (pc := 122) hΓ d_Layers_read_122 rfl h26 ?_
      refine go_iconst (v := 1) (pc := 123) hΓ d_Layers_read_123 (by decide) ?_
      refine go_iadd (pc := 124) hΓ d_Layers_read_124 ?_
      refine go_ck (fun h27 => ?_)
      refine go_iast (pc := 125) hΓ d_Layers_read_125 rfl h27 ?_
      refine go_letM (fun μ28 => ?_)
      refine go_aload_n (q := 1) (i := 0) (pc := 126) hΓ d_Layers_read_126 rfl rfl ?_
      refine go_aload_n (q := 1) (i := 0) (pc := 127) hΓ d_Layers_read_127 rfl rfl ?_
      refine go_getI (pc := 128) hΓ fl_Layers_15 d_Layers_read_128 rfl rfl ?_
      refine go_iload_n (q := 0) (i := 3) (pc := 131) hΓ d_Layers_read_131 rfl rfl ?_
      refine go_max (index := 36) (pc := 132) hΓ hR ml_Layers_36 d_Layers_read_132 rfl ?_
      refine go_putI (pc := 135) hΓ fp_Layers_15 d_Layers_read_135 rfl rfl ?_
      refine go_letM (fun μ29 => ?_)
      refine go_incI (q := 3) (i := 2) (n := 1) (c := 1) (pc := 138) hΓ d_Layers_read_138 rfl (by decide) (by decide) (fun v30 => ?_)
      refine go_sub' (lv' := [(2, .int v30), (3, .int v17), (0, .ref 23), (1, .ref p1)]) rfl ?_
      refine go_goto 49 (pc := 141) hΓ d_Layers_read_141 (by decide) ?_
      refine go_sub' (lv' := [(0, .ref 23), (1, .ref p1), (2, .int v30)]) rfl ?_
      exact ih v30 μ29
set_option maxHeartbeats 4000000 in
set_option maxRecDepth 100000 in
theorem g_Layers_read (N d : Nat) (p1 : Nat) (hp1 : isN p1)  : CallF eV y_Layers_read c_Layers_read 4 none (d + 0 + 1) [.ref 23, .ref p1] (f_Layers_read N p1) := by
  refine call_of (d := d + 0) (n := 1) mi_Layers_read.1 (fun _ => rfl) ?_
  intro Γ μ0 hΓ hT hR
  show Go Γ 4 0 [(0, .ref 23), (1, .ref p1)] [] μ0 (f_Layers_read N p1 μ0)
  unfold f_Layers_read
  refine go_aload_n (q := 0) (i := 0) (pc := 0) hΓ d_Layers_read_0 rfl rfl ?_
  refine go_iconst (v := 0) (pc := 1) hΓ d_Layers_read_1 (by decide) ?_
  refine go_putI (pc := 2) hΓ fp_Layers_15 d_Layers_read_2 rfl rfl ?_
  refine go_letM (fun μ1 => ?_)
  refine go_iconst (v := 0) (pc := 5) hΓ d_Layers_read_5 (by decide) ?_
  refine go_istore_n (i := 2) (lv' := [(2, .int 0), (0, .ref 23), (1, .ref p1)]) (pc := 6) hΓ d_Layers_read_6 rfl (by decide) rfl ?_
  refine go_sub' (lv' := [(0, .ref 23), (1, .ref p1), (2, .int 0)]) rfl ?_
  refine glp_Layers_read_7 N d hΓ hT hR p1 hp1 _ (fun μ6 => ?_) N 0 μ1
  refine go_iconst (v := 0) (pc := 26) hΓ d_Layers_read_26 (by decide) ?_
  refine go_istore_n (i := 2) (lv' := [(2, .int 0), (0, .ref 23), (1, .ref p1)]) (pc := 27) hΓ d_Layers_read_27 rfl (by decide) rfl ?_
  refine go_sub' (lv' := [(0, .ref 23), (1, .ref p1), (2, .int 0)]) rfl ?_
  refine glp_Layers_read_28 N d hΓ hT hR p1 hp1 _ (fun μ11 => ?_) N 0 μ6
  refine go_iconst (v := 0) (pc := 47) hΓ d_Layers_read_47 (by decide) ?_
  refine go_istore_n (i := 2) (lv' := [(2, .int 0), (0, .ref 23), (1, .ref p1)]) (pc := 48) hΓ d_Layers_read_48 rfl (by decide) rfl ?_
  refine go_sub' (lv' := [(0, .ref 23), (1, .ref p1), (2, .int 0)]) rfl ?_
  refine glp_Layers_read_49 N d hΓ hT hR p1 hp1 _ (fun μ31 => ?_) N 0 μ11
  exact go_vret (pc := 144) hΓ hT d_Layers_read_144

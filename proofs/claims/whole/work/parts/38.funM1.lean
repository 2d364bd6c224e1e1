def lp_M_isSorted_4 (N : Nat) (x0 : Int32) (x1 : Int32)  (K : Int32 → Mem → Option (Int32 × Mem)) : Nat → Int32 → Int32 → Mem → Option (Int32 × Mem)
  | 0, _, _, _ => none
  | n + 1, a2, a3, μ0 => if (a3 + 1) < x0 then (lt' (if a2 = 0 then (0 : Int32) else (if ((shrI x1 (a3 + 1)) &&& 1) < ((shrI x1 a3) &&& 1) then (0 : Int32) else (1 : Int32))) fun q4 => lt' (a3 + 1) fun v5 => lp_M_isSorted_4 N x0 x1 K n q4 v5 μ0) else (K a2 μ0)
def f_M_isSorted (N : Nat) (x0 : Int32) (x1 : Int32) (μ0 : Mem) : Option (Int32 × Mem) :=
  lp_M_isSorted_4 N x0 x1 (fun v7 μ8 => ck (isb v7) (some (v7, μ8))) N 1 0 μ0
set_option maxHeartbeats 4000000 in
set_option maxRecDepth 100000 in
theorem glp_M_isSorted_4 (N d : Nat) {Γ : Cx Int32} (hΓ : Ok Γ "SortingNetsModel" c_M_isSorted 4) (hT : Rt Γ eI (some .boolean)) (hR : Rm Γ (d + 0)) (x0 : Int32) (x1 : Int32)    (K : Int32 → Mem → Option (Int32 × Mem)) (hK : ∀ (b2 : Int32) (ν : Mem), Go Γ 4 42 [(2, .int b2)] [] ν (K b2 ν)) : ∀ (n : Nat) (a2 : Int32) (a3 : Int32) (μ0 : Mem), Go Γ 4 4 [(0, .int x0), (1, .int x1), (2, .int a2), (3, .int a3)] [] μ0 (lp_M_isSorted_4 N x0 x1 K n a2 a3 μ0) := by
  intro n
  induction n with
  | zero => intro a2 a3 μ0; exact go_none
  | succ n ih =>
    intro a2 a3 μ0
    rw [lp_M_isSorted_4]
    refine go_iload_n (q := 3) (i := 3) (pc := 4) hΓ d_M_isSorted_4 rfl rfl ?_
    refine go_iconst (v := 1) (pc := 5) hΓ d_M_isSorted_5 (by decide) ?_
    refine go_iadd (pc := 6) hΓ d_M_isSorted_6 ?_
    refine go_iload_n (q := 0) (i := 0) (pc := 7) hΓ d_M_isSorted_7 rfl rfl ?_
    refine go_icmp_ge 42 (pc := 8) hΓ d_M_isSorted_8 (by decide) (fun h1 => go_eq (if_neg h1) ?_) (fun h1 => go_eq (if_pos h1) ?_)
    · refine go_sub' (lv' := [(2, .int a2)]) rfl ?_
      exact hK a2 μ0
    · refine go_iload_n (q := 2) (i := 2) (pc := 11) hΓ d_M_isSorted_11 rfl rfl ?_
      refine go_mg (α := Int32) 35 (fun q4 => [(0, .int x0), (1, .int x1), (3, .int a3)]) (fun q4 => [.int q4]) (fun q4 => ?_) (fun g6 g6h => ?_)
      · refine go_istore_n (i := 2) (lv' := [(2, .int q4), (0, .int x0), (1, .int x1), (3, .int a3)]) (pc := 35) hΓ d_M_isSorted_35 rfl (by decide) rfl ?_
        refine go_incI (q := 3) (i := 3) (n := 1) (c := 1) (pc := 36) hΓ d_M_isSorted_36 rfl (by decide) (by decide) (fun v5 => ?_)
        refine go_sub' (lv' := [(3, .int v5), (2, .int q4), (0, .int x0), (1, .int x1)]) rfl ?_
        refine go_goto 4 (pc := 39) hΓ d_M_isSorted_39 (by decide) ?_
        refine go_sub' (lv' := [(0, .int x0), (1, .int x1), (2, .int q4), (3, .int v5)]) rfl ?_
        exact ih q4 v5 μ0
      · refine go_if_eq 34 (pc := 12) hΓ d_M_isSorted_12 (by decide) (fun h2 => ?_) (fun h2 => ?_)
        · rw [if_pos h2]
          refine go_iconst (v := 0) (pc := 34) hΓ d_M_isSorted_34 (by decide) ?_
          refine go_sub' (lv' := [(0, .int x0), (1, .int x1), (3, .int a3)]) rfl ?_
          exact g6h _
        · rw [if_neg h2]
          refine go_iload_n (q := 1) (i := 1) (pc := 15) hΓ d_M_isSorted_15 rfl rfl ?_
          refine go_iload_n (q := 3) (i := 3) (pc := 16) hΓ d_M_isSorted_16 rfl rfl ?_
          refine go_ishr (pc := 17) hΓ d_M_isSorted_17 ?_
          refine go_iconst (v := 1) (pc := 18) hΓ d_M_isSorted_18 (by decide) ?_
          refine go_iand (pc := 19) hΓ d_M_isSorted_19 ?_
          refine go_iload_n (q := 1) (i := 1) (pc := 20) hΓ d_M_isSorted_20 rfl rfl ?_
          refine go_iload_n (q := 3) (i := 3) (pc := 21) hΓ d_M_isSorted_21 rfl rfl ?_
          refine go_iconst (v := 1) (pc := 22) hΓ d_M_isSorted_22 (by decide) ?_
          refine go_iadd (pc := 23) hΓ d_M_isSorted_23 ?_
          refine go_ishr (pc := 24) hΓ d_M_isSorted_24 ?_
          refine go_iconst (v := 1) (pc := 25) hΓ d_M_isSorted_25 (by decide) ?_
          refine go_iand (pc := 26) hΓ d_M_isSorted_26 ?_
          refine go_icmp_gt 34 (pc := 27) hΓ d_M_isSorted_27 (by decide) (fun h3 => ?_) (fun h3 => ?_)
          · rw [if_pos h3]
            refine go_iconst (v := 0) (pc := 34) hΓ d_M_isSorted_34 (by decide) ?_
            refine go_sub' (lv' := [(0, .int x0), (1, .int x1), (3, .int a3)]) rfl ?_
            exact g6h _
          · rw [if_neg h3]
            refine go_iconst (v := 1) (pc := 30) hΓ d_M_isSorted_30 (by decide) ?_
            refine go_goto 35 (pc := 31) hΓ d_M_isSorted_31 (by decide) ?_
            refine go_sub' (lv' := [(0, .int x0), (1, .int x1), (3, .int a3)]) rfl ?_
            exact g6h _
set_option maxHeartbeats 4000000 in
set_option maxRecDepth 100000 in
theorem g_M_isSorted (N d : Nat) (x0 : Int32) (x1 : Int32)  : CallF eI y_M_isSorted c_M_isSorted 4 (some .boolean) (d + 0 + 1) [.int x0, .int x1] (f_M_isSorted N x0 x1) := by
  refine call_of (d := d + 0) (n := 2) mi_M_isSorted.1 (fun _ => rfl) ?_
  intro Γ μ0 hΓ hT hR
  show Go Γ 4 0 [(0, .int x0), (1, .int x1)] [] μ0 (f_M_isSorted N x0 x1 μ0)
  unfold f_M_isSorted
  refine go_iconst (v := 1) (pc := 0) hΓ d_M_isSorted_0 (by decide) ?_
  refine go_istore_n (i := 2) (lv' := [(2, .int 1), (0, .int x0), (1, .int x1)]) (pc := 1) hΓ d_M_isSorted_1 rfl (by decide) rfl ?_
  refine go_iconst (v := 0) (pc := 2) hΓ d_M_isSorted_2 (by decide) ?_
  refine go_istore_n (i := 3) (lv' := [(3, .int 0), (2, .int 1), (0, .int x0), (1, .int x1)]) (pc := 3) hΓ d_M_isSorted_3 rfl (by decide) rfl ?_
  refine go_sub' (lv' := [(0, .int x0), (1, .int x1), (2, .int 1), (3, .int 0)]) rfl ?_
  refine glp_M_isSorted_4 N d hΓ hT hR x0 x1 _ (fun v7 μ8 => ?_) N 1 0 μ0
  refine go_iload_n (q := 0) (i := 2) (pc := 42) hΓ d_M_isSorted_42 rfl rfl ?_
  refine go_ck (fun h9 => ?_)
  exact go_zret (pc := 43) hΓ hT d_M_isSorted_43 h9
def f_M_isWrong (N : Nat) (x1 : Int32) (x2 : Int32) (x3 : Int32) (x4 : Int32) (μ0 : Mem) : Option (Int32 × Mem) :=
  ck (inb x1 4) (bnd (f_M_result N x1 x2 x3 x4 μ0) fun r2 μ3 => bnd (f_M_isSorted N (gI μ0 46 (tn x1)) r2 μ3) fun r4 μ5 => if r4 = 0 then (some (1, μ5)) else (some (0, μ5)))
set_option maxHeartbeats 4000000 in
set_option maxRecDepth 100000 in
theorem g_M_isWrong (N d : Nat) (x1 : Int32) (x2 : Int32) (x3 : Int32) (x4 : Int32)  : CallF eI y_M_isWrong c_M_isWrong 5 (some .boolean) (d + 2 + 1) [.ref 44, .int x1, .int x2, .int x3, .int x4] (f_M_isWrong N x1 x2 x3 x4) := by
  refine call_of (d := d + 2) (n := 4) mi_M_isWrong.1 (fun _ => rfl) ?_
  intro Γ μ0 hΓ hT hR
  show Go Γ 5 0 [(0, .ref 44), (1, .int x1), (2, .int x2), (3, .int x3), (4, .int x4)] [] μ0 (f_M_isWrong N x1 x2 x3 x4 μ0)
  unfold f_M_isWrong
  refine go_aload_n (q := 0) (i := 0) (pc := 0) hΓ d_M_isWrong_0 rfl rfl ?_
  refine go_getR (q := 46) (pc := 1) hΓ fl_M_13 d_M_isWrong_1 rfl rfl ?_
  refine go_iload_n (q := 1) (i := 1) (pc := 4) hΓ d_M_isWrong_4 rfl rfl ?_
  refine go_ck (fun h1 => ?_)
  refine go_iald (pc := 5) hΓ d_M_isWrong_5 rfl h1 ?_
  refine go_aload_n (q := 0) (i := 0) (pc := 6) hΓ d_M_isWrong_6 rfl rfl ?_
  refine go_iload_n (q := 1) (i := 1) (pc := 7) hΓ d_M_isWrong_7 rfl rfl ?_
  refine go_iload_n (q := 2) (i := 2) (pc := 8) hΓ d_M_isWrong_8 rfl rfl ?_
  refine go_iload_n (q := 3) (i := 3) (pc := 9) hΓ d_M_isWrong_9 rfl rfl ?_
  refine go_iload (q := 4) (pc := 10) hΓ d_M_isWrong_10 rfl ?_
  refine go_callV (index := 228) emI hΓ hR (g_M_result N (d + 0) x1 x2 x3 x4) mi_M_result ml_M_228 d_M_isWrong_12 rfl rfl rfl rfl rfl (fun r2 μ3 => ?_)
  show Go Γ 5 15 [(0, .ref 44), (1, .int x1), (2, .int x2), (3, .int x3), (4, .int x4)] [.int r2, .int (gI μ0 46 (tn x1))] μ3 _
  refine go_callS (index := 232) emI hΓ hR (g_M_isSorted N (d + 1) (gI μ0 46 (tn x1)) r2) mi_M_isSorted ml_M_232 d_M_isWrong_15 rfl rfl rfl (fun r4 μ5 => ?_)
  show Go Γ 5 18 [(0, .ref 44), (1, .int x1), (2, .int x2), (3, .int x3), (4, .int x4)] [.int r4] μ5 _
  refine go_if_ne 25 (pc := 18) hΓ d_M_isWrong_18 (by decide) (fun h6 => go_eq (if_neg h6) ?_) (fun h6 => go_eq (if_pos h6) ?_)
  · refine go_iconst (v := 0) (pc := 25) hΓ d_M_isWrong_25 (by decide) ?_
    exact go_zret (pc := 26) hΓ hT d_M_isWrong_26 rfl
  · refine go_iconst (v := 1) (pc := 21) hΓ d_M_isWrong_21 (by decide) ?_
    refine go_goto 26 (pc := 22) hΓ d_M_isWrong_22 (by decide) ?_
    exact go_zret (pc := 26) hΓ hT d_M_isWrong_26 rfl
def lp_M_wrongs_17 (N : Nat) (x1 : Int32) (x2 : Int32) (x3 : Int32)  (K : Int32 → Mem → Option (Int32 × Mem)) : Nat → Int32 → Int32 → Mem → Option (Int32 × Mem)
  | 0, _, _, _ => none
  | n + 1, a4, a5, μ0 => if a5 < 0 then (K a4 μ0) else (bnd (f_M_isWrong N x1 a5 x2 x3 μ0) fun r6 μ7 => lt' (fun (w9 : Int32) (μ10 : Mem) => lt' (a5 + (-1)) fun v11 => lp_M_wrongs_17 N x1 x2 x3 K n w9 v11 μ10) fun (k8 : Int32 → Mem → Option (Int32 × Mem)) => if r6 = 0 then (k8 a4 μ7) else (lt' (sI μ7 44 22 a5) fun μ13 => lt' (a4 + 1) fun v14 => k8 v14 μ13))
def f_M_wrongs (N : Nat) (x1 : Int32) (x2 : Int32) (x3 : Int32) (μ0 : Mem) : Option (Int32 × Mem) :=
  lt' (sI μ0 44 22 (-1)) fun μ1 => bnd (f_M_all N x1 μ1) fun r2 μ3 => lt' (r2 - 1) fun v4 => lp_M_wrongs_17 N x1 x2 x3 (fun v15 μ16 => some (v15, μ16)) N 0 v4 μ3
set_option maxHeartbeats 4000000 in
set_option maxRecDepth 100000 in
theorem glp_M_wrongs_17 (N d : Nat) {Γ : Cx Int32} (hΓ : Ok Γ "SortingNetsModel" c_M_wrongs 6) (hT : Rt Γ eI (some .int)) (hR : Rm Γ (d + 3)) (x1 : Int32) (x2 : Int32) (x3 : Int32)    (K : Int32 → Mem → Option (Int32 × Mem)) (hK : ∀ (b4 : Int32) (ν : Mem), Go Γ 6 52 [(4, .int b4)] [] ν (K b4 ν)) : ∀ (n : Nat) (a4 : Int32) (a5 : Int32) (μ0 : Mem), Go Γ 6 17 [(0, .ref 44), (1, .int x1), (2, .int x2), (3, .int x3), (4, .int a4), (5, .int a5)] [] μ0 (lp_M_wrongs_17 N x1 x2 x3 K n a4 a5 μ0) := by
  intro n
  induction n with
  | zero => intro a4 a5 μ0; exact go_none
  | succ n ih =>
    intro a4 a5 μ0
    rw [lp_M_wrongs_17]
    refine go_iload (q := 5) (pc := 17) hΓ d_M_wrongs_17 rfl ?_
    refine go_if_lt 52 (pc := 19) hΓ d_M_wrongs_19 (by decide) (fun h5 => go_eq (if_pos h5) ?_) (fun h5 => go_eq (if_neg h5) ?_)
    · refine go_sub' (lv' := [(4, .int a4)]) rfl ?_
      exact hK a4 μ0
    · refine go_aload_n (q := 0) (i := 0) (pc := 22) hΓ d_M_wrongs_22 rfl rfl ?_
      refine go_iload_n (q := 1) (i := 1) (pc := 23) hΓ d_M_wrongs_23 rfl rfl ?_
      refine go_iload (q := 5) (pc := 24) hΓ d_M_wrongs_24 rfl ?_
      refine go_iload_n (q := 2) (i := 2) (pc := 26) hΓ d_M_wrongs_26 rfl rfl ?_
      refine go_iload_n (q := 3) (i := 3) (pc := 27) hΓ d_M_wrongs_27 rfl rfl ?_
      refine go_callV (index := 238) emI hΓ hR (g_M_isWrong N (d + 0) x1 a5 x2 x3) mi_M_isWrong ml_M_238 d_M_wrongs_28 rfl rfl rfl rfl rfl (fun r6 μ7 => ?_)
      show Go Γ 6 31 [(0, .ref 44), (1, .int x1), (2, .int x2), (3, .int x3), (4, .int a4), (5, .int a5)] [.int r6] μ7 _
      refine go_join (fun (k8 : Int32 → Mem → Option (Int32 × Mem)) => ∀ (w9 : Int32) (μ10 : Mem), Go Γ 6 46 [(0, .ref 44), (1, .int x1), (2, .int x2), (3, .int x3), (4, .int w9), (5, .int a5)] [] μ10 (k8 w9 μ10)) ?_ (fun k8 k8h => ?_)
      · intro w9 μ10
        refine go_incI (q := 5) (i := 5) (n := -1) (c := -1) (pc := 46) hΓ d_M_wrongs_46 rfl (by decide) (by decide) (fun v11 => ?_)
        refine go_sub' (lv' := [(5, .int v11), (0, .ref 44), (1, .int x1), (2, .int x2), (3, .int x3), (4, .int w9)]) rfl ?_
        refine go_goto 17 (pc := 49) hΓ d_M_wrongs_49 (by decide) ?_
        refine go_sub' (lv' := [(0, .ref 44), (1, .int x1), (2, .int x2), (3, .int x3), (4, .int w9), (5, .int v11)]) rfl ?_
        exact ih w9 v11 μ10
      · refine go_if_ne 37 (pc := 31) hΓ d_M_wrongs_31 (by decide) (fun h12 => go_eq (if_neg h12) ?_) (fun h12 => go_eq (if_pos h12) ?_)
        · refine go_aload_n (q := 0) (i := 0) (pc := 37) hΓ d_M_wrongs_37 rfl rfl ?_
          refine go_iload (q := 5) (pc := 38) hΓ d_M_wrongs_38 rfl ?_
          refine go_putI (pc := 40) hΓ fp_M_235 d_M_wrongs_40 rfl rfl ?_
          refine go_letM (fun μ13 => ?_)
          refine go_incI (q := 4) (i := 4) (n := 1) (c := 1) (pc := 43) hΓ d_M_wrongs_43 rfl (by decide) (by decide) (fun v14 => ?_)
          refine go_sub' (lv' := [(4, .int v14), (0, .ref 44), (1, .int x1), (2, .int x2), (3, .int x3), (5, .int a5)]) rfl ?_
          refine go_sub' (lv' := [(0, .ref 44), (1, .int x1), (2, .int x2), (3, .int x3), (4, .int v14), (5, .int a5)]) rfl ?_
          exact k8h v14 μ13
        · refine go_goto 46 (pc := 34) hΓ d_M_wrongs_34 (by decide) ?_
          refine go_sub' (lv' := [(0, .ref 44), (1, .int x1), (2, .int x2), (3, .int x3), (4, .int a4), (5, .int a5)]) rfl ?_
          exact k8h a4 μ7
set_option maxHeartbeats 4000000 in
set_option maxRecDepth 100000 in
theorem g_M_wrongs (N d : Nat) (x1 : Int32) (x2 : Int32) (x3 : Int32)  : CallF eI y_M_wrongs c_M_wrongs 6 (some .int) (d + 3 + 1) [.ref 44, .int x1, .int x2, .int x3] (f_M_wrongs N x1 x2 x3) := by
  refine call_of (d := d + 3) (n := 3) mi_M_wrongs.1 (fun _ => rfl) ?_
  intro Γ μ0 hΓ hT hR
  show Go Γ 6 0 [(0, .ref 44), (1, .int x1), (2, .int x2), (3, .int x3)] [] μ0 (f_M_wrongs N x1 x2 x3 μ0)
  unfold f_M_wrongs
  refine go_iconst (v := 0) (pc := 0) hΓ d_M_wrongs_0 (by decide) ?_
  refine go_istore (lv' := [(4, .int 0), (0, .ref 44), (1, .int x1), (2, .int x2), (3, .int x3)]) (pc := 1) hΓ d_M_wrongs_1 (by decide) rfl ?_
  refine go_aload_n (q := 1) (i := 0) (pc := 3) hΓ d_M_wrongs_3 rfl rfl ?_
  refine go_iconst (v := -1) (pc := 4) hΓ d_M_wrongs_4 (by decide) ?_
  refine go_putI (pc := 5) hΓ fp_M_235 d_M_wrongs_5 rfl rfl ?_
  refine go_letM (fun μ1 => ?_)
  refine go_aload_n (q := 1) (i := 0) (pc := 8) hΓ d_M_wrongs_8 rfl rfl ?_
  refine go_iload_n (q := 2) (i := 1) (pc := 9) hΓ d_M_wrongs_9 rfl rfl ?_
  refine go_callV (index := 86) emI hΓ hR (g_M_all N (d + 2) x1) mi_M_all ml_M_86 d_M_wrongs_10 rfl rfl rfl rfl rfl (fun r2 μ3 => ?_)
  show Go Γ 6 13 [(4, .int 0), (0, .ref 44), (1, .int x1), (2, .int x2), (3, .int x3)] [.int r2] μ3 _
  refine go_iconst (v := 1) (pc := 13) hΓ d_M_wrongs_13 (by decide) ?_
  refine go_isub (pc := 14) hΓ d_M_wrongs_14 ?_
  refine go_letI (fun v4 => ?_)
  refine go_istore (lv' := [(5, .int v4), (4, .int 0), (0, .ref 44), (1, .int x1), (2, .int x2), (3, .int x3)]) (pc := 15) hΓ d_M_wrongs_15 (by decide) rfl ?_
  refine go_sub' (lv' := [(0, .ref 44), (1, .int x1), (2, .int x2), (3, .int x3), (4, .int 0), (5, .int v4)]) rfl ?_
  refine glp_M_wrongs_17 N d hΓ hT hR x1 x2 x3 _ (fun v15 μ16 => ?_) N 0 v4 μ3
  refine go_iload (q := 0) (pc := 52) hΓ d_M_wrongs_52 rfl ?_
  exact go_iret (pc := 54) hΓ hT d_M_wrongs_54
def lp_M_draws_55 (N : Nat) (x1 : Int32) (x2 : Int32) (x3 : Int32)  (K : Mem → Option (Int32 × Mem)) : Nat → Int32 → Mem → Option (Int32 × Mem)
  | 0, _, _ => none
  | n + 1, a5, μ0 => if a5 < x3 then (bnd (f_M_draw N x2 μ0) fun r15 μ16 => bnd (f_M_draw N (x2 - 1) μ16) fun r17 μ18 => lt' (if r17 < r15 then (0 : Int32) else (1 : Int32)) fun q20 => bnd (f_M_flag N q20 μ18) fun r21 μ22 => lt' (r17 + r21) fun v23 => bnd (f_M_comes3 N x1 (mnI r15 v23) (mxI r15 v23) μ22) fun _ μ25 => lt' (a5 + 1) fun v26 => lp_M_draws_55 N x1 x2 x3 K n v26 μ25) else (K  μ0)
def f_M_draws (N : Nat) (x1 : Int32) (x2 : Int32) (x3 : Int32) (x4 : Int32) (μ0 : Mem) : Option (Int32 × Mem) :=
  lt' (sI μ0 44 0 0) fun μ1 => bnd (f_M_isNet N x1 μ1) fun r2 μ3 => if r2 = 0 then (some ((-1), μ3)) else (bnd (f_M_in N (Int32.toInt64 x2) 2 8 μ3) fun r5 μ6 => if r5 = 0 then (some ((-1), μ6)) else (bnd (f_M_in N (Int32.toInt64 x3) 0 60 μ6) fun r8 μ9 => if r8 = 0 then (some ((-1), μ9)) else (bnd (f_M_begins N x1 x2 μ9) fun _ μ12 => lt' (sI μ12 44 17 x4) fun μ13 => lp_M_draws_55 N x1 x2 x3 (fun μ28 => bnd (f_M_wrongs N x1 (-1) 0 μ28) fun r29 μ30 => some (r29, μ30)) N 0 μ13)))
set_option maxHeartbeats 4000000 in
set_option maxRecDepth 100000 in
theorem glp_M_draws_55 (N d : Nat) {Γ : Cx Int32} (hΓ : Ok Γ "SortingNetsModel" c_M_draws 8) (hT : Rt Γ eI (some .int)) (hR : Rm Γ (d + 4)) (x1 : Int32) (x2 : Int32) (x3 : Int32)    (K : Mem → Option (Int32 × Mem)) (hK : ∀  (ν : Mem), Go Γ 8 122 [(0, .ref 44), (1, .int x1)] [] ν (K  ν)) : ∀ (n : Nat) (a5 : Int32) (μ0 : Mem), Go Γ 8 55 [(0, .ref 44), (1, .int x1), (2, .int x2), (3, .int x3), (5, .int a5)] [] μ0 (lp_M_draws_55 N x1 x2 x3 K n a5 μ0) := by
  intro n
  induction n with
  | zero => intro a5 μ0; exact go_none
  | succ n ih =>
    intro a5 μ0
    rw [lp_M_draws_55]
    refine go_iload (q := 4) (pc := 55) hΓ d_M_draws_55 rfl ?_
    refine go_iload_n (q := 3) (i := 3) (pc := 57) hΓ d_M_draws_57 rfl rfl ?_
    refine go_icmp_ge 122 (pc := 58) hΓ d_M_draws_58 (by decide) (fun h14 => go_eq (if_neg h14) ?_) (fun h14 => go_eq (if_pos h14) ?_)
    · refine go_sub' (lv' := [(0, .ref 44), (1, .int x1)]) rfl ?_
      exact hK  μ0
    · refine go_aload_n (q := 0) (i := 0) (pc := 61) hΓ d_M_draws_61 rfl rfl ?_
      refine go_iload_n (q := 2) (i := 2) (pc := 62) hΓ d_M_draws_62 rfl rfl ?_
      refine go_callV (index := 185) emI hΓ hR (g_M_draw N (d + 3) x2) mi_M_draw ml_M_185 d_M_draws_63 rfl rfl rfl rfl rfl (fun r15 μ16 => ?_)
      show Go Γ 8 66 [(0, .ref 44), (1, .int x1), (2, .int x2), (3, .int x3), (5, .int a5)] [.int r15] μ16 _
      refine go_istore (lv' := [(6, .int r15), (0, .ref 44), (1, .int x1), (2, .int x2), (3, .int x3), (5, .int a5)]) (pc := 66) hΓ d_M_draws_66 (by decide) rfl ?_
      refine go_aload_n (q := 1) (i := 0) (pc := 68) hΓ d_M_draws_68 rfl rfl ?_
      refine go_iload_n (q := 3) (i := 2) (pc := 69) hΓ d_M_draws_69 rfl rfl ?_
      refine go_iconst (v := 1) (pc := 70) hΓ d_M_draws_70 (by decide) ?_
      refine go_isub (pc := 71) hΓ d_M_draws_71 ?_
      refine go_callV (index := 185) emI hΓ hR (g_M_draw N (d + 3) (x2 - 1)) mi_M_draw ml_M_185 d_M_draws_72 rfl rfl rfl rfl rfl (fun r17 μ18 => ?_)
      show Go Γ 8 75 [(6, .int r15), (0, .ref 44), (1, .int x1), (2, .int x2), (3, .int x3), (5, .int a5)] [.int r17] μ18 _
      refine go_istore (lv' := [(7, .int r17), (6, .int r15), (0, .ref 44), (1, .int x1), (2, .int x2), (3, .int x3), (5, .int a5)]) (pc := 75) hΓ d_M_draws_75 (by decide) rfl ?_
      refine go_iload (q := 0) (pc := 77) hΓ d_M_draws_77 rfl ?_
      refine go_iload (q := 0) (pc := 79) hΓ d_M_draws_79 rfl ?_
      refine go_iload (q := 1) (pc := 81) hΓ d_M_draws_81 rfl ?_
      refine go_mg (α := Int32) 91 (fun q20 => [(0, .ref 44), (1, .int x1), (2, .int x2), (3, .int x3), (5, .int a5), (6, .int r15)]) (fun q20 => [.int q20, .int r17]) (fun q20 => ?_) (fun g27 g27h => ?_)
      · refine go_callS (index := 188) emI hΓ hR (g_M_flag N (d + 3) q20) mi_M_flag ml_M_188 d_M_draws_91 rfl rfl rfl (fun r21 μ22 => ?_)
        show Go Γ 8 94 [(0, .ref 44), (1, .int x1), (2, .int x2), (3, .int x3), (5, .int a5), (6, .int r15)] [.int r21, .int r17] μ22 _
        refine go_iadd (pc := 94) hΓ d_M_draws_94 ?_
        refine go_letI (fun v23 => ?_)
        refine go_istore (lv' := [(7, .int v23), (0, .ref 44), (1, .int x1), (2, .int x2), (3, .int x3), (5, .int a5), (6, .int r15)]) (pc := 95) hΓ d_M_draws_95 (by decide) rfl ?_
        refine go_aload_n (q := 1) (i := 0) (pc := 97) hΓ d_M_draws_97 rfl rfl ?_
        refine go_iload_n (q := 2) (i := 1) (pc := 98) hΓ d_M_draws_98 rfl rfl ?_
        refine go_iload (q := 6) (pc := 99) hΓ d_M_draws_99 rfl ?_
        refine go_iload (q := 0) (pc := 101) hΓ d_M_draws_101 rfl ?_
        refine go_min (index := 132) (pc := 103) hΓ hR ml_M_132 d_M_draws_103 rfl ?_
        refine go_iload (q := 6) (pc := 106) hΓ d_M_draws_106 rfl ?_
        refine go_iload (q := 0) (pc := 108) hΓ d_M_draws_108 rfl ?_
        refine go_max (index := 138) (pc := 110) hΓ hR ml_M_138 d_M_draws_110 rfl ?_
        refine go_callV (index := 141) emV hΓ hR (g_M_comes3 N (d + 2) x1 (mnI r15 v23) (mxI r15 v23)) mi_M_comes3 ml_M_141 d_M_draws_113 rfl rfl rfl rfl rfl (fun _ μ25 => ?_)
        show Go Γ 8 116 [(7, .int v23), (0, .ref 44), (1, .int x1), (2, .int x2), (3, .int x3), (5, .int a5), (6, .int r15)] [] μ25 _
        refine go_incI (q := 5) (i := 5) (n := 1) (c := 1) (pc := 116) hΓ d_M_draws_116 rfl (by decide) (by decide) (fun v26 => ?_)
        refine go_sub' (lv' := [(5, .int v26), (7, .int v23), (0, .ref 44), (1, .int x1), (2, .int x2), (3, .int x3), (6, .int r15)]) rfl ?_
        refine go_goto 55 (pc := 119) hΓ d_M_draws_119 (by decide) ?_
        refine go_sub' (lv' := [(0, .ref 44), (1, .int x1), (2, .int x2), (3, .int x3), (5, .int v26)]) rfl ?_
        exact ih v26 μ25
      · refine go_icmp_lt 90 (pc := 83) hΓ d_M_draws_83 (by decide) (fun h19 => ?_) (fun h19 => ?_)
        · rw [if_pos h19]
          refine go_iconst (v := 0) (pc := 90) hΓ d_M_draws_90 (by decide) ?_
          refine go_sub' (lv' := [(0, .ref 44), (1, .int x1), (2, .int x2), (3, .int x3), (5, .int a5), (6, .int r15)]) rfl ?_
          exact g27h _
        · rw [if_neg h19]
          refine go_iconst (v := 1) (pc := 86) hΓ d_M_draws_86 (by decide) ?_
          refine go_goto 91 (pc := 87) hΓ d_M_draws_87 (by decide) ?_
          refine go_sub' (lv' := [(0, .ref 44), (1, .int x1), (2, .int x2), (3, .int x3), (5, .int a5), (6, .int r15)]) rfl ?_
          exact g27h _
set_option maxHeartbeats 4000000 in
set_option maxRecDepth 100000 in
theorem g_M_draws (N d : Nat) (x1 : Int32) (x2 : Int32) (x3 : Int32) (x4 : Int32)  : CallF eI y_M_draws c_M_draws 8 (some .int) (d + 4 + 1) [.ref 44, .int x1, .int x2, .int x3, .int x4] (f_M_draws N x1 x2 x3 x4) := by
  refine call_of (d := d + 4) (n := 4) mi_M_draws.1 (fun _ => rfl) ?_
  intro Γ μ0 hΓ hT hR
  show Go Γ 8 0 [(0, .ref 44), (1, .int x1), (2, .int x2), (3, .int x3), (4, .int x4)] [] μ0 (f_M_draws N x1 x2 x3 x4 μ0)
  unfold f_M_draws
  refine go_aload_n (q := 0) (i := 0) (pc := 0) hΓ d_M_draws_0 rfl rfl ?_
  refine go_iconst (v := 0) (pc := 1) hΓ d_M_draws_1 (by decide) ?_
  refine go_putI (pc := 2) hΓ fp_M_69 d_M_draws_2 rfl rfl ?_
  refine go_letM (fun μ1 => ?_)
  refine go_iload_n (q := 1) (i := 1) (pc := 5) hΓ d_M_draws_5 rfl rfl ?_
  refine go_callS (index := 151) emI hΓ hR (g_M_isNet N (d + 2) x1) mi_M_isNet ml_M_151 d_M_draws_6 rfl rfl rfl (fun r2 μ3 => ?_)
  show Go Γ 8 9 [(0, .ref 44), (1, .int x1), (2, .int x2), (3, .int x3), (4, .int x4)] [.int r2] μ3 _
  refine go_if_eq 38 (pc := 9) hΓ d_M_draws_9 (by decide) (fun h4 => go_eq (if_pos h4) ?_) (fun h4 => go_eq (if_neg h4) ?_)
  · refine go_iconst (v := -1) (pc := 38) hΓ d_M_draws_38 (by decide) ?_
    exact go_iret (pc := 39) hΓ hT d_M_draws_39
  · refine go_iload_n (q := 2) (i := 2) (pc := 12) hΓ d_M_draws_12 rfl rfl ?_
    refine go_i2l (pc := 13) hΓ d_M_draws_13 ?_
    refine go_ldc2 (v := 2) (pc := 14) hΓ (tb_5 (List.mem_of_getElem? (i := 14) rfl) rfl) d_M_draws_14 ?_
    refine go_ldc2 (v := 8) (pc := 17) hΓ (tb_5 (List.mem_of_getElem? (i := 15) rfl) rfl) d_M_draws_17 ?_
    refine go_callS (index := 82) emI hΓ hR (g_M_in N (d + 3) (Int32.toInt64 x2) 2 8) mi_M_in ml_M_82 d_M_draws_20 rfl rfl rfl (fun r5 μ6 => ?_)
    show Go Γ 8 23 [(0, .ref 44), (1, .int x1), (2, .int x2), (3, .int x3), (4, .int x4)] [.int r5] μ6 _
    refine go_if_eq 38 (pc := 23) hΓ d_M_draws_23 (by decide) (fun h7 => go_eq (if_pos h7) ?_) (fun h7 => go_eq (if_neg h7) ?_)
    · refine go_iconst (v := -1) (pc := 38) hΓ d_M_draws_38 (by decide) ?_
      exact go_iret (pc := 39) hΓ hT d_M_draws_39
    · refine go_iload_n (q := 3) (i := 3) (pc := 26) hΓ d_M_draws_26 rfl rfl ?_
      refine go_i2l (pc := 27) hΓ d_M_draws_27 ?_
      refine go_lconst (v := 0) (pc := 28) hΓ d_M_draws_28 (by decide) ?_
      refine go_ldc2 (v := 60) (pc := 29) hΓ (tb_5 (List.mem_of_getElem? (i := 41) rfl) rfl) d_M_draws_29 ?_
      refine go_callS (index := 82) emI hΓ hR (g_M_in N (d + 3) (Int32.toInt64 x3) 0 60) mi_M_in ml_M_82 d_M_draws_32 rfl rfl rfl (fun r8 μ9 => ?_)
      show Go Γ 8 35 [(0, .ref 44), (1, .int x1), (2, .int x2), (3, .int x3), (4, .int x4)] [.int r8] μ9 _
      refine go_if_ne 40 (pc := 35) hΓ d_M_draws_35 (by decide) (fun h10 => go_eq (if_neg h10) ?_) (fun h10 => go_eq (if_pos h10) ?_)
      · refine go_aload_n (q := 0) (i := 0) (pc := 40) hΓ d_M_draws_40 rfl rfl ?_
        refine go_iload_n (q := 1) (i := 1) (pc := 41) hΓ d_M_draws_41 rfl rfl ?_
        refine go_iload_n (q := 2) (i := 2) (pc := 42) hΓ d_M_draws_42 rfl rfl ?_
        refine go_callV (index := 128) emV hΓ hR (g_M_begins N (d + 3) x1 x2) mi_M_begins ml_M_128 d_M_draws_43 rfl rfl rfl rfl rfl (fun _ μ12 => ?_)
        show Go Γ 8 46 [(0, .ref 44), (1, .int x1), (2, .int x2), (3, .int x3), (4, .int x4)] [] μ12 _
        refine go_aload_n (q := 0) (i := 0) (pc := 46) hΓ d_M_draws_46 rfl rfl ?_
        refine go_iload (q := 4) (pc := 47) hΓ d_M_draws_47 rfl ?_
        refine go_putI (pc := 49) hΓ fp_M_179 d_M_draws_49 rfl rfl ?_
        refine go_letM (fun μ13 => ?_)
        refine go_iconst (v := 0) (pc := 52) hΓ d_M_draws_52 (by decide) ?_
        refine go_istore (lv' := [(5, .int 0), (0, .ref 44), (1, .int x1), (2, .int x2), (3, .int x3), (4, .int x4)]) (pc := 53) hΓ d_M_draws_53 (by decide) rfl ?_
        refine go_sub' (lv' := [(0, .ref 44), (1, .int x1), (2, .int x2), (3, .int x3), (5, .int 0)]) rfl ?_
        refine glp_M_draws_55 N d hΓ hT hR x1 x2 x3 _ (fun μ28 => ?_) N 0 μ13
        refine go_aload_n (q := 0) (i := 0) (pc := 122) hΓ d_M_draws_122 rfl rfl ?_
        refine go_iload_n (q := 1) (i := 1) (pc := 123) hΓ d_M_draws_123 rfl rfl ?_
        refine go_iconst (v := -1) (pc := 124) hΓ d_M_draws_124 (by decide) ?_
        refine go_iconst (v := 0) (pc := 125) hΓ d_M_draws_125 (by decide) ?_
        refine go_callV (index := 192) emI hΓ hR (g_M_wrongs N (d + 0) x1 (-1) 0) mi_M_wrongs ml_M_192 d_M_draws_126 rfl rfl rfl rfl rfl (fun r29 μ30 => ?_)
        show Go Γ 8 129 [(0, .ref 44), (1, .int x1)] [.int r29] μ30 _
        exact go_iret (pc := 129) hΓ hT d_M_draws_129
      · refine go_iconst (v := -1) (pc := 38) hΓ d_M_draws_38 (by decide) ?_
        exact go_iret (pc := 39) hΓ hT d_M_draws_39
def f_M_isWire (N : Nat) (x1 : Int32) (x2 : Int32) (μ0 : Mem) : Option (Int32 × Mem) :=
  ck (inb x1 4) (bnd (f_M_in N (Int32.toInt64 x2) 0 (Int32.toInt64 ((gI μ0 46 (tn x1)) - 1)) μ0) fun r2 μ3 => ck (isb r2) (some (r2, μ3)))
set_option maxHeartbeats 4000000 in
set_option maxRecDepth 100000 in
theorem g_M_isWire (N d : Nat) (x1 : Int32) (x2 : Int32)  : CallF eI y_M_isWire c_M_isWire 3 (some .boolean) (d + 1 + 1) [.ref 44, .int x1, .int x2] (f_M_isWire N x1 x2) := by
  refine call_of (d := d + 1) (n := 2) mi_M_isWire.1 (fun _ => rfl) ?_
  intro Γ μ0 hΓ hT hR
  show Go Γ 3 0 [(0, .ref 44), (1, .int x1), (2, .int x2)] [] μ0 (f_M_isWire N x1 x2 μ0)
  unfold f_M_isWire
  refine go_iload_n (q := 2) (i := 2) (pc := 0) hΓ d_M_isWire_0 rfl rfl ?_
  refine go_i2l (pc := 1) hΓ d_M_isWire_1 ?_
  refine go_lconst (v := 0) (pc := 2) hΓ d_M_isWire_2 (by decide) ?_
  refine go_aload_n (q := 0) (i := 0) (pc := 3) hΓ d_M_isWire_3 rfl rfl ?_
  refine go_getR (q := 46) (pc := 4) hΓ fl_M_13 d_M_isWire_4 rfl rfl ?_
  refine go_iload_n (q := 1) (i := 1) (pc := 7) hΓ d_M_isWire_7 rfl rfl ?_
  refine go_ck (fun h1 => ?_)
  refine go_iald (pc := 8) hΓ d_M_isWire_8 rfl h1 ?_
  refine go_iconst (v := 1) (pc := 9) hΓ d_M_isWire_9 (by decide) ?_
  refine go_isub (pc := 10) hΓ d_M_isWire_10 ?_
  refine go_i2l (pc := 11) hΓ d_M_isWire_11 ?_
  refine go_callS (index := 82) emI hΓ hR (g_M_in N (d + 0) (Int32.toInt64 x2) 0 (Int32.toInt64 ((gI μ0 46 (tn x1)) - 1))) mi_M_in ml_M_82 d_M_isWire_12 rfl rfl rfl (fun r2 μ3 => ?_)
  show Go Γ 3 15 [(0, .ref 44), (1, .int x1), (2, .int x2)] [.int r2] μ3 _
  refine go_ck (fun h4 => ?_)
  exact go_zret (pc := 15) hΓ hT d_M_isWire_15 h4
def f_M_adds (N : Nat) (x1 : Int32) (x2 : Int32) (x3 : Int32) (μ0 : Mem) : Option (Int32 × Mem) :=
  lt' (sI μ0 44 0 0) fun μ1 => bnd (f_M_isNet N x1 μ1) fun r2 μ3 => if r2 = 0 then (some ((-1), μ3)) else (bnd (f_M_isWire N x1 x2 μ3) fun r5 μ6 => if r5 = 0 then (some ((-1), μ6)) else (bnd (f_M_isWire N x1 x3 μ6) fun r8 μ9 => if r8 = 0 then (some ((-1), μ9)) else (if x2 < x3 then (ck (inb x1 4) (if (gI μ9 47 (tn x1)) = 60 then (some ((-1), μ9)) else (bnd (f_M_comes3 N x1 x2 x3 μ9) fun _ μ15 => ck (inb x1 4) (some (gI μ15 47 (tn x1), μ15))))) else (some ((-1), μ9)))))
set_option maxHeartbeats 4000000 in
set_option maxRecDepth 100000 in
theorem g_M_adds (N d : Nat) (x1 : Int32) (x2 : Int32) (x3 : Int32)  : CallF eI y_M_adds c_M_adds 4 (some .int) (d + 2 + 1) [.ref 44, .int x1, .int x2, .int x3] (f_M_adds N x1 x2 x3) := by
  refine call_of (d := d + 2) (n := 3) mi_M_adds.1 (fun _ => rfl) ?_
  intro Γ μ0 hΓ hT hR
  show Go Γ 4 0 [(0, .ref 44), (1, .int x1), (2, .int x2), (3, .int x3)] [] μ0 (f_M_adds N x1 x2 x3 μ0)
  unfold f_M_adds
  refine go_aload_n (q := 0) (i := 0) (pc := 0) hΓ d_M_adds_0 rfl rfl ?_
  refine go_iconst (v := 0) (pc := 1) hΓ d_M_adds_1 (by decide) ?_
  refine go_putI (pc := 2) hΓ fp_M_69 d_M_adds_2 rfl rfl ?_
  refine go_letM (fun μ1 => ?_)
  refine go_iload_n (q := 1) (i := 1) (pc := 5) hΓ d_M_adds_5 rfl rfl ?_
  refine go_callS (index := 151) emI hΓ hR (g_M_isNet N (d + 0) x1) mi_M_isNet ml_M_151 d_M_adds_6 rfl rfl rfl (fun r2 μ3 => ?_)
  show Go Γ 4 9 [(0, .ref 44), (1, .int x1), (2, .int x2), (3, .int x3)] [.int r2] μ3 _
  refine go_if_eq 46 (pc := 9) hΓ d_M_adds_9 (by decide) (fun h4 => go_eq (if_pos h4) ?_) (fun h4 => go_eq (if_neg h4) ?_)
  · refine go_iconst (v := -1) (pc := 46) hΓ d_M_adds_46 (by decide) ?_
    exact go_iret (pc := 47) hΓ hT d_M_adds_47
  · refine go_aload_n (q := 0) (i := 0) (pc := 12) hΓ d_M_adds_12 rfl rfl ?_
    refine go_iload_n (q := 1) (i := 1) (pc := 13) hΓ d_M_adds_13 rfl rfl ?_
    refine go_iload_n (q := 2) (i := 2) (pc := 14) hΓ d_M_adds_14 rfl rfl ?_
    refine go_callV (index := 196) emI hΓ hR (g_M_isWire N (d + 0) x1 x2) mi_M_isWire ml_M_196 d_M_adds_15 rfl rfl rfl rfl rfl (fun r5 μ6 => ?_)
    show Go Γ 4 18 [(0, .ref 44), (1, .int x1), (2, .int x2), (3, .int x3)] [.int r5] μ6 _
    refine go_if_eq 46 (pc := 18) hΓ d_M_adds_18 (by decide) (fun h7 => go_eq (if_pos h7) ?_) (fun h7 => go_eq (if_neg h7) ?_)
    · refine go_iconst (v := -1) (pc := 46) hΓ d_M_adds_46 (by decide) ?_
      exact go_iret (pc := 47) hΓ hT d_M_adds_47
    · refine go_aload_n (q := 0) (i := 0) (pc := 21) hΓ d_M_adds_21 rfl rfl ?_
      refine go_iload_n (q := 1) (i := 1) (pc := 22) hΓ d_M_adds_22 rfl rfl ?_
      refine go_iload_n (q := 3) (i := 3) (pc := 23) hΓ d_M_adds_23 rfl rfl ?_
      refine go_callV (index := 196) emI hΓ hR (g_M_isWire N (d + 0) x1 x3) mi_M_isWire ml_M_196 d_M_adds_24 rfl rfl rfl rfl rfl (fun r8 μ9 => ?_)
      show Go Γ 4 27 [(0, .ref 44), (1, .int x1), (2, .int x2), (3, .int x3)] [.int r8] μ9 _
      refine go_if_eq 46 (pc := 27) hΓ d_M_adds_27 (by decide) (fun h10 => go_eq (if_pos h10) ?_) (fun h10 => go_eq (if_neg h10) ?_)
      · refine go_iconst (v := -1) (pc := 46) hΓ d_M_adds_46 (by decide) ?_
        exact go_iret (pc := 47) hΓ hT d_M_adds_47
      · refine go_iload_n (q := 2) (i := 2) (pc := 30) hΓ d_M_adds_30 rfl rfl ?_
        refine go_iload_n (q := 3) (i := 3) (pc := 31) hΓ d_M_adds_31 rfl rfl ?_
        refine go_icmp_ge 46 (pc := 32) hΓ d_M_adds_32 (by decide) (fun h11 => go_eq (if_neg h11) ?_) (fun h11 => go_eq (if_pos h11) ?_)
        · refine go_iconst (v := -1) (pc := 46) hΓ d_M_adds_46 (by decide) ?_
          exact go_iret (pc := 47) hΓ hT d_M_adds_47
        · refine go_aload_n (q := 0) (i := 0) (pc := 35) hΓ d_M_adds_35 rfl rfl ?_
          refine go_getR (q := 47) (pc := 36) hΓ fl_M_17 d_M_adds_36 rfl rfl ?_
          refine go_iload_n (q := 1) (i := 1) (pc := 39) hΓ d_M_adds_39 rfl rfl ?_
          refine go_ck (fun h12 => ?_)
          refine go_iald (pc := 40) hΓ d_M_adds_40 rfl h12 ?_
          refine go_bipush (v := 60) (pc := 41) hΓ d_M_adds_41 (by decide) ?_
          refine go_icmp_ne 48 (pc := 43) hΓ d_M_adds_43 (by decide) (fun h13 => go_eq (if_neg h13) ?_) (fun h13 => go_eq (if_pos h13) ?_)
          · refine go_aload_n (q := 0) (i := 0) (pc := 48) hΓ d_M_adds_48 rfl rfl ?_
            refine go_iload_n (q := 1) (i := 1) (pc := 49) hΓ d_M_adds_49 rfl rfl ?_
            refine go_iload_n (q := 2) (i := 2) (pc := 50) hΓ d_M_adds_50 rfl rfl ?_
            refine go_iload_n (q := 3) (i := 3) (pc := 51) hΓ d_M_adds_51 rfl rfl ?_
            refine go_callV (index := 141) emV hΓ hR (g_M_comes3 N (d + 0) x1 x2 x3) mi_M_comes3 ml_M_141 d_M_adds_52 rfl rfl rfl rfl rfl (fun _ μ15 => ?_)
            show Go Γ 4 55 [(0, .ref 44), (1, .int x1), (2, .int x2), (3, .int x3)] [] μ15 _
            refine go_aload_n (q := 0) (i := 0) (pc := 55) hΓ d_M_adds_55 rfl rfl ?_
            refine go_getR (q := 47) (pc := 56) hΓ fl_M_17 d_M_adds_56 rfl rfl ?_
            refine go_iload_n (q := 1) (i := 1) (pc := 59) hΓ d_M_adds_59 rfl rfl ?_
            refine go_ck (fun h16 => ?_)
            refine go_iald (pc := 60) hΓ d_M_adds_60 rfl h16 ?_
            exact go_iret (pc := 61) hΓ hT d_M_adds_61
          · refine go_iconst (v := -1) (pc := 46) hΓ d_M_adds_46 (by decide) ?_
            exact go_iret (pc := 47) hΓ hT d_M_adds_47
def f_M_isComparer (N : Nat) (x1 : Int32) (x2 : Int32) (μ0 : Mem) : Option (Int32 × Mem) :=
  ck (inb x1 4) (bnd (f_M_in N (Int32.toInt64 x2) 0 (Int32.toInt64 ((gI μ0 47 (tn x1)) - 1)) μ0) fun r2 μ3 => ck (isb r2) (some (r2, μ3)))
set_option maxHeartbeats 4000000 in
set_option maxRecDepth 100000 in
theorem g_M_isComparer (N d : Nat) (x1 : Int32) (x2 : Int32)  : CallF eI y_M_isComparer c_M_isComparer 3 (some .boolean) (d + 1 + 1) [.ref 44, .int x1, .int x2] (f_M_isComparer N x1 x2) := by
  refine call_of (d := d + 1) (n := 2) mi_M_isComparer.1 (fun _ => rfl) ?_
  intro Γ μ0 hΓ hT hR
  show Go Γ 3 0 [(0, .ref 44), (1, .int x1), (2, .int x2)] [] μ0 (f_M_isComparer N x1 x2 μ0)
  unfold f_M_isComparer
  refine go_iload_n (q := 2) (i := 2) (pc := 0) hΓ d_M_isComparer_0 rfl rfl ?_
  refine go_i2l (pc := 1) hΓ d_M_isComparer_1 ?_
  refine go_lconst (v := 0) (pc := 2) hΓ d_M_isComparer_2 (by decide) ?_
  refine go_aload_n (q := 0) (i := 0) (pc := 3) hΓ d_M_isComparer_3 rfl rfl ?_
  refine go_getR (q := 47) (pc := 4) hΓ fl_M_17 d_M_isComparer_4 rfl rfl ?_
  refine go_iload_n (q := 1) (i := 1) (pc := 7) hΓ d_M_isComparer_7 rfl rfl ?_
  refine go_ck (fun h1 => ?_)
  refine go_iald (pc := 8) hΓ d_M_isComparer_8 rfl h1 ?_
  refine go_iconst (v := 1) (pc := 9) hΓ d_M_isComparer_9 (by decide) ?_
  refine go_isub (pc := 10) hΓ d_M_isComparer_10 ?_
  refine go_i2l (pc := 11) hΓ d_M_isComparer_11 ?_
  refine go_callS (index := 82) emI hΓ hR (g_M_in N (d + 0) (Int32.toInt64 x2) 0 (Int32.toInt64 ((gI μ0 47 (tn x1)) - 1))) mi_M_in ml_M_82 d_M_isComparer_12 rfl rfl rfl (fun r2 μ3 => ?_)
  show Go Γ 3 15 [(0, .ref 44), (1, .int x1), (2, .int x2)] [.int r2] μ3 _
  refine go_ck (fun h4 => ?_)
  exact go_zret (pc := 15) hΓ hT d_M_isComparer_15 h4
def lp_M_goes_4 (N : Nat) (x1 : Int32)  (K : Mem → Option (Unit × Mem)) : Nat → Int32 → Mem → Option (Unit × Mem)
  | 0, _, _ => none
  | n + 1, a3, μ0 => ck (inb x1 4) (if a3 < (gI μ0 47 (tn x1)) then (bnd (f_M_lowOf N x1 a3 μ0) fun r4 μ5 => bnd (f_M_highOf N x1 a3 μ5) fun r6 μ7 => bnd (f_M_sets N x1 (a3 - 1) r4 r6 μ7) fun _ μ9 => lt' (a3 + 1) fun v10 => lp_M_goes_4 N x1 K n v10 μ9) else (K  μ0))
def f_M_goes (N : Nat) (x1 : Int32) (x2 : Int32) (μ0 : Mem) : Option (Unit × Mem) :=
  lt' (x2 + 1) fun v1 => lp_M_goes_4 N x1 (fun μ11 => ck (inb x1 4) (ck (inb x1 4) (lt' (sI μ11 47 (tn x1) ((gI μ11 47 (tn x1)) - 1)) fun μ14 => some ((), μ14)))) N v1 μ0
set_option maxHeartbeats 4000000 in
set_option maxRecDepth 100000 in
theorem glp_M_goes_4 (N d : Nat) {Γ : Cx Unit} (hΓ : Ok Γ "SortingNetsModel" c_M_goes 4) (hT : Rt Γ eV none) (hR : Rm Γ (d + 1)) (x1 : Int32)    (K : Mem → Option (Unit × Mem)) (hK : ∀  (ν : Mem), Go Γ 4 40 [(0, .ref 44), (1, .int x1)] [] ν (K  ν)) : ∀ (n : Nat) (a3 : Int32) (μ0 : Mem), Go Γ 4 4 [(0, .ref 44), (1, .int x1), (3, .int a3)] [] μ0 (lp_M_goes_4 N x1 K n a3 μ0) := by
  intro n
  induction n with
  | zero => intro a3 μ0; exact go_none
  | succ n ih =>
    intro a3 μ0
    rw [lp_M_goes_4]
    refine go_iload_n (q := 2) (i := 3) (pc := 4) hΓ d_M_goes_4 rfl rfl ?_
    refine go_aload_n (q := 0) (i := 0) (pc := 5) hΓ d_M_goes_5 rfl rfl ?_
    refine go_getR (q := 47) (pc := 6) hΓ fl_M_17 d_M_goes_6 rfl rfl ?_
    refine go_iload_n (q := 1) (i := 1) (pc := 9) hΓ d_M_goes_9 rfl rfl ?_
    refine go_ck (fun h2 => ?_)
    refine go_iald (pc := 10) hΓ d_M_goes_10 rfl h2 ?_
    refine go_icmp_ge 40 (pc := 11) hΓ d_M_goes_11 (by decide) (fun h3 => go_eq (if_neg h3) ?_) (fun h3 => go_eq (if_pos h3) ?_)
    · refine go_sub' (lv' := [(0, .ref 44), (1, .int x1)]) rfl ?_
      exact hK  μ0
    · refine go_aload_n (q := 0) (i := 0) (pc := 14) hΓ d_M_goes_14 rfl rfl ?_
      refine go_iload_n (q := 1) (i := 1) (pc := 15) hΓ d_M_goes_15 rfl rfl ?_
      refine go_iload_n (q := 2) (i := 3) (pc := 16) hΓ d_M_goes_16 rfl rfl ?_
      refine go_iconst (v := 1) (pc := 17) hΓ d_M_goes_17 (by decide) ?_
      refine go_isub (pc := 18) hΓ d_M_goes_18 ?_
      refine go_aload_n (q := 0) (i := 0) (pc := 19) hΓ d_M_goes_19 rfl rfl ?_
      refine go_iload_n (q := 1) (i := 1) (pc := 20) hΓ d_M_goes_20 rfl rfl ?_
      refine go_iload_n (q := 2) (i := 3) (pc := 21) hΓ d_M_goes_21 rfl rfl ?_
      refine go_callV (index := 199) emI hΓ hR (g_M_lowOf N (d + 0) x1 a3) mi_M_lowOf ml_M_199 d_M_goes_22 rfl rfl rfl rfl rfl (fun r4 μ5 => ?_)
      show Go Γ 4 25 [(0, .ref 44), (1, .int x1), (3, .int a3)] [.int r4, .int (a3 - 1), .int x1, .ref 44] μ5 _
      refine go_aload_n (q := 0) (i := 0) (pc := 25) hΓ d_M_goes_25 rfl rfl ?_
      refine go_iload_n (q := 1) (i := 1) (pc := 26) hΓ d_M_goes_26 rfl rfl ?_
      refine go_iload_n (q := 2) (i := 3) (pc := 27) hΓ d_M_goes_27 rfl rfl ?_
      refine go_callV (index := 202) emI hΓ hR (g_M_highOf N (d + 0) x1 a3) mi_M_highOf ml_M_202 d_M_goes_28 rfl rfl rfl rfl rfl (fun r6 μ7 => ?_)
      show Go Γ 4 31 [(0, .ref 44), (1, .int x1), (3, .int a3)] [.int r6, .int r4, .int (a3 - 1), .int x1, .ref 44] μ7 _
      refine go_callV (index := 90) emV hΓ hR (g_M_sets N (d + 0) x1 (a3 - 1) r4 r6) mi_M_sets ml_M_90 d_M_goes_31 rfl rfl rfl rfl rfl (fun _ μ9 => ?_)
      show Go Γ 4 34 [(0, .ref 44), (1, .int x1), (3, .int a3)] [] μ9 _
      refine go_incI (q := 2) (i := 3) (n := 1) (c := 1) (pc := 34) hΓ d_M_goes_34 rfl (by decide) (by decide) (fun v10 => ?_)
      refine go_sub' (lv' := [(3, .int v10), (0, .ref 44), (1, .int x1)]) rfl ?_
      refine go_goto 4 (pc := 37) hΓ d_M_goes_37 (by decide) ?_
      refine go_sub' (lv' := [(0, .ref 44), (1, .int x1), (3, .int v10)]) rfl ?_
      exact ih v10 μ9
set_option maxHeartbeats 4000000 in
set_option maxRecDepth 100000 in
theorem g_M_goes (N d : Nat) (x1 : Int32) (x2 : Int32)  : CallF eV y_M_goes c_M_goes 4 none (d + 1 + 1) [.ref 44, .int x1, .int x2] (f_M_goes N x1 x2) := by
  refine call_of (d := d + 1) (n := 2) mi_M_goes.1 (fun _ => rfl) ?_
  intro Γ μ0 hΓ hT hR
  show Go Γ 4 0 [(0, .ref 44), (1, .int x1), (2, .int x2)] [] μ0 (f_M_goes N x1 x2 μ0)
  unfold f_M_goes
  refine go_iload_n (q := 2) (i := 2) (pc := 0) hΓ d_M_goes_0 rfl rfl ?_
  refine go_iconst (v := 1) (pc := 1) hΓ d_M_goes_1 (by decide) ?_
  refine go_iadd (pc := 2) hΓ d_M_goes_2 ?_
  refine go_letI (fun v1 => ?_)
  refine go_istore_n (i := 3) (lv' := [(3, .int v1), (0, .ref 44), (1, .int x1), (2, .int x2)]) (pc := 3) hΓ d_M_goes_3 rfl (by decide) rfl ?_
  refine go_sub' (lv' := [(0, .ref 44), (1, .int x1), (3, .int v1)]) rfl ?_
  refine glp_M_goes_4 N d hΓ hT hR x1 _ (fun μ11 => ?_) N v1 μ0
  refine go_aload_n (q := 0) (i := 0) (pc := 40) hΓ d_M_goes_40 rfl rfl ?_
  refine go_getR (q := 47) (pc := 41) hΓ fl_M_17 d_M_goes_41 rfl rfl ?_
  refine go_iload_n (q := 1) (i := 1) (pc := 44) hΓ d_M_goes_44 rfl rfl ?_
  refine go_dup2 (pc := 45) hΓ d_M_goes_45 rfl rfl ?_
  refine go_ck (fun h12 => ?_)
  refine go_iald (pc := 46) hΓ d_M_goes_46 rfl h12 ?_
  refine go_iconst (v := 1) (pc := 47) hΓ d_M_goes_47 (by decide) ?_
  refine go_isub (pc := 48) hΓ d_M_goes_48 ?_
  refine go_ck (fun h13 => ?_)
  refine go_iast (pc := 49) hΓ d_M_goes_49 rfl h13 ?_
  refine go_letM (fun μ14 => ?_)
  exact go_vret (pc := 50) hΓ hT d_M_goes_50
def f_M_drops (N : Nat) (x1 : Int32) (x2 : Int32) (μ0 : Mem) : Option (Int32 × Mem) :=
  lt' (sI μ0 44 0 0) fun μ1 => bnd (f_M_isNet N x1 μ1) fun r2 μ3 => if r2 = 0 then (some ((-1), μ3)) else (bnd (f_M_isComparer N x1 x2 μ3) fun r5 μ6 => if r5 = 0 then (some ((-1), μ6)) else (bnd (f_M_goes N x1 x2 μ6) fun _ μ9 => ck (inb x1 4) (some (gI μ9 47 (tn x1), μ9))))
set_option maxHeartbeats 4000000 in
set_option maxRecDepth 100000 in
theorem g_M_drops (N d : Nat) (x1 : Int32) (x2 : Int32)  : CallF eI y_M_drops c_M_drops 3 (some .int) (d + 2 + 1) [.ref 44, .int x1, .int x2] (f_M_drops N x1 x2) := by
  refine call_of (d := d + 2) (n := 2) mi_M_drops.1 (fun _ => rfl) ?_
  intro Γ μ0 hΓ hT hR
  show Go Γ 3 0 [(0, .ref 44), (1, .int x1), (2, .int x2)] [] μ0 (f_M_drops N x1 x2 μ0)
  unfold f_M_drops
  refine go_aload_n (q := 0) (i := 0) (pc := 0) hΓ d_M_drops_0 rfl rfl ?_
  refine go_iconst (v := 0) (pc := 1) hΓ d_M_drops_1 (by decide) ?_
  refine go_putI (pc := 2) hΓ fp_M_69 d_M_drops_2 rfl rfl ?_
  refine go_letM (fun μ1 => ?_)
  refine go_iload_n (q := 1) (i := 1) (pc := 5) hΓ d_M_drops_5 rfl rfl ?_
  refine go_callS (index := 151) emI hΓ hR (g_M_isNet N (d + 0) x1) mi_M_isNet ml_M_151 d_M_drops_6 rfl rfl rfl (fun r2 μ3 => ?_)
  show Go Γ 3 9 [(0, .ref 44), (1, .int x1), (2, .int x2)] [.int r2] μ3 _
  refine go_if_eq 21 (pc := 9) hΓ d_M_drops_9 (by decide) (fun h4 => go_eq (if_pos h4) ?_) (fun h4 => go_eq (if_neg h4) ?_)
  · refine go_iconst (v := -1) (pc := 21) hΓ d_M_drops_21 (by decide) ?_
    exact go_iret (pc := 22) hΓ hT d_M_drops_22
  · refine go_aload_n (q := 0) (i := 0) (pc := 12) hΓ d_M_drops_12 rfl rfl ?_
    refine go_iload_n (q := 1) (i := 1) (pc := 13) hΓ d_M_drops_13 rfl rfl ?_
    refine go_iload_n (q := 2) (i := 2) (pc := 14) hΓ d_M_drops_14 rfl rfl ?_
    refine go_callV (index := 205) emI hΓ hR (g_M_isComparer N (d + 0) x1 x2) mi_M_isComparer ml_M_205 d_M_drops_15 rfl rfl rfl rfl rfl (fun r5 μ6 => ?_)
    show Go Γ 3 18 [(0, .ref 44), (1, .int x1), (2, .int x2)] [.int r5] μ6 _
    refine go_if_ne 23 (pc := 18) hΓ d_M_drops_18 (by decide) (fun h7 => go_eq (if_neg h7) ?_) (fun h7 => go_eq (if_pos h7) ?_)
    · refine go_aload_n (q := 0) (i := 0) (pc := 23) hΓ d_M_drops_23 rfl rfl ?_
      refine go_iload_n (q := 1) (i := 1) (pc := 24) hΓ d_M_drops_24 rfl rfl ?_
      refine go_iload_n (q := 2) (i := 2) (pc := 25) hΓ d_M_drops_25 rfl rfl ?_
      refine go_callV (index := 208) emV hΓ hR (g_M_goes N (d + 0) x1 x2) mi_M_goes ml_M_208 d_M_drops_26 rfl rfl rfl rfl rfl (fun _ μ9 => ?_)
      show Go Γ 3 29 [(0, .ref 44), (1, .int x1), (2, .int x2)] [] μ9 _
      refine go_aload_n (q := 0) (i := 0) (pc := 29) hΓ d_M_drops_29 rfl rfl ?_
      refine go_getR (q := 47) (pc := 30) hΓ fl_M_17 d_M_drops_30 rfl rfl ?_
      refine go_iload_n (q := 1) (i := 1) (pc := 33) hΓ d_M_drops_33 rfl rfl ?_
      refine go_ck (fun h10 => ?_)
      refine go_iald (pc := 34) hΓ d_M_drops_34 rfl h10 ?_
      exact go_iret (pc := 35) hΓ hT d_M_drops_35
    · refine go_iconst (v := -1) (pc := 21) hΓ d_M_drops_21 (by decide) ?_
      exact go_iret (pc := 22) hΓ hT d_M_drops_22
def f_M_touch (N : Nat) (x1 : Int32) (x2 : Int32) (x3 : Int32) (μ0 : Mem) : Option (Int32 × Mem) :=
  bnd (f_M_lowOf N x1 x2 μ0) fun r1 μ2 => bnd (f_M_lowOf N x1 x3 μ2) fun r3 μ4 => if r1 = r3 then (some (1, μ4)) else (bnd (f_M_lowOf N x1 x2 μ4) fun r6 μ7 => bnd (f_M_highOf N x1 x3 μ7) fun r8 μ9 => if r6 = r8 then (some (1, μ9)) else (bnd (f_M_highOf N x1 x2 μ9) fun r11 μ12 => bnd (f_M_lowOf N x1 x3 μ12) fun r13 μ14 => if r11 = r13 then (some (1, μ14)) else (bnd (f_M_highOf N x1 x2 μ14) fun r16 μ17 => bnd (f_M_highOf N x1 x3 μ17) fun r18 μ19 => if r16 = r18 then (some (1, μ19)) else (some (0, μ19)))))
set_option maxHeartbeats 4000000 in
set_option maxRecDepth 100000 in
theorem g_M_touch (N d : Nat) (x1 : Int32) (x2 : Int32) (x3 : Int32)  : CallF eI y_M_touch c_M_touch 4 (some .boolean) (d + 1 + 1) [.ref 44, .int x1, .int x2, .int x3] (f_M_touch N x1 x2 x3) := by
  refine call_of (d := d + 1) (n := 3) mi_M_touch.1 (fun _ => rfl) ?_
  intro Γ μ0 hΓ hT hR
  show Go Γ 4 0 [(0, .ref 44), (1, .int x1), (2, .int x2), (3, .int x3)] [] μ0 (f_M_touch N x1 x2 x3 μ0)
  unfold f_M_touch
  refine go_aload_n (q := 0) (i := 0) (pc := 0) hΓ d_M_touch_0 rfl rfl ?_
  refine go_iload_n (q := 1) (i := 1) (pc := 1) hΓ d_M_touch_1 rfl rfl ?_
  refine go_iload_n (q := 2) (i := 2) (pc := 2) hΓ d_M_touch_2 rfl rfl ?_
  refine go_callV (index := 199) emI hΓ hR (g_M_lowOf N (d + 0) x1 x2) mi_M_lowOf ml_M_199 d_M_touch_3 rfl rfl rfl rfl rfl (fun r1 μ2 => ?_)
  show Go Γ 4 6 [(0, .ref 44), (1, .int x1), (2, .int x2), (3, .int x3)] [.int r1] μ2 _
  refine go_aload_n (q := 0) (i := 0) (pc := 6) hΓ d_M_touch_6 rfl rfl ?_
  refine go_iload_n (q := 1) (i := 1) (pc := 7) hΓ d_M_touch_7 rfl rfl ?_
  refine go_iload_n (q := 3) (i := 3) (pc := 8) hΓ d_M_touch_8 rfl rfl ?_
  refine go_callV (index := 199) emI hΓ hR (g_M_lowOf N (d + 0) x1 x3) mi_M_lowOf ml_M_199 d_M_touch_9 rfl rfl rfl rfl rfl (fun r3 μ4 => ?_)
  show Go Γ 4 12 [(0, .ref 44), (1, .int x1), (2, .int x2), (3, .int x3)] [.int r3, .int r1] μ4 _
  refine go_icmp_eq 60 (pc := 12) hΓ d_M_touch_12 (by decide) (fun h5 => go_eq (if_pos h5) ?_) (fun h5 => go_eq (if_neg h5) ?_)
  · refine go_iconst (v := 1) (pc := 60) hΓ d_M_touch_60 (by decide) ?_
    refine go_goto 65 (pc := 61) hΓ d_M_touch_61 (by decide) ?_
    exact go_zret (pc := 65) hΓ hT d_M_touch_65 rfl
  · refine go_aload_n (q := 0) (i := 0) (pc := 15) hΓ d_M_touch_15 rfl rfl ?_
    refine go_iload_n (q := 1) (i := 1) (pc := 16) hΓ d_M_touch_16 rfl rfl ?_
    refine go_iload_n (q := 2) (i := 2) (pc := 17) hΓ d_M_touch_17 rfl rfl ?_
    refine go_callV (index := 199) emI hΓ hR (g_M_lowOf N (d + 0) x1 x2) mi_M_lowOf ml_M_199 d_M_touch_18 rfl rfl rfl rfl rfl (fun r6 μ7 => ?_)
    show Go Γ 4 21 [(0, .ref 44), (1, .int x1), (2, .int x2), (3, .int x3)] [.int r6] μ7 _
    refine go_aload_n (q := 0) (i := 0) (pc := 21) hΓ d_M_touch_21 rfl rfl ?_
    refine go_iload_n (q := 1) (i := 1) (pc := 22) hΓ d_M_touch_22 rfl rfl ?_
    refine go_iload_n (q := 3) (i := 3) (pc := 23) hΓ d_M_touch_23 rfl rfl ?_
    refine go_callV (index := 202) emI hΓ hR (g_M_highOf N (d + 0) x1 x3) mi_M_highOf ml_M_202 d_M_touch_24 rfl rfl rfl rfl rfl (fun r8 μ9 => ?_)
    show Go Γ 4 27 [(0, .ref 44), (1, .int x1), (2, .int x2), (3, .int x3)] [.int r8, .int r6] μ9 _
    refine go_icmp_eq 60 (pc := 27) hΓ d_M_touch_27 (by decide) (fun h10 => go_eq (if_pos h10) ?_) (fun h10 => go_eq (if_neg h10) ?_)
    · refine go_iconst (v := 1) (pc := 60) hΓ d_M_touch_60 (by decide) ?_
      refine go_goto 65 (pc := 61) hΓ d_M_touch_61 (by decide) ?_
      exact go_zret (pc := 65) hΓ hT d_M_touch_65 rfl
    · refine go_aload_n (q := 0) (i := 0) (pc := 30) hΓ d_M_touch_30 rfl rfl ?_
      refine go_iload_n (q := 1) (i := 1) (pc := 31) hΓ d_M_touch_31 rfl rfl ?_
      refine go_iload_n (q := 2) (i := 2) (pc := 32) hΓ d_M_touch_32 rfl rfl ?_
      refine go_callV (index := 202) emI hΓ hR (g_M_highOf N (d + 0) x1 x2) mi_M_highOf ml_M_202 d_M_touch_33 rfl rfl rfl rfl rfl (fun r11 μ12 => ?_)
      show Go Γ 4 36 [(0, .ref 44), (1, .int x1), (2, .int x2), (3, .int x3)] [.int r11] μ12 _
      refine go_aload_n (q := 0) (i := 0) (pc := 36) hΓ d_M_touch_36 rfl rfl ?_
      refine go_iload_n (q := 1) (i := 1) (pc := 37) hΓ d_M_touch_37 rfl rfl ?_
      refine go_iload_n (q := 3) (i := 3) (pc := 38) hΓ d_M_touch_38 rfl rfl ?_
      refine go_callV (index := 199) emI hΓ hR (g_M_lowOf N (d + 0) x1 x3) mi_M_lowOf ml_M_199 d_M_touch_39 rfl rfl rfl rfl rfl (fun r13 μ14 => ?_)
      show Go Γ 4 42 [(0, .ref 44), (1, .int x1), (2, .int x2), (3, .int x3)] [.int r13, .int r11] μ14 _
      refine go_icmp_eq 60 (pc := 42) hΓ d_M_touch_42 (by decide) (fun h15 => go_eq (if_pos h15) ?_) (fun h15 => go_eq (if_neg h15) ?_)
      · refine go_iconst (v := 1) (pc := 60) hΓ d_M_touch_60 (by decide) ?_
        refine go_goto 65 (pc := 61) hΓ d_M_touch_61 (by decide) ?_
        exact go_zret (pc := 65) hΓ hT d_M_touch_65 rfl
      · refine go_aload_n (q := 0) (i := 0) (pc := 45) hΓ d_M_touch_45 rfl rfl ?_
        refine go_iload_n (q := 1) (i := 1) (pc := 46) hΓ d_M_touch_46 rfl rfl ?_
        refine go_iload_n (q := 2) (i := 2) (pc := 47) hΓ d_M_touch_47 rfl rfl ?_
        refine go_callV (index := 202) emI hΓ hR (g_M_highOf N (d + 0) x1 x2) mi_M_highOf ml_M_202 d_M_touch_48 rfl rfl rfl rfl rfl (fun r16 μ17 => ?_)
        show Go Γ 4 51 [(0, .ref 44), (1, .int x1), (2, .int x2), (3, .int x3)] [.int r16] μ17 _
        refine go_aload_n (q := 0) (i := 0) (pc := 51) hΓ d_M_touch_51 rfl rfl ?_
        refine go_iload_n (q := 1) (i := 1) (pc := 52) hΓ d_M_touch_52 rfl rfl ?_
        refine go_iload_n (q := 3) (i := 3) (pc := 53) hΓ d_M_touch_53 rfl rfl ?_
        refine go_callV (index := 202) emI hΓ hR (g_M_highOf N (d + 0) x1 x3) mi_M_highOf ml_M_202 d_M_touch_54 rfl rfl rfl rfl rfl (fun r18 μ19 => ?_)
        show Go Γ 4 57 [(0, .ref 44), (1, .int x1), (2, .int x2), (3, .int x3)] [.int r18, .int r16] μ19 _
        refine go_icmp_ne 64 (pc := 57) hΓ d_M_touch_57 (by decide) (fun h20 => go_eq (if_neg h20) ?_) (fun h20 => go_eq (if_pos h20) ?_)
        · refine go_iconst (v := 0) (pc := 64) hΓ d_M_touch_64 (by decide) ?_
          exact go_zret (pc := 65) hΓ hT d_M_touch_65 rfl
        · refine go_iconst (v := 1) (pc := 60) hΓ d_M_touch_60 (by decide) ?_
          refine go_goto 65 (pc := 61) hΓ d_M_touch_61 (by decide) ?_
          exact go_zret (pc := 65) hΓ hT d_M_touch_65 rfl
def f_M_changes (N : Nat) (x1 : Int32) (x2 : Int32) (x3 : Int32) (μ0 : Mem) : Option (Unit × Mem) :=
  bnd (f_M_lowOf N x1 x2 μ0) fun r1 μ2 => bnd (f_M_highOf N x1 x2 μ2) fun r3 μ4 => bnd (f_M_lowOf N x1 x3 μ4) fun r5 μ6 => bnd (f_M_highOf N x1 x3 μ6) fun r7 μ8 => bnd (f_M_sets N x1 x2 r5 r7 μ8) fun _ μ10 => bnd (f_M_sets N x1 x3 r1 r3 μ10) fun _ μ12 => some ((), μ12)
set_option maxHeartbeats 4000000 in
set_option maxRecDepth 100000 in
theorem g_M_changes (N d : Nat) (x1 : Int32) (x2 : Int32) (x3 : Int32)  : CallF eV y_M_changes c_M_changes 6 none (d + 1 + 1) [.ref 44, .int x1, .int x2, .int x3] (f_M_changes N x1 x2 x3) := by
  refine call_of (d := d + 1) (n := 3) mi_M_changes.1 (fun _ => rfl) ?_
  intro Γ μ0 hΓ hT hR
  show Go Γ 6 0 [(0, .ref 44), (1, .int x1), (2, .int x2), (3, .int x3)] [] μ0 (f_M_changes N x1 x2 x3 μ0)
  unfold f_M_changes
  refine go_aload_n (q := 0) (i := 0) (pc := 0) hΓ d_M_changes_0 rfl rfl ?_
  refine go_iload_n (q := 1) (i := 1) (pc := 1) hΓ d_M_changes_1 rfl rfl ?_
  refine go_iload_n (q := 2) (i := 2) (pc := 2) hΓ d_M_changes_2 rfl rfl ?_
  refine go_callV (index := 199) emI hΓ hR (g_M_lowOf N (d + 0) x1 x2) mi_M_lowOf ml_M_199 d_M_changes_3 rfl rfl rfl rfl rfl (fun r1 μ2 => ?_)
  show Go Γ 6 6 [(0, .ref 44), (1, .int x1), (2, .int x2), (3, .int x3)] [.int r1] μ2 _
  refine go_istore (lv' := [(4, .int r1), (0, .ref 44), (1, .int x1), (2, .int x2), (3, .int x3)]) (pc := 6) hΓ d_M_changes_6 (by decide) rfl ?_
  refine go_aload_n (q := 1) (i := 0) (pc := 8) hΓ d_M_changes_8 rfl rfl ?_
  refine go_iload_n (q := 2) (i := 1) (pc := 9) hΓ d_M_changes_9 rfl rfl ?_
  refine go_iload_n (q := 3) (i := 2) (pc := 10) hΓ d_M_changes_10 rfl rfl ?_
  refine go_callV (index := 202) emI hΓ hR (g_M_highOf N (d + 0) x1 x2) mi_M_highOf ml_M_202 d_M_changes_11 rfl rfl rfl rfl rfl (fun r3 μ4 => ?_)
  show Go Γ 6 14 [(4, .int r1), (0, .ref 44), (1, .int x1), (2, .int x2), (3, .int x3)] [.int r3] μ4 _
  refine go_istore (lv' := [(5, .int r3), (4, .int r1), (0, .ref 44), (1, .int x1), (2, .int x2), (3, .int x3)]) (pc := 14) hΓ d_M_changes_14 (by decide) rfl ?_
  refine go_aload_n (q := 2) (i := 0) (pc := 16) hΓ d_M_changes_16 rfl rfl ?_
  refine go_iload_n (q := 3) (i := 1) (pc := 17) hΓ d_M_changes_17 rfl rfl ?_
  refine go_iload_n (q := 4) (i := 2) (pc := 18) hΓ d_M_changes_18 rfl rfl ?_
  refine go_aload_n (q := 2) (i := 0) (pc := 19) hΓ d_M_changes_19 rfl rfl ?_
  refine go_iload_n (q := 3) (i := 1) (pc := 20) hΓ d_M_changes_20 rfl rfl ?_
  refine go_iload_n (q := 5) (i := 3) (pc := 21) hΓ d_M_changes_21 rfl rfl ?_
  refine go_callV (index := 199) emI hΓ hR (g_M_lowOf N (d + 0) x1 x3) mi_M_lowOf ml_M_199 d_M_changes_22 rfl rfl rfl rfl rfl (fun r5 μ6 => ?_)
  show Go Γ 6 25 [(5, .int r3), (4, .int r1), (0, .ref 44), (1, .int x1), (2, .int x2), (3, .int x3)] [.int r5, .int x2, .int x1, .ref 44] μ6 _
  refine go_aload_n (q := 2) (i := 0) (pc := 25) hΓ d_M_changes_25 rfl rfl ?_
  refine go_iload_n (q := 3) (i := 1) (pc := 26) hΓ d_M_changes_26 rfl rfl ?_
  refine go_iload_n (q := 5) (i := 3) (pc := 27) hΓ d_M_changes_27 rfl rfl ?_
  refine go_callV (index := 202) emI hΓ hR (g_M_highOf N (d + 0) x1 x3) mi_M_highOf ml_M_202 d_M_changes_28 rfl rfl rfl rfl rfl (fun r7 μ8 => ?_)
  show Go Γ 6 31 [(5, .int r3), (4, .int r1), (0, .ref 44), (1, .int x1), (2, .int x2), (3, .int x3)] [.int r7, .int r5, .int x2, .int x1, .ref 44] μ8 _
  refine go_callV (index := 90) emV hΓ hR (g_M_sets N (d + 0) x1 x2 r5 r7) mi_M_sets ml_M_90 d_M_changes_31 rfl rfl rfl rfl rfl (fun _ μ10 => ?_)
  show Go Γ 6 34 [(5, .int r3), (4, .int r1), (0, .ref 44), (1, .int x1), (2, .int x2), (3, .int x3)] [] μ10 _
  refine go_aload_n (q := 2) (i := 0) (pc := 34) hΓ d_M_changes_34 rfl rfl ?_
  refine go_iload_n (q := 3) (i := 1) (pc := 35) hΓ d_M_changes_35 rfl rfl ?_
  refine go_iload_n (q := 5) (i := 3) (pc := 36) hΓ d_M_changes_36 rfl rfl ?_
  refine go_iload (q := 1) (pc := 37) hΓ d_M_changes_37 rfl ?_
  refine go_iload (q := 0) (pc := 39) hΓ d_M_changes_39 rfl ?_
  refine go_callV (index := 90) emV hΓ hR (g_M_sets N (d + 0) x1 x3 r1 r3) mi_M_sets ml_M_90 d_M_changes_41 rfl rfl rfl rfl rfl (fun _ μ12 => ?_)
  show Go Γ 6 44 [(5, .int r3), (4, .int r1), (0, .ref 44), (1, .int x1), (2, .int x2), (3, .int x3)] [] μ12 _
  exact go_vret (pc := 44) hΓ hT d_M_changes_44
def f_M_swaps (N : Nat) (x1 : Int32) (x2 : Int32) (μ0 : Mem) : Option (Int32 × Mem) :=
  lt' (sI μ0 44 0 0) fun μ1 => bnd (f_M_isNet N x1 μ1) fun r2 μ3 => if r2 = 0 then (some ((-1), μ3)) else (bnd (f_M_isComparer N x1 x2 μ3) fun r5 μ6 => if r5 = 0 then (some ((-1), μ6)) else (bnd (f_M_isComparer N x1 (x2 + 1) μ6) fun r8 μ9 => if r8 = 0 then (some ((-1), μ9)) else (bnd (f_M_touch N x1 x2 (x2 + 1) μ9) fun r11 μ12 => lt' (if r11 = 0 then (1 : Int32) else (0 : Int32)) fun q14 => bnd (f_M_flag N q14 μ12) fun r15 μ16 => bnd (f_M_changes N x1 x2 (x2 + 1) μ16) fun _ μ18 => some (r15, μ18))))
set_option maxHeartbeats 4000000 in
set_option maxRecDepth 100000 in
theorem g_M_swaps (N d : Nat) (x1 : Int32) (x2 : Int32)  : CallF eI y_M_swaps c_M_swaps 4 (some .int) (d + 2 + 1) [.ref 44, .int x1, .int x2] (f_M_swaps N x1 x2) := by
  refine call_of (d := d + 2) (n := 2) mi_M_swaps.1 (fun _ => rfl) ?_
  intro Γ μ0 hΓ hT hR
  show Go Γ 4 0 [(0, .ref 44), (1, .int x1), (2, .int x2)] [] μ0 (f_M_swaps N x1 x2 μ0)
  unfold f_M_swaps
  refine go_aload_n (q := 0) (i := 0) (pc := 0) hΓ d_M_swaps_0 rfl rfl ?_
  refine go_iconst (v := 0) (pc := 1) hΓ d_M_swaps_1 (by decide) ?_
  refine go_putI (pc := 2) hΓ fp_M_69 d_M_swaps_2 rfl rfl ?_
  refine go_letM (fun μ1 => ?_)
  refine go_iload_n (q := 1) (i := 1) (pc := 5) hΓ d_M_swaps_5 rfl rfl ?_
  refine go_callS (index := 151) emI hΓ hR (g_M_isNet N (d + 0) x1) mi_M_isNet ml_M_151 d_M_swaps_6 rfl rfl rfl (fun r2 μ3 => ?_)
  show Go Γ 4 9 [(0, .ref 44), (1, .int x1), (2, .int x2)] [.int r2] μ3 _
  refine go_if_eq 32 (pc := 9) hΓ d_M_swaps_9 (by decide) (fun h4 => go_eq (if_pos h4) ?_) (fun h4 => go_eq (if_neg h4) ?_)
  · refine go_iconst (v := -1) (pc := 32) hΓ d_M_swaps_32 (by decide) ?_
    exact go_iret (pc := 33) hΓ hT d_M_swaps_33
  · refine go_aload_n (q := 0) (i := 0) (pc := 12) hΓ d_M_swaps_12 rfl rfl ?_
    refine go_iload_n (q := 1) (i := 1) (pc := 13) hΓ d_M_swaps_13 rfl rfl ?_
    refine go_iload_n (q := 2) (i := 2) (pc := 14) hΓ d_M_swaps_14 rfl rfl ?_
    refine go_callV (index := 205) emI hΓ hR (g_M_isComparer N (d + 0) x1 x2) mi_M_isComparer ml_M_205 d_M_swaps_15 rfl rfl rfl rfl rfl (fun r5 μ6 => ?_)
    show Go Γ 4 18 [(0, .ref 44), (1, .int x1), (2, .int x2)] [.int r5] μ6 _
    refine go_if_eq 32 (pc := 18) hΓ d_M_swaps_18 (by decide) (fun h7 => go_eq (if_pos h7) ?_) (fun h7 => go_eq (if_neg h7) ?_)
    · refine go_iconst (v := -1) (pc := 32) hΓ d_M_swaps_32 (by decide) ?_
      exact go_iret (pc := 33) hΓ hT d_M_swaps_33
    · refine go_aload_n (q := 0) (i := 0) (pc := 21) hΓ d_M_swaps_21 rfl rfl ?_
      refine go_iload_n (q := 1) (i := 1) (pc := 22) hΓ d_M_swaps_22 rfl rfl ?_
      refine go_iload_n (q := 2) (i := 2) (pc := 23) hΓ d_M_swaps_23 rfl rfl ?_
      refine go_iconst (v := 1) (pc := 24) hΓ d_M_swaps_24 (by decide) ?_
      refine go_iadd (pc := 25) hΓ d_M_swaps_25 ?_
      refine go_callV (index := 205) emI hΓ hR (g_M_isComparer N (d + 0) x1 (x2 + 1)) mi_M_isComparer ml_M_205 d_M_swaps_26 rfl rfl rfl rfl rfl (fun r8 μ9 => ?_)
      show Go Γ 4 29 [(0, .ref 44), (1, .int x1), (2, .int x2)] [.int r8] μ9 _
      refine go_if_ne 34 (pc := 29) hΓ d_M_swaps_29 (by decide) (fun h10 => go_eq (if_neg h10) ?_) (fun h10 => go_eq (if_pos h10) ?_)
      · refine go_aload_n (q := 0) (i := 0) (pc := 34) hΓ d_M_swaps_34 rfl rfl ?_
        refine go_iload_n (q := 1) (i := 1) (pc := 35) hΓ d_M_swaps_35 rfl rfl ?_
        refine go_iload_n (q := 2) (i := 2) (pc := 36) hΓ d_M_swaps_36 rfl rfl ?_
        refine go_iload_n (q := 2) (i := 2) (pc := 37) hΓ d_M_swaps_37 rfl rfl ?_
        refine go_iconst (v := 1) (pc := 38) hΓ d_M_swaps_38 (by decide) ?_
        refine go_iadd (pc := 39) hΓ d_M_swaps_39 ?_
        refine go_callV (index := 211) emI hΓ hR (g_M_touch N (d + 0) x1 x2 (x2 + 1)) mi_M_touch ml_M_211 d_M_swaps_40 rfl rfl rfl rfl rfl (fun r11 μ12 => ?_)
        show Go Γ 4 43 [(0, .ref 44), (1, .int x1), (2, .int x2)] [.int r11] μ12 _
        refine go_mg (α := Int32) 51 (fun q14 => [(0, .ref 44), (1, .int x1), (2, .int x2)]) (fun q14 => [.int q14]) (fun q14 => ?_) (fun g19 g19h => ?_)
        · refine go_callS (index := 188) emI hΓ hR (g_M_flag N (d + 1) q14) mi_M_flag ml_M_188 d_M_swaps_51 rfl rfl rfl (fun r15 μ16 => ?_)
          show Go Γ 4 54 [(0, .ref 44), (1, .int x1), (2, .int x2)] [.int r15] μ16 _
          refine go_istore_n (i := 3) (lv' := [(3, .int r15), (0, .ref 44), (1, .int x1), (2, .int x2)]) (pc := 54) hΓ d_M_swaps_54 rfl (by decide) rfl ?_
          refine go_aload_n (q := 1) (i := 0) (pc := 55) hΓ d_M_swaps_55 rfl rfl ?_
          refine go_iload_n (q := 2) (i := 1) (pc := 56) hΓ d_M_swaps_56 rfl rfl ?_
          refine go_iload_n (q := 3) (i := 2) (pc := 57) hΓ d_M_swaps_57 rfl rfl ?_
          refine go_iload_n (q := 3) (i := 2) (pc := 58) hΓ d_M_swaps_58 rfl rfl ?_
          refine go_iconst (v := 1) (pc := 59) hΓ d_M_swaps_59 (by decide) ?_
          refine go_iadd (pc := 60) hΓ d_M_swaps_60 ?_
          refine go_callV (index := 215) emV hΓ hR (g_M_changes N (d + 0) x1 x2 (x2 + 1)) mi_M_changes ml_M_215 d_M_swaps_61 rfl rfl rfl rfl rfl (fun _ μ18 => ?_)
          show Go Γ 4 64 [(3, .int r15), (0, .ref 44), (1, .int x1), (2, .int x2)] [] μ18 _
          refine go_iload_n (q := 0) (i := 3) (pc := 64) hΓ d_M_swaps_64 rfl rfl ?_
          exact go_iret (pc := 65) hΓ hT d_M_swaps_65
        · refine go_if_ne 50 (pc := 43) hΓ d_M_swaps_43 (by decide) (fun h13 => ?_) (fun h13 => ?_)
          · rw [if_neg h13]
            refine go_iconst (v := 0) (pc := 50) hΓ d_M_swaps_50 (by decide) ?_
            refine go_sub' (lv' := [(0, .ref 44), (1, .int x1), (2, .int x2)]) rfl ?_
            exact g19h _
          · rw [if_pos h13]
            refine go_iconst (v := 1) (pc := 46) hΓ d_M_swaps_46 (by decide) ?_
            refine go_goto 51 (pc := 47) hΓ d_M_swaps_47 (by decide) ?_
            refine go_sub' (lv' := [(0, .ref 44), (1, .int x1), (2, .int x2)]) rfl ?_
            exact g19h _
      · refine go_iconst (v := -1) (pc := 32) hΓ d_M_swaps_32 (by decide) ?_
        exact go_iret (pc := 33) hΓ hT d_M_swaps_33
def lp_M_copies_47 (N : Nat) (x1 : Int32) (x2 : Int32)  (K : Mem → Option (Int32 × Mem)) : Nat → Int32 → Mem → Option (Int32 × Mem)
  | 0, _, _ => none
  | n + 1, a3, μ0 => ck (inb x1 4) (if a3 < (gI μ0 47 (tn x1)) then (bnd (f_M_lowOf N x1 a3 μ0) fun r16 μ17 => bnd (f_M_highOf N x1 a3 μ17) fun r18 μ19 => bnd (f_M_sets N x2 a3 r16 r18 μ19) fun _ μ21 => lt' (a3 + 1) fun v22 => lp_M_copies_47 N x1 x2 K n v22 μ21) else (K  μ0))
def f_M_copies (N : Nat) (x1 : Int32) (x2 : Int32) (μ0 : Mem) : Option (Int32 × Mem) :=
  lt' (sI μ0 44 0 0) fun μ1 => bnd (f_M_isNet N x1 μ1) fun r2 μ3 => if r2 = 0 then (some ((-1), μ3)) else (bnd (f_M_isNet N x2 μ3) fun r5 μ6 => if r5 = 0 then (some ((-1), μ6)) else (ck (inb x1 4) (ck (inb x2 4) (lt' (sI μ6 46 (tn x2) (gI μ6 46 (tn x1))) fun μ10 => ck (inb x1 4) (ck (inb x2 4) (lt' (sI μ10 47 (tn x2) (gI μ10 47 (tn x1))) fun μ13 => lp_M_copies_47 N x1 x2 (fun μ23 => ck (inb x2 4) (some (gI μ23 47 (tn x2), μ23))) N 0 μ13))))))
set_option maxHeartbeats 4000000 in
set_option maxRecDepth 100000 in
theorem glp_M_copies_47 (N d : Nat) {Γ : Cx Int32} (hΓ : Ok Γ "SortingNetsModel" c_M_copies 4) (hT : Rt Γ eI (some .int)) (hR : Rm Γ (d + 2)) (x1 : Int32) (x2 : Int32)    (K : Mem → Option (Int32 × Mem)) (hK : ∀  (ν : Mem), Go Γ 4 81 [(0, .ref 44), (2, .int x2)] [] ν (K  ν)) : ∀ (n : Nat) (a3 : Int32) (μ0 : Mem), Go Γ 4 47 [(0, .ref 44), (1, .int x1), (2, .int x2), (3, .int a3)] [] μ0 (lp_M_copies_47 N x1 x2 K n a3 μ0) := by
  intro n
  induction n with
  | zero => intro a3 μ0; exact go_none
  | succ n ih =>
    intro a3 μ0
    rw [lp_M_copies_47]
    refine go_iload_n (q := 3) (i := 3) (pc := 47) hΓ d_M_copies_47 rfl rfl ?_
    refine go_aload_n (q := 0) (i := 0) (pc := 48) hΓ d_M_copies_48 rfl rfl ?_
    refine go_getR (q := 47) (pc := 49) hΓ fl_M_17 d_M_copies_49 rfl rfl ?_
    refine go_iload_n (q := 1) (i := 1) (pc := 52) hΓ d_M_copies_52 rfl rfl ?_
    refine go_ck (fun h14 => ?_)
    refine go_iald (pc := 53) hΓ d_M_copies_53 rfl h14 ?_
    refine go_icmp_ge 81 (pc := 54) hΓ d_M_copies_54 (by decide) (fun h15 => go_eq (if_neg h15) ?_) (fun h15 => go_eq (if_pos h15) ?_)
    · refine go_sub' (lv' := [(0, .ref 44), (2, .int x2)]) rfl ?_
      exact hK  μ0
    · refine go_aload_n (q := 0) (i := 0) (pc := 57) hΓ d_M_copies_57 rfl rfl ?_
      refine go_iload_n (q := 2) (i := 2) (pc := 58) hΓ d_M_copies_58 rfl rfl ?_
      refine go_iload_n (q := 3) (i := 3) (pc := 59) hΓ d_M_copies_59 rfl rfl ?_
      refine go_aload_n (q := 0) (i := 0) (pc := 60) hΓ d_M_copies_60 rfl rfl ?_
      refine go_iload_n (q := 1) (i := 1) (pc := 61) hΓ d_M_copies_61 rfl rfl ?_
      refine go_iload_n (q := 3) (i := 3) (pc := 62) hΓ d_M_copies_62 rfl rfl ?_
      refine go_callV (index := 199) emI hΓ hR (g_M_lowOf N (d + 1) x1 a3) mi_M_lowOf ml_M_199 d_M_copies_63 rfl rfl rfl rfl rfl (fun r16 μ17 => ?_)
      show Go Γ 4 66 [(0, .ref 44), (1, .int x1), (2, .int x2), (3, .int a3)] [.int r16, .int a3, .int x2, .ref 44] μ17 _
      refine go_aload_n (q := 0) (i := 0) (pc := 66) hΓ d_M_copies_66 rfl rfl ?_
      refine go_iload_n (q := 1) (i := 1) (pc := 67) hΓ d_M_copies_67 rfl rfl ?_
      refine go_iload_n (q := 3) (i := 3) (pc := 68) hΓ d_M_copies_68 rfl rfl ?_
      refine go_callV (index := 202) emI hΓ hR (g_M_highOf N (d + 1) x1 a3) mi_M_highOf ml_M_202 d_M_copies_69 rfl rfl rfl rfl rfl (fun r18 μ19 => ?_)
      show Go Γ 4 72 [(0, .ref 44), (1, .int x1), (2, .int x2), (3, .int a3)] [.int r18, .int r16, .int a3, .int x2, .ref 44] μ19 _
      refine go_callV (index := 90) emV hΓ hR (g_M_sets N (d + 1) x2 a3 r16 r18) mi_M_sets ml_M_90 d_M_copies_72 rfl rfl rfl rfl rfl (fun _ μ21 => ?_)
      show Go Γ 4 75 [(0, .ref 44), (1, .int x1), (2, .int x2), (3, .int a3)] [] μ21 _
      refine go_incI (q := 3) (i := 3) (n := 1) (c := 1) (pc := 75) hΓ d_M_copies_75 rfl (by decide) (by decide) (fun v22 => ?_)
      refine go_sub' (lv' := [(3, .int v22), (0, .ref 44), (1, .int x1), (2, .int x2)]) rfl ?_
      refine go_goto 47 (pc := 78) hΓ d_M_copies_78 (by decide) ?_
      refine go_sub' (lv' := [(0, .ref 44), (1, .int x1), (2, .int x2), (3, .int v22)]) rfl ?_
      exact ih v22 μ21
set_option maxHeartbeats 4000000 in
set_option maxRecDepth 100000 in
theorem g_M_copies (N d : Nat) (x1 : Int32) (x2 : Int32)  : CallF eI y_M_copies c_M_copies 4 (some .int) (d + 2 + 1) [.ref 44, .int x1, .int x2] (f_M_copies N x1 x2) := by
  refine call_of (d := d + 2) (n := 2) mi_M_copies.1 (fun _ => rfl) ?_
  intro Γ μ0 hΓ hT hR
  show Go Γ 4 0 [(0, .ref 44), (1, .int x1), (2, .int x2)] [] μ0 (f_M_copies N x1 x2 μ0)
  unfold f_M_copies
  refine go_aload_n (q := 0) (i := 0) (pc := 0) hΓ d_M_copies_0 rfl rfl ?_
  refine go_iconst (v := 0) (pc := 1) hΓ d_M_copies_1 (by decide) ?_
  refine go_putI (pc := 2) hΓ fp_M_69 d_M_copies_2 rfl rfl ?_
  refine go_letM (fun μ1 => ?_)
  refine go_iload_n (q := 1) (i := 1) (pc := 5) hΓ d_M_copies_5 rfl rfl ?_
  refine go_callS (index := 151) emI hΓ hR (g_M_isNet N (d + 0) x1) mi_M_isNet ml_M_151 d_M_copies_6 rfl rfl rfl (fun r2 μ3 => ?_)
  show Go Γ 4 9 [(0, .ref 44), (1, .int x1), (2, .int x2)] [.int r2] μ3 _
  refine go_if_eq 19 (pc := 9) hΓ d_M_copies_9 (by decide) (fun h4 => go_eq (if_pos h4) ?_) (fun h4 => go_eq (if_neg h4) ?_)
  · refine go_iconst (v := -1) (pc := 19) hΓ d_M_copies_19 (by decide) ?_
    exact go_iret (pc := 20) hΓ hT d_M_copies_20
  · refine go_iload_n (q := 2) (i := 2) (pc := 12) hΓ d_M_copies_12 rfl rfl ?_
    refine go_callS (index := 151) emI hΓ hR (g_M_isNet N (d + 0) x2) mi_M_isNet ml_M_151 d_M_copies_13 rfl rfl rfl (fun r5 μ6 => ?_)
    show Go Γ 4 16 [(0, .ref 44), (1, .int x1), (2, .int x2)] [.int r5] μ6 _
    refine go_if_ne 21 (pc := 16) hΓ d_M_copies_16 (by decide) (fun h7 => go_eq (if_neg h7) ?_) (fun h7 => go_eq (if_pos h7) ?_)
    · refine go_aload_n (q := 0) (i := 0) (pc := 21) hΓ d_M_copies_21 rfl rfl ?_
      refine go_getR (q := 46) (pc := 22) hΓ fl_M_13 d_M_copies_22 rfl rfl ?_
      refine go_iload_n (q := 2) (i := 2) (pc := 25) hΓ d_M_copies_25 rfl rfl ?_
      refine go_aload_n (q := 0) (i := 0) (pc := 26) hΓ d_M_copies_26 rfl rfl ?_
      refine go_getR (q := 46) (pc := 27) hΓ fl_M_13 d_M_copies_27 rfl rfl ?_
      refine go_iload_n (q := 1) (i := 1) (pc := 30) hΓ d_M_copies_30 rfl rfl ?_
      refine go_ck (fun h8 => ?_)
      refine go_iald (pc := 31) hΓ d_M_copies_31 rfl h8 ?_
      refine go_ck (fun h9 => ?_)
      refine go_iast (pc := 32) hΓ d_M_copies_32 rfl h9 ?_
      refine go_letM (fun μ10 => ?_)
      refine go_aload_n (q := 0) (i := 0) (pc := 33) hΓ d_M_copies_33 rfl rfl ?_
      refine go_getR (q := 47) (pc := 34) hΓ fl_M_17 d_M_copies_34 rfl rfl ?_
      refine go_iload_n (q := 2) (i := 2) (pc := 37) hΓ d_M_copies_37 rfl rfl ?_
      refine go_aload_n (q := 0) (i := 0) (pc := 38) hΓ d_M_copies_38 rfl rfl ?_
      refine go_getR (q := 47) (pc := 39) hΓ fl_M_17 d_M_copies_39 rfl rfl ?_
      refine go_iload_n (q := 1) (i := 1) (pc := 42) hΓ d_M_copies_42 rfl rfl ?_
      refine go_ck (fun h11 => ?_)
      refine go_iald (pc := 43) hΓ d_M_copies_43 rfl h11 ?_
      refine go_ck (fun h12 => ?_)
      refine go_iast (pc := 44) hΓ d_M_copies_44 rfl h12 ?_
      refine go_letM (fun μ13 => ?_)
      refine go_iconst (v := 0) (pc := 45) hΓ d_M_copies_45 (by decide) ?_
      refine go_istore_n (i := 3) (lv' := [(3, .int 0), (0, .ref 44), (1, .int x1), (2, .int x2)]) (pc := 46) hΓ d_M_copies_46 rfl (by decide) rfl ?_
      refine go_sub' (lv' := [(0, .ref 44), (1, .int x1), (2, .int x2), (3, .int 0)]) rfl ?_
      refine glp_M_copies_47 N d hΓ hT hR x1 x2 _ (fun μ23 => ?_) N 0 μ13
      refine go_aload_n (q := 0) (i := 0) (pc := 81) hΓ d_M_copies_81 rfl rfl ?_
      refine go_getR (q := 47) (pc := 82) hΓ fl_M_17 d_M_copies_82 rfl rfl ?_
      refine go_iload_n (q := 1) (i := 2) (pc := 85) hΓ d_M_copies_85 rfl rfl ?_
      refine go_ck (fun h24 => ?_)
      refine go_iald (pc := 86) hΓ d_M_copies_86 rfl h24 ?_
      exact go_iret (pc := 87) hΓ hT d_M_copies_87
    · refine go_iconst (v := -1) (pc := 19) hΓ d_M_copies_19 (by decide) ?_
      exact go_iret (pc := 20) hΓ hT d_M_copies_20
def lp_M_joins_65 (N : Nat) (x1 : Int32) (x2 : Int32) (x3 : Int32)  (K : Mem → Option (Int32 × Mem)) : Nat → Int32 → Mem → Option (Int32 × Mem)
  | 0, _, _ => none
  | n + 1, a4, μ0 => if a4 < x3 then (bnd (f_M_lowOf N x2 a4 μ0) fun r16 μ17 => bnd (f_M_highOf N x2 a4 μ17) fun r18 μ19 => bnd (f_M_comes3 N x1 r16 r18 μ19) fun _ μ21 => lt' (a4 + 1) fun v22 => lp_M_joins_65 N x1 x2 x3 K n v22 μ21) else (K  μ0)
def f_M_joins (N : Nat) (x1 : Int32) (x2 : Int32) (μ0 : Mem) : Option (Int32 × Mem) :=
  lt' (sI μ0 44 0 0) fun μ1 => bnd (f_M_isNet N x1 μ1) fun r2 μ3 => if r2 = 0 then (some ((-1), μ3)) else (bnd (f_M_isNet N x2 μ3) fun r5 μ6 => if r5 = 0 then (some ((-1), μ6)) else (ck (inb x1 4) (ck (inb x2 4) (if (gI μ6 46 (tn x1)) = (gI μ6 46 (tn x2)) then (ck (inb x2 4) (lt' (gI μ6 47 (tn x2)) fun v12 => ck (inb x1 4) (if 60 < ((gI μ6 47 (tn x1)) + v12) then (some ((-3), μ6)) else (lp_M_joins_65 N x1 x2 v12 (fun μ23 => ck (inb x1 4) (some (gI μ23 47 (tn x1), μ23))) N 0 μ6)))) else (some ((-2), μ6))))))
set_option maxHeartbeats 4000000 in
set_option maxRecDepth 100000 in
theorem glp_M_joins_65 (N d : Nat) {Γ : Cx Int32} (hΓ : Ok Γ "SortingNetsModel" c_M_joins 5) (hT : Rt Γ eI (some .int)) (hR : Rm Γ (d + 2)) (x1 : Int32) (x2 : Int32) (x3 : Int32)    (K : Mem → Option (Int32 × Mem)) (hK : ∀  (ν : Mem), Go Γ 5 96 [(0, .ref 44), (1, .int x1)] [] ν (K  ν)) : ∀ (n : Nat) (a4 : Int32) (μ0 : Mem), Go Γ 5 65 [(0, .ref 44), (1, .int x1), (2, .int x2), (3, .int x3), (4, .int a4)] [] μ0 (lp_M_joins_65 N x1 x2 x3 K n a4 μ0) := by
  intro n
  induction n with
  | zero => intro a4 μ0; exact go_none
  | succ n ih =>
    intro a4 μ0
    rw [lp_M_joins_65]
    refine go_iload (q := 4) (pc := 65) hΓ d_M_joins_65 rfl ?_
    refine go_iload_n (q := 3) (i := 3) (pc := 67) hΓ d_M_joins_67 rfl rfl ?_
    refine go_icmp_ge 96 (pc := 68) hΓ d_M_joins_68 (by decide) (fun h15 => go_eq (if_neg h15) ?_) (fun h15 => go_eq (if_pos h15) ?_)
    · refine go_sub' (lv' := [(0, .ref 44), (1, .int x1)]) rfl ?_
      exact hK  μ0
    · refine go_aload_n (q := 0) (i := 0) (pc := 71) hΓ d_M_joins_71 rfl rfl ?_
      refine go_iload_n (q := 1) (i := 1) (pc := 72) hΓ d_M_joins_72 rfl rfl ?_
      refine go_aload_n (q := 0) (i := 0) (pc := 73) hΓ d_M_joins_73 rfl rfl ?_
      refine go_iload_n (q := 2) (i := 2) (pc := 74) hΓ d_M_joins_74 rfl rfl ?_
      refine go_iload (q := 4) (pc := 75) hΓ d_M_joins_75 rfl ?_
      refine go_callV (index := 199) emI hΓ hR (g_M_lowOf N (d + 1) x2 a4) mi_M_lowOf ml_M_199 d_M_joins_77 rfl rfl rfl rfl rfl (fun r16 μ17 => ?_)
      show Go Γ 5 80 [(0, .ref 44), (1, .int x1), (2, .int x2), (3, .int x3), (4, .int a4)] [.int r16, .int x1, .ref 44] μ17 _
      refine go_aload_n (q := 0) (i := 0) (pc := 80) hΓ d_M_joins_80 rfl rfl ?_
      refine go_iload_n (q := 2) (i := 2) (pc := 81) hΓ d_M_joins_81 rfl rfl ?_
      refine go_iload (q := 4) (pc := 82) hΓ d_M_joins_82 rfl ?_
      refine go_callV (index := 202) emI hΓ hR (g_M_highOf N (d + 1) x2 a4) mi_M_highOf ml_M_202 d_M_joins_84 rfl rfl rfl rfl rfl (fun r18 μ19 => ?_)
      show Go Γ 5 87 [(0, .ref 44), (1, .int x1), (2, .int x2), (3, .int x3), (4, .int a4)] [.int r18, .int r16, .int x1, .ref 44] μ19 _
      refine go_callV (index := 141) emV hΓ hR (g_M_comes3 N (d + 0) x1 r16 r18) mi_M_comes3 ml_M_141 d_M_joins_87 rfl rfl rfl rfl rfl (fun _ μ21 => ?_)
      show Go Γ 5 90 [(0, .ref 44), (1, .int x1), (2, .int x2), (3, .int x3), (4, .int a4)] [] μ21 _
      refine go_incI (q := 4) (i := 4) (n := 1) (c := 1) (pc := 90) hΓ d_M_joins_90 rfl (by decide) (by decide) (fun v22 => ?_)
      refine go_sub' (lv' := [(4, .int v22), (0, .ref 44), (1, .int x1), (2, .int x2), (3, .int x3)]) rfl ?_
      refine go_goto 65 (pc := 93) hΓ d_M_joins_93 (by decide) ?_
      refine go_sub' (lv' := [(0, .ref 44), (1, .int x1), (2, .int x2), (3, .int x3), (4, .int v22)]) rfl ?_
      exact ih v22 μ21
set_option maxHeartbeats 4000000 in
set_option maxRecDepth 100000 in
theorem g_M_joins (N d : Nat) (x1 : Int32) (x2 : Int32)  : CallF eI y_M_joins c_M_joins 5 (some .int) (d + 2 + 1) [.ref 44, .int x1, .int x2] (f_M_joins N x1 x2) := by
  refine call_of (d := d + 2) (n := 2) mi_M_joins.1 (fun _ => rfl) ?_
  intro Γ μ0 hΓ hT hR
  show Go Γ 5 0 [(0, .ref 44), (1, .int x1), (2, .int x2)] [] μ0 (f_M_joins N x1 x2 μ0)
  unfold f_M_joins
  refine go_aload_n (q := 0) (i := 0) (pc := 0) hΓ d_M_joins_0 rfl rfl ?_
  refine go_iconst (v := 0) (pc := 1) hΓ d_M_joins_1 (by decide) ?_
  refine go_putI (pc := 2) hΓ fp_M_69 d_M_joins_2 rfl rfl ?_
  refine go_letM (fun μ1 => ?_)
  refine go_iload_n (q := 1) (i := 1) (pc := 5) hΓ d_M_joins_5 rfl rfl ?_
  refine go_callS (index := 151) emI hΓ hR (g_M_isNet N (d + 0) x1) mi_M_isNet ml_M_151 d_M_joins_6 rfl rfl rfl (fun r2 μ3 => ?_)
  show Go Γ 5 9 [(0, .ref 44), (1, .int x1), (2, .int x2)] [.int r2] μ3 _
  refine go_if_eq 19 (pc := 9) hΓ d_M_joins_9 (by decide) (fun h4 => go_eq (if_pos h4) ?_) (fun h4 => go_eq (if_neg h4) ?_)
  · refine go_iconst (v := -1) (pc := 19) hΓ d_M_joins_19 (by decide) ?_
    exact go_iret (pc := 20) hΓ hT d_M_joins_20
  · refine go_iload_n (q := 2) (i := 2) (pc := 12) hΓ d_M_joins_12 rfl rfl ?_
    refine go_callS (index := 151) emI hΓ hR (g_M_isNet N (d + 0) x2) mi_M_isNet ml_M_151 d_M_joins_13 rfl rfl rfl (fun r5 μ6 => ?_)
    show Go Γ 5 16 [(0, .ref 44), (1, .int x1), (2, .int x2)] [.int r5] μ6 _
    refine go_if_ne 21 (pc := 16) hΓ d_M_joins_16 (by decide) (fun h7 => go_eq (if_neg h7) ?_) (fun h7 => go_eq (if_pos h7) ?_)
    · refine go_aload_n (q := 0) (i := 0) (pc := 21) hΓ d_M_joins_21 rfl rfl ?_
      refine go_getR (q := 46) (pc := 22) hΓ fl_M_13 d_M_joins_22 rfl rfl ?_
      refine go_iload_n (q := 1) (i := 1) (pc := 25) hΓ d_M_joins_25 rfl rfl ?_
      refine go_ck (fun h8 => ?_)
      refine go_iald (pc := 26) hΓ d_M_joins_26 rfl h8 ?_
      refine go_aload_n (q := 0) (i := 0) (pc := 27) hΓ d_M_joins_27 rfl rfl ?_
      refine go_getR (q := 46) (pc := 28) hΓ fl_M_13 d_M_joins_28 rfl rfl ?_
      refine go_iload_n (q := 2) (i := 2) (pc := 31) hΓ d_M_joins_31 rfl rfl ?_
      refine go_ck (fun h9 => ?_)
      refine go_iald (pc := 32) hΓ d_M_joins_32 rfl h9 ?_
      refine go_icmp_eq 39 (pc := 33) hΓ d_M_joins_33 (by decide) (fun h10 => go_eq (if_pos h10) ?_) (fun h10 => go_eq (if_neg h10) ?_)
      · refine go_aload_n (q := 0) (i := 0) (pc := 39) hΓ d_M_joins_39 rfl rfl ?_
        refine go_getR (q := 47) (pc := 40) hΓ fl_M_17 d_M_joins_40 rfl rfl ?_
        refine go_iload_n (q := 2) (i := 2) (pc := 43) hΓ d_M_joins_43 rfl rfl ?_
        refine go_ck (fun h11 => ?_)
        refine go_iald (pc := 44) hΓ d_M_joins_44 rfl h11 ?_
        refine go_letI (fun v12 => ?_)
        refine go_istore_n (i := 3) (lv' := [(3, .int v12), (0, .ref 44), (1, .int x1), (2, .int x2)]) (pc := 45) hΓ d_M_joins_45 rfl (by decide) rfl ?_
        refine go_aload_n (q := 1) (i := 0) (pc := 46) hΓ d_M_joins_46 rfl rfl ?_
        refine go_getR (q := 47) (pc := 47) hΓ fl_M_17 d_M_joins_47 rfl rfl ?_
        refine go_iload_n (q := 2) (i := 1) (pc := 50) hΓ d_M_joins_50 rfl rfl ?_
        refine go_ck (fun h13 => ?_)
        refine go_iald (pc := 51) hΓ d_M_joins_51 rfl h13 ?_
        refine go_iload_n (q := 0) (i := 3) (pc := 52) hΓ d_M_joins_52 rfl rfl ?_
        refine go_iadd (pc := 53) hΓ d_M_joins_53 ?_
        refine go_bipush (v := 60) (pc := 54) hΓ d_M_joins_54 (by decide) ?_
        refine go_icmp_le 62 (pc := 56) hΓ d_M_joins_56 (by decide) (fun h14 => go_eq (if_neg h14) ?_) (fun h14 => go_eq (if_pos h14) ?_)
        · refine go_iconst (v := 0) (pc := 62) hΓ d_M_joins_62 (by decide) ?_
          refine go_istore (lv' := [(4, .int 0), (3, .int v12), (0, .ref 44), (1, .int x1), (2, .int x2)]) (pc := 63) hΓ d_M_joins_63 (by decide) rfl ?_
          refine go_sub' (lv' := [(0, .ref 44), (1, .int x1), (2, .int x2), (3, .int v12), (4, .int 0)]) rfl ?_
          refine glp_M_joins_65 N d hΓ hT hR x1 x2 v12 _ (fun μ23 => ?_) N 0 μ6
          refine go_aload_n (q := 0) (i := 0) (pc := 96) hΓ d_M_joins_96 rfl rfl ?_
          refine go_getR (q := 47) (pc := 97) hΓ fl_M_17 d_M_joins_97 rfl rfl ?_
          refine go_iload_n (q := 1) (i := 1) (pc := 100) hΓ d_M_joins_100 rfl rfl ?_
          refine go_ck (fun h24 => ?_)
          refine go_iald (pc := 101) hΓ d_M_joins_101 rfl h24 ?_
          exact go_iret (pc := 102) hΓ hT d_M_joins_102
        · refine go_bipush (v := -3) (pc := 59) hΓ d_M_joins_59 (by decide) ?_
          exact go_iret (pc := 61) hΓ hT d_M_joins_61
      · refine go_bipush (v := -2) (pc := 36) hΓ d_M_joins_36 (by decide) ?_
        exact go_iret (pc := 38) hΓ hT d_M_joins_38
    · refine go_iconst (v := -1) (pc := 19) hΓ d_M_joins_19 (by decide) ?_
      exact go_iret (pc := 20) hΓ hT d_M_joins_20
def lp_M_flips_16 (N : Nat) (x1 : Int32)  (K : Mem → Option (Int32 × Mem)) : Nat → Int32 → Mem → Option (Int32 × Mem)
  | 0, _, _ => none
  | n + 1, a2, μ0 => ck (inb x1 4) (if a2 < ((gI μ0 47 (tn x1)) / 2) then (ck (inb x1 4) (bnd (f_M_changes N x1 a2 (((gI μ0 47 (tn x1)) - 1) - a2) μ0) fun _ μ9 => lt' (a2 + 1) fun v10 => lp_M_flips_16 N x1 K n v10 μ9)) else (K  μ0))
def f_M_flips (N : Nat) (x1 : Int32) (μ0 : Mem) : Option (Int32 × Mem) :=
  lt' (sI μ0 44 0 0) fun μ1 => bnd (f_M_isNet N x1 μ1) fun r2 μ3 => if r2 = 0 then (some ((-1), μ3)) else (lp_M_flips_16 N x1 (fun μ11 => ck (inb x1 4) (some (gI μ11 47 (tn x1), μ11))) N 0 μ3)
set_option maxHeartbeats 4000000 in
set_option maxRecDepth 100000 in
theorem glp_M_flips_16 (N d : Nat) {Γ : Cx Int32} (hΓ : Ok Γ "SortingNetsModel" c_M_flips 3) (hT : Rt Γ eI (some .int)) (hR : Rm Γ (d + 2)) (x1 : Int32)    (K : Mem → Option (Int32 × Mem)) (hK : ∀  (ν : Mem), Go Γ 3 50 [(0, .ref 44), (1, .int x1)] [] ν (K  ν)) : ∀ (n : Nat) (a2 : Int32) (μ0 : Mem), Go Γ 3 16 [(0, .ref 44), (1, .int x1), (2, .int a2)] [] μ0 (lp_M_flips_16 N x1 K n a2 μ0) := by
  intro n
  induction n with
  | zero => intro a2 μ0; exact go_none
  | succ n ih =>
    intro a2 μ0
    rw [lp_M_flips_16]
    refine go_iload_n (q := 2) (i := 2) (pc := 16) hΓ d_M_flips_16 rfl rfl ?_
    refine go_aload_n (q := 0) (i := 0) (pc := 17) hΓ d_M_flips_17 rfl rfl ?_
    refine go_getR (q := 47) (pc := 18) hΓ fl_M_17 d_M_flips_18 rfl rfl ?_
    refine go_iload_n (q := 1) (i := 1) (pc := 21) hΓ d_M_flips_21 rfl rfl ?_
    refine go_ck (fun h5 => ?_)
    refine go_iald (pc := 22) hΓ d_M_flips_22 rfl h5 ?_
    refine go_iconst (v := 2) (pc := 23) hΓ d_M_flips_23 (by decide) ?_
    refine go_idiv (pc := 24) hΓ d_M_flips_24 (by decide) ?_
    refine go_icmp_ge 50 (pc := 25) hΓ d_M_flips_25 (by decide) (fun h6 => go_eq (if_neg h6) ?_) (fun h6 => go_eq (if_pos h6) ?_)
    · refine go_sub' (lv' := [(0, .ref 44), (1, .int x1)]) rfl ?_
      exact hK  μ0
    · refine go_aload_n (q := 0) (i := 0) (pc := 28) hΓ d_M_flips_28 rfl rfl ?_
      refine go_iload_n (q := 1) (i := 1) (pc := 29) hΓ d_M_flips_29 rfl rfl ?_
      refine go_iload_n (q := 2) (i := 2) (pc := 30) hΓ d_M_flips_30 rfl rfl ?_
      refine go_aload_n (q := 0) (i := 0) (pc := 31) hΓ d_M_flips_31 rfl rfl ?_
      refine go_getR (q := 47) (pc := 32) hΓ fl_M_17 d_M_flips_32 rfl rfl ?_
      refine go_iload_n (q := 1) (i := 1) (pc := 35) hΓ d_M_flips_35 rfl rfl ?_
      refine go_ck (fun h7 => ?_)
      refine go_iald (pc := 36) hΓ d_M_flips_36 rfl h7 ?_
      refine go_iconst (v := 1) (pc := 37) hΓ d_M_flips_37 (by decide) ?_
      refine go_isub (pc := 38) hΓ d_M_flips_38 ?_
      refine go_iload_n (q := 2) (i := 2) (pc := 39) hΓ d_M_flips_39 rfl rfl ?_
      refine go_isub (pc := 40) hΓ d_M_flips_40 ?_
      refine go_callV (index := 215) emV hΓ hR (g_M_changes N (d + 0) x1 a2 (((gI μ0 47 (tn x1)) - 1) - a2)) mi_M_changes ml_M_215 d_M_flips_41 rfl rfl rfl rfl rfl (fun _ μ9 => ?_)
      show Go Γ 3 44 [(0, .ref 44), (1, .int x1), (2, .int a2)] [] μ9 _
      refine go_incI (q := 2) (i := 2) (n := 1) (c := 1) (pc := 44) hΓ d_M_flips_44 rfl (by decide) (by decide) (fun v10 => ?_)
      refine go_sub' (lv' := [(2, .int v10), (0, .ref 44), (1, .int x1)]) rfl ?_
      refine go_goto 16 (pc := 47) hΓ d_M_flips_47 (by decide) ?_
      refine go_sub' (lv' := [(0, .ref 44), (1, .int x1), (2, .int v10)]) rfl ?_
      exact ih v10 μ9
set_option maxHeartbeats 4000000 in
set_option maxRecDepth 100000 in
theorem g_M_flips (N d : Nat) (x1 : Int32)  : CallF eI y_M_flips c_M_flips 3 (some .int) (d + 2 + 1) [.ref 44, .int x1] (f_M_flips N x1) := by
  refine call_of (d := d + 2) (n := 1) mi_M_flips.1 (fun _ => rfl) ?_
  intro Γ μ0 hΓ hT hR
  show Go Γ 3 0 [(0, .ref 44), (1, .int x1)] [] μ0 (f_M_flips N x1 μ0)
  unfold f_M_flips
  refine go_aload_n (q := 0) (i := 0) (pc := 0) hΓ d_M_flips_0 rfl rfl ?_
  refine go_iconst (v := 0) (pc := 1) hΓ d_M_flips_1 (by decide) ?_
  refine go_putI (pc := 2) hΓ fp_M_69 d_M_flips_2 rfl rfl ?_
  refine go_letM (fun μ1 => ?_)
  refine go_iload_n (q := 1) (i := 1) (pc := 5) hΓ d_M_flips_5 rfl rfl ?_
  refine go_callS (index := 151) emI hΓ hR (g_M_isNet N (d + 0) x1) mi_M_isNet ml_M_151 d_M_flips_6 rfl rfl rfl (fun r2 μ3 => ?_)
  show Go Γ 3 9 [(0, .ref 44), (1, .int x1)] [.int r2] μ3 _
  refine go_if_ne 14 (pc := 9) hΓ d_M_flips_9 (by decide) (fun h4 => go_eq (if_neg h4) ?_) (fun h4 => go_eq (if_pos h4) ?_)
  · refine go_iconst (v := 0) (pc := 14) hΓ d_M_flips_14 (by decide) ?_
    refine go_istore_n (i := 2) (lv' := [(2, .int 0), (0, .ref 44), (1, .int x1)]) (pc := 15) hΓ d_M_flips_15 rfl (by decide) rfl ?_
    refine go_sub' (lv' := [(0, .ref 44), (1, .int x1), (2, .int 0)]) rfl ?_
    refine glp_M_flips_16 N d hΓ hT hR x1 _ (fun μ11 => ?_) N 0 μ3
    refine go_aload_n (q := 0) (i := 0) (pc := 50) hΓ d_M_flips_50 rfl rfl ?_
    refine go_getR (q := 47) (pc := 51) hΓ fl_M_17 d_M_flips_51 rfl rfl ?_
    refine go_iload_n (q := 1) (i := 1) (pc := 54) hΓ d_M_flips_54 rfl rfl ?_
    refine go_ck (fun h12 => ?_)
    refine go_iald (pc := 55) hΓ d_M_flips_55 rfl h12 ?_
    exact go_iret (pc := 56) hΓ hT d_M_flips_56
  · refine go_iconst (v := -1) (pc := 12) hΓ d_M_flips_12 (by decide) ?_
    exact go_iret (pc := 13) hΓ hT d_M_flips_13
def lp_M_mirrors_16 (N : Nat) (x1 : Int32)  (K : Mem → Option (Int32 × Mem)) : Nat → Int32 → Mem → Option (Int32 × Mem)
  | 0, _, _ => none
  | n + 1, a2, μ0 => ck (inb x1 4) (if a2 < (gI μ0 47 (tn x1)) then (ck (inb x1 4) (bnd (f_M_highOf N x1 a2 μ0) fun r8 μ9 => ck (inb x1 4) (bnd (f_M_lowOf N x1 a2 μ9) fun r11 μ12 => bnd (f_M_sets N x1 a2 (((gI μ0 46 (tn x1)) - 1) - r8) (((gI μ9 46 (tn x1)) - 1) - r11) μ12) fun _ μ14 => lt' (a2 + 1) fun v15 => lp_M_mirrors_16 N x1 K n v15 μ14))) else (K  μ0))
def f_M_mirrors (N : Nat) (x1 : Int32) (μ0 : Mem) : Option (Int32 × Mem) :=
  lt' (sI μ0 44 0 0) fun μ1 => bnd (f_M_isNet N x1 μ1) fun r2 μ3 => if r2 = 0 then (some ((-1), μ3)) else (lp_M_mirrors_16 N x1 (fun μ16 => ck (inb x1 4) (some (gI μ16 47 (tn x1), μ16))) N 0 μ3)
set_option maxHeartbeats 4000000 in
set_option maxRecDepth 100000 in
theorem glp_M_mirrors_16 (N d : Nat) {Γ : Cx Int32} (hΓ : Ok Γ "SortingNetsModel" c_M_mirrors 3) (hT : Rt Γ eI (some .int)) (hR : Rm Γ (d + 2)) (x1 : Int32)    (K : Mem → Option (Int32 × Mem)) (hK : ∀  (ν : Mem), Go Γ 3 68 [(0, .ref 44), (1, .int x1)] [] ν (K  ν)) : ∀ (n : Nat) (a2 : Int32) (μ0 : Mem), Go Γ 3 16 [(0, .ref 44), (1, .int x1), (2, .int a2)] [] μ0 (lp_M_mirrors_16 N x1 K n a2 μ0) := by
  intro n
  induction n with
  | zero => intro a2 μ0; exact go_none
  | succ n ih =>
    intro a2 μ0
    rw [lp_M_mirrors_16]
    refine go_iload_n (q := 2) (i := 2) (pc := 16) hΓ d_M_mirrors_16 rfl rfl ?_
    refine go_aload_n (q := 0) (i := 0) (pc := 17) hΓ d_M_mirrors_17 rfl rfl ?_
    refine go_getR (q := 47) (pc := 18) hΓ fl_M_17 d_M_mirrors_18 rfl rfl ?_
    refine go_iload_n (q := 1) (i := 1) (pc := 21) hΓ d_M_mirrors_21 rfl rfl ?_
    refine go_ck (fun h5 => ?_)
    refine go_iald (pc := 22) hΓ d_M_mirrors_22 rfl h5 ?_
    refine go_icmp_ge 68 (pc := 23) hΓ d_M_mirrors_23 (by decide) (fun h6 => go_eq (if_neg h6) ?_) (fun h6 => go_eq (if_pos h6) ?_)
    · refine go_sub' (lv' := [(0, .ref 44), (1, .int x1)]) rfl ?_
      exact hK  μ0
    · refine go_aload_n (q := 0) (i := 0) (pc := 26) hΓ d_M_mirrors_26 rfl rfl ?_
      refine go_iload_n (q := 1) (i := 1) (pc := 27) hΓ d_M_mirrors_27 rfl rfl ?_
      refine go_iload_n (q := 2) (i := 2) (pc := 28) hΓ d_M_mirrors_28 rfl rfl ?_
      refine go_aload_n (q := 0) (i := 0) (pc := 29) hΓ d_M_mirrors_29 rfl rfl ?_
      refine go_getR (q := 46) (pc := 30) hΓ fl_M_13 d_M_mirrors_30 rfl rfl ?_
      refine go_iload_n (q := 1) (i := 1) (pc := 33) hΓ d_M_mirrors_33 rfl rfl ?_
      refine go_ck (fun h7 => ?_)
      refine go_iald (pc := 34) hΓ d_M_mirrors_34 rfl h7 ?_
      refine go_iconst (v := 1) (pc := 35) hΓ d_M_mirrors_35 (by decide) ?_
      refine go_isub (pc := 36) hΓ d_M_mirrors_36 ?_
      refine go_aload_n (q := 0) (i := 0) (pc := 37) hΓ d_M_mirrors_37 rfl rfl ?_
      refine go_iload_n (q := 1) (i := 1) (pc := 38) hΓ d_M_mirrors_38 rfl rfl ?_
      refine go_iload_n (q := 2) (i := 2) (pc := 39) hΓ d_M_mirrors_39 rfl rfl ?_
      refine go_callV (index := 202) emI hΓ hR (g_M_highOf N (d + 1) x1 a2) mi_M_highOf ml_M_202 d_M_mirrors_40 rfl rfl rfl rfl rfl (fun r8 μ9 => ?_)
      show Go Γ 3 43 [(0, .ref 44), (1, .int x1), (2, .int a2)] [.int r8, .int ((gI μ0 46 (tn x1)) - 1), .int a2, .int x1, .ref 44] μ9 _
      refine go_isub (pc := 43) hΓ d_M_mirrors_43 ?_
      refine go_aload_n (q := 0) (i := 0) (pc := 44) hΓ d_M_mirrors_44 rfl rfl ?_
      refine go_getR (q := 46) (pc := 45) hΓ fl_M_13 d_M_mirrors_45 rfl rfl ?_
      refine go_iload_n (q := 1) (i := 1) (pc := 48) hΓ d_M_mirrors_48 rfl rfl ?_
      refine go_ck (fun h10 => ?_)
      refine go_iald (pc := 49) hΓ d_M_mirrors_49 rfl h10 ?_
      refine go_iconst (v := 1) (pc := 50) hΓ d_M_mirrors_50 (by decide) ?_
      refine go_isub (pc := 51) hΓ d_M_mirrors_51 ?_
      refine go_aload_n (q := 0) (i := 0) (pc := 52) hΓ d_M_mirrors_52 rfl rfl ?_
      refine go_iload_n (q := 1) (i := 1) (pc := 53) hΓ d_M_mirrors_53 rfl rfl ?_
      refine go_iload_n (q := 2) (i := 2) (pc := 54) hΓ d_M_mirrors_54 rfl rfl ?_
      refine go_callV (index := 199) emI hΓ hR (g_M_lowOf N (d + 1) x1 a2) mi_M_lowOf ml_M_199 d_M_mirrors_55 rfl rfl rfl rfl rfl (fun r11 μ12 => ?_)
      show Go Γ 3 58 [(0, .ref 44), (1, .int x1), (2, .int a2)] [.int r11, .int ((gI μ9 46 (tn x1)) - 1), .int (((gI μ0 46 (tn x1)) - 1) - r8), .int a2, .int x1, .ref 44] μ12 _
      refine go_isub (pc := 58) hΓ d_M_mirrors_58 ?_
      refine go_callV (index := 90) emV hΓ hR (g_M_sets N (d + 1) x1 a2 (((gI μ0 46 (tn x1)) - 1) - r8) (((gI μ9 46 (tn x1)) - 1) - r11)) mi_M_sets ml_M_90 d_M_mirrors_59 rfl rfl rfl rfl rfl (fun _ μ14 => ?_)
      show Go Γ 3 62 [(0, .ref 44), (1, .int x1), (2, .int a2)] [] μ14 _
      refine go_incI (q := 2) (i := 2) (n := 1) (c := 1) (pc := 62) hΓ d_M_mirrors_62 rfl (by decide) (by decide) (fun v15 => ?_)
      refine go_sub' (lv' := [(2, .int v15), (0, .ref 44), (1, .int x1)]) rfl ?_
      refine go_goto 16 (pc := 65) hΓ d_M_mirrors_65 (by decide) ?_
      refine go_sub' (lv' := [(0, .ref 44), (1, .int x1), (2, .int v15)]) rfl ?_
      exact ih v15 μ14
set_option maxHeartbeats 4000000 in
set_option maxRecDepth 100000 in
theorem g_M_mirrors (N d : Nat) (x1 : Int32)  : CallF eI y_M_mirrors c_M_mirrors 3 (some .int) (d + 2 + 1) [.ref 44, .int x1] (f_M_mirrors N x1) := by
  refine call_of (d := d + 2) (n := 1) mi_M_mirrors.1 (fun _ => rfl) ?_
  intro Γ μ0 hΓ hT hR
  show Go Γ 3 0 [(0, .ref 44), (1, .int x1)] [] μ0 (f_M_mirrors N x1 μ0)
  unfold f_M_mirrors
  refine go_aload_n (q := 0) (i := 0) (pc := 0) hΓ d_M_mirrors_0 rfl rfl ?_
  refine go_iconst (v := 0) (pc := 1) hΓ d_M_mirrors_1 (by decide) ?_
  refine go_putI (pc := 2) hΓ fp_M_69 d_M_mirrors_2 rfl rfl ?_
  refine go_letM (fun μ1 => ?_)
  refine go_iload_n (q := 1) (i := 1) (pc := 5) hΓ d_M_mirrors_5 rfl rfl ?_
  refine go_callS (index := 151) emI hΓ hR (g_M_isNet N (d + 0) x1) mi_M_isNet ml_M_151 d_M_mirrors_6 rfl rfl rfl (fun r2 μ3 => ?_)
  show Go Γ 3 9 [(0, .ref 44), (1, .int x1)] [.int r2] μ3 _
  refine go_if_ne 14 (pc := 9) hΓ d_M_mirrors_9 (by decide) (fun h4 => go_eq (if_neg h4) ?_) (fun h4 => go_eq (if_pos h4) ?_)
  · refine go_iconst (v := 0) (pc := 14) hΓ d_M_mirrors_14 (by decide) ?_
    refine go_istore_n (i := 2) (lv' := [(2, .int 0), (0, .ref 44), (1, .int x1)]) (pc := 15) hΓ d_M_mirrors_15 rfl (by decide) rfl ?_
    refine go_sub' (lv' := [(0, .ref 44), (1, .int x1), (2, .int 0)]) rfl ?_
    refine glp_M_mirrors_16 N d hΓ hT hR x1 _ (fun μ16 => ?_) N 0 μ3
    refine go_aload_n (q := 0) (i := 0) (pc := 68) hΓ d_M_mirrors_68 rfl rfl ?_
    refine go_getR (q := 47) (pc := 69) hΓ fl_M_17 d_M_mirrors_69 rfl rfl ?_
    refine go_iload_n (q := 1) (i := 1) (pc := 72) hΓ d_M_mirrors_72 rfl rfl ?_
    refine go_ck (fun h17 => ?_)
    refine go_iald (pc := 73) hΓ d_M_mirrors_73 rfl h17 ?_
    exact go_iret (pc := 74) hΓ hT d_M_mirrors_74
  · refine go_iconst (v := -1) (pc := 12) hΓ d_M_mirrors_12 (by decide) ?_
    exact go_iret (pc := 13) hΓ hT d_M_mirrors_13
def lp_M_laysLayers_2 (N : Nat) (x1 : Int32)  (K : Mem → Option (Int32 × Mem)) : Nat → Int32 → Mem → Option (Int32 × Mem)
  | 0, _, _ => none
  | n + 1, a2, μ0 => if a2 < 8 then (ck (inb a2 8) (lt' (sI μ0 55 (tn a2) 0) fun μ3 => lt' (a2 + 1) fun v4 => lp_M_laysLayers_2 N x1 K n v4 μ3)) else (K  μ0)
def lp_M_laysLayers_25 (N : Nat) (x1 : Int32)  (K : Int32 → Mem → Option (Int32 × Mem)) : Nat → Int32 → Int32 → Mem → Option (Int32 × Mem)
  | 0, _, _, _ => none
  | n + 1, a2, a3, μ0 => ck (inb x1 4) (if a3 < (gI μ0 47 (tn x1)) then (bnd (f_M_lowOf N x1 a3 μ0) fun r8 μ9 => bnd (f_M_highOf N x1 a3 μ9) fun r10 μ11 => ck (inb r8 8) (ck (inb r10 8) (ck (inb a3 60) (lt' (sI μ11 54 (tn a3) (1 + (mxI (gI μ11 55 (tn r8)) (gI μ11 55 (tn r10))))) fun μ15 => ck (inb a3 60) (ck (inb r8 8) (lt' (sI μ15 55 (tn r8) (gI μ15 54 (tn a3))) fun μ18 => ck (inb a3 60) (ck (inb r10 8) (lt' (sI μ18 55 (tn r10) (gI μ18 54 (tn a3))) fun μ21 => ck (inb a3 60) (lt' (mxI a2 (gI μ21 54 (tn a3))) fun v23 => lt' (a3 + 1) fun v24 => lp_M_laysLayers_25 N x1 K n v23 v24 μ21))))))))) else (K a2 μ0))
def f_M_laysLayers (N : Nat) (x1 : Int32) (μ0 : Mem) : Option (Int32 × Mem) :=
  lp_M_laysLayers_2 N x1 (fun μ5 => lp_M_laysLayers_25 N x1 (fun v25 μ26 => some (v25, μ26)) N 0 0 μ5) N 0 μ0
set_option maxHeartbeats 4000000 in
set_option maxRecDepth 100000 in
theorem glp_M_laysLayers_2 (N d : Nat) {Γ : Cx Int32} (hΓ : Ok Γ "SortingNetsModel" c_M_laysLayers 6) (hT : Rt Γ eI (some .int)) (hR : Rm Γ (d + 1)) (x1 : Int32)    (K : Mem → Option (Int32 × Mem)) (hK : ∀  (ν : Mem), Go Γ 6 21 [(0, .ref 44), (1, .int x1)] [] ν (K  ν)) : ∀ (n : Nat) (a2 : Int32) (μ0 : Mem), Go Γ 6 2 [(0, .ref 44), (1, .int x1), (2, .int a2)] [] μ0 (lp_M_laysLayers_2 N x1 K n a2 μ0) := by
  intro n
  induction n with
  | zero => intro a2 μ0; exact go_none
  | succ n ih =>
    intro a2 μ0
    rw [lp_M_laysLayers_2]
    refine go_iload_n (q := 2) (i := 2) (pc := 2) hΓ d_M_laysLayers_2 rfl rfl ?_
    refine go_bipush (v := 8) (pc := 3) hΓ d_M_laysLayers_3 (by decide) ?_
    refine go_icmp_ge 21 (pc := 5) hΓ d_M_laysLayers_5 (by decide) (fun h1 => go_eq (if_neg h1) ?_) (fun h1 => go_eq (if_pos h1) ?_)
    · refine go_sub' (lv' := [(0, .ref 44), (1, .int x1)]) rfl ?_
      exact hK  μ0
    · refine go_aload_n (q := 0) (i := 0) (pc := 8) hΓ d_M_laysLayers_8 rfl rfl ?_
      refine go_getR (q := 55) (pc := 9) hΓ fl_M_41 d_M_laysLayers_9 rfl rfl ?_
      refine go_iload_n (q := 2) (i := 2) (pc := 12) hΓ d_M_laysLayers_12 rfl rfl ?_
      refine go_iconst (v := 0) (pc := 13) hΓ d_M_laysLayers_13 (by decide) ?_
      refine go_ck (fun h2 => ?_)
      refine go_iast (pc := 14) hΓ d_M_laysLayers_14 rfl h2 ?_
      refine go_letM (fun μ3 => ?_)
      refine go_incI (q := 2) (i := 2) (n := 1) (c := 1) (pc := 15) hΓ d_M_laysLayers_15 rfl (by decide) (by decide) (fun v4 => ?_)
      refine go_sub' (lv' := [(2, .int v4), (0, .ref 44), (1, .int x1)]) rfl ?_
      refine go_goto 2 (pc := 18) hΓ d_M_laysLayers_18 (by decide) ?_
      refine go_sub' (lv' := [(0, .ref 44), (1, .int x1), (2, .int v4)]) rfl ?_
      exact ih v4 μ3
set_option maxHeartbeats 4000000 in
set_option maxRecDepth 100000 in
theorem glp_M_laysLayers_25 (N d : Nat) {Γ : Cx Int32} (hΓ : Ok Γ "SortingNetsModel" c_M_laysLayers 6) (hT : Rt Γ eI (some .int)) (hR : Rm Γ (d + 1)) (x1 : Int32)    (K : Int32 → Mem → Option (Int32 × Mem)) (hK : ∀ (b2 : Int32) (ν : Mem), Go Γ 6 119 [(2, .int b2)] [] ν (K b2 ν)) : ∀ (n : Nat) (a2 : Int32) (a3 : Int32) (μ0 : Mem), Go Γ 6 25 [(0, .ref 44), (1, .int x1), (2, .int a2), (3, .int a3)] [] μ0 (lp_M_laysLayers_25 N x1 K n a2 a3 μ0) := by
  intro n
  induction n with
  | zero => intro a2 a3 μ0; exact go_none
  | succ n ih =>
    intro a2 a3 μ0
    rw [lp_M_laysLayers_25]
    refine go_iload_n (q := 3) (i := 3) (pc := 25) hΓ d_M_laysLayers_25 rfl rfl ?_
    refine go_aload_n (q := 0) (i := 0) (pc := 26) hΓ d_M_laysLayers_26 rfl rfl ?_
    refine go_getR (q := 47) (pc := 27) hΓ fl_M_17 d_M_laysLayers_27 rfl rfl ?_
    refine go_iload_n (q := 1) (i := 1) (pc := 30) hΓ d_M_laysLayers_30 rfl rfl ?_
    refine go_ck (fun h6 => ?_)
    refine go_iald (pc := 31) hΓ d_M_laysLayers_31 rfl h6 ?_
    refine go_icmp_ge 119 (pc := 32) hΓ d_M_laysLayers_32 (by decide) (fun h7 => go_eq (if_neg h7) ?_) (fun h7 => go_eq (if_pos h7) ?_)
    · refine go_sub' (lv' := [(2, .int a2)]) rfl ?_
      exact hK a2 μ0
    · refine go_aload_n (q := 0) (i := 0) (pc := 35) hΓ d_M_laysLayers_35 rfl rfl ?_
      refine go_iload_n (q := 1) (i := 1) (pc := 36) hΓ d_M_laysLayers_36 rfl rfl ?_
      refine go_iload_n (q := 3) (i := 3) (pc := 37) hΓ d_M_laysLayers_37 rfl rfl ?_
      refine go_callV (index := 199) emI hΓ hR (g_M_lowOf N (d + 0) x1 a3) mi_M_lowOf ml_M_199 d_M_laysLayers_38 rfl rfl rfl rfl rfl (fun r8 μ9 => ?_)
      show Go Γ 6 41 [(0, .ref 44), (1, .int x1), (2, .int a2), (3, .int a3)] [.int r8] μ9 _
      refine go_istore (lv' := [(4, .int r8), (0, .ref 44), (1, .int x1), (2, .int a2), (3, .int a3)]) (pc := 41) hΓ d_M_laysLayers_41 (by decide) rfl ?_
      refine go_aload_n (q := 1) (i := 0) (pc := 43) hΓ d_M_laysLayers_43 rfl rfl ?_
      refine go_iload_n (q := 2) (i := 1) (pc := 44) hΓ d_M_laysLayers_44 rfl rfl ?_
      refine go_iload_n (q := 4) (i := 3) (pc := 45) hΓ d_M_laysLayers_45 rfl rfl ?_
      refine go_callV (index := 202) emI hΓ hR (g_M_highOf N (d + 0) x1 a3) mi_M_highOf ml_M_202 d_M_laysLayers_46 rfl rfl rfl rfl rfl (fun r10 μ11 => ?_)
      show Go Γ 6 49 [(4, .int r8), (0, .ref 44), (1, .int x1), (2, .int a2), (3, .int a3)] [.int r10] μ11 _
      refine go_istore (lv' := [(5, .int r10), (4, .int r8), (0, .ref 44), (1, .int x1), (2, .int a2), (3, .int a3)]) (pc := 49) hΓ d_M_laysLayers_49 (by decide) rfl ?_
      refine go_aload_n (q := 2) (i := 0) (pc := 51) hΓ d_M_laysLayers_51 rfl rfl ?_
      refine go_getR (q := 54) (pc := 52) hΓ fl_M_38 d_M_laysLayers_52 rfl rfl ?_
      refine go_iload_n (q := 5) (i := 3) (pc := 55) hΓ d_M_laysLayers_55 rfl rfl ?_
      refine go_iconst (v := 1) (pc := 56) hΓ d_M_laysLayers_56 (by decide) ?_
      refine go_aload_n (q := 2) (i := 0) (pc := 57) hΓ d_M_laysLayers_57 rfl rfl ?_
      refine go_getR (q := 55) (pc := 58) hΓ fl_M_41 d_M_laysLayers_58 rfl rfl ?_
      refine go_iload (q := 1) (pc := 61) hΓ d_M_laysLayers_61 rfl ?_
      refine go_ck (fun h12 => ?_)
      refine go_iald (pc := 63) hΓ d_M_laysLayers_63 rfl h12 ?_
      refine go_aload_n (q := 2) (i := 0) (pc := 64) hΓ d_M_laysLayers_64 rfl rfl ?_
      refine go_getR (q := 55) (pc := 65) hΓ fl_M_41 d_M_laysLayers_65 rfl rfl ?_
      refine go_iload (q := 0) (pc := 68) hΓ d_M_laysLayers_68 rfl ?_
      refine go_ck (fun h13 => ?_)
      refine go_iald (pc := 70) hΓ d_M_laysLayers_70 rfl h13 ?_
      refine go_max (index := 138) (pc := 71) hΓ hR ml_M_138 d_M_laysLayers_71 rfl ?_
      refine go_iadd (pc := 74) hΓ d_M_laysLayers_74 ?_
      refine go_ck (fun h14 => ?_)
      refine go_iast (pc := 75) hΓ d_M_laysLayers_75 rfl h14 ?_
      refine go_letM (fun μ15 => ?_)
      refine go_aload_n (q := 2) (i := 0) (pc := 76) hΓ d_M_laysLayers_76 rfl rfl ?_
      refine go_getR (q := 55) (pc := 77) hΓ fl_M_41 d_M_laysLayers_77 rfl rfl ?_
      refine go_iload (q := 1) (pc := 80) hΓ d_M_laysLayers_80 rfl ?_
      refine go_aload_n (q := 2) (i := 0) (pc := 82) hΓ d_M_laysLayers_82 rfl rfl ?_
      refine go_getR (q := 54) (pc := 83) hΓ fl_M_38 d_M_laysLayers_83 rfl rfl ?_
      refine go_iload_n (q := 5) (i := 3) (pc := 86) hΓ d_M_laysLayers_86 rfl rfl ?_
      refine go_ck (fun h16 => ?_)
      refine go_iald (pc := 87) hΓ d_M_laysLayers_87 rfl h16 ?_
      refine go_ck (fun h17 => ?_)
      refine go_iast (pc := 88) hΓ d_M_laysLayers_88 rfl h17 ?_
      refine go_letM (fun μ18 => ?_)
      refine go_aload_n (q := 2) (i := 0) (pc := 89) hΓ d_M_laysLayers_89 rfl rfl ?_
      refine go_getR (q := 55) (pc := 90) hΓ fl_M_41 d_M_laysLayers_90 rfl rfl ?_
      refine go_iload (q := 0) (pc := 93) hΓ d_M_laysLayers_93 rfl ?_
      refine go_aload_n (q := 2) (i := 0) (pc := 95) hΓ d_M_laysLayers_95 rfl rfl ?_
      refine go_getR (q := 54) (pc := 96) hΓ fl_M_38 d_M_laysLayers_96 rfl rfl ?_
      refine go_iload_n (q := 5) (i := 3) (pc := 99) hΓ d_M_laysLayers_99 rfl rfl ?_
      refine go_ck (fun h19 => ?_)
      refine go_iald (pc := 100) hΓ d_M_laysLayers_100 rfl h19 ?_
      refine go_ck (fun h20 => ?_)
      refine go_iast (pc := 101) hΓ d_M_laysLayers_101 rfl h20 ?_
      refine go_letM (fun μ21 => ?_)
      refine go_iload_n (q := 4) (i := 2) (pc := 102) hΓ d_M_laysLayers_102 rfl rfl ?_
      refine go_aload_n (q := 2) (i := 0) (pc := 103) hΓ d_M_laysLayers_103 rfl rfl ?_
      refine go_getR (q := 54) (pc := 104) hΓ fl_M_38 d_M_laysLayers_104 rfl rfl ?_
      refine go_iload_n (q := 5) (i := 3) (pc := 107) hΓ d_M_laysLayers_107 rfl rfl ?_
      refine go_ck (fun h22 => ?_)
      refine go_iald (pc := 108) hΓ d_M_laysLayers_108 rfl h22 ?_
      refine go_max (index := 138) (pc := 109) hΓ hR ml_M_138 d_M_laysLayers_109 rfl ?_
      refine go_letI (fun v23 => ?_)
      refine go_istore_n (i := 2) (lv' := [(2, .int v23), (5, .int r10), (4, .int r8), (0, .ref 44), (1, .int x1), (3, .int a3)]) (pc := 112) hΓ d_M_laysLayers_112 rfl (by decide) rfl ?_
      refine go_incI (q := 5) (i := 3) (n := 1) (c := 1) (pc := 113) hΓ d_M_laysLayers_113 rfl (by decide) (by decide) (fun v24 => ?_)
      refine go_sub' (lv' := [(3, .int v24), (2, .int v23), (5, .int r10), (4, .int r8), (0, .ref 44), (1, .int x1)]) rfl ?_
      refine go_goto 25 (pc := 116) hΓ d_M_laysLayers_116 (by decide) ?_
      refine go_sub' (lv' := [(0, .ref 44), (1, .int x1), (2, .int v23), (3, .int v24)]) rfl ?_
      exact ih v23 v24 μ21
set_option maxHeartbeats 4000000 in
set_option maxRecDepth 100000 in
theorem g_M_laysLayers (N d : Nat) (x1 : Int32)  : CallF eI y_M_laysLayers c_M_laysLayers 6 (some .int) (d + 1 + 1) [.ref 44, .int x1] (f_M_laysLayers N x1) := by
  refine call_of (d := d + 1) (n := 1) mi_M_laysLayers.1 (fun _ => rfl) ?_
  intro Γ μ0 hΓ hT hR
  show Go Γ 6 0 [(0, .ref 44), (1, .int x1)] [] μ0 (f_M_laysLayers N x1 μ0)
  unfold f_M_laysLayers
  refine go_iconst (v := 0) (pc := 0) hΓ d_M_laysLayers_0 (by decide) ?_
  refine go_istore_n (i := 2) (lv' := [(2, .int 0), (0, .ref 44), (1, .int x1)]) (pc := 1) hΓ d_M_laysLayers_1 rfl (by decide) rfl ?_
  refine go_sub' (lv' := [(0, .ref 44), (1, .int x1), (2, .int 0)]) rfl ?_
  refine glp_M_laysLayers_2 N d hΓ hT hR x1 _ (fun μ5 => ?_) N 0 μ0
  refine go_iconst (v := 0) (pc := 21) hΓ d_M_laysLayers_21 (by decide) ?_
  refine go_istore_n (i := 2) (lv' := [(2, .int 0), (0, .ref 44), (1, .int x1)]) (pc := 22) hΓ d_M_laysLayers_22 rfl (by decide) rfl ?_
  refine go_iconst (v := 0) (pc := 23) hΓ d_M_laysLayers_23 (by decide) ?_
  refine go_istore_n (i := 3) (lv' := [(3, .int 0), (2, .int 0), (0, .ref 44), (1, .int x1)]) (pc := 24) hΓ d_M_laysLayers_24 rfl (by decide) rfl ?_
  refine go_sub' (lv' := [(0, .ref 44), (1, .int x1), (2, .int 0), (3, .int 0)]) rfl ?_
  refine glp_M_laysLayers_25 N d hΓ hT hR x1 _ (fun v25 μ26 => ?_) N 0 0 μ5
  refine go_iload_n (q := 0) (i := 2) (pc := 119) hΓ d_M_laysLayers_119 rfl rfl ?_
  exact go_iret (pc := 120) hΓ hT d_M_laysLayers_120
def lp_M_lays_48 (N : Nat) (x1 : Int32) (x2 : Int32) (x4 : Int32) (x5 : Int32)  (K : Int32 → Mem → Option (Int32 × Mem)) : Nat → Int32 → Int32 → Mem → Option (Int32 × Mem)
  | 0, _, _, _ => none
  | n + 1, a3, a6, μ0 => ck (inb x1 4) (if a6 < (gI μ0 47 (tn x1)) then (ck (inb a6 60) (lt' (fun (w14 : Int32) (μ15 : Mem) => lt' (a6 + 1) fun v16 => lp_M_lays_48 N x1 x2 x4 x5 K n w14 v16 μ15) fun (k13 : Int32 → Mem → Option (Int32 × Mem)) => if (gI μ0 54 (tn a6)) = x4 then (bnd (f_M_lowOf N x1 a6 μ0) fun r18 μ19 => if r18 = x5 then (ck (inb a3 60) (lt' (sI μ19 51 (tn a3) x5) fun μ22 => bnd (f_M_highOf N x1 a6 μ22) fun r23 μ24 => ck (inb a3 60) (lt' (sI μ24 52 (tn a3) r23) fun μ26 => lt' (a3 + 1) fun v27 => k13 v27 μ26))) else (k13 a3 μ19)) else (k13 a3 μ0))) else (K a3 μ0))
def lp_M_lays_34 (N : Nat) (x1 : Int32) (x2 : Int32) (x4 : Int32)  (K : Int32 → Mem → Option (Int32 × Mem)) : Nat → Int32 → Int32 → Mem → Option (Int32 × Mem)
  | 0, _, _, _ => none
  | n + 1, a3, a5, μ0 => ck (inb x1 4) (if a5 < (gI μ0 46 (tn x1)) then (lp_M_lays_48 N x1 x2 x4 a5 (fun v28 μ29 => lt' (a5 + 1) fun v30 => lp_M_lays_34 N x1 x2 x4 K n v28 v30 μ29) N a3 0 μ0) else (K a3 μ0))
def lp_M_lays_25 (N : Nat) (x1 : Int32) (x2 : Int32)  (K : Int32 → Mem → Option (Int32 × Mem)) : Nat → Int32 → Int32 → Mem → Option (Int32 × Mem)
  | 0, _, _, _ => none
  | n + 1, a3, a4, μ0 => if x2 < a4 then (K a3 μ0) else (lp_M_lays_34 N x1 x2 a4 (fun v31 μ32 => lt' (a4 + 1) fun v33 => lp_M_lays_25 N x1 x2 K n v31 v33 μ32) N a3 0 μ0)
def lp_M_lays_134 (N : Nat) (x1 : Int32) (x3 : Int32)  (K : Int32 → Mem → Option (Int32 × Mem)) : Nat → Int32 → Int32 → Mem → Option (Int32 × Mem)
  | 0, _, _, _ => none
  | n + 1, a4, a5, μ0 => if a5 < x3 then (bnd (f_M_lowOf N x1 a5 μ0) fun r37 μ38 => ck (inb a5 60) (lt' (fun (w41 : Int32) (μ42 : Mem) => bnd (f_M_flag N w41 μ42) fun r43 μ44 => lt' (a4 + r43) fun v45 => ck (inb a5 60) (ck (inb a5 60) (bnd (f_M_sets N x1 a5 (gI μ44 51 (tn a5)) (gI μ44 52 (tn a5)) μ44) fun _ μ49 => lt' (a5 + 1) fun v50 => lp_M_lays_134 N x1 x3 K n v45 v50 μ49))) fun (k40 : Int32 → Mem → Option (Int32 × Mem)) => lt' (fun (μ52 : Mem) => k40 1 μ52) fun (k51 : Mem → Option (Int32 × Mem)) => if r37 = (gI μ38 51 (tn a5)) then (bnd (f_M_highOf N x1 a5 μ38) fun r54 μ55 => ck (inb a5 60) (if r54 = (gI μ55 52 (tn a5)) then (k40 0 μ55) else (k51 μ55))) else (k51 μ38))) else (K a4 μ0)
def f_M_lays (N : Nat) (x1 : Int32) (μ0 : Mem) : Option (Int32 × Mem) :=
  lt' (sI μ0 44 0 0) fun μ1 => bnd (f_M_isNet N x1 μ1) fun r2 μ3 => if r2 = 0 then (some ((-1), μ3)) else (bnd (f_M_laysLayers N x1 μ3) fun r5 μ6 => lp_M_lays_25 N x1 r5 (fun v34 μ35 => lp_M_lays_134 N x1 v34 (fun v58 μ59 => some (v58, μ59)) N 0 0 μ35) N 0 1 μ6)
set_option maxHeartbeats 4000000 in
set_option maxRecDepth 100000 in
theorem glp_M_lays_48 (N d : Nat) {Γ : Cx Int32} (hΓ : Ok Γ "SortingNetsModel" c_M_lays 7) (hT : Rt Γ eI (some .int)) (hR : Rm Γ (d + 2)) (x1 : Int32) (x2 : Int32) (x4 : Int32) (x5 : Int32)    (K : Int32 → Mem → Option (Int32 × Mem)) (hK : ∀ (b3 : Int32) (ν : Mem), Go Γ 7 116 [(0, .ref 44), (1, .int x1), (2, .int x2), (3, .int b3), (4, .int x4), (5, .int x5)] [] ν (K b3 ν)) : ∀ (n : Nat) (a3 : Int32) (a6 : Int32) (μ0 : Mem), Go Γ 7 48 [(0, .ref 44), (1, .int x1), (2, .int x2), (3, .int a3), (4, .int x4), (5, .int x5), (6, .int a6)] [] μ0 (lp_M_lays_48 N x1 x2 x4 x5 K n a3 a6 μ0) := by
  intro n
  induction n with
  | zero => intro a3 a6 μ0; exact go_none
  | succ n ih =>
    intro a3 a6 μ0
    rw [lp_M_lays_48]
    refine go_iload (q := 6) (pc := 48) hΓ d_M_lays_48 rfl ?_
    refine go_aload_n (q := 0) (i := 0) (pc := 50) hΓ d_M_lays_50 rfl rfl ?_
    refine go_getR (q := 47) (pc := 51) hΓ fl_M_17 d_M_lays_51 rfl rfl ?_
    refine go_iload_n (q := 1) (i := 1) (pc := 54) hΓ d_M_lays_54 rfl rfl ?_
    refine go_ck (fun h10 => ?_)
    refine go_iald (pc := 55) hΓ d_M_lays_55 rfl h10 ?_
    refine go_icmp_ge 116 (pc := 56) hΓ d_M_lays_56 (by decide) (fun h11 => go_eq (if_neg h11) ?_) (fun h11 => go_eq (if_pos h11) ?_)
    · refine go_sub' (lv' := [(0, .ref 44), (1, .int x1), (2, .int x2), (3, .int a3), (4, .int x4), (5, .int x5)]) rfl ?_
      exact hK a3 μ0
    · refine go_aload_n (q := 0) (i := 0) (pc := 59) hΓ d_M_lays_59 rfl rfl ?_
      refine go_getR (q := 54) (pc := 60) hΓ fl_M_38 d_M_lays_60 rfl rfl ?_
      refine go_iload (q := 6) (pc := 63) hΓ d_M_lays_63 rfl ?_
      refine go_ck (fun h12 => ?_)
      refine go_iald (pc := 65) hΓ d_M_lays_65 rfl h12 ?_
      refine go_iload (q := 4) (pc := 66) hΓ d_M_lays_66 rfl ?_
      refine go_join (fun (k13 : Int32 → Mem → Option (Int32 × Mem)) => ∀ (w14 : Int32) (μ15 : Mem), Go Γ 7 110 [(0, .ref 44), (1, .int x1), (2, .int x2), (3, .int w14), (4, .int x4), (5, .int x5), (6, .int a6)] [] μ15 (k13 w14 μ15)) ?_ (fun k13 k13h => ?_)
      · intro w14 μ15
        refine go_incI (q := 6) (i := 6) (n := 1) (c := 1) (pc := 110) hΓ d_M_lays_110 rfl (by decide) (by decide) (fun v16 => ?_)
        refine go_sub' (lv' := [(6, .int v16), (0, .ref 44), (1, .int x1), (2, .int x2), (3, .int w14), (4, .int x4), (5, .int x5)]) rfl ?_
        refine go_goto 48 (pc := 113) hΓ d_M_lays_113 (by decide) ?_
        refine go_sub' (lv' := [(0, .ref 44), (1, .int x1), (2, .int x2), (3, .int w14), (4, .int x4), (5, .int x5), (6, .int v16)]) rfl ?_
        exact ih w14 v16 μ15
      · refine go_icmp_ne 110 (pc := 68) hΓ d_M_lays_68 (by decide) (fun h17 => go_eq (if_neg h17) ?_) (fun h17 => go_eq (if_pos h17) ?_)
        · refine go_sub' (lv' := [(0, .ref 44), (1, .int x1), (2, .int x2), (3, .int a3), (4, .int x4), (5, .int x5), (6, .int a6)]) rfl ?_
          exact k13h a3 μ0
        · refine go_aload_n (q := 0) (i := 0) (pc := 71) hΓ d_M_lays_71 rfl rfl ?_
          refine go_iload_n (q := 1) (i := 1) (pc := 72) hΓ d_M_lays_72 rfl rfl ?_
          refine go_iload (q := 6) (pc := 73) hΓ d_M_lays_73 rfl ?_
          refine go_callV (index := 199) emI hΓ hR (g_M_lowOf N (d + 1) x1 a6) mi_M_lowOf ml_M_199 d_M_lays_75 rfl rfl rfl rfl rfl (fun r18 μ19 => ?_)
          show Go Γ 7 78 [(0, .ref 44), (1, .int x1), (2, .int x2), (3, .int a3), (4, .int x4), (5, .int x5), (6, .int a6)] [.int r18] μ19 _
          refine go_iload (q := 5) (pc := 78) hΓ d_M_lays_78 rfl ?_
          refine go_icmp_eq 86 (pc := 80) hΓ d_M_lays_80 (by decide) (fun h20 => go_eq (if_pos h20) ?_) (fun h20 => go_eq (if_neg h20) ?_)
          · refine go_aload_n (q := 0) (i := 0) (pc := 86) hΓ d_M_lays_86 rfl rfl ?_
            refine go_getR (q := 51) (pc := 87) hΓ fl_M_29 d_M_lays_87 rfl rfl ?_
            refine go_iload_n (q := 3) (i := 3) (pc := 90) hΓ d_M_lays_90 rfl rfl ?_
            refine go_iload (q := 5) (pc := 91) hΓ d_M_lays_91 rfl ?_
            refine go_ck (fun h21 => ?_)
            refine go_iast (pc := 93) hΓ d_M_lays_93 rfl h21 ?_
            refine go_letM (fun μ22 => ?_)
            refine go_aload_n (q := 0) (i := 0) (pc := 94) hΓ d_M_lays_94 rfl rfl ?_
            refine go_getR (q := 52) (pc := 95) hΓ fl_M_32 d_M_lays_95 rfl rfl ?_
            refine go_iload_n (q := 3) (i := 3) (pc := 98) hΓ d_M_lays_98 rfl rfl ?_
            refine go_aload_n (q := 0) (i := 0) (pc := 99) hΓ d_M_lays_99 rfl rfl ?_
            refine go_iload_n (q := 1) (i := 1) (pc := 100) hΓ d_M_lays_100 rfl rfl ?_
            refine go_iload (q := 6) (pc := 101) hΓ d_M_lays_101 rfl ?_
            refine go_callV (index := 202) emI hΓ hR (g_M_highOf N (d + 1) x1 a6) mi_M_highOf ml_M_202 d_M_lays_103 rfl rfl rfl rfl rfl (fun r23 μ24 => ?_)
            show Go Γ 7 106 [(0, .ref 44), (1, .int x1), (2, .int x2), (3, .int a3), (4, .int x4), (5, .int x5), (6, .int a6)] [.int r23, .int a3, .ref 52] μ24 _
            refine go_ck (fun h25 => ?_)
            refine go_iast (pc := 106) hΓ d_M_lays_106 rfl h25 ?_
            refine go_letM (fun μ26 => ?_)
            refine go_incI (q := 3) (i := 3) (n := 1) (c := 1) (pc := 107) hΓ d_M_lays_107 rfl (by decide) (by decide) (fun v27 => ?_)
            refine go_sub' (lv' := [(3, .int v27), (0, .ref 44), (1, .int x1), (2, .int x2), (4, .int x4), (5, .int x5), (6, .int a6)]) rfl ?_
            refine go_sub' (lv' := [(0, .ref 44), (1, .int x1), (2, .int x2), (3, .int v27), (4, .int x4), (5, .int x5), (6, .int a6)]) rfl ?_
            exact k13h v27 μ26
          · refine go_goto 110 (pc := 83) hΓ d_M_lays_83 (by decide) ?_
            refine go_sub' (lv' := [(0, .ref 44), (1, .int x1), (2, .int x2), (3, .int a3), (4, .int x4), (5, .int x5), (6, .int a6)]) rfl ?_
            exact k13h a3 μ19
set_option maxHeartbeats 4000000 in
set_option maxRecDepth 100000 in
theorem glp_M_lays_34 (N d : Nat) {Γ : Cx Int32} (hΓ : Ok Γ "SortingNetsModel" c_M_lays 7) (hT : Rt Γ eI (some .int)) (hR : Rm Γ (d + 2)) (x1 : Int32) (x2 : Int32) (x4 : Int32)    (K : Int32 → Mem → Option (Int32 × Mem)) (hK : ∀ (b3 : Int32) (ν : Mem), Go Γ 7 122 [(0, .ref 44), (1, .int x1), (2, .int x2), (3, .int b3), (4, .int x4)] [] ν (K b3 ν)) : ∀ (n : Nat) (a3 : Int32) (a5 : Int32) (μ0 : Mem), Go Γ 7 34 [(0, .ref 44), (1, .int x1), (2, .int x2), (3, .int a3), (4, .int x4), (5, .int a5)] [] μ0 (lp_M_lays_34 N x1 x2 x4 K n a3 a5 μ0) := by
  intro n
  induction n with
  | zero => intro a3 a5 μ0; exact go_none
  | succ n ih =>
    intro a3 a5 μ0
    rw [lp_M_lays_34]
    refine go_iload (q := 5) (pc := 34) hΓ d_M_lays_34 rfl ?_
    refine go_aload_n (q := 0) (i := 0) (pc := 36) hΓ d_M_lays_36 rfl rfl ?_
    refine go_getR (q := 46) (pc := 37) hΓ fl_M_13 d_M_lays_37 rfl rfl ?_
    refine go_iload_n (q := 1) (i := 1) (pc := 40) hΓ d_M_lays_40 rfl rfl ?_
    refine go_ck (fun h8 => ?_)
    refine go_iald (pc := 41) hΓ d_M_lays_41 rfl h8 ?_
    refine go_icmp_ge 122 (pc := 42) hΓ d_M_lays_42 (by decide) (fun h9 => go_eq (if_neg h9) ?_) (fun h9 => go_eq (if_pos h9) ?_)
    · refine go_sub' (lv' := [(0, .ref 44), (1, .int x1), (2, .int x2), (3, .int a3), (4, .int x4)]) rfl ?_
      exact hK a3 μ0
    · refine go_iconst (v := 0) (pc := 45) hΓ d_M_lays_45 (by decide) ?_
      refine go_istore (lv' := [(6, .int 0), (0, .ref 44), (1, .int x1), (2, .int x2), (3, .int a3), (4, .int x4), (5, .int a5)]) (pc := 46) hΓ d_M_lays_46 (by decide) rfl ?_
      refine go_sub' (lv' := [(0, .ref 44), (1, .int x1), (2, .int x2), (3, .int a3), (4, .int x4), (5, .int a5), (6, .int 0)]) rfl ?_
      refine glp_M_lays_48 N d hΓ hT hR x1 x2 x4 a5 _ (fun v28 μ29 => ?_) N a3 0 μ0
      refine go_incI (q := 5) (i := 5) (n := 1) (c := 1) (pc := 116) hΓ d_M_lays_116 rfl (by decide) (by decide) (fun v30 => ?_)
      refine go_sub' (lv' := [(5, .int v30), (0, .ref 44), (1, .int x1), (2, .int x2), (3, .int v28), (4, .int x4)]) rfl ?_
      refine go_goto 34 (pc := 119) hΓ d_M_lays_119 (by decide) ?_
      refine go_sub' (lv' := [(0, .ref 44), (1, .int x1), (2, .int x2), (3, .int v28), (4, .int x4), (5, .int v30)]) rfl ?_
      exact ih v28 v30 μ29
set_option maxHeartbeats 4000000 in
set_option maxRecDepth 100000 in
theorem glp_M_lays_25 (N d : Nat) {Γ : Cx Int32} (hΓ : Ok Γ "SortingNetsModel" c_M_lays 7) (hT : Rt Γ eI (some .int)) (hR : Rm Γ (d + 2)) (x1 : Int32) (x2 : Int32)    (K : Int32 → Mem → Option (Int32 × Mem)) (hK : ∀ (b3 : Int32) (ν : Mem), Go Γ 7 128 [(0, .ref 44), (1, .int x1), (3, .int b3)] [] ν (K b3 ν)) : ∀ (n : Nat) (a3 : Int32) (a4 : Int32) (μ0 : Mem), Go Γ 7 25 [(0, .ref 44), (1, .int x1), (2, .int x2), (3, .int a3), (4, .int a4)] [] μ0 (lp_M_lays_25 N x1 x2 K n a3 a4 μ0) := by
  intro n
  induction n with
  | zero => intro a3 a4 μ0; exact go_none
  | succ n ih =>
    intro a3 a4 μ0
    rw [lp_M_lays_25]
    refine go_iload (q := 4) (pc := 25) hΓ d_M_lays_25 rfl ?_
    refine go_iload_n (q := 2) (i := 2) (pc := 27) hΓ d_M_lays_27 rfl rfl ?_
    refine go_icmp_gt 128 (pc := 28) hΓ d_M_lays_28 (by decide) (fun h7 => go_eq (if_pos h7) ?_) (fun h7 => go_eq (if_neg h7) ?_)
    · refine go_sub' (lv' := [(0, .ref 44), (1, .int x1), (3, .int a3)]) rfl ?_
      exact hK a3 μ0
    · refine go_iconst (v := 0) (pc := 31) hΓ d_M_lays_31 (by decide) ?_
      refine go_istore (lv' := [(5, .int 0), (0, .ref 44), (1, .int x1), (2, .int x2), (3, .int a3), (4, .int a4)]) (pc := 32) hΓ d_M_lays_32 (by decide) rfl ?_
      refine go_sub' (lv' := [(0, .ref 44), (1, .int x1), (2, .int x2), (3, .int a3), (4, .int a4), (5, .int 0)]) rfl ?_
      refine glp_M_lays_34 N d hΓ hT hR x1 x2 a4 _ (fun v31 μ32 => ?_) N a3 0 μ0
      refine go_incI (q := 4) (i := 4) (n := 1) (c := 1) (pc := 122) hΓ d_M_lays_122 rfl (by decide) (by decide) (fun v33 => ?_)
      refine go_sub' (lv' := [(4, .int v33), (0, .ref 44), (1, .int x1), (2, .int x2), (3, .int v31)]) rfl ?_
      refine go_goto 25 (pc := 125) hΓ d_M_lays_125 (by decide) ?_
      refine go_sub' (lv' := [(0, .ref 44), (1, .int x1), (2, .int x2), (3, .int v31), (4, .int v33)]) rfl ?_
      exact ih v31 v33 μ32
set_option maxHeartbeats 4000000 in
set_option maxRecDepth 100000 in
theorem glp_M_lays_134 (N d : Nat) {Γ : Cx Int32} (hΓ : Ok Γ "SortingNetsModel" c_M_lays 7) (hT : Rt Γ eI (some .int)) (hR : Rm Γ (d + 2)) (x1 : Int32) (x3 : Int32)    (K : Int32 → Mem → Option (Int32 × Mem)) (hK : ∀ (b4 : Int32) (ν : Mem), Go Γ 7 214 [(4, .int b4)] [] ν (K b4 ν)) : ∀ (n : Nat) (a4 : Int32) (a5 : Int32) (μ0 : Mem), Go Γ 7 134 [(0, .ref 44), (1, .int x1), (3, .int x3), (4, .int a4), (5, .int a5)] [] μ0 (lp_M_lays_134 N x1 x3 K n a4 a5 μ0) := by
  intro n
  induction n with
  | zero => intro a4 a5 μ0; exact go_none
  | succ n ih =>
    intro a4 a5 μ0
    rw [lp_M_lays_134]
    refine go_iload (q := 4) (pc := 134) hΓ d_M_lays_134 rfl ?_
    refine go_iload_n (q := 2) (i := 3) (pc := 136) hΓ d_M_lays_136 rfl rfl ?_
    refine go_icmp_ge 214 (pc := 137) hΓ d_M_lays_137 (by decide) (fun h36 => go_eq (if_neg h36) ?_) (fun h36 => go_eq (if_pos h36) ?_)
    · refine go_sub' (lv' := [(4, .int a4)]) rfl ?_
      exact hK a4 μ0
    · refine go_iload (q := 3) (pc := 140) hΓ d_M_lays_140 rfl ?_
      refine go_aload_n (q := 0) (i := 0) (pc := 142) hΓ d_M_lays_142 rfl rfl ?_
      refine go_iload_n (q := 1) (i := 1) (pc := 143) hΓ d_M_lays_143 rfl rfl ?_
      refine go_iload (q := 4) (pc := 144) hΓ d_M_lays_144 rfl ?_
      refine go_callV (index := 199) emI hΓ hR (g_M_lowOf N (d + 1) x1 a5) mi_M_lowOf ml_M_199 d_M_lays_146 rfl rfl rfl rfl rfl (fun r37 μ38 => ?_)
      show Go Γ 7 149 [(0, .ref 44), (1, .int x1), (3, .int x3), (4, .int a4), (5, .int a5)] [.int r37, .int a4] μ38 _
      refine go_aload_n (q := 0) (i := 0) (pc := 149) hΓ d_M_lays_149 rfl rfl ?_
      refine go_getR (q := 51) (pc := 150) hΓ fl_M_29 d_M_lays_150 rfl rfl ?_
      refine go_iload (q := 4) (pc := 153) hΓ d_M_lays_153 rfl ?_
      refine go_ck (fun h39 => ?_)
      refine go_iald (pc := 155) hΓ d_M_lays_155 rfl h39 ?_
      refine go_join (fun (k40 : Int32 → Mem → Option (Int32 × Mem)) => ∀ (w41 : Int32) (μ42 : Mem), Go Γ 7 181 [(0, .ref 44), (1, .int x1), (3, .int x3), (5, .int a5)] [.int w41, .int a4] μ42 (k40 w41 μ42)) ?_ (fun k40 k40h => ?_)
      · intro w41 μ42
        refine go_callS (index := 188) emI hΓ hR (g_M_flag N (d + 1) w41) mi_M_flag ml_M_188 d_M_lays_181 rfl rfl rfl (fun r43 μ44 => ?_)
        show Go Γ 7 184 [(0, .ref 44), (1, .int x1), (3, .int x3), (5, .int a5)] [.int r43, .int a4] μ44 _
        refine go_iadd (pc := 184) hΓ d_M_lays_184 ?_
        refine go_letI (fun v45 => ?_)
        refine go_istore (lv' := [(4, .int v45), (0, .ref 44), (1, .int x1), (3, .int x3), (5, .int a5)]) (pc := 185) hΓ d_M_lays_185 (by decide) rfl ?_
        refine go_aload_n (q := 1) (i := 0) (pc := 187) hΓ d_M_lays_187 rfl rfl ?_
        refine go_iload_n (q := 2) (i := 1) (pc := 188) hΓ d_M_lays_188 rfl rfl ?_
        refine go_iload (q := 4) (pc := 189) hΓ d_M_lays_189 rfl ?_
        refine go_aload_n (q := 1) (i := 0) (pc := 191) hΓ d_M_lays_191 rfl rfl ?_
        refine go_getR (q := 51) (pc := 192) hΓ fl_M_29 d_M_lays_192 rfl rfl ?_
        refine go_iload (q := 4) (pc := 195) hΓ d_M_lays_195 rfl ?_
        refine go_ck (fun h46 => ?_)
        refine go_iald (pc := 197) hΓ d_M_lays_197 rfl h46 ?_
        refine go_aload_n (q := 1) (i := 0) (pc := 198) hΓ d_M_lays_198 rfl rfl ?_
        refine go_getR (q := 52) (pc := 199) hΓ fl_M_32 d_M_lays_199 rfl rfl ?_
        refine go_iload (q := 4) (pc := 202) hΓ d_M_lays_202 rfl ?_
        refine go_ck (fun h47 => ?_)
        refine go_iald (pc := 204) hΓ d_M_lays_204 rfl h47 ?_
        refine go_callV (index := 90) emV hΓ hR (g_M_sets N (d + 1) x1 a5 (gI μ44 51 (tn a5)) (gI μ44 52 (tn a5))) mi_M_sets ml_M_90 d_M_lays_205 rfl rfl rfl rfl rfl (fun _ μ49 => ?_)
        show Go Γ 7 208 [(4, .int v45), (0, .ref 44), (1, .int x1), (3, .int x3), (5, .int a5)] [] μ49 _
        refine go_incI (q := 4) (i := 5) (n := 1) (c := 1) (pc := 208) hΓ d_M_lays_208 rfl (by decide) (by decide) (fun v50 => ?_)
        refine go_sub' (lv' := [(5, .int v50), (4, .int v45), (0, .ref 44), (1, .int x1), (3, .int x3)]) rfl ?_
        refine go_goto 134 (pc := 211) hΓ d_M_lays_211 (by decide) ?_
        refine go_sub' (lv' := [(0, .ref 44), (1, .int x1), (3, .int x3), (4, .int v45), (5, .int v50)]) rfl ?_
        exact ih v45 v50 μ49
      · refine go_join (fun (k51 : Mem → Option (Int32 × Mem)) => ∀ (μ52 : Mem), Go Γ 7 176 [(0, .ref 44), (1, .int x1), (3, .int x3), (5, .int a5)] [.int a4] μ52 (k51 μ52)) ?_ (fun k51 k51h => ?_)
        · intro μ52
          refine go_iconst (v := 1) (pc := 176) hΓ d_M_lays_176 (by decide) ?_
          refine go_goto 181 (pc := 177) hΓ d_M_lays_177 (by decide) ?_
          refine go_sub' (lv' := [(0, .ref 44), (1, .int x1), (3, .int x3), (5, .int a5)]) rfl ?_
          exact k40h 1 μ52
        · refine go_icmp_ne 176 (pc := 156) hΓ d_M_lays_156 (by decide) (fun h53 => go_eq (if_neg h53) ?_) (fun h53 => go_eq (if_pos h53) ?_)
          · refine go_sub' (lv' := [(0, .ref 44), (1, .int x1), (3, .int x3), (5, .int a5)]) rfl ?_
            exact k51h μ38
          · refine go_aload_n (q := 0) (i := 0) (pc := 159) hΓ d_M_lays_159 rfl rfl ?_
            refine go_iload_n (q := 1) (i := 1) (pc := 160) hΓ d_M_lays_160 rfl rfl ?_
            refine go_iload (q := 4) (pc := 161) hΓ d_M_lays_161 rfl ?_
            refine go_callV (index := 202) emI hΓ hR (g_M_highOf N (d + 1) x1 a5) mi_M_highOf ml_M_202 d_M_lays_163 rfl rfl rfl rfl rfl (fun r54 μ55 => ?_)
            show Go Γ 7 166 [(0, .ref 44), (1, .int x1), (3, .int x3), (4, .int a4), (5, .int a5)] [.int r54, .int a4] μ55 _
            refine go_aload_n (q := 0) (i := 0) (pc := 166) hΓ d_M_lays_166 rfl rfl ?_
            refine go_getR (q := 52) (pc := 167) hΓ fl_M_32 d_M_lays_167 rfl rfl ?_
            refine go_iload (q := 4) (pc := 170) hΓ d_M_lays_170 rfl ?_
            refine go_ck (fun h56 => ?_)
            refine go_iald (pc := 172) hΓ d_M_lays_172 rfl h56 ?_
            refine go_icmp_eq 180 (pc := 173) hΓ d_M_lays_173 (by decide) (fun h57 => go_eq (if_pos h57) ?_) (fun h57 => go_eq (if_neg h57) ?_)
            · refine go_iconst (v := 0) (pc := 180) hΓ d_M_lays_180 (by decide) ?_
              refine go_sub' (lv' := [(0, .ref 44), (1, .int x1), (3, .int x3), (5, .int a5)]) rfl ?_
              exact k40h 0 μ55
            · refine go_sub' (lv' := [(0, .ref 44), (1, .int x1), (3, .int x3), (5, .int a5)]) rfl ?_
              exact k51h μ55
set_option maxHeartbeats 4000000 in
set_option maxRecDepth 100000 in
theorem g_M_lays (N d : Nat) (x1 : Int32)  : CallF eI y_M_lays c_M_lays 7 (some .int) (d + 2 + 1) [.ref 44, .int x1] (f_M_lays N x1) := by
  refine call_of (d := d + 2) (n := 1) mi_M_lays.1 (fun _ => rfl) ?_
  intro Γ μ0 hΓ hT hR
  show Go Γ 7 0 [(0, .ref 44), (1, .int x1)] [] μ0 (f_M_lays N x1 μ0)
  unfold f_M_lays
  refine go_aload_n (q := 0) (i := 0) (pc := 0) hΓ d_M_lays_0 rfl rfl ?_
  refine go_iconst (v := 0) (pc := 1) hΓ d_M_lays_1 (by decide) ?_
  refine go_putI (pc := 2) hΓ fp_M_69 d_M_lays_2 rfl rfl ?_
  refine go_letM (fun μ1 => ?_)
  refine go_iload_n (q := 1) (i := 1) (pc := 5) hΓ d_M_lays_5 rfl rfl ?_
  refine go_callS (index := 151) emI hΓ hR (g_M_isNet N (d + 0) x1) mi_M_isNet ml_M_151 d_M_lays_6 rfl rfl rfl (fun r2 μ3 => ?_)
  show Go Γ 7 9 [(0, .ref 44), (1, .int x1)] [.int r2] μ3 _
  refine go_if_ne 14 (pc := 9) hΓ d_M_lays_9 (by decide) (fun h4 => go_eq (if_neg h4) ?_) (fun h4 => go_eq (if_pos h4) ?_)
  · refine go_aload_n (q := 0) (i := 0) (pc := 14) hΓ d_M_lays_14 rfl rfl ?_
    refine go_iload_n (q := 1) (i := 1) (pc := 15) hΓ d_M_lays_15 rfl rfl ?_
    refine go_callV (index := 218) emI hΓ hR (g_M_laysLayers N (d + 0) x1) mi_M_laysLayers ml_M_218 d_M_lays_16 rfl rfl rfl rfl rfl (fun r5 μ6 => ?_)
    show Go Γ 7 19 [(0, .ref 44), (1, .int x1)] [.int r5] μ6 _
    refine go_istore_n (i := 2) (lv' := [(2, .int r5), (0, .ref 44), (1, .int x1)]) (pc := 19) hΓ d_M_lays_19 rfl (by decide) rfl ?_
    refine go_iconst (v := 0) (pc := 20) hΓ d_M_lays_20 (by decide) ?_
    refine go_istore_n (i := 3) (lv' := [(3, .int 0), (2, .int r5), (0, .ref 44), (1, .int x1)]) (pc := 21) hΓ d_M_lays_21 rfl (by decide) rfl ?_
    refine go_iconst (v := 1) (pc := 22) hΓ d_M_lays_22 (by decide) ?_
    refine go_istore (lv' := [(4, .int 1), (3, .int 0), (2, .int r5), (0, .ref 44), (1, .int x1)]) (pc := 23) hΓ d_M_lays_23 (by decide) rfl ?_
    refine go_sub' (lv' := [(0, .ref 44), (1, .int x1), (2, .int r5), (3, .int 0), (4, .int 1)]) rfl ?_
    refine glp_M_lays_25 N d hΓ hT hR x1 r5 _ (fun v34 μ35 => ?_) N 0 1 μ6
    refine go_iconst (v := 0) (pc := 128) hΓ d_M_lays_128 (by decide) ?_
    refine go_istore (lv' := [(4, .int 0), (0, .ref 44), (1, .int x1), (3, .int v34)]) (pc := 129) hΓ d_M_lays_129 (by decide) rfl ?_
    refine go_iconst (v := 0) (pc := 131) hΓ d_M_lays_131 (by decide) ?_
    refine go_istore (lv' := [(5, .int 0), (4, .int 0), (0, .ref 44), (1, .int x1), (3, .int v34)]) (pc := 132) hΓ d_M_lays_132 (by decide) rfl ?_
    refine go_sub' (lv' := [(0, .ref 44), (1, .int x1), (3, .int v34), (4, .int 0), (5, .int 0)]) rfl ?_
    refine glp_M_lays_134 N d hΓ hT hR x1 v34 _ (fun v58 μ59 => ?_) N 0 0 μ35
    refine go_iload (q := 0) (pc := 214) hΓ d_M_lays_214 rfl ?_
    exact go_iret (pc := 216) hΓ hT d_M_lays_216
  · refine go_iconst (v := -1) (pc := 12) hΓ d_M_lays_12 (by decide) ?_
    exact go_iret (pc := 13) hΓ hT d_M_lays_13

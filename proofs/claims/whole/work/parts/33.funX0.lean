def f_X_sign (N : Nat) (x1 : Int32) (μ0 : Mem) : Option (Int32 × Mem) :=
  bnd (f_Text_append N x1 μ0) fun r1 μ2 => if r1 = 0 then (some ((-1), μ2)) else (some (gI μ2 14 1, μ2))
set_option maxHeartbeats 4000000 in
set_option maxRecDepth 100000 in
theorem g_X_sign (N d : Nat) (x1 : Int32)  : CallF eI y_X_sign c_X_sign 2 (some .int) (d + 1 + 1) [.ref 0, .int x1] (f_X_sign N x1) := by
  refine call_of (d := d + 1) (n := 1) mi_X_sign.1 (fun _ => rfl) ?_
  intro Γ μ0 hΓ hT hR
  show Go Γ 2 0 [(0, .ref 0), (1, .int x1)] [] μ0 (f_X_sign N x1 μ0)
  unfold f_X_sign
  refine go_aload_n (q := 0) (i := 0) (pc := 0) hΓ d_X_sign_0 rfl rfl ?_
  refine go_getR (q := 14) (pc := 1) hΓ fl_X_30 d_X_sign_1 rfl rfl ?_
  refine go_iload_n (q := 1) (i := 1) (pc := 4) hΓ d_X_sign_4 rfl rfl ?_
  refine go_callV (index := 89) emI hΓ hR (g_Text_append N (d + 0) x1) mi_Text_append ml_X_89 d_X_sign_5 rfl rfl rfl rfl rfl (fun r1 μ2 => ?_)
  show Go Γ 2 8 [(0, .ref 0), (1, .int x1)] [.int r1] μ2 _
  refine go_if_eq 21 (pc := 8) hΓ d_X_sign_8 (by decide) (fun h3 => go_eq (if_pos h3) ?_) (fun h3 => go_eq (if_neg h3) ?_)
  · refine go_iconst (v := -1) (pc := 21) hΓ d_X_sign_21 (by decide) ?_
    exact go_iret (pc := 22) hΓ hT d_X_sign_22
  · refine go_aload_n (q := 0) (i := 0) (pc := 11) hΓ d_X_sign_11 rfl rfl ?_
    refine go_getR (q := 14) (pc := 12) hΓ fl_X_30 d_X_sign_12 rfl rfl ?_
    refine go_getI (pc := 15) hΓ fl_X_93 d_X_sign_15 rfl rfl ?_
    refine go_goto 22 (pc := 18) hΓ d_X_sign_18 (by decide) ?_
    exact go_iret (pc := 22) hΓ hT d_X_sign_22
def f_X_end (N : Nat) (x1 : Int32) (μ0 : Mem) : Option (Int32 × Mem) :=
  if x1 < 0 then (some (0, μ0)) else (if (gI μ0 14 1) < x1 then (some (0, μ0)) else (lt' (sI μ0 14 1 x1) fun μ3 => some (1, μ3)))
set_option maxHeartbeats 4000000 in
set_option maxRecDepth 100000 in
theorem g_X_end (N d : Nat) (x1 : Int32)  : CallF eI y_X_end c_X_end 2 (some .boolean) (d + 0 + 1) [.ref 0, .int x1] (f_X_end N x1) := by
  refine call_of (d := d + 0) (n := 1) mi_X_end.1 (fun _ => rfl) ?_
  intro Γ μ0 hΓ hT hR
  show Go Γ 2 0 [(0, .ref 0), (1, .int x1)] [] μ0 (f_X_end N x1 μ0)
  unfold f_X_end
  refine go_iload_n (q := 1) (i := 1) (pc := 0) hΓ d_X_end_0 rfl rfl ?_
  refine go_if_lt 15 (pc := 1) hΓ d_X_end_1 (by decide) (fun h1 => go_eq (if_pos h1) ?_) (fun h1 => go_eq (if_neg h1) ?_)
  · refine go_iconst (v := 0) (pc := 15) hΓ d_X_end_15 (by decide) ?_
    exact go_zret (pc := 16) hΓ hT d_X_end_16 rfl
  · refine go_iload_n (q := 1) (i := 1) (pc := 4) hΓ d_X_end_4 rfl rfl ?_
    refine go_aload_n (q := 0) (i := 0) (pc := 5) hΓ d_X_end_5 rfl rfl ?_
    refine go_getR (q := 14) (pc := 6) hΓ fl_X_30 d_X_end_6 rfl rfl ?_
    refine go_getI (pc := 9) hΓ fl_X_93 d_X_end_9 rfl rfl ?_
    refine go_icmp_le 17 (pc := 12) hΓ d_X_end_12 (by decide) (fun h2 => go_eq (if_neg h2) ?_) (fun h2 => go_eq (if_pos h2) ?_)
    · refine go_aload_n (q := 0) (i := 0) (pc := 17) hΓ d_X_end_17 rfl rfl ?_
      refine go_getR (q := 14) (pc := 18) hΓ fl_X_30 d_X_end_18 rfl rfl ?_
      refine go_iload_n (q := 1) (i := 1) (pc := 21) hΓ d_X_end_21 rfl rfl ?_
      refine go_putI (pc := 22) hΓ fp_X_93 d_X_end_22 rfl rfl ?_
      refine go_letM (fun μ3 => ?_)
      refine go_iconst (v := 1) (pc := 25) hΓ d_X_end_25 (by decide) ?_
      exact go_zret (pc := 26) hΓ hT d_X_end_26 rfl
    · refine go_iconst (v := 0) (pc := 15) hΓ d_X_end_15 (by decide) ?_
      exact go_zret (pc := 16) hΓ hT d_X_end_16 rfl
def f_X_isWires (N : Nat) (x0 : Int32) (μ0 : Mem) : Option (Int32 × Mem) :=
  if x0 < 2 then (some (0, μ0)) else (if 8 < x0 then (some (0, μ0)) else (some (1, μ0)))
set_option maxHeartbeats 4000000 in
set_option maxRecDepth 100000 in
theorem g_X_isWires (N d : Nat) (x0 : Int32)  : CallF eI y_X_isWires c_X_isWires 1 (some .boolean) (d + 0 + 1) [.int x0] (f_X_isWires N x0) := by
  refine call_of (d := d + 0) (n := 1) mi_X_isWires.1 (fun _ => rfl) ?_
  intro Γ μ0 hΓ hT hR
  show Go Γ 1 0 [(0, .int x0)] [] μ0 (f_X_isWires N x0 μ0)
  unfold f_X_isWires
  refine go_iload_n (q := 0) (i := 0) (pc := 0) hΓ d_X_isWires_0 rfl rfl ?_
  refine go_iconst (v := 2) (pc := 1) hΓ d_X_isWires_1 (by decide) ?_
  refine go_icmp_lt 15 (pc := 2) hΓ d_X_isWires_2 (by decide) (fun h1 => go_eq (if_pos h1) ?_) (fun h1 => go_eq (if_neg h1) ?_)
  · refine go_iconst (v := 0) (pc := 15) hΓ d_X_isWires_15 (by decide) ?_
    exact go_zret (pc := 16) hΓ hT d_X_isWires_16 rfl
  · refine go_iload_n (q := 0) (i := 0) (pc := 5) hΓ d_X_isWires_5 rfl rfl ?_
    refine go_bipush (v := 8) (pc := 6) hΓ d_X_isWires_6 (by decide) ?_
    refine go_icmp_gt 15 (pc := 8) hΓ d_X_isWires_8 (by decide) (fun h2 => go_eq (if_pos h2) ?_) (fun h2 => go_eq (if_neg h2) ?_)
    · refine go_iconst (v := 0) (pc := 15) hΓ d_X_isWires_15 (by decide) ?_
      exact go_zret (pc := 16) hΓ hT d_X_isWires_16 rfl
    · refine go_iconst (v := 1) (pc := 11) hΓ d_X_isWires_11 (by decide) ?_
      refine go_goto 16 (pc := 12) hΓ d_X_isWires_12 (by decide) ?_
      exact go_zret (pc := 16) hΓ hT d_X_isWires_16 rfl
def lp_X_readNet_66 (N : Nat)   (K : Int32 → Mem → Option (Int32 × Mem)) : Nat → Int32 → Int32 → Mem → Option (Int32 × Mem)
  | 0, _, _, _ => none
  | n + 1, a2, a3, μ0 => if 60 < a3 then (K a2 μ0) else (bnd (f_Text_digitAt N a2 μ0) fun r15 μ16 => bnd (f_Net_isWire N 18 r15 μ16) fun r17 μ18 => if r17 = 0 then (some (a2, μ18)) else (bnd (f_Text_digitAt N (a2 + 1) μ18) fun r20 μ21 => bnd (f_Net_isWire N 18 r20 μ21) fun r22 μ23 => if r22 = 0 then (some (a2 + 1, μ23)) else (if r15 = r20 then (some (a2 + 1, μ23)) else (bnd (f_Tangle_untangle N r15 r20 18 μ23) fun _ μ27 => lt' (a2 + 2) fun v28 => if v28 = (gI μ27 14 1) then (some ((-1), μ27)) else (bnd (f_Text_signAt N v28 μ27) fun r30 μ31 => if r30 = 44 then (if a3 = 60 then (some (v28, μ31)) else (lt' (v28 + 1) fun v34 => lt' (a3 + 1) fun v35 => lp_X_readNet_66 N K n v34 v35 μ31)) else (some (v28, μ31)))))))
def f_X_readNet (N : Nat)  (μ0 : Mem) : Option (Int32 × Mem) :=
  bnd (f_Text_digitAt N 0 μ0) fun r1 μ2 => bnd (f_X_isWires N r1 μ2) fun r3 μ4 => if r3 = 0 then (some (0, μ4)) else (bnd (f_Text_signAt N 1 μ4) fun r6 μ7 => if r6 = 58 then (bnd (f_Net_clear N 18 r1 μ7) fun _ μ10 => bnd (f_Tangle_start N r1 μ10) fun _ μ12 => if (gI μ12 14 1) = 2 then (some ((-1), μ12)) else (lp_X_readNet_66 N  (fun v36 μ37 => some (v36, μ37)) N 2 1 μ12)) else (some (1, μ7)))
set_option maxHeartbeats 4000000 in
set_option maxRecDepth 100000 in
theorem glp_X_readNet_66 (N d : Nat) {Γ : Cx Int32} (hΓ : Ok Γ "SortingNets" c_X_readNet 6) (hT : Rt Γ eI (some .int)) (hR : Rm Γ (d + 2))     (K : Int32 → Mem → Option (Int32 × Mem)) (hK : ∀ (b2 : Int32) (ν : Mem), Go Γ 6 192 [(2, .int b2)] [] ν (K b2 ν)) : ∀ (n : Nat) (a2 : Int32) (a3 : Int32) (μ0 : Mem), Go Γ 6 66 [(0, .ref 0), (2, .int a2), (3, .int a3)] [] μ0 (lp_X_readNet_66 N K n a2 a3 μ0) := by
  intro n
  induction n with
  | zero => intro a2 a3 μ0; exact go_none
  | succ n ih =>
    intro a2 a3 μ0
    rw [lp_X_readNet_66]
    refine go_iload_n (q := 2) (i := 3) (pc := 66) hΓ d_X_readNet_66 rfl rfl ?_
    refine go_bipush (v := 60) (pc := 67) hΓ d_X_readNet_67 (by decide) ?_
    refine go_icmp_gt 192 (pc := 69) hΓ d_X_readNet_69 (by decide) (fun h14 => go_eq (if_pos h14) ?_) (fun h14 => go_eq (if_neg h14) ?_)
    · refine go_sub' (lv' := [(2, .int a2)]) rfl ?_
      exact hK a2 μ0
    · refine go_aload_n (q := 0) (i := 0) (pc := 72) hΓ d_X_readNet_72 rfl rfl ?_
      refine go_getR (q := 14) (pc := 73) hΓ fl_X_30 d_X_readNet_73 rfl rfl ?_
      refine go_iload_n (q := 1) (i := 2) (pc := 76) hΓ d_X_readNet_76 rfl rfl ?_
      refine go_callV (index := 338) emI hΓ hR (g_Text_digitAt N (d + 0) a2) mi_Text_digitAt ml_X_338 d_X_readNet_77 rfl rfl rfl rfl rfl (fun r15 μ16 => ?_)
      show Go Γ 6 80 [(0, .ref 0), (2, .int a2), (3, .int a3)] [.int r15] μ16 _
      refine go_istore (lv' := [(4, .int r15), (0, .ref 0), (2, .int a2), (3, .int a3)]) (pc := 80) hΓ d_X_readNet_80 (by decide) rfl ?_
      refine go_aload_n (q := 1) (i := 0) (pc := 82) hΓ d_X_readNet_82 rfl rfl ?_
      refine go_getR (q := 18) (pc := 83) hΓ fl_X_16 d_X_readNet_83 rfl rfl ?_
      refine go_iload (q := 0) (pc := 86) hΓ d_X_readNet_86 rfl ?_
      refine go_callV (index := 163) emI hΓ hR (g_Net_isWire N (d + 1) 18 isN_18 r15) mi_Net_isWire ml_X_163 d_X_readNet_88 rfl rfl rfl rfl rfl (fun r17 μ18 => ?_)
      show Go Γ 6 91 [(4, .int r15), (0, .ref 0), (2, .int a2), (3, .int a3)] [.int r17] μ18 _
      refine go_if_ne 96 (pc := 91) hΓ d_X_readNet_91 (by decide) (fun h19 => go_eq (if_neg h19) ?_) (fun h19 => go_eq (if_pos h19) ?_)
      · refine go_aload_n (q := 1) (i := 0) (pc := 96) hΓ d_X_readNet_96 rfl rfl ?_
        refine go_getR (q := 14) (pc := 97) hΓ fl_X_30 d_X_readNet_97 rfl rfl ?_
        refine go_iload_n (q := 2) (i := 2) (pc := 100) hΓ d_X_readNet_100 rfl rfl ?_
        refine go_iconst (v := 1) (pc := 101) hΓ d_X_readNet_101 (by decide) ?_
        refine go_iadd (pc := 102) hΓ d_X_readNet_102 ?_
        refine go_callV (index := 338) emI hΓ hR (g_Text_digitAt N (d + 0) (a2 + 1)) mi_Text_digitAt ml_X_338 d_X_readNet_103 rfl rfl rfl rfl rfl (fun r20 μ21 => ?_)
        show Go Γ 6 106 [(4, .int r15), (0, .ref 0), (2, .int a2), (3, .int a3)] [.int r20] μ21 _
        refine go_istore (lv' := [(5, .int r20), (4, .int r15), (0, .ref 0), (2, .int a2), (3, .int a3)]) (pc := 106) hΓ d_X_readNet_106 (by decide) rfl ?_
        refine go_aload_n (q := 2) (i := 0) (pc := 108) hΓ d_X_readNet_108 rfl rfl ?_
        refine go_getR (q := 18) (pc := 109) hΓ fl_X_16 d_X_readNet_109 rfl rfl ?_
        refine go_iload (q := 0) (pc := 112) hΓ d_X_readNet_112 rfl ?_
        refine go_callV (index := 163) emI hΓ hR (g_Net_isWire N (d + 1) 18 isN_18 r20) mi_Net_isWire ml_X_163 d_X_readNet_114 rfl rfl rfl rfl rfl (fun r22 μ23 => ?_)
        show Go Γ 6 117 [(5, .int r20), (4, .int r15), (0, .ref 0), (2, .int a2), (3, .int a3)] [.int r22] μ23 _
        refine go_if_eq 127 (pc := 117) hΓ d_X_readNet_117 (by decide) (fun h24 => go_eq (if_pos h24) ?_) (fun h24 => go_eq (if_neg h24) ?_)
        · refine go_iload_n (q := 3) (i := 2) (pc := 127) hΓ d_X_readNet_127 rfl rfl ?_
          refine go_iconst (v := 1) (pc := 128) hΓ d_X_readNet_128 (by decide) ?_
          refine go_iadd (pc := 129) hΓ d_X_readNet_129 ?_
          exact go_iret (pc := 130) hΓ hT d_X_readNet_130
        · refine go_iload (q := 1) (pc := 120) hΓ d_X_readNet_120 rfl ?_
          refine go_iload (q := 0) (pc := 122) hΓ d_X_readNet_122 rfl ?_
          refine go_icmp_ne 131 (pc := 124) hΓ d_X_readNet_124 (by decide) (fun h25 => go_eq (if_neg h25) ?_) (fun h25 => go_eq (if_pos h25) ?_)
          · refine go_aload_n (q := 2) (i := 0) (pc := 131) hΓ d_X_readNet_131 rfl rfl ?_
            refine go_getR (q := 21) (pc := 132) hΓ fl_X_23 d_X_readNet_132 rfl rfl ?_
            refine go_iload (q := 1) (pc := 135) hΓ d_X_readNet_135 rfl ?_
            refine go_iload (q := 0) (pc := 137) hΓ d_X_readNet_137 rfl ?_
            refine go_aload_n (q := 2) (i := 0) (pc := 139) hΓ d_X_readNet_139 rfl rfl ?_
            refine go_getR (q := 18) (pc := 140) hΓ fl_X_16 d_X_readNet_140 rfl rfl ?_
            refine go_callV (index := 344) emV hΓ hR (g_Tangle_untangle N (d + 0) r15 r20 18 isN_18) mi_Tangle_untangle ml_X_344 d_X_readNet_143 rfl rfl rfl rfl rfl (fun _ μ27 => ?_)
            show Go Γ 6 146 [(5, .int r20), (4, .int r15), (0, .ref 0), (2, .int a2), (3, .int a3)] [] μ27 _
            refine go_incI (q := 3) (i := 2) (n := 2) (c := 2) (pc := 146) hΓ d_X_readNet_146 rfl (by decide) (by decide) (fun v28 => ?_)
            refine go_sub' (lv' := [(2, .int v28), (5, .int r20), (4, .int r15), (0, .ref 0), (3, .int a3)]) rfl ?_
            refine go_iload_n (q := 0) (i := 2) (pc := 149) hΓ d_X_readNet_149 rfl rfl ?_
            refine go_aload_n (q := 3) (i := 0) (pc := 150) hΓ d_X_readNet_150 rfl rfl ?_
            refine go_getR (q := 14) (pc := 151) hΓ fl_X_30 d_X_readNet_151 rfl rfl ?_
            refine go_getI (pc := 154) hΓ fl_X_93 d_X_readNet_154 rfl rfl ?_
            refine go_icmp_ne 162 (pc := 157) hΓ d_X_readNet_157 (by decide) (fun h29 => go_eq (if_neg h29) ?_) (fun h29 => go_eq (if_pos h29) ?_)
            · refine go_aload_n (q := 3) (i := 0) (pc := 162) hΓ d_X_readNet_162 rfl rfl ?_
              refine go_getR (q := 14) (pc := 163) hΓ fl_X_30 d_X_readNet_163 rfl rfl ?_
              refine go_iload_n (q := 0) (i := 2) (pc := 166) hΓ d_X_readNet_166 rfl rfl ?_
              refine go_callV (index := 341) emI hΓ hR (g_Text_signAt N (d + 1) v28) mi_Text_signAt ml_X_341 d_X_readNet_167 rfl rfl rfl rfl rfl (fun r30 μ31 => ?_)
              show Go Γ 6 170 [(2, .int v28), (5, .int r20), (4, .int r15), (0, .ref 0), (3, .int a3)] [.int r30] μ31 _
              refine go_bipush (v := 44) (pc := 170) hΓ d_X_readNet_170 (by decide) ?_
              refine go_icmp_ne 181 (pc := 172) hΓ d_X_readNet_172 (by decide) (fun h32 => go_eq (if_neg h32) ?_) (fun h32 => go_eq (if_pos h32) ?_)
              · refine go_iload_n (q := 0) (i := 2) (pc := 181) hΓ d_X_readNet_181 rfl rfl ?_
                exact go_iret (pc := 182) hΓ hT d_X_readNet_182
              · refine go_iload_n (q := 4) (i := 3) (pc := 175) hΓ d_X_readNet_175 rfl rfl ?_
                refine go_bipush (v := 60) (pc := 176) hΓ d_X_readNet_176 (by decide) ?_
                refine go_icmp_ne 183 (pc := 178) hΓ d_X_readNet_178 (by decide) (fun h33 => go_eq (if_neg h33) ?_) (fun h33 => go_eq (if_pos h33) ?_)
                · refine go_incI (q := 0) (i := 2) (n := 1) (c := 1) (pc := 183) hΓ d_X_readNet_183 rfl (by decide) (by decide) (fun v34 => ?_)
                  refine go_sub' (lv' := [(2, .int v34), (5, .int r20), (4, .int r15), (0, .ref 0), (3, .int a3)]) rfl ?_
                  refine go_incI (q := 4) (i := 3) (n := 1) (c := 1) (pc := 186) hΓ d_X_readNet_186 rfl (by decide) (by decide) (fun v35 => ?_)
                  refine go_sub' (lv' := [(3, .int v35), (2, .int v34), (5, .int r20), (4, .int r15), (0, .ref 0)]) rfl ?_
                  refine go_goto 66 (pc := 189) hΓ d_X_readNet_189 (by decide) ?_
                  refine go_sub' (lv' := [(0, .ref 0), (2, .int v34), (3, .int v35)]) rfl ?_
                  exact ih v34 v35 μ31
                · refine go_iload_n (q := 0) (i := 2) (pc := 181) hΓ d_X_readNet_181 rfl rfl ?_
                  exact go_iret (pc := 182) hΓ hT d_X_readNet_182
            · refine go_iconst (v := -1) (pc := 160) hΓ d_X_readNet_160 (by decide) ?_
              exact go_iret (pc := 161) hΓ hT d_X_readNet_161
          · refine go_iload_n (q := 3) (i := 2) (pc := 127) hΓ d_X_readNet_127 rfl rfl ?_
            refine go_iconst (v := 1) (pc := 128) hΓ d_X_readNet_128 (by decide) ?_
            refine go_iadd (pc := 129) hΓ d_X_readNet_129 ?_
            exact go_iret (pc := 130) hΓ hT d_X_readNet_130
      · refine go_iload_n (q := 2) (i := 2) (pc := 94) hΓ d_X_readNet_94 rfl rfl ?_
        exact go_iret (pc := 95) hΓ hT d_X_readNet_95
set_option maxHeartbeats 4000000 in
set_option maxRecDepth 100000 in
theorem g_X_readNet (N d : Nat)   : CallF eI y_X_readNet c_X_readNet 6 (some .int) (d + 2 + 1) [.ref 0] (f_X_readNet N ) := by
  refine call_of (d := d + 2) (n := 0) mi_X_readNet.1 (fun _ => rfl) ?_
  intro Γ μ0 hΓ hT hR
  show Go Γ 6 0 [(0, .ref 0)] [] μ0 (f_X_readNet N  μ0)
  unfold f_X_readNet
  refine go_aload_n (q := 0) (i := 0) (pc := 0) hΓ d_X_readNet_0 rfl rfl ?_
  refine go_getR (q := 14) (pc := 1) hΓ fl_X_30 d_X_readNet_1 rfl rfl ?_
  refine go_iconst (v := 0) (pc := 4) hΓ d_X_readNet_4 (by decide) ?_
  refine go_callV (index := 338) emI hΓ hR (g_Text_digitAt N (d + 0) 0) mi_Text_digitAt ml_X_338 d_X_readNet_5 rfl rfl rfl rfl rfl (fun r1 μ2 => ?_)
  show Go Γ 6 8 [(0, .ref 0)] [.int r1] μ2 _
  refine go_istore_n (i := 1) (lv' := [(1, .int r1), (0, .ref 0)]) (pc := 8) hΓ d_X_readNet_8 rfl (by decide) rfl ?_
  refine go_iload_n (q := 0) (i := 1) (pc := 9) hΓ d_X_readNet_9 rfl rfl ?_
  refine go_callS (index := 124) emI hΓ hR (g_X_isWires N (d + 1) r1) mi_X_isWires ml_X_124 d_X_readNet_10 rfl rfl rfl (fun r3 μ4 => ?_)
  show Go Γ 6 13 [(1, .int r1), (0, .ref 0)] [.int r3] μ4 _
  refine go_if_ne 18 (pc := 13) hΓ d_X_readNet_13 (by decide) (fun h5 => go_eq (if_neg h5) ?_) (fun h5 => go_eq (if_pos h5) ?_)
  · refine go_aload_n (q := 1) (i := 0) (pc := 18) hΓ d_X_readNet_18 rfl rfl ?_
    refine go_getR (q := 14) (pc := 19) hΓ fl_X_30 d_X_readNet_19 rfl rfl ?_
    refine go_iconst (v := 1) (pc := 22) hΓ d_X_readNet_22 (by decide) ?_
    refine go_callV (index := 341) emI hΓ hR (g_Text_signAt N (d + 1) 1) mi_Text_signAt ml_X_341 d_X_readNet_23 rfl rfl rfl rfl rfl (fun r6 μ7 => ?_)
    show Go Γ 6 26 [(1, .int r1), (0, .ref 0)] [.int r6] μ7 _
    refine go_bipush (v := 58) (pc := 26) hΓ d_X_readNet_26 (by decide) ?_
    refine go_icmp_eq 33 (pc := 28) hΓ d_X_readNet_28 (by decide) (fun h8 => go_eq (if_pos h8) ?_) (fun h8 => go_eq (if_neg h8) ?_)
    · refine go_aload_n (q := 1) (i := 0) (pc := 33) hΓ d_X_readNet_33 rfl rfl ?_
      refine go_getR (q := 18) (pc := 34) hΓ fl_X_16 d_X_readNet_34 rfl rfl ?_
      refine go_iload_n (q := 0) (i := 1) (pc := 37) hΓ d_X_readNet_37 rfl rfl ?_
      refine go_callV (index := 127) emV hΓ hR (g_Net_clear N (d + 1) 18 isN_18 r1) mi_Net_clear ml_X_127 d_X_readNet_38 rfl rfl rfl rfl rfl (fun _ μ10 => ?_)
      show Go Γ 6 41 [(1, .int r1), (0, .ref 0)] [] μ10 _
      refine go_aload_n (q := 1) (i := 0) (pc := 41) hΓ d_X_readNet_41 rfl rfl ?_
      refine go_getR (q := 21) (pc := 42) hΓ fl_X_23 d_X_readNet_42 rfl rfl ?_
      refine go_iload_n (q := 0) (i := 1) (pc := 45) hΓ d_X_readNet_45 rfl rfl ?_
      refine go_callV (index := 204) emV hΓ hR (g_Tangle_start N (d + 1) r1) mi_Tangle_start ml_X_204 d_X_readNet_46 rfl rfl rfl rfl rfl (fun _ μ12 => ?_)
      show Go Γ 6 49 [(1, .int r1), (0, .ref 0)] [] μ12 _
      refine go_aload_n (q := 1) (i := 0) (pc := 49) hΓ d_X_readNet_49 rfl rfl ?_
      refine go_getR (q := 14) (pc := 50) hΓ fl_X_30 d_X_readNet_50 rfl rfl ?_
      refine go_getI (pc := 53) hΓ fl_X_93 d_X_readNet_53 rfl rfl ?_
      refine go_iconst (v := 2) (pc := 56) hΓ d_X_readNet_56 (by decide) ?_
      refine go_icmp_ne 62 (pc := 57) hΓ d_X_readNet_57 (by decide) (fun h13 => go_eq (if_neg h13) ?_) (fun h13 => go_eq (if_pos h13) ?_)
      · refine go_iconst (v := 2) (pc := 62) hΓ d_X_readNet_62 (by decide) ?_
        refine go_istore_n (i := 2) (lv' := [(2, .int 2), (1, .int r1), (0, .ref 0)]) (pc := 63) hΓ d_X_readNet_63 rfl (by decide) rfl ?_
        refine go_iconst (v := 1) (pc := 64) hΓ d_X_readNet_64 (by decide) ?_
        refine go_istore_n (i := 3) (lv' := [(3, .int 1), (2, .int 2), (1, .int r1), (0, .ref 0)]) (pc := 65) hΓ d_X_readNet_65 rfl (by decide) rfl ?_
        refine go_sub' (lv' := [(0, .ref 0), (2, .int 2), (3, .int 1)]) rfl ?_
        refine glp_X_readNet_66 N d hΓ hT hR  _ (fun v36 μ37 => ?_) N 2 1 μ12
        refine go_iload_n (q := 0) (i := 2) (pc := 192) hΓ d_X_readNet_192 rfl rfl ?_
        exact go_iret (pc := 193) hΓ hT d_X_readNet_193
      · refine go_iconst (v := -1) (pc := 60) hΓ d_X_readNet_60 (by decide) ?_
        exact go_iret (pc := 61) hΓ hT d_X_readNet_61
    · refine go_iconst (v := 1) (pc := 31) hΓ d_X_readNet_31 (by decide) ?_
      exact go_iret (pc := 32) hΓ hT d_X_readNet_32
  · refine go_iconst (v := 0) (pc := 16) hΓ d_X_readNet_16 (by decide) ?_
    exact go_iret (pc := 17) hΓ hT d_X_readNet_17
def f_X_isNet (N : Nat) (x0 : Int32) (μ0 : Mem) : Option (Int32 × Mem) :=
  if x0 < 0 then (some (0, μ0)) else (if x0 < 4 then (some (1, μ0)) else (some (0, μ0)))
set_option maxHeartbeats 4000000 in
set_option maxRecDepth 100000 in
theorem g_X_isNet (N d : Nat) (x0 : Int32)  : CallF eI y_X_isNet c_X_isNet 1 (some .boolean) (d + 0 + 1) [.int x0] (f_X_isNet N x0) := by
  refine call_of (d := d + 0) (n := 1) mi_X_isNet.1 (fun _ => rfl) ?_
  intro Γ μ0 hΓ hT hR
  show Go Γ 1 0 [(0, .int x0)] [] μ0 (f_X_isNet N x0 μ0)
  unfold f_X_isNet
  refine go_iload_n (q := 0) (i := 0) (pc := 0) hΓ d_X_isNet_0 rfl rfl ?_
  refine go_if_lt 13 (pc := 1) hΓ d_X_isNet_1 (by decide) (fun h1 => go_eq (if_pos h1) ?_) (fun h1 => go_eq (if_neg h1) ?_)
  · refine go_iconst (v := 0) (pc := 13) hΓ d_X_isNet_13 (by decide) ?_
    exact go_zret (pc := 14) hΓ hT d_X_isNet_14 rfl
  · refine go_iload_n (q := 0) (i := 0) (pc := 4) hΓ d_X_isNet_4 rfl rfl ?_
    refine go_iconst (v := 4) (pc := 5) hΓ d_X_isNet_5 (by decide) ?_
    refine go_icmp_ge 13 (pc := 6) hΓ d_X_isNet_6 (by decide) (fun h2 => go_eq (if_neg h2) ?_) (fun h2 => go_eq (if_pos h2) ?_)
    · refine go_iconst (v := 0) (pc := 13) hΓ d_X_isNet_13 (by decide) ?_
      exact go_zret (pc := 14) hΓ hT d_X_isNet_14 rfl
    · refine go_iconst (v := 1) (pc := 9) hΓ d_X_isNet_9 (by decide) ?_
      refine go_goto 14 (pc := 10) hΓ d_X_isNet_10 (by decide) ?_
      exact go_zret (pc := 14) hΓ hT d_X_isNet_14 rfl
def lp_X_net_53 (N : Nat)   (K : Mem → Option (Int32 × Mem)) : Nat → Int32 → Mem → Option (Int32 × Mem)
  | 0, _, _ => none
  | n + 1, a3, μ0 => if a3 < (gI μ0 18 0) then (bnd (f_Tangle_placeOf N a3 μ0) fun r14 μ15 => bnd (f_Numbers_append N (Int32.toInt64 r14) μ15) fun _ μ17 => lt' (a3 + 1) fun v18 => lp_X_net_53 N K n v18 μ17) else (K  μ0)
def f_X_net (N : Nat) (x1 : Int32) (μ0 : Mem) : Option (Int32 × Mem) :=
  bnd (f_X_readNet N  μ0) fun r1 μ2 => lt' (sI μ2 14 1 0) fun μ3 => if r1 < 0 then (bnd (f_X_isNet N x1 μ3) fun r5 μ6 => if r5 = 0 then (some ((-1), μ6)) else (ck (inb x1 4) (bnd (f_Net_take N (2 + 3 * tn x1) 18 μ6) fun _ μ10 => bnd (f_Numbers_clear N  μ10) fun _ μ12 => lp_X_net_53 N  (fun μ19 => some (gI μ19 18 1, μ19)) N 0 μ12))) else (some ((-21) - r1, μ3))
set_option maxHeartbeats 4000000 in
set_option maxRecDepth 100000 in
theorem glp_X_net_53 (N d : Nat) {Γ : Cx Int32} (hΓ : Ok Γ "SortingNets" c_X_net 4) (hT : Rt Γ eI (some .int)) (hR : Rm Γ (d + 3))     (K : Mem → Option (Int32 × Mem)) (hK : ∀  (ν : Mem), Go Γ 4 86 [(0, .ref 0)] [] ν (K  ν)) : ∀ (n : Nat) (a3 : Int32) (μ0 : Mem), Go Γ 4 53 [(0, .ref 0), (3, .int a3)] [] μ0 (lp_X_net_53 N K n a3 μ0) := by
  intro n
  induction n with
  | zero => intro a3 μ0; exact go_none
  | succ n ih =>
    intro a3 μ0
    rw [lp_X_net_53]
    refine go_iload_n (q := 1) (i := 3) (pc := 53) hΓ d_X_net_53 rfl rfl ?_
    refine go_aload_n (q := 0) (i := 0) (pc := 54) hΓ d_X_net_54 rfl rfl ?_
    refine go_getR (q := 18) (pc := 55) hΓ fl_X_16 d_X_net_55 rfl rfl ?_
    refine go_getI (pc := 58) hΓ fl_X_111 d_X_net_58 rfl rfl ?_
    refine go_icmp_ge 86 (pc := 61) hΓ d_X_net_61 (by decide) (fun h13 => go_eq (if_neg h13) ?_) (fun h13 => go_eq (if_pos h13) ?_)
    · refine go_sub' (lv' := [(0, .ref 0)]) rfl ?_
      exact hK  μ0
    · refine go_aload_n (q := 0) (i := 0) (pc := 64) hΓ d_X_net_64 rfl rfl ?_
      refine go_getR (q := 16) (pc := 65) hΓ fl_X_37 d_X_net_65 rfl rfl ?_
      refine go_aload_n (q := 0) (i := 0) (pc := 68) hΓ d_X_net_68 rfl rfl ?_
      refine go_getR (q := 21) (pc := 69) hΓ fl_X_23 d_X_net_69 rfl rfl ?_
      refine go_iload_n (q := 1) (i := 3) (pc := 72) hΓ d_X_net_72 rfl rfl ?_
      refine go_callV (index := 114) emI hΓ hR (g_Tangle_placeOf N (d + 2) a3) mi_Tangle_placeOf ml_X_114 d_X_net_73 rfl rfl rfl rfl rfl (fun r14 μ15 => ?_)
      show Go Γ 4 76 [(0, .ref 0), (3, .int a3)] [.int r14, .ref 16] μ15 _
      refine go_i2l (pc := 76) hΓ d_X_net_76 ?_
      refine go_callV (index := 118) emV hΓ hR (g_Numbers_append N (d + 2) (Int32.toInt64 r14)) mi_Numbers_append ml_X_118 d_X_net_77 rfl rfl rfl rfl rfl (fun _ μ17 => ?_)
      show Go Γ 4 80 [(0, .ref 0), (3, .int a3)] [] μ17 _
      refine go_incI (q := 1) (i := 3) (n := 1) (c := 1) (pc := 80) hΓ d_X_net_80 rfl (by decide) (by decide) (fun v18 => ?_)
      refine go_sub' (lv' := [(3, .int v18), (0, .ref 0)]) rfl ?_
      refine go_goto 53 (pc := 83) hΓ d_X_net_83 (by decide) ?_
      refine go_sub' (lv' := [(0, .ref 0), (3, .int v18)]) rfl ?_
      exact ih v18 μ17
set_option maxHeartbeats 4000000 in
set_option maxRecDepth 100000 in
theorem g_X_net (N d : Nat) (x1 : Int32)  : CallF eI y_X_net c_X_net 4 (some .int) (d + 3 + 1) [.ref 0, .int x1] (f_X_net N x1) := by
  refine call_of (d := d + 3) (n := 1) mi_X_net.1 (fun _ => rfl) ?_
  intro Γ μ0 hΓ hT hR
  show Go Γ 4 0 [(0, .ref 0), (1, .int x1)] [] μ0 (f_X_net N x1 μ0)
  unfold f_X_net
  refine go_aload_n (q := 0) (i := 0) (pc := 0) hΓ d_X_net_0 rfl rfl ?_
  refine go_callV (index := 97) emI hΓ hR (g_X_readNet N (d + 0) ) mi_X_readNet ml_X_97 d_X_net_1 rfl rfl rfl rfl rfl (fun r1 μ2 => ?_)
  show Go Γ 4 4 [(0, .ref 0), (1, .int x1)] [.int r1] μ2 _
  refine go_istore_n (i := 2) (lv' := [(2, .int r1), (0, .ref 0), (1, .int x1)]) (pc := 4) hΓ d_X_net_4 rfl (by decide) rfl ?_
  refine go_aload_n (q := 1) (i := 0) (pc := 5) hΓ d_X_net_5 rfl rfl ?_
  refine go_getR (q := 14) (pc := 6) hΓ fl_X_30 d_X_net_6 rfl rfl ?_
  refine go_iconst (v := 0) (pc := 9) hΓ d_X_net_9 (by decide) ?_
  refine go_putI (pc := 10) hΓ fp_X_93 d_X_net_10 rfl rfl ?_
  refine go_letM (fun μ3 => ?_)
  refine go_iload_n (q := 0) (i := 2) (pc := 13) hΓ d_X_net_13 rfl rfl ?_
  refine go_if_lt 22 (pc := 14) hΓ d_X_net_14 (by decide) (fun h4 => go_eq (if_pos h4) ?_) (fun h4 => go_eq (if_neg h4) ?_)
  · refine go_iload_n (q := 2) (i := 1) (pc := 22) hΓ d_X_net_22 rfl rfl ?_
    refine go_callS (index := 101) emI hΓ hR (g_X_isNet N (d + 2) x1) mi_X_isNet ml_X_101 d_X_net_23 rfl rfl rfl (fun r5 μ6 => ?_)
    show Go Γ 4 26 [(2, .int r1), (0, .ref 0), (1, .int x1)] [.int r5] μ6 _
    refine go_if_ne 31 (pc := 26) hΓ d_X_net_26 (by decide) (fun h7 => go_eq (if_neg h7) ?_) (fun h7 => go_eq (if_pos h7) ?_)
    · refine go_aload_n (q := 1) (i := 0) (pc := 31) hΓ d_X_net_31 rfl rfl ?_
      refine go_getR (q := 1) (pc := 32) hΓ fl_X_11 d_X_net_32 rfl rfl ?_
      refine go_iload_n (q := 2) (i := 1) (pc := 35) hΓ d_X_net_35 rfl rfl ?_
      refine go_ck (fun h8 => ?_)
      refine go_aald (pc := 36) hΓ d_X_net_36 h8 ?_
      refine go_aload_n (q := 1) (i := 0) (pc := 37) hΓ d_X_net_37 rfl rfl ?_
      refine go_getR (q := 18) (pc := 38) hΓ fl_X_16 d_X_net_38 rfl rfl ?_
      refine go_callV (index := 104) emV hΓ hR (g_Net_take N (d + 2) (2 + 3 * tn x1) (isN_in h8) 18 isN_18) mi_Net_take ml_X_104 d_X_net_41 rfl (isN_sh (isN_in h8)).1 rfl rfl rfl (fun _ μ10 => ?_)
      show Go Γ 4 44 [(2, .int r1), (0, .ref 0), (1, .int x1)] [] μ10 _
      refine go_aload_n (q := 1) (i := 0) (pc := 44) hΓ d_X_net_44 rfl rfl ?_
      refine go_getR (q := 16) (pc := 45) hΓ fl_X_37 d_X_net_45 rfl rfl ?_
      refine go_callV (index := 108) emV hΓ hR (g_Numbers_clear N (d + 2) ) mi_Numbers_clear ml_X_108 d_X_net_48 rfl rfl rfl rfl rfl (fun _ μ12 => ?_)
      show Go Γ 4 51 [(2, .int r1), (0, .ref 0), (1, .int x1)] [] μ12 _
      refine go_iconst (v := 0) (pc := 51) hΓ d_X_net_51 (by decide) ?_
      refine go_istore_n (i := 3) (lv' := [(3, .int 0), (2, .int r1), (0, .ref 0), (1, .int x1)]) (pc := 52) hΓ d_X_net_52 rfl (by decide) rfl ?_
      refine go_sub' (lv' := [(0, .ref 0), (3, .int 0)]) rfl ?_
      refine glp_X_net_53 N d hΓ hT hR  _ (fun μ19 => ?_) N 0 μ12
      refine go_aload_n (q := 0) (i := 0) (pc := 86) hΓ d_X_net_86 rfl rfl ?_
      refine go_getR (q := 18) (pc := 87) hΓ fl_X_16 d_X_net_87 rfl rfl ?_
      refine go_getI (pc := 90) hΓ fl_X_121 d_X_net_90 rfl rfl ?_
      exact go_iret (pc := 93) hΓ hT d_X_net_93
    · refine go_iconst (v := -1) (pc := 29) hΓ d_X_net_29 (by decide) ?_
      exact go_iret (pc := 30) hΓ hT d_X_net_30
  · refine go_bipush (v := -21) (pc := 17) hΓ d_X_net_17 (by decide) ?_
    refine go_iload_n (q := 0) (i := 2) (pc := 19) hΓ d_X_net_19 rfl rfl ?_
    refine go_isub (pc := 20) hΓ d_X_net_20 ?_
    exact go_iret (pc := 21) hΓ hT d_X_net_21
def lp_X_makeBubbles_16 (N : Nat) (p0 : Nat) (x1 : Int32) (x2 : Int32)  (K : Mem → Option (Unit × Mem)) : Nat → Int32 → Mem → Option (Unit × Mem)
  | 0, _, _ => none
  | n + 1, a3, μ0 => if ((x1 - 2) - x2) < a3 then (K  μ0) else (bnd (f_Net_append N p0 a3 (a3 + 1) μ0) fun r4 μ5 => lt' (a3 + 1) fun v6 => lp_X_makeBubbles_16 N p0 x1 x2 K n v6 μ5)
def lp_X_makeBubbles_7 (N : Nat) (p0 : Nat) (x1 : Int32)  (K : Mem → Option (Unit × Mem)) : Nat → Int32 → Mem → Option (Unit × Mem)
  | 0, _, _ => none
  | n + 1, a2, μ0 => if (x1 - 2) < a2 then (K  μ0) else (lp_X_makeBubbles_16 N p0 x1 a2 (fun μ7 => lt' (a2 + 1) fun v8 => lp_X_makeBubbles_7 N p0 x1 K n v8 μ7) N 0 μ0)
def f_X_makeBubbles (N : Nat) (p0 : Nat) (μ0 : Mem) : Option (Unit × Mem) :=
  lt' (gI μ0 p0 0) fun v1 => lp_X_makeBubbles_7 N p0 v1 (fun μ9 => some ((), μ9)) N 0 μ0
set_option maxHeartbeats 4000000 in
set_option maxRecDepth 100000 in
theorem glp_X_makeBubbles_16 (N d : Nat) {Γ : Cx Unit} (hΓ : Ok Γ "SortingNets" c_X_makeBubbles 4) (hT : Rt Γ eV none) (hR : Rm Γ (d + 1)) (p0 : Nat) (x1 : Int32) (x2 : Int32) (hp0 : isN p0)   (K : Mem → Option (Unit × Mem)) (hK : ∀  (ν : Mem), Go Γ 4 40 [(0, .ref p0), (1, .int x1), (2, .int x2)] [] ν (K  ν)) : ∀ (n : Nat) (a3 : Int32) (μ0 : Mem), Go Γ 4 16 [(0, .ref p0), (1, .int x1), (2, .int x2), (3, .int a3)] [] μ0 (lp_X_makeBubbles_16 N p0 x1 x2 K n a3 μ0) := by
  intro n
  induction n with
  | zero => intro a3 μ0; exact go_none
  | succ n ih =>
    intro a3 μ0
    rw [lp_X_makeBubbles_16]
    refine go_iload_n (q := 3) (i := 3) (pc := 16) hΓ d_X_makeBubbles_16 rfl rfl ?_
    refine go_iload_n (q := 1) (i := 1) (pc := 17) hΓ d_X_makeBubbles_17 rfl rfl ?_
    refine go_iconst (v := 2) (pc := 18) hΓ d_X_makeBubbles_18 (by decide) ?_
    refine go_isub (pc := 19) hΓ d_X_makeBubbles_19 ?_
    refine go_iload_n (q := 2) (i := 2) (pc := 20) hΓ d_X_makeBubbles_20 rfl rfl ?_
    refine go_isub (pc := 21) hΓ d_X_makeBubbles_21 ?_
    refine go_icmp_gt 40 (pc := 22) hΓ d_X_makeBubbles_22 (by decide) (fun h3 => go_eq (if_pos h3) ?_) (fun h3 => go_eq (if_neg h3) ?_)
    · refine go_sub' (lv' := [(0, .ref p0), (1, .int x1), (2, .int x2)]) rfl ?_
      exact hK  μ0
    · refine go_aload_n (q := 0) (i := 0) (pc := 25) hΓ d_X_makeBubbles_25 rfl rfl ?_
      refine go_iload_n (q := 3) (i := 3) (pc := 26) hΓ d_X_makeBubbles_26 rfl rfl ?_
      refine go_iload_n (q := 3) (i := 3) (pc := 27) hΓ d_X_makeBubbles_27 rfl rfl ?_
      refine go_iconst (v := 1) (pc := 28) hΓ d_X_makeBubbles_28 (by decide) ?_
      refine go_iadd (pc := 29) hΓ d_X_makeBubbles_29 ?_
      refine go_callV (index := 154) emI hΓ hR (g_Net_append N (d + 0) p0 hp0 a3 (a3 + 1)) mi_Net_append ml_X_154 d_X_makeBubbles_30 rfl (isN_sh hp0).1 rfl rfl rfl (fun r4 μ5 => ?_)
      show Go Γ 4 33 [(0, .ref p0), (1, .int x1), (2, .int x2), (3, .int a3)] [.int r4] μ5 _
      refine go_pop (pc := 33) hΓ d_X_makeBubbles_33 rfl ?_
      refine go_incI (q := 3) (i := 3) (n := 1) (c := 1) (pc := 34) hΓ d_X_makeBubbles_34 rfl (by decide) (by decide) (fun v6 => ?_)
      refine go_sub' (lv' := [(3, .int v6), (0, .ref p0), (1, .int x1), (2, .int x2)]) rfl ?_
      refine go_goto 16 (pc := 37) hΓ d_X_makeBubbles_37 (by decide) ?_
      refine go_sub' (lv' := [(0, .ref p0), (1, .int x1), (2, .int x2), (3, .int v6)]) rfl ?_
      exact ih v6 μ5
set_option maxHeartbeats 4000000 in
set_option maxRecDepth 100000 in
theorem glp_X_makeBubbles_7 (N d : Nat) {Γ : Cx Unit} (hΓ : Ok Γ "SortingNets" c_X_makeBubbles 4) (hT : Rt Γ eV none) (hR : Rm Γ (d + 1)) (p0 : Nat) (x1 : Int32) (hp0 : isN p0)   (K : Mem → Option (Unit × Mem)) (hK : ∀  (ν : Mem), Go Γ 4 46 [] [] ν (K  ν)) : ∀ (n : Nat) (a2 : Int32) (μ0 : Mem), Go Γ 4 7 [(0, .ref p0), (1, .int x1), (2, .int a2)] [] μ0 (lp_X_makeBubbles_7 N p0 x1 K n a2 μ0) := by
  intro n
  induction n with
  | zero => intro a2 μ0; exact go_none
  | succ n ih =>
    intro a2 μ0
    rw [lp_X_makeBubbles_7]
    refine go_iload_n (q := 2) (i := 2) (pc := 7) hΓ d_X_makeBubbles_7 rfl rfl ?_
    refine go_iload_n (q := 1) (i := 1) (pc := 8) hΓ d_X_makeBubbles_8 rfl rfl ?_
    refine go_iconst (v := 2) (pc := 9) hΓ d_X_makeBubbles_9 (by decide) ?_
    refine go_isub (pc := 10) hΓ d_X_makeBubbles_10 ?_
    refine go_icmp_gt 46 (pc := 11) hΓ d_X_makeBubbles_11 (by decide) (fun h2 => go_eq (if_pos h2) ?_) (fun h2 => go_eq (if_neg h2) ?_)
    · refine go_sub' (lv' := []) rfl ?_
      exact hK  μ0
    · refine go_iconst (v := 0) (pc := 14) hΓ d_X_makeBubbles_14 (by decide) ?_
      refine go_istore_n (i := 3) (lv' := [(3, .int 0), (0, .ref p0), (1, .int x1), (2, .int a2)]) (pc := 15) hΓ d_X_makeBubbles_15 rfl (by decide) rfl ?_
      refine go_sub' (lv' := [(0, .ref p0), (1, .int x1), (2, .int a2), (3, .int 0)]) rfl ?_
      refine glp_X_makeBubbles_16 N d hΓ hT hR p0 x1 a2 hp0 _ (fun μ7 => ?_) N 0 μ0
      refine go_incI (q := 2) (i := 2) (n := 1) (c := 1) (pc := 40) hΓ d_X_makeBubbles_40 rfl (by decide) (by decide) (fun v8 => ?_)
      refine go_sub' (lv' := [(2, .int v8), (0, .ref p0), (1, .int x1)]) rfl ?_
      refine go_goto 7 (pc := 43) hΓ d_X_makeBubbles_43 (by decide) ?_
      refine go_sub' (lv' := [(0, .ref p0), (1, .int x1), (2, .int v8)]) rfl ?_
      exact ih v8 μ7
set_option maxHeartbeats 4000000 in
set_option maxRecDepth 100000 in
theorem g_X_makeBubbles (N d : Nat) (p0 : Nat) (hp0 : isN p0)  : CallF eV y_X_makeBubbles c_X_makeBubbles 4 none (d + 1 + 1) [.ref p0] (f_X_makeBubbles N p0) := by
  refine call_of (d := d + 1) (n := 1) mi_X_makeBubbles.1 (fun _ => rfl) ?_
  intro Γ μ0 hΓ hT hR
  show Go Γ 4 0 [(0, .ref p0)] [] μ0 (f_X_makeBubbles N p0 μ0)
  unfold f_X_makeBubbles
  refine go_aload_n (q := 0) (i := 0) (pc := 0) hΓ d_X_makeBubbles_0 rfl rfl ?_
  refine go_getI (pc := 1) hΓ fl_X_111 d_X_makeBubbles_1 (isN_sh hp0).1 rfl ?_
  refine go_letI (fun v1 => ?_)
  refine go_istore_n (i := 1) (lv' := [(1, .int v1), (0, .ref p0)]) (pc := 4) hΓ d_X_makeBubbles_4 rfl (by decide) rfl ?_
  refine go_iconst (v := 0) (pc := 5) hΓ d_X_makeBubbles_5 (by decide) ?_
  refine go_istore_n (i := 2) (lv' := [(2, .int 0), (1, .int v1), (0, .ref p0)]) (pc := 6) hΓ d_X_makeBubbles_6 rfl (by decide) rfl ?_
  refine go_sub' (lv' := [(0, .ref p0), (1, .int v1), (2, .int 0)]) rfl ?_
  refine glp_X_makeBubbles_7 N d hΓ hT hR p0 v1 hp0 _ (fun μ9 => ?_) N 0 μ0
  exact go_vret (pc := 46) hΓ hT d_X_makeBubbles_46
def lp_X_makeInsertions_14 (N : Nat) (p0 : Nat) (x1 : Int32)  (K : Mem → Option (Unit × Mem)) : Nat → Int32 → Mem → Option (Unit × Mem)
  | 0, _, _ => none
  | n + 1, a2, μ0 => if a2 < 0 then (K  μ0) else (bnd (f_Net_append N p0 a2 (a2 + 1) μ0) fun r4 μ5 => lt' (a2 + (-1)) fun v6 => lp_X_makeInsertions_14 N p0 x1 K n v6 μ5)
def lp_X_makeInsertions_2 (N : Nat) (p0 : Nat)  (K : Mem → Option (Unit × Mem)) : Nat → Int32 → Mem → Option (Unit × Mem)
  | 0, _, _ => none
  | n + 1, a1, μ0 => if a1 < (gI μ0 p0 0) then (lt' (a1 - 1) fun v2 => lp_X_makeInsertions_14 N p0 a1 (fun μ7 => lt' (a1 + 1) fun v8 => lp_X_makeInsertions_2 N p0 K n v8 μ7) N v2 μ0) else (K  μ0)
def f_X_makeInsertions (N : Nat) (p0 : Nat) (μ0 : Mem) : Option (Unit × Mem) :=
  lp_X_makeInsertions_2 N p0 (fun μ9 => some ((), μ9)) N 1 μ0
set_option maxHeartbeats 4000000 in
set_option maxRecDepth 100000 in
theorem glp_X_makeInsertions_14 (N d : Nat) {Γ : Cx Unit} (hΓ : Ok Γ "SortingNets" c_X_makeInsertions 3) (hT : Rt Γ eV none) (hR : Rm Γ (d + 1)) (p0 : Nat) (x1 : Int32) (hp0 : isN p0)   (K : Mem → Option (Unit × Mem)) (hK : ∀  (ν : Mem), Go Γ 3 33 [(0, .ref p0), (1, .int x1)] [] ν (K  ν)) : ∀ (n : Nat) (a2 : Int32) (μ0 : Mem), Go Γ 3 14 [(0, .ref p0), (1, .int x1), (2, .int a2)] [] μ0 (lp_X_makeInsertions_14 N p0 x1 K n a2 μ0) := by
  intro n
  induction n with
  | zero => intro a2 μ0; exact go_none
  | succ n ih =>
    intro a2 μ0
    rw [lp_X_makeInsertions_14]
    refine go_iload_n (q := 2) (i := 2) (pc := 14) hΓ d_X_makeInsertions_14 rfl rfl ?_
    refine go_if_lt 33 (pc := 15) hΓ d_X_makeInsertions_15 (by decide) (fun h3 => go_eq (if_pos h3) ?_) (fun h3 => go_eq (if_neg h3) ?_)
    · refine go_sub' (lv' := [(0, .ref p0), (1, .int x1)]) rfl ?_
      exact hK  μ0
    · refine go_aload_n (q := 0) (i := 0) (pc := 18) hΓ d_X_makeInsertions_18 rfl rfl ?_
      refine go_iload_n (q := 2) (i := 2) (pc := 19) hΓ d_X_makeInsertions_19 rfl rfl ?_
      refine go_iload_n (q := 2) (i := 2) (pc := 20) hΓ d_X_makeInsertions_20 rfl rfl ?_
      refine go_iconst (v := 1) (pc := 21) hΓ d_X_makeInsertions_21 (by decide) ?_
      refine go_iadd (pc := 22) hΓ d_X_makeInsertions_22 ?_
      refine go_callV (index := 154) emI hΓ hR (g_Net_append N (d + 0) p0 hp0 a2 (a2 + 1)) mi_Net_append ml_X_154 d_X_makeInsertions_23 rfl (isN_sh hp0).1 rfl rfl rfl (fun r4 μ5 => ?_)
      show Go Γ 3 26 [(0, .ref p0), (1, .int x1), (2, .int a2)] [.int r4] μ5 _
      refine go_pop (pc := 26) hΓ d_X_makeInsertions_26 rfl ?_
      refine go_incI (q := 2) (i := 2) (n := -1) (c := -1) (pc := 27) hΓ d_X_makeInsertions_27 rfl (by decide) (by decide) (fun v6 => ?_)
      refine go_sub' (lv' := [(2, .int v6), (0, .ref p0), (1, .int x1)]) rfl ?_
      refine go_goto 14 (pc := 30) hΓ d_X_makeInsertions_30 (by decide) ?_
      refine go_sub' (lv' := [(0, .ref p0), (1, .int x1), (2, .int v6)]) rfl ?_
      exact ih v6 μ5
set_option maxHeartbeats 4000000 in
set_option maxRecDepth 100000 in
theorem glp_X_makeInsertions_2 (N d : Nat) {Γ : Cx Unit} (hΓ : Ok Γ "SortingNets" c_X_makeInsertions 3) (hT : Rt Γ eV none) (hR : Rm Γ (d + 1)) (p0 : Nat) (hp0 : isN p0)   (K : Mem → Option (Unit × Mem)) (hK : ∀  (ν : Mem), Go Γ 3 39 [] [] ν (K  ν)) : ∀ (n : Nat) (a1 : Int32) (μ0 : Mem), Go Γ 3 2 [(0, .ref p0), (1, .int a1)] [] μ0 (lp_X_makeInsertions_2 N p0 K n a1 μ0) := by
  intro n
  induction n with
  | zero => intro a1 μ0; exact go_none
  | succ n ih =>
    intro a1 μ0
    rw [lp_X_makeInsertions_2]
    refine go_iload_n (q := 1) (i := 1) (pc := 2) hΓ d_X_makeInsertions_2 rfl rfl ?_
    refine go_aload_n (q := 0) (i := 0) (pc := 3) hΓ d_X_makeInsertions_3 rfl rfl ?_
    refine go_getI (pc := 4) hΓ fl_X_111 d_X_makeInsertions_4 (isN_sh hp0).1 rfl ?_
    refine go_icmp_ge 39 (pc := 7) hΓ d_X_makeInsertions_7 (by decide) (fun h1 => go_eq (if_neg h1) ?_) (fun h1 => go_eq (if_pos h1) ?_)
    · refine go_sub' (lv' := []) rfl ?_
      exact hK  μ0
    · refine go_iload_n (q := 1) (i := 1) (pc := 10) hΓ d_X_makeInsertions_10 rfl rfl ?_
      refine go_iconst (v := 1) (pc := 11) hΓ d_X_makeInsertions_11 (by decide) ?_
      refine go_isub (pc := 12) hΓ d_X_makeInsertions_12 ?_
      refine go_letI (fun v2 => ?_)
      refine go_istore_n (i := 2) (lv' := [(2, .int v2), (0, .ref p0), (1, .int a1)]) (pc := 13) hΓ d_X_makeInsertions_13 rfl (by decide) rfl ?_
      refine go_sub' (lv' := [(0, .ref p0), (1, .int a1), (2, .int v2)]) rfl ?_
      refine glp_X_makeInsertions_14 N d hΓ hT hR p0 a1 hp0 _ (fun μ7 => ?_) N v2 μ0
      refine go_incI (q := 1) (i := 1) (n := 1) (c := 1) (pc := 33) hΓ d_X_makeInsertions_33 rfl (by decide) (by decide) (fun v8 => ?_)
      refine go_sub' (lv' := [(1, .int v8), (0, .ref p0)]) rfl ?_
      refine go_goto 2 (pc := 36) hΓ d_X_makeInsertions_36 (by decide) ?_
      refine go_sub' (lv' := [(0, .ref p0), (1, .int v8)]) rfl ?_
      exact ih v8 μ7
set_option maxHeartbeats 4000000 in
set_option maxRecDepth 100000 in
theorem g_X_makeInsertions (N d : Nat) (p0 : Nat) (hp0 : isN p0)  : CallF eV y_X_makeInsertions c_X_makeInsertions 3 none (d + 1 + 1) [.ref p0] (f_X_makeInsertions N p0) := by
  refine call_of (d := d + 1) (n := 1) mi_X_makeInsertions.1 (fun _ => rfl) ?_
  intro Γ μ0 hΓ hT hR
  show Go Γ 3 0 [(0, .ref p0)] [] μ0 (f_X_makeInsertions N p0 μ0)
  unfold f_X_makeInsertions
  refine go_iconst (v := 1) (pc := 0) hΓ d_X_makeInsertions_0 (by decide) ?_
  refine go_istore_n (i := 1) (lv' := [(1, .int 1), (0, .ref p0)]) (pc := 1) hΓ d_X_makeInsertions_1 rfl (by decide) rfl ?_
  refine go_sub' (lv' := [(0, .ref p0), (1, .int 1)]) rfl ?_
  refine glp_X_makeInsertions_2 N d hΓ hT hR p0 hp0 _ (fun μ9 => ?_) N 1 μ0
  exact go_vret (pc := 39) hΓ hT d_X_makeInsertions_39
def lp_X_makeBricks_14 (N : Nat) (p0 : Nat) (x1 : Int32)  (K : Mem → Option (Unit × Mem)) : Nat → Int32 → Mem → Option (Unit × Mem)
  | 0, _, _ => none
  | n + 1, a2, μ0 => if a2 < ((gI μ0 p0 0) - 1) then (bnd (f_Net_append N p0 a2 (a2 + 1) μ0) fun r4 μ5 => lt' (a2 + 2) fun v6 => lp_X_makeBricks_14 N p0 x1 K n v6 μ5) else (K  μ0)
def lp_X_makeBricks_2 (N : Nat) (p0 : Nat)  (K : Mem → Option (Unit × Mem)) : Nat → Int32 → Mem → Option (Unit × Mem)
  | 0, _, _ => none
  | n + 1, a1, μ0 => if a1 < (gI μ0 p0 0) then (lt' (remI a1 2) fun v2 => lp_X_makeBricks_14 N p0 a1 (fun μ7 => lt' (a1 + 1) fun v8 => lp_X_makeBricks_2 N p0 K n v8 μ7) N v2 μ0) else (K  μ0)
def f_X_makeBricks (N : Nat) (p0 : Nat) (μ0 : Mem) : Option (Unit × Mem) :=
  lp_X_makeBricks_2 N p0 (fun μ9 => some ((), μ9)) N 0 μ0
set_option maxHeartbeats 4000000 in
set_option maxRecDepth 100000 in
theorem glp_X_makeBricks_14 (N d : Nat) {Γ : Cx Unit} (hΓ : Ok Γ "SortingNets" c_X_makeBricks 3) (hT : Rt Γ eV none) (hR : Rm Γ (d + 1)) (p0 : Nat) (x1 : Int32) (hp0 : isN p0)   (K : Mem → Option (Unit × Mem)) (hK : ∀  (ν : Mem), Go Γ 3 39 [(0, .ref p0), (1, .int x1)] [] ν (K  ν)) : ∀ (n : Nat) (a2 : Int32) (μ0 : Mem), Go Γ 3 14 [(0, .ref p0), (1, .int x1), (2, .int a2)] [] μ0 (lp_X_makeBricks_14 N p0 x1 K n a2 μ0) := by
  intro n
  induction n with
  | zero => intro a2 μ0; exact go_none
  | succ n ih =>
    intro a2 μ0
    rw [lp_X_makeBricks_14]
    refine go_iload_n (q := 2) (i := 2) (pc := 14) hΓ d_X_makeBricks_14 rfl rfl ?_
    refine go_aload_n (q := 0) (i := 0) (pc := 15) hΓ d_X_makeBricks_15 rfl rfl ?_
    refine go_getI (pc := 16) hΓ fl_X_111 d_X_makeBricks_16 (isN_sh hp0).1 rfl ?_
    refine go_iconst (v := 1) (pc := 19) hΓ d_X_makeBricks_19 (by decide) ?_
    refine go_isub (pc := 20) hΓ d_X_makeBricks_20 ?_
    refine go_icmp_ge 39 (pc := 21) hΓ d_X_makeBricks_21 (by decide) (fun h3 => go_eq (if_neg h3) ?_) (fun h3 => go_eq (if_pos h3) ?_)
    · refine go_sub' (lv' := [(0, .ref p0), (1, .int x1)]) rfl ?_
      exact hK  μ0
    · refine go_aload_n (q := 0) (i := 0) (pc := 24) hΓ d_X_makeBricks_24 rfl rfl ?_
      refine go_iload_n (q := 2) (i := 2) (pc := 25) hΓ d_X_makeBricks_25 rfl rfl ?_
      refine go_iload_n (q := 2) (i := 2) (pc := 26) hΓ d_X_makeBricks_26 rfl rfl ?_
      refine go_iconst (v := 1) (pc := 27) hΓ d_X_makeBricks_27 (by decide) ?_
      refine go_iadd (pc := 28) hΓ d_X_makeBricks_28 ?_
      refine go_callV (index := 154) emI hΓ hR (g_Net_append N (d + 0) p0 hp0 a2 (a2 + 1)) mi_Net_append ml_X_154 d_X_makeBricks_29 rfl (isN_sh hp0).1 rfl rfl rfl (fun r4 μ5 => ?_)
      show Go Γ 3 32 [(0, .ref p0), (1, .int x1), (2, .int a2)] [.int r4] μ5 _
      refine go_pop (pc := 32) hΓ d_X_makeBricks_32 rfl ?_
      refine go_incI (q := 2) (i := 2) (n := 2) (c := 2) (pc := 33) hΓ d_X_makeBricks_33 rfl (by decide) (by decide) (fun v6 => ?_)
      refine go_sub' (lv' := [(2, .int v6), (0, .ref p0), (1, .int x1)]) rfl ?_
      refine go_goto 14 (pc := 36) hΓ d_X_makeBricks_36 (by decide) ?_
      refine go_sub' (lv' := [(0, .ref p0), (1, .int x1), (2, .int v6)]) rfl ?_
      exact ih v6 μ5
set_option maxHeartbeats 4000000 in
set_option maxRecDepth 100000 in
theorem glp_X_makeBricks_2 (N d : Nat) {Γ : Cx Unit} (hΓ : Ok Γ "SortingNets" c_X_makeBricks 3) (hT : Rt Γ eV none) (hR : Rm Γ (d + 1)) (p0 : Nat) (hp0 : isN p0)   (K : Mem → Option (Unit × Mem)) (hK : ∀  (ν : Mem), Go Γ 3 45 [] [] ν (K  ν)) : ∀ (n : Nat) (a1 : Int32) (μ0 : Mem), Go Γ 3 2 [(0, .ref p0), (1, .int a1)] [] μ0 (lp_X_makeBricks_2 N p0 K n a1 μ0) := by
  intro n
  induction n with
  | zero => intro a1 μ0; exact go_none
  | succ n ih =>
    intro a1 μ0
    rw [lp_X_makeBricks_2]
    refine go_iload_n (q := 1) (i := 1) (pc := 2) hΓ d_X_makeBricks_2 rfl rfl ?_
    refine go_aload_n (q := 0) (i := 0) (pc := 3) hΓ d_X_makeBricks_3 rfl rfl ?_
    refine go_getI (pc := 4) hΓ fl_X_111 d_X_makeBricks_4 (isN_sh hp0).1 rfl ?_
    refine go_icmp_ge 45 (pc := 7) hΓ d_X_makeBricks_7 (by decide) (fun h1 => go_eq (if_neg h1) ?_) (fun h1 => go_eq (if_pos h1) ?_)
    · refine go_sub' (lv' := []) rfl ?_
      exact hK  μ0
    · refine go_iload_n (q := 1) (i := 1) (pc := 10) hΓ d_X_makeBricks_10 rfl rfl ?_
      refine go_iconst (v := 2) (pc := 11) hΓ d_X_makeBricks_11 (by decide) ?_
      refine go_irem (pc := 12) hΓ d_X_makeBricks_12 (by decide) ?_
      refine go_letI (fun v2 => ?_)
      refine go_istore_n (i := 2) (lv' := [(2, .int v2), (0, .ref p0), (1, .int a1)]) (pc := 13) hΓ d_X_makeBricks_13 rfl (by decide) rfl ?_
      refine go_sub' (lv' := [(0, .ref p0), (1, .int a1), (2, .int v2)]) rfl ?_
      refine glp_X_makeBricks_14 N d hΓ hT hR p0 a1 hp0 _ (fun μ7 => ?_) N v2 μ0
      refine go_incI (q := 1) (i := 1) (n := 1) (c := 1) (pc := 39) hΓ d_X_makeBricks_39 rfl (by decide) (by decide) (fun v8 => ?_)
      refine go_sub' (lv' := [(1, .int v8), (0, .ref p0)]) rfl ?_
      refine go_goto 2 (pc := 42) hΓ d_X_makeBricks_42 (by decide) ?_
      refine go_sub' (lv' := [(0, .ref p0), (1, .int v8)]) rfl ?_
      exact ih v8 μ7
set_option maxHeartbeats 4000000 in
set_option maxRecDepth 100000 in
theorem g_X_makeBricks (N d : Nat) (p0 : Nat) (hp0 : isN p0)  : CallF eV y_X_makeBricks c_X_makeBricks 3 none (d + 1 + 1) [.ref p0] (f_X_makeBricks N p0) := by
  refine call_of (d := d + 1) (n := 1) mi_X_makeBricks.1 (fun _ => rfl) ?_
  intro Γ μ0 hΓ hT hR
  show Go Γ 3 0 [(0, .ref p0)] [] μ0 (f_X_makeBricks N p0 μ0)
  unfold f_X_makeBricks
  refine go_iconst (v := 0) (pc := 0) hΓ d_X_makeBricks_0 (by decide) ?_
  refine go_istore_n (i := 1) (lv' := [(1, .int 0), (0, .ref p0)]) (pc := 1) hΓ d_X_makeBricks_1 rfl (by decide) rfl ?_
  refine go_sub' (lv' := [(0, .ref p0), (1, .int 0)]) rfl ?_
  refine glp_X_makeBricks_2 N d hΓ hT hR p0 hp0 _ (fun μ9 => ?_) N 0 μ0
  exact go_vret (pc := 45) hΓ hT d_X_makeBricks_45
def lp_X_appendStride_3 (N : Nat) (p0 : Nat) (x1 : Int32) (x2 : Int32) (x3 : Int32)  (K : Mem → Option (Unit × Mem)) : Nat → Int32 → Mem → Option (Unit × Mem)
  | 0, _, _ => none
  | n + 1, a4, μ0 => if a4 < ((gI μ0 p0 0) - x3) then (lt' (fun (μ3 : Mem) => lt' (a4 + 1) fun v4 => lp_X_appendStride_3 N p0 x1 x2 x3 K n v4 μ3) fun (k2 : Mem → Option (Unit × Mem)) => if (a4 &&& x1) = x2 then (bnd (f_Net_append N p0 a4 (a4 + x3) μ0) fun r6 μ7 => k2 μ7) else (k2 μ0)) else (K  μ0)
def f_X_appendStride (N : Nat) (p0 : Nat) (x1 : Int32) (x2 : Int32) (x3 : Int32) (μ0 : Mem) : Option (Unit × Mem) :=
  lp_X_appendStride_3 N p0 x1 x2 x3 (fun μ8 => some ((), μ8)) N 0 μ0
set_option maxHeartbeats 4000000 in
set_option maxRecDepth 100000 in
theorem glp_X_appendStride_3 (N d : Nat) {Γ : Cx Unit} (hΓ : Ok Γ "SortingNets" c_X_appendStride 5) (hT : Rt Γ eV none) (hR : Rm Γ (d + 1)) (p0 : Nat) (x1 : Int32) (x2 : Int32) (x3 : Int32) (hp0 : isN p0)   (K : Mem → Option (Unit × Mem)) (hK : ∀  (ν : Mem), Go Γ 5 39 [] [] ν (K  ν)) : ∀ (n : Nat) (a4 : Int32) (μ0 : Mem), Go Γ 5 3 [(0, .ref p0), (1, .int x1), (2, .int x2), (3, .int x3), (4, .int a4)] [] μ0 (lp_X_appendStride_3 N p0 x1 x2 x3 K n a4 μ0) := by
  intro n
  induction n with
  | zero => intro a4 μ0; exact go_none
  | succ n ih =>
    intro a4 μ0
    rw [lp_X_appendStride_3]
    refine go_iload (q := 4) (pc := 3) hΓ d_X_appendStride_3 rfl ?_
    refine go_aload_n (q := 0) (i := 0) (pc := 5) hΓ d_X_appendStride_5 rfl rfl ?_
    refine go_getI (pc := 6) hΓ fl_X_111 d_X_appendStride_6 (isN_sh hp0).1 rfl ?_
    refine go_iload_n (q := 3) (i := 3) (pc := 9) hΓ d_X_appendStride_9 rfl rfl ?_
    refine go_isub (pc := 10) hΓ d_X_appendStride_10 ?_
    refine go_icmp_ge 39 (pc := 11) hΓ d_X_appendStride_11 (by decide) (fun h1 => go_eq (if_neg h1) ?_) (fun h1 => go_eq (if_pos h1) ?_)
    · refine go_sub' (lv' := []) rfl ?_
      exact hK  μ0
    · refine go_iload (q := 4) (pc := 14) hΓ d_X_appendStride_14 rfl ?_
      refine go_iload_n (q := 1) (i := 1) (pc := 16) hΓ d_X_appendStride_16 rfl rfl ?_
      refine go_iand (pc := 17) hΓ d_X_appendStride_17 ?_
      refine go_iload_n (q := 2) (i := 2) (pc := 18) hΓ d_X_appendStride_18 rfl rfl ?_
      refine go_join (fun (k2 : Mem → Option (Unit × Mem)) => ∀ (μ3 : Mem), Go Γ 5 33 [(0, .ref p0), (1, .int x1), (2, .int x2), (3, .int x3), (4, .int a4)] [] μ3 (k2 μ3)) ?_ (fun k2 k2h => ?_)
      · intro μ3
        refine go_incI (q := 4) (i := 4) (n := 1) (c := 1) (pc := 33) hΓ d_X_appendStride_33 rfl (by decide) (by decide) (fun v4 => ?_)
        refine go_sub' (lv' := [(4, .int v4), (0, .ref p0), (1, .int x1), (2, .int x2), (3, .int x3)]) rfl ?_
        refine go_goto 3 (pc := 36) hΓ d_X_appendStride_36 (by decide) ?_
        refine go_sub' (lv' := [(0, .ref p0), (1, .int x1), (2, .int x2), (3, .int x3), (4, .int v4)]) rfl ?_
        exact ih v4 μ3
      · refine go_icmp_ne 33 (pc := 19) hΓ d_X_appendStride_19 (by decide) (fun h5 => go_eq (if_neg h5) ?_) (fun h5 => go_eq (if_pos h5) ?_)
        · refine go_sub' (lv' := [(0, .ref p0), (1, .int x1), (2, .int x2), (3, .int x3), (4, .int a4)]) rfl ?_
          exact k2h μ0
        · refine go_aload_n (q := 0) (i := 0) (pc := 22) hΓ d_X_appendStride_22 rfl rfl ?_
          refine go_iload (q := 4) (pc := 23) hΓ d_X_appendStride_23 rfl ?_
          refine go_iload (q := 4) (pc := 25) hΓ d_X_appendStride_25 rfl ?_
          refine go_iload_n (q := 3) (i := 3) (pc := 27) hΓ d_X_appendStride_27 rfl rfl ?_
          refine go_iadd (pc := 28) hΓ d_X_appendStride_28 ?_
          refine go_callV (index := 154) emI hΓ hR (g_Net_append N (d + 0) p0 hp0 a4 (a4 + x3)) mi_Net_append ml_X_154 d_X_appendStride_29 rfl (isN_sh hp0).1 rfl rfl rfl (fun r6 μ7 => ?_)
          show Go Γ 5 32 [(0, .ref p0), (1, .int x1), (2, .int x2), (3, .int x3), (4, .int a4)] [.int r6] μ7 _
          refine go_pop (pc := 32) hΓ d_X_appendStride_32 rfl ?_
          refine go_sub' (lv' := [(0, .ref p0), (1, .int x1), (2, .int x2), (3, .int x3), (4, .int a4)]) rfl ?_
          exact k2h μ7
set_option maxHeartbeats 4000000 in
set_option maxRecDepth 100000 in
theorem g_X_appendStride (N d : Nat) (p0 : Nat) (hp0 : isN p0) (x1 : Int32) (x2 : Int32) (x3 : Int32)  : CallF eV y_X_appendStride c_X_appendStride 5 none (d + 1 + 1) [.ref p0, .int x1, .int x2, .int x3] (f_X_appendStride N p0 x1 x2 x3) := by
  refine call_of (d := d + 1) (n := 4) mi_X_appendStride.1 (fun _ => rfl) ?_
  intro Γ μ0 hΓ hT hR
  show Go Γ 5 0 [(0, .ref p0), (1, .int x1), (2, .int x2), (3, .int x3)] [] μ0 (f_X_appendStride N p0 x1 x2 x3 μ0)
  unfold f_X_appendStride
  refine go_iconst (v := 0) (pc := 0) hΓ d_X_appendStride_0 (by decide) ?_
  refine go_istore (lv' := [(4, .int 0), (0, .ref p0), (1, .int x1), (2, .int x2), (3, .int x3)]) (pc := 1) hΓ d_X_appendStride_1 (by decide) rfl ?_
  refine go_sub' (lv' := [(0, .ref p0), (1, .int x1), (2, .int x2), (3, .int x3), (4, .int 0)]) rfl ?_
  refine glp_X_appendStride_3 N d hΓ hT hR p0 x1 x2 x3 hp0 _ (fun μ8 => ?_) N 0 μ0
  exact go_vret (pc := 39) hΓ hT d_X_appendStride_39
def lp_X_makeMergeExchange_2 (N : Nat) (p0 : Nat)  (K : Int32 → Mem → Option (Unit × Mem)) : Nat → Int32 → Mem → Option (Unit × Mem)
  | 0, _, _ => none
  | n + 1, a1, μ0 => if a1 < (gI μ0 p0 0) then (if a1 < 8 then (lt' (a1 * 2) fun v3 => lp_X_makeMergeExchange_2 N p0 K n v3 μ0) else (K a1 μ0)) else (K a1 μ0)
def lp_X_makeMergeExchange_42 (N : Nat) (p0 : Nat) (x1 : Int32) (x2 : Int32)  (K : Mem → Option (Unit × Mem)) : Nat → Int32 → Mem → Option (Unit × Mem)
  | 0, _, _ => none
  | n + 1, a3, μ0 => if x2 < a3 then (bnd (f_X_appendStride N p0 x2 x2 (a3 - x2) μ0) fun _ μ13 => lt' (a3 / 2) fun v14 => lp_X_makeMergeExchange_42 N p0 x1 x2 K n v14 μ13) else (K  μ0)
def lp_X_makeMergeExchange_27 (N : Nat) (p0 : Nat) (x1 : Int32)  (K : Mem → Option (Unit × Mem)) : Nat → Int32 → Mem → Option (Unit × Mem)
  | 0, _, _ => none
  | n + 1, a2, μ0 => if 0 < a2 then (bnd (f_X_appendStride N p0 a2 0 a2 μ0) fun _ μ9 => lt' (x1 / 2) fun v10 => lp_X_makeMergeExchange_42 N p0 x1 a2 (fun μ15 => lt' (a2 / 2) fun v16 => lp_X_makeMergeExchange_27 N p0 x1 K n v16 μ15) N v10 μ9) else (K  μ0)
def f_X_makeMergeExchange (N : Nat) (p0 : Nat) (μ0 : Mem) : Option (Unit × Mem) :=
  lp_X_makeMergeExchange_2 N p0 (fun v4 μ5 => lt' (v4 / 2) fun v6 => lp_X_makeMergeExchange_27 N p0 v4 (fun μ17 => some ((), μ17)) N v6 μ5) N 1 μ0
set_option maxHeartbeats 4000000 in
set_option maxRecDepth 100000 in
theorem glp_X_makeMergeExchange_2 (N d : Nat) {Γ : Cx Unit} (hΓ : Ok Γ "SortingNets" c_X_makeMergeExchange 4) (hT : Rt Γ eV none) (hR : Rm Γ (d + 2)) (p0 : Nat) (hp0 : isN p0)   (K : Int32 → Mem → Option (Unit × Mem)) (hK : ∀ (b1 : Int32) (ν : Mem), Go Γ 4 23 [(0, .ref p0), (1, .int b1)] [] ν (K b1 ν)) : ∀ (n : Nat) (a1 : Int32) (μ0 : Mem), Go Γ 4 2 [(0, .ref p0), (1, .int a1)] [] μ0 (lp_X_makeMergeExchange_2 N p0 K n a1 μ0) := by
  intro n
  induction n with
  | zero => intro a1 μ0; exact go_none
  | succ n ih =>
    intro a1 μ0
    rw [lp_X_makeMergeExchange_2]
    refine go_iload_n (q := 1) (i := 1) (pc := 2) hΓ d_X_makeMergeExchange_2 rfl rfl ?_
    refine go_aload_n (q := 0) (i := 0) (pc := 3) hΓ d_X_makeMergeExchange_3 rfl rfl ?_
    refine go_getI (pc := 4) hΓ fl_X_111 d_X_makeMergeExchange_4 (isN_sh hp0).1 rfl ?_
    refine go_icmp_ge 23 (pc := 7) hΓ d_X_makeMergeExchange_7 (by decide) (fun h1 => go_eq (if_neg h1) ?_) (fun h1 => go_eq (if_pos h1) ?_)
    · refine go_sub' (lv' := [(0, .ref p0), (1, .int a1)]) rfl ?_
      exact hK a1 μ0
    · refine go_iload_n (q := 1) (i := 1) (pc := 10) hΓ d_X_makeMergeExchange_10 rfl rfl ?_
      refine go_bipush (v := 8) (pc := 11) hΓ d_X_makeMergeExchange_11 (by decide) ?_
      refine go_icmp_ge 23 (pc := 13) hΓ d_X_makeMergeExchange_13 (by decide) (fun h2 => go_eq (if_neg h2) ?_) (fun h2 => go_eq (if_pos h2) ?_)
      · refine go_sub' (lv' := [(0, .ref p0), (1, .int a1)]) rfl ?_
        exact hK a1 μ0
      · refine go_iload_n (q := 1) (i := 1) (pc := 16) hΓ d_X_makeMergeExchange_16 rfl rfl ?_
        refine go_iconst (v := 2) (pc := 17) hΓ d_X_makeMergeExchange_17 (by decide) ?_
        refine go_imul (pc := 18) hΓ d_X_makeMergeExchange_18 ?_
        refine go_letI (fun v3 => ?_)
        refine go_istore_n (i := 1) (lv' := [(1, .int v3), (0, .ref p0)]) (pc := 19) hΓ d_X_makeMergeExchange_19 rfl (by decide) rfl ?_
        refine go_goto 2 (pc := 20) hΓ d_X_makeMergeExchange_20 (by decide) ?_
        refine go_sub' (lv' := [(0, .ref p0), (1, .int v3)]) rfl ?_
        exact ih v3 μ0
set_option maxHeartbeats 4000000 in
set_option maxRecDepth 100000 in
theorem glp_X_makeMergeExchange_42 (N d : Nat) {Γ : Cx Unit} (hΓ : Ok Γ "SortingNets" c_X_makeMergeExchange 4) (hT : Rt Γ eV none) (hR : Rm Γ (d + 2)) (p0 : Nat) (x1 : Int32) (x2 : Int32) (hp0 : isN p0)   (K : Mem → Option (Unit × Mem)) (hK : ∀  (ν : Mem), Go Γ 4 63 [(0, .ref p0), (1, .int x1), (2, .int x2)] [] ν (K  ν)) : ∀ (n : Nat) (a3 : Int32) (μ0 : Mem), Go Γ 4 42 [(0, .ref p0), (1, .int x1), (2, .int x2), (3, .int a3)] [] μ0 (lp_X_makeMergeExchange_42 N p0 x1 x2 K n a3 μ0) := by
  intro n
  induction n with
  | zero => intro a3 μ0; exact go_none
  | succ n ih =>
    intro a3 μ0
    rw [lp_X_makeMergeExchange_42]
    refine go_iload_n (q := 3) (i := 3) (pc := 42) hΓ d_X_makeMergeExchange_42 rfl rfl ?_
    refine go_iload_n (q := 2) (i := 2) (pc := 43) hΓ d_X_makeMergeExchange_43 rfl rfl ?_
    refine go_icmp_le 63 (pc := 44) hΓ d_X_makeMergeExchange_44 (by decide) (fun h11 => go_eq (if_neg h11) ?_) (fun h11 => go_eq (if_pos h11) ?_)
    · refine go_sub' (lv' := [(0, .ref p0), (1, .int x1), (2, .int x2)]) rfl ?_
      exact hK  μ0
    · refine go_aload_n (q := 0) (i := 0) (pc := 47) hΓ d_X_makeMergeExchange_47 rfl rfl ?_
      refine go_iload_n (q := 2) (i := 2) (pc := 48) hΓ d_X_makeMergeExchange_48 rfl rfl ?_
      refine go_iload_n (q := 2) (i := 2) (pc := 49) hΓ d_X_makeMergeExchange_49 rfl rfl ?_
      refine go_iload_n (q := 3) (i := 3) (pc := 50) hΓ d_X_makeMergeExchange_50 rfl rfl ?_
      refine go_iload_n (q := 2) (i := 2) (pc := 51) hΓ d_X_makeMergeExchange_51 rfl rfl ?_
      refine go_isub (pc := 52) hΓ d_X_makeMergeExchange_52 ?_
      refine go_callS (index := 349) emV hΓ hR (g_X_appendStride N (d + 0) p0 hp0 x2 x2 (a3 - x2)) mi_X_appendStride ml_X_349 d_X_makeMergeExchange_53 rfl rfl rfl (fun _ μ13 => ?_)
      show Go Γ 4 56 [(0, .ref p0), (1, .int x1), (2, .int x2), (3, .int a3)] [] μ13 _
      refine go_iload_n (q := 3) (i := 3) (pc := 56) hΓ d_X_makeMergeExchange_56 rfl rfl ?_
      refine go_iconst (v := 2) (pc := 57) hΓ d_X_makeMergeExchange_57 (by decide) ?_
      refine go_idiv (pc := 58) hΓ d_X_makeMergeExchange_58 (by decide) ?_
      refine go_letI (fun v14 => ?_)
      refine go_istore_n (i := 3) (lv' := [(3, .int v14), (0, .ref p0), (1, .int x1), (2, .int x2)]) (pc := 59) hΓ d_X_makeMergeExchange_59 rfl (by decide) rfl ?_
      refine go_goto 42 (pc := 60) hΓ d_X_makeMergeExchange_60 (by decide) ?_
      refine go_sub' (lv' := [(0, .ref p0), (1, .int x1), (2, .int x2), (3, .int v14)]) rfl ?_
      exact ih v14 μ13
set_option maxHeartbeats 4000000 in
set_option maxRecDepth 100000 in
theorem glp_X_makeMergeExchange_27 (N d : Nat) {Γ : Cx Unit} (hΓ : Ok Γ "SortingNets" c_X_makeMergeExchange 4) (hT : Rt Γ eV none) (hR : Rm Γ (d + 2)) (p0 : Nat) (x1 : Int32) (hp0 : isN p0)   (K : Mem → Option (Unit × Mem)) (hK : ∀  (ν : Mem), Go Γ 4 70 [] [] ν (K  ν)) : ∀ (n : Nat) (a2 : Int32) (μ0 : Mem), Go Γ 4 27 [(0, .ref p0), (1, .int x1), (2, .int a2)] [] μ0 (lp_X_makeMergeExchange_27 N p0 x1 K n a2 μ0) := by
  intro n
  induction n with
  | zero => intro a2 μ0; exact go_none
  | succ n ih =>
    intro a2 μ0
    rw [lp_X_makeMergeExchange_27]
    refine go_iload_n (q := 2) (i := 2) (pc := 27) hΓ d_X_makeMergeExchange_27 rfl rfl ?_
    refine go_if_le 70 (pc := 28) hΓ d_X_makeMergeExchange_28 (by decide) (fun h7 => go_eq (if_neg h7) ?_) (fun h7 => go_eq (if_pos h7) ?_)
    · refine go_sub' (lv' := []) rfl ?_
      exact hK  μ0
    · refine go_aload_n (q := 0) (i := 0) (pc := 31) hΓ d_X_makeMergeExchange_31 rfl rfl ?_
      refine go_iload_n (q := 2) (i := 2) (pc := 32) hΓ d_X_makeMergeExchange_32 rfl rfl ?_
      refine go_iconst (v := 0) (pc := 33) hΓ d_X_makeMergeExchange_33 (by decide) ?_
      refine go_iload_n (q := 2) (i := 2) (pc := 34) hΓ d_X_makeMergeExchange_34 rfl rfl ?_
      refine go_callS (index := 349) emV hΓ hR (g_X_appendStride N (d + 0) p0 hp0 a2 0 a2) mi_X_appendStride ml_X_349 d_X_makeMergeExchange_35 rfl rfl rfl (fun _ μ9 => ?_)
      show Go Γ 4 38 [(0, .ref p0), (1, .int x1), (2, .int a2)] [] μ9 _
      refine go_iload_n (q := 1) (i := 1) (pc := 38) hΓ d_X_makeMergeExchange_38 rfl rfl ?_
      refine go_iconst (v := 2) (pc := 39) hΓ d_X_makeMergeExchange_39 (by decide) ?_
      refine go_idiv (pc := 40) hΓ d_X_makeMergeExchange_40 (by decide) ?_
      refine go_letI (fun v10 => ?_)
      refine go_istore_n (i := 3) (lv' := [(3, .int v10), (0, .ref p0), (1, .int x1), (2, .int a2)]) (pc := 41) hΓ d_X_makeMergeExchange_41 rfl (by decide) rfl ?_
      refine go_sub' (lv' := [(0, .ref p0), (1, .int x1), (2, .int a2), (3, .int v10)]) rfl ?_
      refine glp_X_makeMergeExchange_42 N d hΓ hT hR p0 x1 a2 hp0 _ (fun μ15 => ?_) N v10 μ9
      refine go_iload_n (q := 2) (i := 2) (pc := 63) hΓ d_X_makeMergeExchange_63 rfl rfl ?_
      refine go_iconst (v := 2) (pc := 64) hΓ d_X_makeMergeExchange_64 (by decide) ?_
      refine go_idiv (pc := 65) hΓ d_X_makeMergeExchange_65 (by decide) ?_
      refine go_letI (fun v16 => ?_)
      refine go_istore_n (i := 2) (lv' := [(2, .int v16), (0, .ref p0), (1, .int x1)]) (pc := 66) hΓ d_X_makeMergeExchange_66 rfl (by decide) rfl ?_
      refine go_goto 27 (pc := 67) hΓ d_X_makeMergeExchange_67 (by decide) ?_
      refine go_sub' (lv' := [(0, .ref p0), (1, .int x1), (2, .int v16)]) rfl ?_
      exact ih v16 μ15
set_option maxHeartbeats 4000000 in
set_option maxRecDepth 100000 in
theorem g_X_makeMergeExchange (N d : Nat) (p0 : Nat) (hp0 : isN p0)  : CallF eV y_X_makeMergeExchange c_X_makeMergeExchange 4 none (d + 2 + 1) [.ref p0] (f_X_makeMergeExchange N p0) := by
  refine call_of (d := d + 2) (n := 1) mi_X_makeMergeExchange.1 (fun _ => rfl) ?_
  intro Γ μ0 hΓ hT hR
  show Go Γ 4 0 [(0, .ref p0)] [] μ0 (f_X_makeMergeExchange N p0 μ0)
  unfold f_X_makeMergeExchange
  refine go_iconst (v := 1) (pc := 0) hΓ d_X_makeMergeExchange_0 (by decide) ?_
  refine go_istore_n (i := 1) (lv' := [(1, .int 1), (0, .ref p0)]) (pc := 1) hΓ d_X_makeMergeExchange_1 rfl (by decide) rfl ?_
  refine go_sub' (lv' := [(0, .ref p0), (1, .int 1)]) rfl ?_
  refine glp_X_makeMergeExchange_2 N d hΓ hT hR p0 hp0 _ (fun v4 μ5 => ?_) N 1 μ0
  refine go_iload_n (q := 1) (i := 1) (pc := 23) hΓ d_X_makeMergeExchange_23 rfl rfl ?_
  refine go_iconst (v := 2) (pc := 24) hΓ d_X_makeMergeExchange_24 (by decide) ?_
  refine go_idiv (pc := 25) hΓ d_X_makeMergeExchange_25 (by decide) ?_
  refine go_letI (fun v6 => ?_)
  refine go_istore_n (i := 2) (lv' := [(2, .int v6), (0, .ref p0), (1, .int v4)]) (pc := 26) hΓ d_X_makeMergeExchange_26 rfl (by decide) rfl ?_
  refine go_sub' (lv' := [(0, .ref p0), (1, .int v4), (2, .int v6)]) rfl ?_
  refine glp_X_makeMergeExchange_27 N d hΓ hT hR p0 v4 hp0 _ (fun μ17 => ?_) N v6 μ5
  exact go_vret (pc := 70) hΓ hT d_X_makeMergeExchange_70
def f_X_makes (N : Nat) (x1 : Int32) (x2 : Int32) (x3 : Int32) (μ0 : Mem) : Option (Int32 × Mem) :=
  bnd (f_X_isNet N x1 μ0) fun r1 μ2 => if r1 = 0 then (some ((-1), μ2)) else (bnd (f_X_isWires N x2 μ2) fun r4 μ5 => if r4 = 0 then (some ((-1), μ5)) else (if x3 < 0 then (some ((-1), μ5)) else (if x3 < 5 then (ck (inb x1 4) (bnd (f_Net_clear N (2 + 3 * tn x1) x2 μ5) fun _ μ11 => if x3 = 1 then (bnd (f_X_makeBubbles N (2 + 3 * tn x1) μ11) fun _ μ14 => some (gI μ14 (2 + 3 * tn x1) 1, μ14)) else (if x3 = 2 then (bnd (f_X_makeInsertions N (2 + 3 * tn x1) μ11) fun _ μ17 => some (gI μ17 (2 + 3 * tn x1) 1, μ17)) else (if x3 = 3 then (bnd (f_X_makeBricks N (2 + 3 * tn x1) μ11) fun _ μ20 => some (gI μ20 (2 + 3 * tn x1) 1, μ20)) else (if x3 = 4 then (bnd (f_X_makeMergeExchange N (2 + 3 * tn x1) μ11) fun _ μ23 => some (gI μ23 (2 + 3 * tn x1) 1, μ23)) else (some (gI μ11 (2 + 3 * tn x1) 1, μ11))))))) else (some ((-1), μ5)))))
set_option maxHeartbeats 4000000 in
set_option maxRecDepth 100000 in
theorem g_X_makes (N d : Nat) (x1 : Int32) (x2 : Int32) (x3 : Int32)  : CallF eI y_X_makes c_X_makes 5 (some .int) (d + 3 + 1) [.ref 0, .int x1, .int x2, .int x3] (f_X_makes N x1 x2 x3) := by
  refine call_of (d := d + 3) (n := 3) mi_X_makes.1 (fun _ => rfl) ?_
  intro Γ μ0 hΓ hT hR
  show Go Γ 5 0 [(0, .ref 0), (1, .int x1), (2, .int x2), (3, .int x3)] [] μ0 (f_X_makes N x1 x2 x3 μ0)
  unfold f_X_makes
  refine go_iload_n (q := 1) (i := 1) (pc := 0) hΓ d_X_makes_0 rfl rfl ?_
  refine go_callS (index := 101) emI hΓ hR (g_X_isNet N (d + 2) x1) mi_X_isNet ml_X_101 d_X_makes_1 rfl rfl rfl (fun r1 μ2 => ?_)
  show Go Γ 5 4 [(0, .ref 0), (1, .int x1), (2, .int x2), (3, .int x3)] [.int r1] μ2 _
  refine go_if_eq 23 (pc := 4) hΓ d_X_makes_4 (by decide) (fun h3 => go_eq (if_pos h3) ?_) (fun h3 => go_eq (if_neg h3) ?_)
  · refine go_iconst (v := -1) (pc := 23) hΓ d_X_makes_23 (by decide) ?_
    exact go_iret (pc := 24) hΓ hT d_X_makes_24
  · refine go_iload_n (q := 2) (i := 2) (pc := 7) hΓ d_X_makes_7 rfl rfl ?_
    refine go_callS (index := 124) emI hΓ hR (g_X_isWires N (d + 2) x2) mi_X_isWires ml_X_124 d_X_makes_8 rfl rfl rfl (fun r4 μ5 => ?_)
    show Go Γ 5 11 [(0, .ref 0), (1, .int x1), (2, .int x2), (3, .int x3)] [.int r4] μ5 _
    refine go_if_eq 23 (pc := 11) hΓ d_X_makes_11 (by decide) (fun h6 => go_eq (if_pos h6) ?_) (fun h6 => go_eq (if_neg h6) ?_)
    · refine go_iconst (v := -1) (pc := 23) hΓ d_X_makes_23 (by decide) ?_
      exact go_iret (pc := 24) hΓ hT d_X_makes_24
    · refine go_iload_n (q := 3) (i := 3) (pc := 14) hΓ d_X_makes_14 rfl rfl ?_
      refine go_if_lt 23 (pc := 15) hΓ d_X_makes_15 (by decide) (fun h7 => go_eq (if_pos h7) ?_) (fun h7 => go_eq (if_neg h7) ?_)
      · refine go_iconst (v := -1) (pc := 23) hΓ d_X_makes_23 (by decide) ?_
        exact go_iret (pc := 24) hΓ hT d_X_makes_24
      · refine go_iload_n (q := 3) (i := 3) (pc := 18) hΓ d_X_makes_18 rfl rfl ?_
        refine go_iconst (v := 5) (pc := 19) hΓ d_X_makes_19 (by decide) ?_
        refine go_icmp_lt 25 (pc := 20) hΓ d_X_makes_20 (by decide) (fun h8 => go_eq (if_pos h8) ?_) (fun h8 => go_eq (if_neg h8) ?_)
        · refine go_aload_n (q := 0) (i := 0) (pc := 25) hΓ d_X_makes_25 rfl rfl ?_
          refine go_getR (q := 1) (pc := 26) hΓ fl_X_11 d_X_makes_26 rfl rfl ?_
          refine go_iload_n (q := 1) (i := 1) (pc := 29) hΓ d_X_makes_29 rfl rfl ?_
          refine go_ck (fun h9 => ?_)
          refine go_aald (pc := 30) hΓ d_X_makes_30 h9 ?_
          refine go_astore (lv' := [(4, .ref (2 + 3 * tn x1)), (0, .ref 0), (1, .int x1), (2, .int x2), (3, .int x3)]) (pc := 31) hΓ d_X_makes_31 (by decide) rfl ?_
          refine go_aload (q := 0) (pc := 33) hΓ d_X_makes_33 rfl ?_
          refine go_iload_n (q := 3) (i := 2) (pc := 35) hΓ d_X_makes_35 rfl rfl ?_
          refine go_callV (index := 127) emV hΓ hR (g_Net_clear N (d + 2) (2 + 3 * tn x1) (isN_in h9) x2) mi_Net_clear ml_X_127 d_X_makes_36 rfl (isN_sh (isN_in h9)).1 rfl rfl rfl (fun _ μ11 => ?_)
          show Go Γ 5 39 [(4, .ref (2 + 3 * tn x1)), (0, .ref 0), (1, .int x1), (2, .int x2), (3, .int x3)] [] μ11 _
          refine go_iload_n (q := 4) (i := 3) (pc := 39) hΓ d_X_makes_39 rfl rfl ?_
          by_cases h12 : x3 = 1
          · rw [if_pos h12]
            refine go_tabIn 72 (pc := 40) hΓ d_X_makes_40 (by rw [h12]; decide) (by rw [h12]; decide) (by rw [h12]; rfl) (by decide) ?_
            refine go_aload (q := 0) (pc := 72) hΓ d_X_makes_72 rfl ?_
            refine go_callS (index := 130) emV hΓ hR (g_X_makeBubbles N (d + 1) (2 + 3 * tn x1) (isN_in h9)) mi_X_makeBubbles ml_X_130 d_X_makes_74 rfl rfl rfl (fun _ μ14 => ?_)
            show Go Γ 5 77 [(4, .ref (2 + 3 * tn x1)), (0, .ref 0), (1, .int x1), (2, .int x2), (3, .int x3)] [] μ14 _
            refine go_goto 104 (pc := 77) hΓ d_X_makes_77 (by decide) ?_
            refine go_aload (q := 0) (pc := 104) hΓ d_X_makes_104 rfl ?_
            refine go_getI (pc := 106) hΓ fl_X_121 d_X_makes_106 (isN_sh (isN_in h9)).1 rfl ?_
            exact go_iret (pc := 109) hΓ hT d_X_makes_109
          · rw [if_neg h12]
            by_cases h15 : x3 = 2
            · rw [if_pos h15]
              refine go_tabIn 80 (pc := 40) hΓ d_X_makes_40 (by rw [h15]; decide) (by rw [h15]; decide) (by rw [h15]; rfl) (by decide) ?_
              refine go_aload (q := 0) (pc := 80) hΓ d_X_makes_80 rfl ?_
              refine go_callS (index := 133) emV hΓ hR (g_X_makeInsertions N (d + 1) (2 + 3 * tn x1) (isN_in h9)) mi_X_makeInsertions ml_X_133 d_X_makes_82 rfl rfl rfl (fun _ μ17 => ?_)
              show Go Γ 5 85 [(4, .ref (2 + 3 * tn x1)), (0, .ref 0), (1, .int x1), (2, .int x2), (3, .int x3)] [] μ17 _
              refine go_goto 104 (pc := 85) hΓ d_X_makes_85 (by decide) ?_
              refine go_aload (q := 0) (pc := 104) hΓ d_X_makes_104 rfl ?_
              refine go_getI (pc := 106) hΓ fl_X_121 d_X_makes_106 (isN_sh (isN_in h9)).1 rfl ?_
              exact go_iret (pc := 109) hΓ hT d_X_makes_109
            · rw [if_neg h15]
              by_cases h18 : x3 = 3
              · rw [if_pos h18]
                refine go_tabIn 88 (pc := 40) hΓ d_X_makes_40 (by rw [h18]; decide) (by rw [h18]; decide) (by rw [h18]; rfl) (by decide) ?_
                refine go_aload (q := 0) (pc := 88) hΓ d_X_makes_88 rfl ?_
                refine go_callS (index := 136) emV hΓ hR (g_X_makeBricks N (d + 1) (2 + 3 * tn x1) (isN_in h9)) mi_X_makeBricks ml_X_136 d_X_makes_90 rfl rfl rfl (fun _ μ20 => ?_)
                show Go Γ 5 93 [(4, .ref (2 + 3 * tn x1)), (0, .ref 0), (1, .int x1), (2, .int x2), (3, .int x3)] [] μ20 _
                refine go_goto 104 (pc := 93) hΓ d_X_makes_93 (by decide) ?_
                refine go_aload (q := 0) (pc := 104) hΓ d_X_makes_104 rfl ?_
                refine go_getI (pc := 106) hΓ fl_X_121 d_X_makes_106 (isN_sh (isN_in h9)).1 rfl ?_
                exact go_iret (pc := 109) hΓ hT d_X_makes_109
              · rw [if_neg h18]
                by_cases h21 : x3 = 4
                · rw [if_pos h21]
                  refine go_tabIn 96 (pc := 40) hΓ d_X_makes_40 (by rw [h21]; decide) (by rw [h21]; decide) (by rw [h21]; rfl) (by decide) ?_
                  refine go_aload (q := 0) (pc := 96) hΓ d_X_makes_96 rfl ?_
                  refine go_callS (index := 139) emV hΓ hR (g_X_makeMergeExchange N (d + 0) (2 + 3 * tn x1) (isN_in h9)) mi_X_makeMergeExchange ml_X_139 d_X_makes_98 rfl rfl rfl (fun _ μ23 => ?_)
                  show Go Γ 5 101 [(4, .ref (2 + 3 * tn x1)), (0, .ref 0), (1, .int x1), (2, .int x2), (3, .int x3)] [] μ23 _
                  refine go_goto 104 (pc := 101) hΓ d_X_makes_101 (by decide) ?_
                  refine go_aload (q := 0) (pc := 104) hΓ d_X_makes_104 rfl ?_
                  refine go_getI (pc := 106) hΓ fl_X_121 d_X_makes_106 (isN_sh (isN_in h9)).1 rfl ?_
                  exact go_iret (pc := 109) hΓ hT d_X_makes_109
                · rw [if_neg h21]
                  refine go_tabOut 104 (pc := 40) hΓ d_X_makes_40 (sw_out 4 (fun k hk => by match k, hk with | 0, _ => exact h12 | 1, _ => exact h15 | 2, _ => exact h18 | 3, _ => exact h21)) (by decide) ?_
                  refine go_aload (q := 0) (pc := 104) hΓ d_X_makes_104 rfl ?_
                  refine go_getI (pc := 106) hΓ fl_X_121 d_X_makes_106 (isN_sh (isN_in h9)).1 rfl ?_
                  exact go_iret (pc := 109) hΓ hT d_X_makes_109
        · refine go_iconst (v := -1) (pc := 23) hΓ d_X_makes_23 (by decide) ?_
          exact go_iret (pc := 24) hΓ hT d_X_makes_24
def f_X_nextState (N : Nat) (x0 : Int32) (μ0 : Mem) : Option (Int32 × Mem) :=
  some ((x0 * 1103515245) + 12345, μ0)
set_option maxHeartbeats 4000000 in
set_option maxRecDepth 100000 in
theorem g_X_nextState (N d : Nat) (x0 : Int32)  : CallF eI y_X_nextState c_X_nextState 1 (some .int) (d + 0 + 1) [.int x0] (f_X_nextState N x0) := by
  refine call_of (d := d + 0) (n := 1) mi_X_nextState.1 (fun _ => rfl) ?_
  intro Γ μ0 hΓ hT hR
  show Go Γ 1 0 [(0, .int x0)] [] μ0 (f_X_nextState N x0 μ0)
  unfold f_X_nextState
  refine go_iload_n (q := 0) (i := 0) (pc := 0) hΓ d_X_nextState_0 rfl rfl ?_
  refine go_ldc_w (v := 1103515245) (pc := 1) hΓ (tb_2 (List.mem_of_getElem? (i := 88) rfl) rfl) d_X_nextState_1 ?_
  refine go_imul (pc := 4) hΓ d_X_nextState_4 ?_
  refine go_sipush (v := 12345) (pc := 5) hΓ d_X_nextState_5 (by decide) ?_
  refine go_iadd (pc := 8) hΓ d_X_nextState_8 ?_
  exact go_iret (pc := 9) hΓ hT d_X_nextState_9
def f_X_judge (N : Nat) (p1 : Nat) (x2 : Int32) (μ0 : Mem) : Option (Unit × Mem) :=
  bnd (f_Trial_start N 27 (gI μ0 p1 0) μ0) fun _ μ2 => lt' (fun (μ4 : Mem) => bnd (f_Trial_findUnsorted N 27 μ4) fun _ μ6 => some ((), μ6)) fun (k3 : Mem → Option (Unit × Mem)) => if x2 < 0 then (bnd (f_Trial_runPart N 27 p1 0 (gI μ2 p1 1) μ2) fun _ μ13 => k3 μ13) else (bnd (f_Trial_runPart N 27 p1 0 x2 μ2) fun _ μ9 => bnd (f_Trial_runPart N 27 p1 (x2 + 1) (gI μ9 p1 1) μ9) fun _ μ11 => k3 μ11)
set_option maxHeartbeats 4000000 in
set_option maxRecDepth 100000 in
theorem g_X_judge (N d : Nat) (p1 : Nat) (hp1 : isN p1) (x2 : Int32)  : CallF eV y_X_judge c_X_judge 3 none (d + 2 + 1) [.ref 0, .ref p1, .int x2] (f_X_judge N p1 x2) := by
  refine call_of (d := d + 2) (n := 2) mi_X_judge.1 (fun _ => rfl) ?_
  intro Γ μ0 hΓ hT hR
  show Go Γ 3 0 [(0, .ref 0), (1, .ref p1), (2, .int x2)] [] μ0 (f_X_judge N p1 x2 μ0)
  unfold f_X_judge
  refine go_aload_n (q := 0) (i := 0) (pc := 0) hΓ d_X_judge_0 rfl rfl ?_
  refine go_getR (q := 27) (pc := 1) hΓ fl_X_51 d_X_judge_1 rfl rfl ?_
  refine go_aload_n (q := 1) (i := 1) (pc := 4) hΓ d_X_judge_4 rfl rfl ?_
  refine go_getI (pc := 5) hΓ fl_X_111 d_X_judge_5 (isN_sh hp1).1 rfl ?_
  refine go_callV (index := 266) emV hΓ hR (g_Trial_start N (d + 0) 27 isT_27 (gI μ0 p1 0)) mi_Trial_start ml_X_266 d_X_judge_8 rfl rfl rfl rfl rfl (fun _ μ2 => ?_)
  show Go Γ 3 11 [(0, .ref 0), (1, .ref p1), (2, .int x2)] [] μ2 _
  refine go_iload_n (q := 2) (i := 2) (pc := 11) hΓ d_X_judge_11 rfl rfl ?_
  refine go_join (fun (k3 : Mem → Option (Unit × Mem)) => ∀ (μ4 : Mem), Go Γ 3 56 [(0, .ref 0)] [] μ4 (k3 μ4)) ?_ (fun k3 k3h => ?_)
  · intro μ4
    refine go_aload_n (q := 0) (i := 0) (pc := 56) hΓ d_X_judge_56 rfl rfl ?_
    refine go_getR (q := 27) (pc := 57) hΓ fl_X_51 d_X_judge_57 rfl rfl ?_
    refine go_aload_n (q := 0) (i := 0) (pc := 60) hΓ d_X_judge_60 rfl rfl ?_
    refine go_getR (q := 31) (pc := 61) hΓ fl_X_61 d_X_judge_61 rfl rfl ?_
    refine go_callV (index := 292) emV hΓ hR (g_Trial_findUnsorted N (d + 0) 27 isT_27) mi_Trial_findUnsorted ml_X_292 d_X_judge_64 rfl rfl rfl rfl rfl (fun _ μ6 => ?_)
    show Go Γ 3 67 [(0, .ref 0)] [] μ6 _
    exact go_vret (pc := 67) hΓ hT d_X_judge_67
  · refine go_if_ge 31 (pc := 12) hΓ d_X_judge_12 (by decide) (fun h7 => go_eq (if_neg h7) ?_) (fun h7 => go_eq (if_pos h7) ?_)
    · refine go_aload_n (q := 0) (i := 0) (pc := 31) hΓ d_X_judge_31 rfl rfl ?_
      refine go_getR (q := 27) (pc := 32) hΓ fl_X_51 d_X_judge_32 rfl rfl ?_
      refine go_aload_n (q := 1) (i := 1) (pc := 35) hΓ d_X_judge_35 rfl rfl ?_
      refine go_iconst (v := 0) (pc := 36) hΓ d_X_judge_36 (by decide) ?_
      refine go_iload_n (q := 2) (i := 2) (pc := 37) hΓ d_X_judge_37 rfl rfl ?_
      refine go_callV (index := 285) emV hΓ hR (g_Trial_runPart N (d + 0) 27 isT_27 p1 hp1 0 x2) mi_Trial_runPart ml_X_285 d_X_judge_38 rfl rfl rfl rfl rfl (fun _ μ9 => ?_)
      show Go Γ 3 41 [(0, .ref 0), (1, .ref p1), (2, .int x2)] [] μ9 _
      refine go_aload_n (q := 0) (i := 0) (pc := 41) hΓ d_X_judge_41 rfl rfl ?_
      refine go_getR (q := 27) (pc := 42) hΓ fl_X_51 d_X_judge_42 rfl rfl ?_
      refine go_aload_n (q := 1) (i := 1) (pc := 45) hΓ d_X_judge_45 rfl rfl ?_
      refine go_iload_n (q := 2) (i := 2) (pc := 46) hΓ d_X_judge_46 rfl rfl ?_
      refine go_iconst (v := 1) (pc := 47) hΓ d_X_judge_47 (by decide) ?_
      refine go_iadd (pc := 48) hΓ d_X_judge_48 ?_
      refine go_aload_n (q := 1) (i := 1) (pc := 49) hΓ d_X_judge_49 rfl rfl ?_
      refine go_getI (pc := 50) hΓ fl_X_121 d_X_judge_50 (isN_sh hp1).1 rfl ?_
      refine go_callV (index := 285) emV hΓ hR (g_Trial_runPart N (d + 0) 27 isT_27 p1 hp1 (x2 + 1) (gI μ9 p1 1)) mi_Trial_runPart ml_X_285 d_X_judge_53 rfl rfl rfl rfl rfl (fun _ μ11 => ?_)
      show Go Γ 3 56 [(0, .ref 0), (1, .ref p1), (2, .int x2)] [] μ11 _
      refine go_sub' (lv' := [(0, .ref 0)]) rfl ?_
      exact k3h μ11
    · refine go_aload_n (q := 0) (i := 0) (pc := 15) hΓ d_X_judge_15 rfl rfl ?_
      refine go_getR (q := 27) (pc := 16) hΓ fl_X_51 d_X_judge_16 rfl rfl ?_
      refine go_aload_n (q := 1) (i := 1) (pc := 19) hΓ d_X_judge_19 rfl rfl ?_
      refine go_iconst (v := 0) (pc := 20) hΓ d_X_judge_20 (by decide) ?_
      refine go_aload_n (q := 1) (i := 1) (pc := 21) hΓ d_X_judge_21 rfl rfl ?_
      refine go_getI (pc := 22) hΓ fl_X_121 d_X_judge_22 (isN_sh hp1).1 rfl ?_
      refine go_callV (index := 285) emV hΓ hR (g_Trial_runPart N (d + 0) 27 isT_27 p1 hp1 0 (gI μ2 p1 1)) mi_Trial_runPart ml_X_285 d_X_judge_25 rfl rfl rfl rfl rfl (fun _ μ13 => ?_)
      show Go Γ 3 28 [(0, .ref 0), (1, .ref p1), (2, .int x2)] [] μ13 _
      refine go_goto 56 (pc := 28) hΓ d_X_judge_28 (by decide) ?_
      refine go_sub' (lv' := [(0, .ref 0)]) rfl ?_
      exact k3h μ13
def lp_X_draws_47 (N : Nat) (x2 : Int32) (x3 : Int32) (p5 : Nat)  (K : Mem → Option (Int32 × Mem)) : Nat → Int32 → Int32 → Mem → Option (Int32 × Mem)
  | 0, _, _, _ => none
  | n + 1, a6, a7, μ0 => if a7 < x3 then (bnd (f_X_nextState N a6 μ0) fun r13 μ14 => ck (decide (¬ x2 = 0)) (lt' (remI (ushI r13 16) x2) fun v16 => bnd (f_X_nextState N r13 μ14) fun r17 μ18 => ck (decide (¬ (x2 - 1) = 0)) (lt' (remI (ushI r17 16) (x2 - 1)) fun v20 => lt' (if v20 < v16 then (v20 : Int32) else (v20 + 1 : Int32)) fun q22 => bnd (f_Net_append N p5 (mnI v16 q22) (mxI v16 q22) μ18) fun r23 μ24 => lt' (a7 + 1) fun v25 => lp_X_draws_47 N x2 x3 p5 K n r17 v25 μ24))) else (K  μ0)
def f_X_draws (N : Nat) (x1 : Int32) (x2 : Int32) (x3 : Int32) (x4 : Int32) (μ0 : Mem) : Option (Int32 × Mem) :=
  bnd (f_X_isNet N x1 μ0) fun r1 μ2 => if r1 = 0 then (some ((-1), μ2)) else (bnd (f_X_isWires N x2 μ2) fun r4 μ5 => if r4 = 0 then (some ((-1), μ5)) else (if x3 < 0 then (some ((-1), μ5)) else (if 60 < x3 then (some ((-1), μ5)) else (ck (inb x1 4) (bnd (f_Net_clear N (2 + 3 * tn x1) x2 μ5) fun _ μ11 => lp_X_draws_47 N x2 x3 (2 + 3 * tn x1) (fun μ27 => bnd (f_X_judge N (2 + 3 * tn x1) (-1) μ27) fun _ μ29 => bnd (f_PatternSet_size N  μ29) fun r30 μ31 => some (r30, μ31)) N x4 0 μ11)))))
set_option maxHeartbeats 4000000 in
set_option maxRecDepth 100000 in
theorem glp_X_draws_47 (N d : Nat) {Γ : Cx Int32} (hΓ : Ok Γ "SortingNets" c_X_draws 10) (hT : Rt Γ eI (some .int)) (hR : Rm Γ (d + 3)) (x2 : Int32) (x3 : Int32) (p5 : Nat) (hp5 : isN p5)   (K : Mem → Option (Int32 × Mem)) (hK : ∀  (ν : Mem), Go Γ 10 123 [(0, .ref 0), (5, .ref p5)] [] ν (K  ν)) : ∀ (n : Nat) (a6 : Int32) (a7 : Int32) (μ0 : Mem), Go Γ 10 47 [(0, .ref 0), (2, .int x2), (3, .int x3), (5, .ref p5), (6, .int a6), (7, .int a7)] [] μ0 (lp_X_draws_47 N x2 x3 p5 K n a6 a7 μ0) := by
  intro n
  induction n with
  | zero => intro a6 a7 μ0; exact go_none
  | succ n ih =>
    intro a6 a7 μ0
    rw [lp_X_draws_47]
    refine go_iload (q := 5) (pc := 47) hΓ d_X_draws_47 rfl ?_
    refine go_iload_n (q := 2) (i := 3) (pc := 49) hΓ d_X_draws_49 rfl rfl ?_
    refine go_icmp_ge 123 (pc := 50) hΓ d_X_draws_50 (by decide) (fun h12 => go_eq (if_neg h12) ?_) (fun h12 => go_eq (if_pos h12) ?_)
    · refine go_sub' (lv' := [(0, .ref 0), (5, .ref p5)]) rfl ?_
      exact hK  μ0
    · refine go_iload (q := 4) (pc := 53) hΓ d_X_draws_53 rfl ?_
      refine go_callS (index := 142) emI hΓ hR (g_X_nextState N (d + 2) a6) mi_X_nextState ml_X_142 d_X_draws_55 rfl rfl rfl (fun r13 μ14 => ?_)
      show Go Γ 10 58 [(0, .ref 0), (2, .int x2), (3, .int x3), (5, .ref p5), (6, .int a6), (7, .int a7)] [.int r13] μ14 _
      refine go_istore (lv' := [(6, .int r13), (0, .ref 0), (2, .int x2), (3, .int x3), (5, .ref p5), (7, .int a7)]) (pc := 58) hΓ d_X_draws_58 (by decide) rfl ?_
      refine go_iload (q := 0) (pc := 60) hΓ d_X_draws_60 rfl ?_
      refine go_bipush (v := 16) (pc := 62) hΓ d_X_draws_62 (by decide) ?_
      refine go_iushr (pc := 64) hΓ d_X_draws_64 ?_
      refine go_iload_n (q := 2) (i := 2) (pc := 65) hΓ d_X_draws_65 rfl rfl ?_
      refine go_ck (fun h15 => ?_)
      refine go_irem (pc := 66) hΓ d_X_draws_66 (of_decide_eq_true h15) ?_
      refine go_letI (fun v16 => ?_)
      refine go_istore (lv' := [(8, .int v16), (6, .int r13), (0, .ref 0), (2, .int x2), (3, .int x3), (5, .ref p5), (7, .int a7)]) (pc := 67) hΓ d_X_draws_67 (by decide) rfl ?_
      refine go_iload (q := 1) (pc := 69) hΓ d_X_draws_69 rfl ?_
      refine go_callS (index := 142) emI hΓ hR (g_X_nextState N (d + 2) r13) mi_X_nextState ml_X_142 d_X_draws_71 rfl rfl rfl (fun r17 μ18 => ?_)
      show Go Γ 10 74 [(8, .int v16), (6, .int r13), (0, .ref 0), (2, .int x2), (3, .int x3), (5, .ref p5), (7, .int a7)] [.int r17] μ18 _
      refine go_istore (lv' := [(6, .int r17), (8, .int v16), (0, .ref 0), (2, .int x2), (3, .int x3), (5, .ref p5), (7, .int a7)]) (pc := 74) hΓ d_X_draws_74 (by decide) rfl ?_
      refine go_iload (q := 0) (pc := 76) hΓ d_X_draws_76 rfl ?_
      refine go_bipush (v := 16) (pc := 78) hΓ d_X_draws_78 (by decide) ?_
      refine go_iushr (pc := 80) hΓ d_X_draws_80 ?_
      refine go_iload_n (q := 3) (i := 2) (pc := 81) hΓ d_X_draws_81 rfl rfl ?_
      refine go_iconst (v := 1) (pc := 82) hΓ d_X_draws_82 (by decide) ?_
      refine go_isub (pc := 83) hΓ d_X_draws_83 ?_
      refine go_ck (fun h19 => ?_)
      refine go_irem (pc := 84) hΓ d_X_draws_84 (of_decide_eq_true h19) ?_
      refine go_letI (fun v20 => ?_)
      refine go_istore (lv' := [(9, .int v20), (6, .int r17), (8, .int v16), (0, .ref 0), (2, .int x2), (3, .int x3), (5, .ref p5), (7, .int a7)]) (pc := 85) hΓ d_X_draws_85 (by decide) rfl ?_
      refine go_iload (q := 0) (pc := 87) hΓ d_X_draws_87 rfl ?_
      refine go_iload (q := 2) (pc := 89) hΓ d_X_draws_89 rfl ?_
      refine go_mg (α := Int32) 97 (fun q22 => [(0, .ref 0), (2, .int x2), (3, .int x3), (5, .ref p5), (6, .int r17), (7, .int a7), (8, .int v16), (9, .int q22)]) (fun q22 => []) (fun q22 => ?_) (fun g26 g26h => ?_)
      · refine go_aload (q := 3) (pc := 97) hΓ d_X_draws_97 rfl ?_
        refine go_iload (q := 6) (pc := 99) hΓ d_X_draws_99 rfl ?_
        refine go_iload (q := 7) (pc := 101) hΓ d_X_draws_101 rfl ?_
        refine go_min (index := 145) (pc := 103) hΓ hR ml_X_145 d_X_draws_103 rfl ?_
        refine go_iload (q := 6) (pc := 106) hΓ d_X_draws_106 rfl ?_
        refine go_iload (q := 7) (pc := 108) hΓ d_X_draws_108 rfl ?_
        refine go_max (index := 151) (pc := 110) hΓ hR ml_X_151 d_X_draws_110 rfl ?_
        refine go_callV (index := 154) emI hΓ hR (g_Net_append N (d + 2) p5 hp5 (mnI v16 q22) (mxI v16 q22)) mi_Net_append ml_X_154 d_X_draws_113 rfl (isN_sh hp5).1 rfl rfl rfl (fun r23 μ24 => ?_)
        show Go Γ 10 116 [(0, .ref 0), (2, .int x2), (3, .int x3), (5, .ref p5), (6, .int r17), (7, .int a7), (8, .int v16), (9, .int q22)] [.int r23] μ24 _
        refine go_pop (pc := 116) hΓ d_X_draws_116 rfl ?_
        refine go_incI (q := 5) (i := 7) (n := 1) (c := 1) (pc := 117) hΓ d_X_draws_117 rfl (by decide) (by decide) (fun v25 => ?_)
        refine go_sub' (lv' := [(7, .int v25), (0, .ref 0), (2, .int x2), (3, .int x3), (5, .ref p5), (6, .int r17), (8, .int v16), (9, .int q22)]) rfl ?_
        refine go_goto 47 (pc := 120) hΓ d_X_draws_120 (by decide) ?_
        refine go_sub' (lv' := [(0, .ref 0), (2, .int x2), (3, .int x3), (5, .ref p5), (6, .int r17), (7, .int v25)]) rfl ?_
        exact ih r17 v25 μ24
      · refine go_icmp_lt 97 (pc := 91) hΓ d_X_draws_91 (by decide) (fun h21 => ?_) (fun h21 => ?_)
        · rw [if_pos h21]
          refine go_sub' (lv' := [(0, .ref 0), (2, .int x2), (3, .int x3), (5, .ref p5), (6, .int r17), (7, .int a7), (8, .int v16), (9, .int v20)]) rfl ?_
          exact g26h _
        · rw [if_neg h21]
          refine go_iinc (q := 0) (i := 9) (n := 1) (v := v20 + 1) (lv' := [(9, .int (v20 + 1)), (6, .int r17), (8, .int v16), (0, .ref 0), (2, .int x2), (3, .int x3), (5, .ref p5), (7, .int a7)]) (pc := 94) hΓ d_X_draws_94 rfl rfl (by decide) rfl ?_
          refine go_sub' (lv' := [(0, .ref 0), (2, .int x2), (3, .int x3), (5, .ref p5), (6, .int r17), (7, .int a7), (8, .int v16), (9, .int (v20 + 1))]) rfl ?_
          exact g26h _
set_option maxHeartbeats 4000000 in
set_option maxRecDepth 100000 in
theorem g_X_draws (N d : Nat) (x1 : Int32) (x2 : Int32) (x3 : Int32) (x4 : Int32)  : CallF eI y_X_draws c_X_draws 10 (some .int) (d + 3 + 1) [.ref 0, .int x1, .int x2, .int x3, .int x4] (f_X_draws N x1 x2 x3 x4) := by
  refine call_of (d := d + 3) (n := 4) mi_X_draws.1 (fun _ => rfl) ?_
  intro Γ μ0 hΓ hT hR
  show Go Γ 10 0 [(0, .ref 0), (1, .int x1), (2, .int x2), (3, .int x3), (4, .int x4)] [] μ0 (f_X_draws N x1 x2 x3 x4 μ0)
  unfold f_X_draws
  refine go_iload_n (q := 1) (i := 1) (pc := 0) hΓ d_X_draws_0 rfl rfl ?_
  refine go_callS (index := 101) emI hΓ hR (g_X_isNet N (d + 2) x1) mi_X_isNet ml_X_101 d_X_draws_1 rfl rfl rfl (fun r1 μ2 => ?_)
  show Go Γ 10 4 [(0, .ref 0), (1, .int x1), (2, .int x2), (3, .int x3), (4, .int x4)] [.int r1] μ2 _
  refine go_if_eq 24 (pc := 4) hΓ d_X_draws_4 (by decide) (fun h3 => go_eq (if_pos h3) ?_) (fun h3 => go_eq (if_neg h3) ?_)
  · refine go_iconst (v := -1) (pc := 24) hΓ d_X_draws_24 (by decide) ?_
    exact go_iret (pc := 25) hΓ hT d_X_draws_25
  · refine go_iload_n (q := 2) (i := 2) (pc := 7) hΓ d_X_draws_7 rfl rfl ?_
    refine go_callS (index := 124) emI hΓ hR (g_X_isWires N (d + 2) x2) mi_X_isWires ml_X_124 d_X_draws_8 rfl rfl rfl (fun r4 μ5 => ?_)
    show Go Γ 10 11 [(0, .ref 0), (1, .int x1), (2, .int x2), (3, .int x3), (4, .int x4)] [.int r4] μ5 _
    refine go_if_eq 24 (pc := 11) hΓ d_X_draws_11 (by decide) (fun h6 => go_eq (if_pos h6) ?_) (fun h6 => go_eq (if_neg h6) ?_)
    · refine go_iconst (v := -1) (pc := 24) hΓ d_X_draws_24 (by decide) ?_
      exact go_iret (pc := 25) hΓ hT d_X_draws_25
    · refine go_iload_n (q := 3) (i := 3) (pc := 14) hΓ d_X_draws_14 rfl rfl ?_
      refine go_if_lt 24 (pc := 15) hΓ d_X_draws_15 (by decide) (fun h7 => go_eq (if_pos h7) ?_) (fun h7 => go_eq (if_neg h7) ?_)
      · refine go_iconst (v := -1) (pc := 24) hΓ d_X_draws_24 (by decide) ?_
        exact go_iret (pc := 25) hΓ hT d_X_draws_25
      · refine go_iload_n (q := 3) (i := 3) (pc := 18) hΓ d_X_draws_18 rfl rfl ?_
        refine go_bipush (v := 60) (pc := 19) hΓ d_X_draws_19 (by decide) ?_
        refine go_icmp_le 26 (pc := 21) hΓ d_X_draws_21 (by decide) (fun h8 => go_eq (if_neg h8) ?_) (fun h8 => go_eq (if_pos h8) ?_)
        · refine go_aload_n (q := 0) (i := 0) (pc := 26) hΓ d_X_draws_26 rfl rfl ?_
          refine go_getR (q := 1) (pc := 27) hΓ fl_X_11 d_X_draws_27 rfl rfl ?_
          refine go_iload_n (q := 1) (i := 1) (pc := 30) hΓ d_X_draws_30 rfl rfl ?_
          refine go_ck (fun h9 => ?_)
          refine go_aald (pc := 31) hΓ d_X_draws_31 h9 ?_
          refine go_astore (lv' := [(5, .ref (2 + 3 * tn x1)), (0, .ref 0), (1, .int x1), (2, .int x2), (3, .int x3), (4, .int x4)]) (pc := 32) hΓ d_X_draws_32 (by decide) rfl ?_
          refine go_aload (q := 0) (pc := 34) hΓ d_X_draws_34 rfl ?_
          refine go_iload_n (q := 3) (i := 2) (pc := 36) hΓ d_X_draws_36 rfl rfl ?_
          refine go_callV (index := 127) emV hΓ hR (g_Net_clear N (d + 2) (2 + 3 * tn x1) (isN_in h9) x2) mi_Net_clear ml_X_127 d_X_draws_37 rfl (isN_sh (isN_in h9)).1 rfl rfl rfl (fun _ μ11 => ?_)
          show Go Γ 10 40 [(5, .ref (2 + 3 * tn x1)), (0, .ref 0), (1, .int x1), (2, .int x2), (3, .int x3), (4, .int x4)] [] μ11 _
          refine go_iload (q := 5) (pc := 40) hΓ d_X_draws_40 rfl ?_
          refine go_istore (lv' := [(6, .int x4), (5, .ref (2 + 3 * tn x1)), (0, .ref 0), (1, .int x1), (2, .int x2), (3, .int x3), (4, .int x4)]) (pc := 42) hΓ d_X_draws_42 (by decide) rfl ?_
          refine go_iconst (v := 0) (pc := 44) hΓ d_X_draws_44 (by decide) ?_
          refine go_istore (lv' := [(7, .int 0), (6, .int x4), (5, .ref (2 + 3 * tn x1)), (0, .ref 0), (1, .int x1), (2, .int x2), (3, .int x3), (4, .int x4)]) (pc := 45) hΓ d_X_draws_45 (by decide) rfl ?_
          refine go_sub' (lv' := [(0, .ref 0), (2, .int x2), (3, .int x3), (5, .ref (2 + 3 * tn x1)), (6, .int x4), (7, .int 0)]) rfl ?_
          refine glp_X_draws_47 N d hΓ hT hR x2 x3 (2 + 3 * tn x1) (isN_in h9) _ (fun μ27 => ?_) N x4 0 μ11
          refine go_aload_n (q := 0) (i := 0) (pc := 123) hΓ d_X_draws_123 rfl rfl ?_
          refine go_aload (q := 1) (pc := 124) hΓ d_X_draws_124 rfl ?_
          refine go_iconst (v := -1) (pc := 126) hΓ d_X_draws_126 (by decide) ?_
          refine go_callV (index := 157) emV hΓ hR (g_X_judge N (d + 0) (2 + 3 * tn x1) (isN_in h9) (-1)) mi_X_judge ml_X_157 d_X_draws_127 rfl rfl rfl rfl rfl (fun _ μ29 => ?_)
          show Go Γ 10 130 [(0, .ref 0), (5, .ref (2 + 3 * tn x1))] [] μ29 _
          refine go_aload_n (q := 0) (i := 0) (pc := 130) hΓ d_X_draws_130 rfl rfl ?_
          refine go_getR (q := 31) (pc := 131) hΓ fl_X_61 d_X_draws_131 rfl rfl ?_
          refine go_callV (index := 161) emI hΓ hR (g_PatternSet_size N (d + 1) ) mi_PatternSet_size ml_X_161 d_X_draws_134 rfl rfl rfl rfl rfl (fun r30 μ31 => ?_)
          show Go Γ 10 137 [(0, .ref 0), (5, .ref (2 + 3 * tn x1))] [.int r30] μ31 _
          exact go_iret (pc := 137) hΓ hT d_X_draws_137
        · refine go_iconst (v := -1) (pc := 24) hΓ d_X_draws_24 (by decide) ?_
          exact go_iret (pc := 25) hΓ hT d_X_draws_25
def f_X_adds (N : Nat) (x1 : Int32) (x2 : Int32) (x3 : Int32) (μ0 : Mem) : Option (Int32 × Mem) :=
  bnd (f_X_isNet N x1 μ0) fun r1 μ2 => if r1 = 0 then (some ((-1), μ2)) else (ck (inb x1 4) (bnd (f_Net_isWire N (2 + 3 * tn x1) x2 μ2) fun r5 μ6 => if r5 = 0 then (some ((-1), μ6)) else (ck (inb x1 4) (bnd (f_Net_isWire N (2 + 3 * tn x1) x3 μ6) fun r9 μ10 => if r9 = 0 then (some ((-1), μ10)) else (if x2 < x3 then (ck (inb x1 4) (bnd (f_Net_append N (2 + 3 * tn x1) x2 x3 μ10) fun r14 μ15 => if r14 = 0 then (some ((-1), μ15)) else (ck (inb x1 4) (some (gI μ15 (2 + 3 * tn x1) 1, μ15))))) else (some ((-1), μ10)))))))
set_option maxHeartbeats 4000000 in
set_option maxRecDepth 100000 in
theorem g_X_adds (N d : Nat) (x1 : Int32) (x2 : Int32) (x3 : Int32)  : CallF eI y_X_adds c_X_adds 4 (some .int) (d + 1 + 1) [.ref 0, .int x1, .int x2, .int x3] (f_X_adds N x1 x2 x3) := by
  refine call_of (d := d + 1) (n := 3) mi_X_adds.1 (fun _ => rfl) ?_
  intro Γ μ0 hΓ hT hR
  show Go Γ 4 0 [(0, .ref 0), (1, .int x1), (2, .int x2), (3, .int x3)] [] μ0 (f_X_adds N x1 x2 x3 μ0)
  unfold f_X_adds
  refine go_iload_n (q := 1) (i := 1) (pc := 0) hΓ d_X_adds_0 rfl rfl ?_
  refine go_callS (index := 101) emI hΓ hR (g_X_isNet N (d + 0) x1) mi_X_isNet ml_X_101 d_X_adds_1 rfl rfl rfl (fun r1 μ2 => ?_)
  show Go Γ 4 4 [(0, .ref 0), (1, .int x1), (2, .int x2), (3, .int x3)] [.int r1] μ2 _
  refine go_if_eq 38 (pc := 4) hΓ d_X_adds_4 (by decide) (fun h3 => go_eq (if_pos h3) ?_) (fun h3 => go_eq (if_neg h3) ?_)
  · refine go_iconst (v := -1) (pc := 38) hΓ d_X_adds_38 (by decide) ?_
    exact go_iret (pc := 39) hΓ hT d_X_adds_39
  · refine go_aload_n (q := 0) (i := 0) (pc := 7) hΓ d_X_adds_7 rfl rfl ?_
    refine go_getR (q := 1) (pc := 8) hΓ fl_X_11 d_X_adds_8 rfl rfl ?_
    refine go_iload_n (q := 1) (i := 1) (pc := 11) hΓ d_X_adds_11 rfl rfl ?_
    refine go_ck (fun h4 => ?_)
    refine go_aald (pc := 12) hΓ d_X_adds_12 h4 ?_
    refine go_iload_n (q := 2) (i := 2) (pc := 13) hΓ d_X_adds_13 rfl rfl ?_
    refine go_callV (index := 163) emI hΓ hR (g_Net_isWire N (d + 0) (2 + 3 * tn x1) (isN_in h4) x2) mi_Net_isWire ml_X_163 d_X_adds_14 rfl (isN_sh (isN_in h4)).1 rfl rfl rfl (fun r5 μ6 => ?_)
    show Go Γ 4 17 [(0, .ref 0), (1, .int x1), (2, .int x2), (3, .int x3)] [.int r5] μ6 _
    refine go_if_eq 38 (pc := 17) hΓ d_X_adds_17 (by decide) (fun h7 => go_eq (if_pos h7) ?_) (fun h7 => go_eq (if_neg h7) ?_)
    · refine go_iconst (v := -1) (pc := 38) hΓ d_X_adds_38 (by decide) ?_
      exact go_iret (pc := 39) hΓ hT d_X_adds_39
    · refine go_aload_n (q := 0) (i := 0) (pc := 20) hΓ d_X_adds_20 rfl rfl ?_
      refine go_getR (q := 1) (pc := 21) hΓ fl_X_11 d_X_adds_21 rfl rfl ?_
      refine go_iload_n (q := 1) (i := 1) (pc := 24) hΓ d_X_adds_24 rfl rfl ?_
      refine go_ck (fun h8 => ?_)
      refine go_aald (pc := 25) hΓ d_X_adds_25 h8 ?_
      refine go_iload_n (q := 3) (i := 3) (pc := 26) hΓ d_X_adds_26 rfl rfl ?_
      refine go_callV (index := 163) emI hΓ hR (g_Net_isWire N (d + 0) (2 + 3 * tn x1) (isN_in h8) x3) mi_Net_isWire ml_X_163 d_X_adds_27 rfl (isN_sh (isN_in h8)).1 rfl rfl rfl (fun r9 μ10 => ?_)
      show Go Γ 4 30 [(0, .ref 0), (1, .int x1), (2, .int x2), (3, .int x3)] [.int r9] μ10 _
      refine go_if_eq 38 (pc := 30) hΓ d_X_adds_30 (by decide) (fun h11 => go_eq (if_pos h11) ?_) (fun h11 => go_eq (if_neg h11) ?_)
      · refine go_iconst (v := -1) (pc := 38) hΓ d_X_adds_38 (by decide) ?_
        exact go_iret (pc := 39) hΓ hT d_X_adds_39
      · refine go_iload_n (q := 2) (i := 2) (pc := 33) hΓ d_X_adds_33 rfl rfl ?_
        refine go_iload_n (q := 3) (i := 3) (pc := 34) hΓ d_X_adds_34 rfl rfl ?_
        refine go_icmp_lt 40 (pc := 35) hΓ d_X_adds_35 (by decide) (fun h12 => go_eq (if_pos h12) ?_) (fun h12 => go_eq (if_neg h12) ?_)
        · refine go_aload_n (q := 0) (i := 0) (pc := 40) hΓ d_X_adds_40 rfl rfl ?_
          refine go_getR (q := 1) (pc := 41) hΓ fl_X_11 d_X_adds_41 rfl rfl ?_
          refine go_iload_n (q := 1) (i := 1) (pc := 44) hΓ d_X_adds_44 rfl rfl ?_
          refine go_ck (fun h13 => ?_)
          refine go_aald (pc := 45) hΓ d_X_adds_45 h13 ?_
          refine go_iload_n (q := 2) (i := 2) (pc := 46) hΓ d_X_adds_46 rfl rfl ?_
          refine go_iload_n (q := 3) (i := 3) (pc := 47) hΓ d_X_adds_47 rfl rfl ?_
          refine go_callV (index := 154) emI hΓ hR (g_Net_append N (d + 0) (2 + 3 * tn x1) (isN_in h13) x2 x3) mi_Net_append ml_X_154 d_X_adds_48 rfl (isN_sh (isN_in h13)).1 rfl rfl rfl (fun r14 μ15 => ?_)
          show Go Γ 4 51 [(0, .ref 0), (1, .int x1), (2, .int x2), (3, .int x3)] [.int r14] μ15 _
          refine go_if_eq 66 (pc := 51) hΓ d_X_adds_51 (by decide) (fun h16 => go_eq (if_pos h16) ?_) (fun h16 => go_eq (if_neg h16) ?_)
          · refine go_iconst (v := -1) (pc := 66) hΓ d_X_adds_66 (by decide) ?_
            exact go_iret (pc := 67) hΓ hT d_X_adds_67
          · refine go_aload_n (q := 0) (i := 0) (pc := 54) hΓ d_X_adds_54 rfl rfl ?_
            refine go_getR (q := 1) (pc := 55) hΓ fl_X_11 d_X_adds_55 rfl rfl ?_
            refine go_iload_n (q := 1) (i := 1) (pc := 58) hΓ d_X_adds_58 rfl rfl ?_
            refine go_ck (fun h17 => ?_)
            refine go_aald (pc := 59) hΓ d_X_adds_59 h17 ?_
            refine go_getI (pc := 60) hΓ fl_X_121 d_X_adds_60 (isN_sh (isN_in h17)).1 rfl ?_
            refine go_goto 67 (pc := 63) hΓ d_X_adds_63 (by decide) ?_
            exact go_iret (pc := 67) hΓ hT d_X_adds_67
        · refine go_iconst (v := -1) (pc := 38) hΓ d_X_adds_38 (by decide) ?_
          exact go_iret (pc := 39) hΓ hT d_X_adds_39
def f_X_isComparer (N : Nat) (x1 : Int32) (x2 : Int32) (μ0 : Mem) : Option (Int32 × Mem) :=
  bnd (f_X_isNet N x1 μ0) fun r1 μ2 => if r1 = 0 then (some (0, μ2)) else (if x2 < 0 then (some (0, μ2)) else (ck (inb x1 4) (if x2 < (gI μ2 (2 + 3 * tn x1) 1) then (some (1, μ2)) else (some (0, μ2)))))
set_option maxHeartbeats 4000000 in
set_option maxRecDepth 100000 in
theorem g_X_isComparer (N d : Nat) (x1 : Int32) (x2 : Int32)  : CallF eI y_X_isComparer c_X_isComparer 3 (some .boolean) (d + 1 + 1) [.ref 0, .int x1, .int x2] (f_X_isComparer N x1 x2) := by
  refine call_of (d := d + 1) (n := 2) mi_X_isComparer.1 (fun _ => rfl) ?_
  intro Γ μ0 hΓ hT hR
  show Go Γ 3 0 [(0, .ref 0), (1, .int x1), (2, .int x2)] [] μ0 (f_X_isComparer N x1 x2 μ0)
  unfold f_X_isComparer
  refine go_iload_n (q := 1) (i := 1) (pc := 0) hΓ d_X_isComparer_0 rfl rfl ?_
  refine go_callS (index := 101) emI hΓ hR (g_X_isNet N (d + 0) x1) mi_X_isNet ml_X_101 d_X_isComparer_1 rfl rfl rfl (fun r1 μ2 => ?_)
  show Go Γ 3 4 [(0, .ref 0), (1, .int x1), (2, .int x2)] [.int r1] μ2 _
  refine go_if_eq 28 (pc := 4) hΓ d_X_isComparer_4 (by decide) (fun h3 => go_eq (if_pos h3) ?_) (fun h3 => go_eq (if_neg h3) ?_)
  · refine go_iconst (v := 0) (pc := 28) hΓ d_X_isComparer_28 (by decide) ?_
    exact go_zret (pc := 29) hΓ hT d_X_isComparer_29 rfl
  · refine go_iload_n (q := 2) (i := 2) (pc := 7) hΓ d_X_isComparer_7 rfl rfl ?_
    refine go_if_lt 28 (pc := 8) hΓ d_X_isComparer_8 (by decide) (fun h4 => go_eq (if_pos h4) ?_) (fun h4 => go_eq (if_neg h4) ?_)
    · refine go_iconst (v := 0) (pc := 28) hΓ d_X_isComparer_28 (by decide) ?_
      exact go_zret (pc := 29) hΓ hT d_X_isComparer_29 rfl
    · refine go_iload_n (q := 2) (i := 2) (pc := 11) hΓ d_X_isComparer_11 rfl rfl ?_
      refine go_aload_n (q := 0) (i := 0) (pc := 12) hΓ d_X_isComparer_12 rfl rfl ?_
      refine go_getR (q := 1) (pc := 13) hΓ fl_X_11 d_X_isComparer_13 rfl rfl ?_
      refine go_iload_n (q := 1) (i := 1) (pc := 16) hΓ d_X_isComparer_16 rfl rfl ?_
      refine go_ck (fun h5 => ?_)
      refine go_aald (pc := 17) hΓ d_X_isComparer_17 h5 ?_
      refine go_getI (pc := 18) hΓ fl_X_121 d_X_isComparer_18 (isN_sh (isN_in h5)).1 rfl ?_
      refine go_icmp_ge 28 (pc := 21) hΓ d_X_isComparer_21 (by decide) (fun h6 => go_eq (if_neg h6) ?_) (fun h6 => go_eq (if_pos h6) ?_)
      · refine go_iconst (v := 0) (pc := 28) hΓ d_X_isComparer_28 (by decide) ?_
        exact go_zret (pc := 29) hΓ hT d_X_isComparer_29 rfl
      · refine go_iconst (v := 1) (pc := 24) hΓ d_X_isComparer_24 (by decide) ?_
        refine go_goto 29 (pc := 25) hΓ d_X_isComparer_25 (by decide) ?_
        exact go_zret (pc := 29) hΓ hT d_X_isComparer_29 rfl
def f_X_drops (N : Nat) (x1 : Int32) (x2 : Int32) (μ0 : Mem) : Option (Int32 × Mem) :=
  bnd (f_X_isComparer N x1 x2 μ0) fun r1 μ2 => if r1 = 0 then (some ((-1), μ2)) else (ck (inb x1 4) (bnd (f_Net_remove N (2 + 3 * tn x1) x2 μ2) fun _ μ6 => ck (inb x1 4) (some (gI μ6 (2 + 3 * tn x1) 1, μ6))))
set_option maxHeartbeats 4000000 in
set_option maxRecDepth 100000 in
theorem g_X_drops (N d : Nat) (x1 : Int32) (x2 : Int32)  : CallF eI y_X_drops c_X_drops 3 (some .int) (d + 2 + 1) [.ref 0, .int x1, .int x2] (f_X_drops N x1 x2) := by
  refine call_of (d := d + 2) (n := 2) mi_X_drops.1 (fun _ => rfl) ?_
  intro Γ μ0 hΓ hT hR
  show Go Γ 3 0 [(0, .ref 0), (1, .int x1), (2, .int x2)] [] μ0 (f_X_drops N x1 x2 μ0)
  unfold f_X_drops
  refine go_aload_n (q := 0) (i := 0) (pc := 0) hΓ d_X_drops_0 rfl rfl ?_
  refine go_iload_n (q := 1) (i := 1) (pc := 1) hΓ d_X_drops_1 rfl rfl ?_
  refine go_iload_n (q := 2) (i := 2) (pc := 2) hΓ d_X_drops_2 rfl rfl ?_
  refine go_callV (index := 166) emI hΓ hR (g_X_isComparer N (d + 0) x1 x2) mi_X_isComparer ml_X_166 d_X_drops_3 rfl rfl rfl rfl rfl (fun r1 μ2 => ?_)
  show Go Γ 3 6 [(0, .ref 0), (1, .int x1), (2, .int x2)] [.int r1] μ2 _
  refine go_if_ne 11 (pc := 6) hΓ d_X_drops_6 (by decide) (fun h3 => go_eq (if_neg h3) ?_) (fun h3 => go_eq (if_pos h3) ?_)
  · refine go_aload_n (q := 0) (i := 0) (pc := 11) hΓ d_X_drops_11 rfl rfl ?_
    refine go_getR (q := 1) (pc := 12) hΓ fl_X_11 d_X_drops_12 rfl rfl ?_
    refine go_iload_n (q := 1) (i := 1) (pc := 15) hΓ d_X_drops_15 rfl rfl ?_
    refine go_ck (fun h4 => ?_)
    refine go_aald (pc := 16) hΓ d_X_drops_16 h4 ?_
    refine go_iload_n (q := 2) (i := 2) (pc := 17) hΓ d_X_drops_17 rfl rfl ?_
    refine go_callV (index := 169) emV hΓ hR (g_Net_remove N (d + 1) (2 + 3 * tn x1) (isN_in h4) x2) mi_Net_remove ml_X_169 d_X_drops_18 rfl (isN_sh (isN_in h4)).1 rfl rfl rfl (fun _ μ6 => ?_)
    show Go Γ 3 21 [(0, .ref 0), (1, .int x1), (2, .int x2)] [] μ6 _
    refine go_aload_n (q := 0) (i := 0) (pc := 21) hΓ d_X_drops_21 rfl rfl ?_
    refine go_getR (q := 1) (pc := 22) hΓ fl_X_11 d_X_drops_22 rfl rfl ?_
    refine go_iload_n (q := 1) (i := 1) (pc := 25) hΓ d_X_drops_25 rfl rfl ?_
    refine go_ck (fun h7 => ?_)
    refine go_aald (pc := 26) hΓ d_X_drops_26 h7 ?_
    refine go_getI (pc := 27) hΓ fl_X_121 d_X_drops_27 (isN_sh (isN_in h7)).1 rfl ?_
    exact go_iret (pc := 30) hΓ hT d_X_drops_30
  · refine go_iconst (v := -1) (pc := 9) hΓ d_X_drops_9 (by decide) ?_
    exact go_iret (pc := 10) hΓ hT d_X_drops_10
def f_X_swaps (N : Nat) (x1 : Int32) (x2 : Int32) (μ0 : Mem) : Option (Int32 × Mem) :=
  bnd (f_X_isComparer N x1 x2 μ0) fun r1 μ2 => if r1 = 0 then (some ((-1), μ2)) else (ck (inb x1 4) (if (x2 + 1) < (gI μ2 (2 + 3 * tn x1) 1) then (ck (inb x1 4) (bnd (f_Net_exchangeWithNext N (2 + 3 * tn x1) x2 μ2) fun r7 μ8 => if r7 = 0 then (some (0, μ8)) else (some (1, μ8)))) else (some ((-1), μ2))))
set_option maxHeartbeats 4000000 in
set_option maxRecDepth 100000 in
theorem g_X_swaps (N d : Nat) (x1 : Int32) (x2 : Int32)  : CallF eI y_X_swaps c_X_swaps 3 (some .int) (d + 2 + 1) [.ref 0, .int x1, .int x2] (f_X_swaps N x1 x2) := by
  refine call_of (d := d + 2) (n := 2) mi_X_swaps.1 (fun _ => rfl) ?_
  intro Γ μ0 hΓ hT hR
  show Go Γ 3 0 [(0, .ref 0), (1, .int x1), (2, .int x2)] [] μ0 (f_X_swaps N x1 x2 μ0)
  unfold f_X_swaps
  refine go_aload_n (q := 0) (i := 0) (pc := 0) hΓ d_X_swaps_0 rfl rfl ?_
  refine go_iload_n (q := 1) (i := 1) (pc := 1) hΓ d_X_swaps_1 rfl rfl ?_
  refine go_iload_n (q := 2) (i := 2) (pc := 2) hΓ d_X_swaps_2 rfl rfl ?_
  refine go_callV (index := 166) emI hΓ hR (g_X_isComparer N (d + 0) x1 x2) mi_X_isComparer ml_X_166 d_X_swaps_3 rfl rfl rfl rfl rfl (fun r1 μ2 => ?_)
  show Go Γ 3 6 [(0, .ref 0), (1, .int x1), (2, .int x2)] [.int r1] μ2 _
  refine go_if_eq 24 (pc := 6) hΓ d_X_swaps_6 (by decide) (fun h3 => go_eq (if_pos h3) ?_) (fun h3 => go_eq (if_neg h3) ?_)
  · refine go_iconst (v := -1) (pc := 24) hΓ d_X_swaps_24 (by decide) ?_
    exact go_iret (pc := 25) hΓ hT d_X_swaps_25
  · refine go_iload_n (q := 2) (i := 2) (pc := 9) hΓ d_X_swaps_9 rfl rfl ?_
    refine go_iconst (v := 1) (pc := 10) hΓ d_X_swaps_10 (by decide) ?_
    refine go_iadd (pc := 11) hΓ d_X_swaps_11 ?_
    refine go_aload_n (q := 0) (i := 0) (pc := 12) hΓ d_X_swaps_12 rfl rfl ?_
    refine go_getR (q := 1) (pc := 13) hΓ fl_X_11 d_X_swaps_13 rfl rfl ?_
    refine go_iload_n (q := 1) (i := 1) (pc := 16) hΓ d_X_swaps_16 rfl rfl ?_
    refine go_ck (fun h4 => ?_)
    refine go_aald (pc := 17) hΓ d_X_swaps_17 h4 ?_
    refine go_getI (pc := 18) hΓ fl_X_121 d_X_swaps_18 (isN_sh (isN_in h4)).1 rfl ?_
    refine go_icmp_lt 26 (pc := 21) hΓ d_X_swaps_21 (by decide) (fun h5 => go_eq (if_pos h5) ?_) (fun h5 => go_eq (if_neg h5) ?_)
    · refine go_aload_n (q := 0) (i := 0) (pc := 26) hΓ d_X_swaps_26 rfl rfl ?_
      refine go_getR (q := 1) (pc := 27) hΓ fl_X_11 d_X_swaps_27 rfl rfl ?_
      refine go_iload_n (q := 1) (i := 1) (pc := 30) hΓ d_X_swaps_30 rfl rfl ?_
      refine go_ck (fun h6 => ?_)
      refine go_aald (pc := 31) hΓ d_X_swaps_31 h6 ?_
      refine go_iload_n (q := 2) (i := 2) (pc := 32) hΓ d_X_swaps_32 rfl rfl ?_
      refine go_callV (index := 172) emI hΓ hR (g_Net_exchangeWithNext N (d + 0) (2 + 3 * tn x1) (isN_in h6) x2) mi_Net_exchangeWithNext ml_X_172 d_X_swaps_33 rfl (isN_sh (isN_in h6)).1 rfl rfl rfl (fun r7 μ8 => ?_)
      show Go Γ 3 36 [(0, .ref 0), (1, .int x1), (2, .int x2)] [.int r7] μ8 _
      refine go_if_eq 43 (pc := 36) hΓ d_X_swaps_36 (by decide) (fun h9 => go_eq (if_pos h9) ?_) (fun h9 => go_eq (if_neg h9) ?_)
      · refine go_iconst (v := 0) (pc := 43) hΓ d_X_swaps_43 (by decide) ?_
        exact go_iret (pc := 44) hΓ hT d_X_swaps_44
      · refine go_iconst (v := 1) (pc := 39) hΓ d_X_swaps_39 (by decide) ?_
        refine go_goto 44 (pc := 40) hΓ d_X_swaps_40 (by decide) ?_
        exact go_iret (pc := 44) hΓ hT d_X_swaps_44
    · refine go_iconst (v := -1) (pc := 24) hΓ d_X_swaps_24 (by decide) ?_
      exact go_iret (pc := 25) hΓ hT d_X_swaps_25
def f_X_copies (N : Nat) (x1 : Int32) (x2 : Int32) (μ0 : Mem) : Option (Int32 × Mem) :=
  bnd (f_X_isNet N x1 μ0) fun r1 μ2 => if r1 = 0 then (some ((-1), μ2)) else (bnd (f_X_isNet N x2 μ2) fun r4 μ5 => if r4 = 0 then (some ((-1), μ5)) else (ck (inb x2 4) (ck (inb x1 4) (bnd (f_Net_take N (2 + 3 * tn x2) (2 + 3 * tn x1) μ5) fun _ μ10 => ck (inb x2 4) (some (gI μ10 (2 + 3 * tn x2) 1, μ10))))))
set_option maxHeartbeats 4000000 in
set_option maxRecDepth 100000 in
theorem g_X_copies (N d : Nat) (x1 : Int32) (x2 : Int32)  : CallF eI y_X_copies c_X_copies 3 (some .int) (d + 1 + 1) [.ref 0, .int x1, .int x2] (f_X_copies N x1 x2) := by
  refine call_of (d := d + 1) (n := 2) mi_X_copies.1 (fun _ => rfl) ?_
  intro Γ μ0 hΓ hT hR
  show Go Γ 3 0 [(0, .ref 0), (1, .int x1), (2, .int x2)] [] μ0 (f_X_copies N x1 x2 μ0)
  unfold f_X_copies
  refine go_iload_n (q := 1) (i := 1) (pc := 0) hΓ d_X_copies_0 rfl rfl ?_
  refine go_callS (index := 101) emI hΓ hR (g_X_isNet N (d + 0) x1) mi_X_isNet ml_X_101 d_X_copies_1 rfl rfl rfl (fun r1 μ2 => ?_)
  show Go Γ 3 4 [(0, .ref 0), (1, .int x1), (2, .int x2)] [.int r1] μ2 _
  refine go_if_eq 14 (pc := 4) hΓ d_X_copies_4 (by decide) (fun h3 => go_eq (if_pos h3) ?_) (fun h3 => go_eq (if_neg h3) ?_)
  · refine go_iconst (v := -1) (pc := 14) hΓ d_X_copies_14 (by decide) ?_
    exact go_iret (pc := 15) hΓ hT d_X_copies_15
  · refine go_iload_n (q := 2) (i := 2) (pc := 7) hΓ d_X_copies_7 rfl rfl ?_
    refine go_callS (index := 101) emI hΓ hR (g_X_isNet N (d + 0) x2) mi_X_isNet ml_X_101 d_X_copies_8 rfl rfl rfl (fun r4 μ5 => ?_)
    show Go Γ 3 11 [(0, .ref 0), (1, .int x1), (2, .int x2)] [.int r4] μ5 _
    refine go_if_ne 16 (pc := 11) hΓ d_X_copies_11 (by decide) (fun h6 => go_eq (if_neg h6) ?_) (fun h6 => go_eq (if_pos h6) ?_)
    · refine go_aload_n (q := 0) (i := 0) (pc := 16) hΓ d_X_copies_16 rfl rfl ?_
      refine go_getR (q := 1) (pc := 17) hΓ fl_X_11 d_X_copies_17 rfl rfl ?_
      refine go_iload_n (q := 2) (i := 2) (pc := 20) hΓ d_X_copies_20 rfl rfl ?_
      refine go_ck (fun h7 => ?_)
      refine go_aald (pc := 21) hΓ d_X_copies_21 h7 ?_
      refine go_aload_n (q := 0) (i := 0) (pc := 22) hΓ d_X_copies_22 rfl rfl ?_
      refine go_getR (q := 1) (pc := 23) hΓ fl_X_11 d_X_copies_23 rfl rfl ?_
      refine go_iload_n (q := 1) (i := 1) (pc := 26) hΓ d_X_copies_26 rfl rfl ?_
      refine go_ck (fun h8 => ?_)
      refine go_aald (pc := 27) hΓ d_X_copies_27 h8 ?_
      refine go_callV (index := 104) emV hΓ hR (g_Net_take N (d + 0) (2 + 3 * tn x2) (isN_in h7) (2 + 3 * tn x1) (isN_in h8)) mi_Net_take ml_X_104 d_X_copies_28 rfl (isN_sh (isN_in h7)).1 rfl rfl rfl (fun _ μ10 => ?_)
      show Go Γ 3 31 [(0, .ref 0), (1, .int x1), (2, .int x2)] [] μ10 _
      refine go_aload_n (q := 0) (i := 0) (pc := 31) hΓ d_X_copies_31 rfl rfl ?_
      refine go_getR (q := 1) (pc := 32) hΓ fl_X_11 d_X_copies_32 rfl rfl ?_
      refine go_iload_n (q := 2) (i := 2) (pc := 35) hΓ d_X_copies_35 rfl rfl ?_
      refine go_ck (fun h11 => ?_)
      refine go_aald (pc := 36) hΓ d_X_copies_36 h11 ?_
      refine go_getI (pc := 37) hΓ fl_X_121 d_X_copies_37 (isN_sh (isN_in h11)).1 rfl ?_
      exact go_iret (pc := 40) hΓ hT d_X_copies_40
    · refine go_iconst (v := -1) (pc := 14) hΓ d_X_copies_14 (by decide) ?_
      exact go_iret (pc := 15) hΓ hT d_X_copies_15
def lp_X_joins_71 (N : Nat) (p3 : Nat) (p4 : Nat) (x5 : Int32)  (K : Mem → Option (Int32 × Mem)) : Nat → Int32 → Mem → Option (Int32 × Mem)
  | 0, _, _ => none
  | n + 1, a6, μ0 => if a6 < x5 then (ck (inb a6 60) (ck (inb a6 60) (bnd (f_Net_append N p3 (gI μ0 (p4 + 1) (tn a6)) (gI μ0 (p4 + 2) (tn a6)) μ0) fun r15 μ16 => lt' (a6 + 1) fun v17 => lp_X_joins_71 N p3 p4 x5 K n v17 μ16))) else (K  μ0)
def f_X_joins (N : Nat) (x1 : Int32) (x2 : Int32) (μ0 : Mem) : Option (Int32 × Mem) :=
  bnd (f_X_isNet N x1 μ0) fun r1 μ2 => if r1 = 0 then (some ((-1), μ2)) else (bnd (f_X_isNet N x2 μ2) fun r4 μ5 => if r4 = 0 then (some ((-1), μ5)) else (ck (inb x1 4) (ck (inb x2 4) (if (gI μ5 (2 + 3 * tn x1) 0) = (gI μ5 (2 + 3 * tn x2) 0) then (lt' (gI μ5 (2 + 3 * tn x2) 1) fun v10 => if 60 < ((gI μ5 (2 + 3 * tn x1) 1) + v10) then (some ((-3), μ5)) else (lp_X_joins_71 N (2 + 3 * tn x1) (2 + 3 * tn x2) v10 (fun μ18 => some (gI μ18 (2 + 3 * tn x1) 1, μ18)) N 0 μ5)) else (some ((-2), μ5))))))
set_option maxHeartbeats 4000000 in
set_option maxRecDepth 100000 in
theorem glp_X_joins_71 (N d : Nat) {Γ : Cx Int32} (hΓ : Ok Γ "SortingNets" c_X_joins 7) (hT : Rt Γ eI (some .int)) (hR : Rm Γ (d + 1)) (p3 : Nat) (p4 : Nat) (x5 : Int32) (hp3 : isN p3) (hp4 : isN p4)   (K : Mem → Option (Int32 × Mem)) (hK : ∀  (ν : Mem), Go Γ 7 105 [(3, .ref p3)] [] ν (K  ν)) : ∀ (n : Nat) (a6 : Int32) (μ0 : Mem), Go Γ 7 71 [(3, .ref p3), (4, .ref p4), (5, .int x5), (6, .int a6)] [] μ0 (lp_X_joins_71 N p3 p4 x5 K n a6 μ0) := by
  intro n
  induction n with
  | zero => intro a6 μ0; exact go_none
  | succ n ih =>
    intro a6 μ0
    rw [lp_X_joins_71]
    refine go_iload (q := 3) (pc := 71) hΓ d_X_joins_71 rfl ?_
    refine go_iload (q := 2) (pc := 73) hΓ d_X_joins_73 rfl ?_
    refine go_icmp_ge 105 (pc := 75) hΓ d_X_joins_75 (by decide) (fun h12 => go_eq (if_neg h12) ?_) (fun h12 => go_eq (if_pos h12) ?_)
    · refine go_sub' (lv' := [(3, .ref p3)]) rfl ?_
      exact hK  μ0
    · refine go_aload_n (q := 0) (i := 3) (pc := 78) hΓ d_X_joins_78 rfl rfl ?_
      refine go_aload (q := 1) (pc := 79) hΓ d_X_joins_79 rfl ?_
      refine go_getR (q := p4 + 1) (pc := 81) hΓ fl_X_175 d_X_joins_81 (isN_sh hp4).1 rfl ?_
      refine go_iload (q := 3) (pc := 84) hΓ d_X_joins_84 rfl ?_
      refine go_ck (fun h13 => ?_)
      refine go_iald (pc := 86) hΓ d_X_joins_86 (isN_sh hp4).2.1 h13 ?_
      refine go_aload (q := 1) (pc := 87) hΓ d_X_joins_87 rfl ?_
      refine go_getR (q := p4 + 2) (pc := 89) hΓ fl_X_178 d_X_joins_89 (isN_sh hp4).1 rfl ?_
      refine go_iload (q := 3) (pc := 92) hΓ d_X_joins_92 rfl ?_
      refine go_ck (fun h14 => ?_)
      refine go_iald (pc := 94) hΓ d_X_joins_94 (isN_sh hp4).2.2 h14 ?_
      refine go_callV (index := 154) emI hΓ hR (g_Net_append N (d + 0) p3 hp3 (gI μ0 (p4 + 1) (tn a6)) (gI μ0 (p4 + 2) (tn a6))) mi_Net_append ml_X_154 d_X_joins_95 rfl (isN_sh hp3).1 rfl rfl rfl (fun r15 μ16 => ?_)
      show Go Γ 7 98 [(3, .ref p3), (4, .ref p4), (5, .int x5), (6, .int a6)] [.int r15] μ16 _
      refine go_pop (pc := 98) hΓ d_X_joins_98 rfl ?_
      refine go_incI (q := 3) (i := 6) (n := 1) (c := 1) (pc := 99) hΓ d_X_joins_99 rfl (by decide) (by decide) (fun v17 => ?_)
      refine go_sub' (lv' := [(6, .int v17), (3, .ref p3), (4, .ref p4), (5, .int x5)]) rfl ?_
      refine go_goto 71 (pc := 102) hΓ d_X_joins_102 (by decide) ?_
      refine go_sub' (lv' := [(3, .ref p3), (4, .ref p4), (5, .int x5), (6, .int v17)]) rfl ?_
      exact ih v17 μ16
set_option maxHeartbeats 4000000 in
set_option maxRecDepth 100000 in
theorem g_X_joins (N d : Nat) (x1 : Int32) (x2 : Int32)  : CallF eI y_X_joins c_X_joins 7 (some .int) (d + 1 + 1) [.ref 0, .int x1, .int x2] (f_X_joins N x1 x2) := by
  refine call_of (d := d + 1) (n := 2) mi_X_joins.1 (fun _ => rfl) ?_
  intro Γ μ0 hΓ hT hR
  show Go Γ 7 0 [(0, .ref 0), (1, .int x1), (2, .int x2)] [] μ0 (f_X_joins N x1 x2 μ0)
  unfold f_X_joins
  refine go_iload_n (q := 1) (i := 1) (pc := 0) hΓ d_X_joins_0 rfl rfl ?_
  refine go_callS (index := 101) emI hΓ hR (g_X_isNet N (d + 0) x1) mi_X_isNet ml_X_101 d_X_joins_1 rfl rfl rfl (fun r1 μ2 => ?_)
  show Go Γ 7 4 [(0, .ref 0), (1, .int x1), (2, .int x2)] [.int r1] μ2 _
  refine go_if_eq 14 (pc := 4) hΓ d_X_joins_4 (by decide) (fun h3 => go_eq (if_pos h3) ?_) (fun h3 => go_eq (if_neg h3) ?_)
  · refine go_iconst (v := -1) (pc := 14) hΓ d_X_joins_14 (by decide) ?_
    exact go_iret (pc := 15) hΓ hT d_X_joins_15
  · refine go_iload_n (q := 2) (i := 2) (pc := 7) hΓ d_X_joins_7 rfl rfl ?_
    refine go_callS (index := 101) emI hΓ hR (g_X_isNet N (d + 0) x2) mi_X_isNet ml_X_101 d_X_joins_8 rfl rfl rfl (fun r4 μ5 => ?_)
    show Go Γ 7 11 [(0, .ref 0), (1, .int x1), (2, .int x2)] [.int r4] μ5 _
    refine go_if_ne 16 (pc := 11) hΓ d_X_joins_11 (by decide) (fun h6 => go_eq (if_neg h6) ?_) (fun h6 => go_eq (if_pos h6) ?_)
    · refine go_aload_n (q := 0) (i := 0) (pc := 16) hΓ d_X_joins_16 rfl rfl ?_
      refine go_getR (q := 1) (pc := 17) hΓ fl_X_11 d_X_joins_17 rfl rfl ?_
      refine go_iload_n (q := 1) (i := 1) (pc := 20) hΓ d_X_joins_20 rfl rfl ?_
      refine go_ck (fun h7 => ?_)
      refine go_aald (pc := 21) hΓ d_X_joins_21 h7 ?_
      refine go_astore_n (i := 3) (lv' := [(3, .ref (2 + 3 * tn x1)), (0, .ref 0), (1, .int x1), (2, .int x2)]) (pc := 22) hΓ d_X_joins_22 rfl (by decide) rfl ?_
      refine go_aload_n (q := 1) (i := 0) (pc := 23) hΓ d_X_joins_23 rfl rfl ?_
      refine go_getR (q := 1) (pc := 24) hΓ fl_X_11 d_X_joins_24 rfl rfl ?_
      refine go_iload_n (q := 3) (i := 2) (pc := 27) hΓ d_X_joins_27 rfl rfl ?_
      refine go_ck (fun h8 => ?_)
      refine go_aald (pc := 28) hΓ d_X_joins_28 h8 ?_
      refine go_astore (lv' := [(4, .ref (2 + 3 * tn x2)), (3, .ref (2 + 3 * tn x1)), (0, .ref 0), (1, .int x1), (2, .int x2)]) (pc := 29) hΓ d_X_joins_29 (by decide) rfl ?_
      refine go_aload_n (q := 1) (i := 3) (pc := 31) hΓ d_X_joins_31 rfl rfl ?_
      refine go_getI (pc := 32) hΓ fl_X_111 d_X_joins_32 (isN_sh (isN_in h7)).1 rfl ?_
      refine go_aload (q := 0) (pc := 35) hΓ d_X_joins_35 rfl ?_
      refine go_getI (pc := 37) hΓ fl_X_111 d_X_joins_37 (isN_sh (isN_in h8)).1 rfl ?_
      refine go_icmp_eq 46 (pc := 40) hΓ d_X_joins_40 (by decide) (fun h9 => go_eq (if_pos h9) ?_) (fun h9 => go_eq (if_neg h9) ?_)
      · refine go_aload (q := 0) (pc := 46) hΓ d_X_joins_46 rfl ?_
        refine go_getI (pc := 48) hΓ fl_X_121 d_X_joins_48 (isN_sh (isN_in h8)).1 rfl ?_
        refine go_letI (fun v10 => ?_)
        refine go_istore (lv' := [(5, .int v10), (4, .ref (2 + 3 * tn x2)), (3, .ref (2 + 3 * tn x1)), (0, .ref 0), (1, .int x1), (2, .int x2)]) (pc := 51) hΓ d_X_joins_51 (by decide) rfl ?_
        refine go_aload_n (q := 2) (i := 3) (pc := 53) hΓ d_X_joins_53 rfl rfl ?_
        refine go_getI (pc := 54) hΓ fl_X_121 d_X_joins_54 (isN_sh (isN_in h7)).1 rfl ?_
        refine go_iload (q := 0) (pc := 57) hΓ d_X_joins_57 rfl ?_
        refine go_iadd (pc := 59) hΓ d_X_joins_59 ?_
        refine go_bipush (v := 60) (pc := 60) hΓ d_X_joins_60 (by decide) ?_
        refine go_icmp_le 68 (pc := 62) hΓ d_X_joins_62 (by decide) (fun h11 => go_eq (if_neg h11) ?_) (fun h11 => go_eq (if_pos h11) ?_)
        · refine go_iconst (v := 0) (pc := 68) hΓ d_X_joins_68 (by decide) ?_
          refine go_istore (lv' := [(6, .int 0), (5, .int v10), (4, .ref (2 + 3 * tn x2)), (3, .ref (2 + 3 * tn x1)), (0, .ref 0), (1, .int x1), (2, .int x2)]) (pc := 69) hΓ d_X_joins_69 (by decide) rfl ?_
          refine go_sub' (lv' := [(3, .ref (2 + 3 * tn x1)), (4, .ref (2 + 3 * tn x2)), (5, .int v10), (6, .int 0)]) rfl ?_
          refine glp_X_joins_71 N d hΓ hT hR (2 + 3 * tn x1) (2 + 3 * tn x2) v10 (isN_in h7) (isN_in h8) _ (fun μ18 => ?_) N 0 μ5
          refine go_aload_n (q := 0) (i := 3) (pc := 105) hΓ d_X_joins_105 rfl rfl ?_
          refine go_getI (pc := 106) hΓ fl_X_121 d_X_joins_106 (isN_sh (isN_in h7)).1 rfl ?_
          exact go_iret (pc := 109) hΓ hT d_X_joins_109
        · refine go_bipush (v := -3) (pc := 65) hΓ d_X_joins_65 (by decide) ?_
          exact go_iret (pc := 67) hΓ hT d_X_joins_67
      · refine go_bipush (v := -2) (pc := 43) hΓ d_X_joins_43 (by decide) ?_
        exact go_iret (pc := 45) hΓ hT d_X_joins_45
    · refine go_iconst (v := -1) (pc := 14) hΓ d_X_joins_14 (by decide) ?_
      exact go_iret (pc := 15) hΓ hT d_X_joins_15
def f_X_flips (N : Nat) (x1 : Int32) (μ0 : Mem) : Option (Int32 × Mem) :=
  bnd (f_X_isNet N x1 μ0) fun r1 μ2 => if r1 = 0 then (some ((-1), μ2)) else (ck (inb x1 4) (bnd (f_Net_reverse N (2 + 3 * tn x1) μ2) fun _ μ6 => ck (inb x1 4) (some (gI μ6 (2 + 3 * tn x1) 1, μ6))))
set_option maxHeartbeats 4000000 in
set_option maxRecDepth 100000 in
theorem g_X_flips (N d : Nat) (x1 : Int32)  : CallF eI y_X_flips c_X_flips 2 (some .int) (d + 2 + 1) [.ref 0, .int x1] (f_X_flips N x1) := by
  refine call_of (d := d + 2) (n := 1) mi_X_flips.1 (fun _ => rfl) ?_
  intro Γ μ0 hΓ hT hR
  show Go Γ 2 0 [(0, .ref 0), (1, .int x1)] [] μ0 (f_X_flips N x1 μ0)
  unfold f_X_flips
  refine go_iload_n (q := 1) (i := 1) (pc := 0) hΓ d_X_flips_0 rfl rfl ?_
  refine go_callS (index := 101) emI hΓ hR (g_X_isNet N (d + 1) x1) mi_X_isNet ml_X_101 d_X_flips_1 rfl rfl rfl (fun r1 μ2 => ?_)
  show Go Γ 2 4 [(0, .ref 0), (1, .int x1)] [.int r1] μ2 _
  refine go_if_ne 9 (pc := 4) hΓ d_X_flips_4 (by decide) (fun h3 => go_eq (if_neg h3) ?_) (fun h3 => go_eq (if_pos h3) ?_)
  · refine go_aload_n (q := 0) (i := 0) (pc := 9) hΓ d_X_flips_9 rfl rfl ?_
    refine go_getR (q := 1) (pc := 10) hΓ fl_X_11 d_X_flips_10 rfl rfl ?_
    refine go_iload_n (q := 1) (i := 1) (pc := 13) hΓ d_X_flips_13 rfl rfl ?_
    refine go_ck (fun h4 => ?_)
    refine go_aald (pc := 14) hΓ d_X_flips_14 h4 ?_
    refine go_callV (index := 181) emV hΓ hR (g_Net_reverse N (d + 0) (2 + 3 * tn x1) (isN_in h4)) mi_Net_reverse ml_X_181 d_X_flips_15 rfl (isN_sh (isN_in h4)).1 rfl rfl rfl (fun _ μ6 => ?_)
    show Go Γ 2 18 [(0, .ref 0), (1, .int x1)] [] μ6 _
    refine go_aload_n (q := 0) (i := 0) (pc := 18) hΓ d_X_flips_18 rfl rfl ?_
    refine go_getR (q := 1) (pc := 19) hΓ fl_X_11 d_X_flips_19 rfl rfl ?_
    refine go_iload_n (q := 1) (i := 1) (pc := 22) hΓ d_X_flips_22 rfl rfl ?_
    refine go_ck (fun h7 => ?_)
    refine go_aald (pc := 23) hΓ d_X_flips_23 h7 ?_
    refine go_getI (pc := 24) hΓ fl_X_121 d_X_flips_24 (isN_sh (isN_in h7)).1 rfl ?_
    exact go_iret (pc := 27) hΓ hT d_X_flips_27
  · refine go_iconst (v := -1) (pc := 7) hΓ d_X_flips_7 (by decide) ?_
    exact go_iret (pc := 8) hΓ hT d_X_flips_8
def f_X_mirrors (N : Nat) (x1 : Int32) (μ0 : Mem) : Option (Int32 × Mem) :=
  bnd (f_X_isNet N x1 μ0) fun r1 μ2 => if r1 = 0 then (some ((-1), μ2)) else (ck (inb x1 4) (bnd (f_Net_reflect N (2 + 3 * tn x1) μ2) fun _ μ6 => ck (inb x1 4) (some (gI μ6 (2 + 3 * tn x1) 1, μ6))))
set_option maxHeartbeats 4000000 in
set_option maxRecDepth 100000 in
theorem g_X_mirrors (N d : Nat) (x1 : Int32)  : CallF eI y_X_mirrors c_X_mirrors 2 (some .int) (d + 1 + 1) [.ref 0, .int x1] (f_X_mirrors N x1) := by
  refine call_of (d := d + 1) (n := 1) mi_X_mirrors.1 (fun _ => rfl) ?_
  intro Γ μ0 hΓ hT hR
  show Go Γ 2 0 [(0, .ref 0), (1, .int x1)] [] μ0 (f_X_mirrors N x1 μ0)
  unfold f_X_mirrors
  refine go_iload_n (q := 1) (i := 1) (pc := 0) hΓ d_X_mirrors_0 rfl rfl ?_
  refine go_callS (index := 101) emI hΓ hR (g_X_isNet N (d + 0) x1) mi_X_isNet ml_X_101 d_X_mirrors_1 rfl rfl rfl (fun r1 μ2 => ?_)
  show Go Γ 2 4 [(0, .ref 0), (1, .int x1)] [.int r1] μ2 _
  refine go_if_ne 9 (pc := 4) hΓ d_X_mirrors_4 (by decide) (fun h3 => go_eq (if_neg h3) ?_) (fun h3 => go_eq (if_pos h3) ?_)
  · refine go_aload_n (q := 0) (i := 0) (pc := 9) hΓ d_X_mirrors_9 rfl rfl ?_
    refine go_getR (q := 1) (pc := 10) hΓ fl_X_11 d_X_mirrors_10 rfl rfl ?_
    refine go_iload_n (q := 1) (i := 1) (pc := 13) hΓ d_X_mirrors_13 rfl rfl ?_
    refine go_ck (fun h4 => ?_)
    refine go_aald (pc := 14) hΓ d_X_mirrors_14 h4 ?_
    refine go_callV (index := 184) emV hΓ hR (g_Net_reflect N (d + 0) (2 + 3 * tn x1) (isN_in h4)) mi_Net_reflect ml_X_184 d_X_mirrors_15 rfl (isN_sh (isN_in h4)).1 rfl rfl rfl (fun _ μ6 => ?_)
    show Go Γ 2 18 [(0, .ref 0), (1, .int x1)] [] μ6 _
    refine go_aload_n (q := 0) (i := 0) (pc := 18) hΓ d_X_mirrors_18 rfl rfl ?_
    refine go_getR (q := 1) (pc := 19) hΓ fl_X_11 d_X_mirrors_19 rfl rfl ?_
    refine go_iload_n (q := 1) (i := 1) (pc := 22) hΓ d_X_mirrors_22 rfl rfl ?_
    refine go_ck (fun h7 => ?_)
    refine go_aald (pc := 23) hΓ d_X_mirrors_23 h7 ?_
    refine go_getI (pc := 24) hΓ fl_X_121 d_X_mirrors_24 (isN_sh (isN_in h7)).1 rfl ?_
    exact go_iret (pc := 27) hΓ hT d_X_mirrors_27
  · refine go_iconst (v := -1) (pc := 7) hΓ d_X_mirrors_7 (by decide) ?_
    exact go_iret (pc := 8) hΓ hT d_X_mirrors_8

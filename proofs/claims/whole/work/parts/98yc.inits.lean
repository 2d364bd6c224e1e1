/-! constructors: the small ones, and the model's (written by gen_init.py) -/
abbrev w_Net (kA : Nat → ClassId) (u : Nat → Nat) : va_W := [(u 0, .inr (1, [.int 4, .int 0, .ref (u 1), .ref (u 2)])), (u 1, zI (kA 0) 60), (u 2, zI (kA 0) 60)]
set_option maxHeartbeats 4000000 in
set_option maxRecDepth 100000 in
theorem n_Net_init (l : Launch) (D : va_G) (kA : Nat → ClassId) (h0 sz : Nat) : Met l y_Net_init (.code y_Net_init c_Net_init 1 none :: TB) (rmI 2 120) (Pn D kA [(h0, .inr (1, [.int 0, .int 0, .null, .null]))] sz h0) (va_Qv (fun u : Nat → Nat => u 0 = h0) (Bn D (w_Net kA) (va_A [(h0, .inr (1, [.int 0, .int 0, .null, .null]))] sz)) (va_A [(h0, .inr (1, [.int 0, .int 0, .null, .null]))] sz)) 2 120 (va_A [(h0, .inr (1, [.int 0, .int 0, .null, .null]))] sz) := by
  refine Met.ofW (cc := c_Net_init) (maxL := 1) (ret := none) (by decide) rfl ?_
  intro p e s m args below meth c s₁ B hml hv
  obtain ⟨rfl, hsz, hP, hK, hD0⟩ := hv
  have hx := B.exec
  have hb := B.bytes
  have hr := B.returns
  have hts0 := atoms_spec (ws := Cond.code y_Net_init c_Net_init 1 none :: TB) B.pre
  have hts : ∀ w ∈ TB, w.before ([.ref h0] : List Value).toArray s = true := fun w hw => hts0 w (List.mem_cons_of_mem _ hw)
  have hown : s.vm.findClass R_Net = some m.cls := findClass_of_methodNamed B.named
  have hlocks := B.notSynchronized
  have hin : meth.name = "<init>" := (name_of_methodNamed B.named B.method).1
  subst hsz
  have hD := hD0.self (sz := s.heap.size)
  generalize hAe : va_A [(h0, .inr (1, [.int 0, .int 0, .null, .null]))] s.heap.size = A at hD ⊢
  have hA : ∀ q : Nat, s.heap.size ≤ q → A q := fun q h => by rw [← hAe]; exact Or.inr h
  have hS : va_S A s.heap s.heap [] := va_S.rf
  have hl := lv_entry ([.ref h0]) (n := 1) (Nat.le_of_ble_eq_true rfl)
  rw [lg_entry_eq]
  generalize (lg_sl ([.ref h0]) ++ List.replicate (1 - (lg_sl ([.ref h0])).length) Slot.unset).toArray = ls at hl ⊢
  have hl : lv_has ls 1 [(0, .ref h0)] := hl
  refine lv_aload_n hx hb d_Net_init_0 rfl (lv_at hl 0 rfl) ?_
  refine W.objInit hx hb hown (hts _ oi_Net) (hts _ oi_i) (hts _ oi_c) rfl (by rw [hml]; exact hl.1) rfl d_Net_init_1 (Nat.le_of_ble_eq_true rfl) (Nat.le_of_ble_eq_true rfl) ?_
  refine W.eq (g2 := F0 m 4 ls []) rfl ?_
  refine lv_aload_n hx hb d_Net_init_4 rfl (lv_at hl 0 rfl) ?_
  refine lv_iconst (v := 4) hx hb d_Net_init_5 (by decide) ?_
  refine va_put (D := D) (ci := 1) (v := .int 4) (ty := .int) (C := R_Net) (T := F_Net) (N := 4) hx hb hts i_Net t_Net t_Net_ok n_Net hown hK hP hD hS 0 rfl rfl 0 (by decide) (hts _ fk_Net_9) (fun _ h9 => h9) rfl (by decide +kernel) rfl rfl (Nat.le_of_ble_eq_true rfl) d_Net_init_6 (fun H locs hP hD hS => ?_)
  have hP : va_P D classes [(h0, .inr (1, [.int 4, .int 0, .null, .null]))] H := hP
  have hD : va_D A [(h0, .inr (1, [.int 4, .int 0, .null, .null]))] := hD
  refine lv_aload_n hx hb d_Net_init_9 rfl (lv_at hl 0 rfl) ?_
  refine lv_iconst (v := 0) hx hb d_Net_init_10 (by decide) ?_
  refine va_put (D := D) (ci := 1) (v := .int 0) (ty := .int) (C := R_Net) (T := F_Net) (N := 4) hx hb hts i_Net t_Net t_Net_ok n_Net hown hK hP hD hS 0 rfl rfl 1 (by decide) (hts _ fk_Net_15) (fun _ h9 => h9) rfl (by decide +kernel) rfl rfl (Nat.le_of_ble_eq_true rfl) d_Net_init_11 (fun H locs hP hD hS => ?_)
  have hP : va_P D classes [(h0, .inr (1, [.int 4, .int 0, .null, .null]))] H := hP
  have hD : va_D A [(h0, .inr (1, [.int 4, .int 0, .null, .null]))] := hD
  refine lv_aload_n hx hb d_Net_init_14 rfl (lv_at hl 0 rfl) ?_
  refine lv_bipush (v := 60) hx hb d_Net_init_15 (by decide) ?_
  refine nw_arr (atype := .int) (kt := kA 0) (N' := 60) (a0 := (60, .inl (fun _ => 0))) hx hb (hts _ ac_int) hK 0 rfl hP hD hS hA (fun _ => rfl) (by decide) (by decide) (Nat.le_of_ble_eq_true rfl) (Nat.le_of_ble_eq_true rfl) (Nat.le_of_ble_eq_true rfl) d_Net_init_17 (fun q1 H hP hD hS => ?_)
  have hP : va_P D classes [(h0, .inr (1, [.int 4, .int 0, .null, .null])), (q1, zI (kA 0) 60)] H := hP
  have hD : va_D A [(h0, .inr (1, [.int 4, .int 0, .null, .null])), (q1, zI (kA 0) 60)] := hD
  refine va_putF (D := D) (ci := 1) (v := .ref q1) (ty := .array .int) (C := R_Net) (T := F_Net) (N := 4) hx hb hts i_Net t_Net t_Net_ok n_Net hown hK hP hD hS 0 rfl rfl 2 (by decide) (hts _ fk_Net_18) (fun _ h9 => h9) rfl hin rfl (by decide +kernel) rfl rfl (Nat.le_of_ble_eq_true rfl) d_Net_init_19 (fun H locs hP hD hS => ?_)
  have hP : va_P D classes [(h0, .inr (1, [.int 4, .int 0, .ref q1, .null])), (q1, zI (kA 0) 60)] H := hP
  have hD : va_D A [(h0, .inr (1, [.int 4, .int 0, .ref q1, .null])), (q1, zI (kA 0) 60)] := hD
  refine lv_aload_n hx hb d_Net_init_22 rfl (lv_at hl 0 rfl) ?_
  refine lv_bipush (v := 60) hx hb d_Net_init_23 (by decide) ?_
  refine nw_arr (atype := .int) (kt := kA 0) (N' := 60) (a0 := (60, .inl (fun _ => 0))) hx hb (hts _ ac_int) hK 0 rfl hP hD hS hA (fun _ => rfl) (by decide) (by decide) (Nat.le_of_ble_eq_true rfl) (Nat.le_of_ble_eq_true rfl) (Nat.le_of_ble_eq_true rfl) d_Net_init_25 (fun q2 H hP hD hS => ?_)
  have hP : va_P D classes [(h0, .inr (1, [.int 4, .int 0, .ref q1, .null])), (q1, zI (kA 0) 60), (q2, zI (kA 0) 60)] H := hP
  have hD : va_D A [(h0, .inr (1, [.int 4, .int 0, .ref q1, .null])), (q1, zI (kA 0) 60), (q2, zI (kA 0) 60)] := hD
  refine va_putF (D := D) (ci := 1) (v := .ref q2) (ty := .array .int) (C := R_Net) (T := F_Net) (N := 4) hx hb hts i_Net t_Net t_Net_ok n_Net hown hK hP hD hS 0 rfl rfl 3 (by decide) (hts _ fk_Net_22) (fun _ h9 => h9) rfl hin rfl (by decide +kernel) rfl rfl (Nat.le_of_ble_eq_true rfl) d_Net_init_27 (fun H locs hP hD hS => ?_)
  have hP : va_P D classes [(h0, .inr (1, [.int 4, .int 0, .ref q1, .ref q2])), (q1, zI (kA 0) 60), (q2, zI (kA 0) 60)] H := hP
  have hD : va_D A [(h0, .inr (1, [.int 4, .int 0, .ref q1, .ref q2])), (q1, zI (kA 0) 60), (q2, zI (kA 0) 60)] := hD
  refine W.widen (k := 2) (n := 120) (Nat.le_of_ble_eq_true rfl) (Nat.le_of_ble_eq_true rfl) ?_
  exact W.vret hx hb hr (fun t ht hW => ⟨⟨(fun k => [h0, q1, q2].getD k 0), rfl, rfl, by rw [ht]; exact hP, hD⟩, hS.F ht⟩) hS.2.2 d_Net_init_30 hlocks
abbrev w_Tangle (kA : Nat → ClassId) (u : Nat → Nat) : va_W := [(u 0, .inr (2, [.ref (u 1)])), (u 1, zI (kA 0) 8)]
set_option maxHeartbeats 4000000 in
set_option maxRecDepth 100000 in
theorem n_Tangle_init (l : Launch) (D : va_G) (kA : Nat → ClassId) (h0 sz : Nat) : Met l y_Tangle_init (.code y_Tangle_init c_Tangle_init 1 none :: TB) (rmI 1 8) (Pn D kA [(h0, .inr (2, [.null]))] sz h0) (va_Qv (fun u : Nat → Nat => u 0 = h0) (Bn D (w_Tangle kA) (va_A [(h0, .inr (2, [.null]))] sz)) (va_A [(h0, .inr (2, [.null]))] sz)) 1 8 (va_A [(h0, .inr (2, [.null]))] sz) := by
  refine Met.ofW (cc := c_Tangle_init) (maxL := 1) (ret := none) (by decide) rfl ?_
  intro p e s m args below meth c s₁ B hml hv
  obtain ⟨rfl, hsz, hP, hK, hD0⟩ := hv
  have hx := B.exec
  have hb := B.bytes
  have hr := B.returns
  have hts0 := atoms_spec (ws := Cond.code y_Tangle_init c_Tangle_init 1 none :: TB) B.pre
  have hts : ∀ w ∈ TB, w.before ([.ref h0] : List Value).toArray s = true := fun w hw => hts0 w (List.mem_cons_of_mem _ hw)
  have hown : s.vm.findClass R_Tangle = some m.cls := findClass_of_methodNamed B.named
  have hlocks := B.notSynchronized
  have hin : meth.name = "<init>" := (name_of_methodNamed B.named B.method).1
  subst hsz
  have hD := hD0.self (sz := s.heap.size)
  generalize hAe : va_A [(h0, .inr (2, [.null]))] s.heap.size = A at hD ⊢
  have hA : ∀ q : Nat, s.heap.size ≤ q → A q := fun q h => by rw [← hAe]; exact Or.inr h
  have hS : va_S A s.heap s.heap [] := va_S.rf
  have hl := lv_entry ([.ref h0]) (n := 1) (Nat.le_of_ble_eq_true rfl)
  rw [lg_entry_eq]
  generalize (lg_sl ([.ref h0]) ++ List.replicate (1 - (lg_sl ([.ref h0])).length) Slot.unset).toArray = ls at hl ⊢
  have hl : lv_has ls 1 [(0, .ref h0)] := hl
  refine lv_aload_n hx hb d_Tangle_init_0 rfl (lv_at hl 0 rfl) ?_
  refine W.objInit hx hb hown (hts _ oi_Tangle) (hts _ oi_i) (hts _ oi_c) rfl (by rw [hml]; exact hl.1) rfl d_Tangle_init_1 (Nat.le_of_ble_eq_true rfl) (Nat.le_of_ble_eq_true rfl) ?_
  refine W.eq (g2 := F0 m 4 ls []) rfl ?_
  refine lv_aload_n hx hb d_Tangle_init_4 rfl (lv_at hl 0 rfl) ?_
  refine lv_bipush (v := 8) hx hb d_Tangle_init_5 (by decide) ?_
  refine nw_arr (atype := .int) (kt := kA 0) (N' := 8) (a0 := (8, .inl (fun _ => 0))) hx hb (hts _ ac_int) hK 0 rfl hP hD hS hA (fun _ => rfl) (by decide) (by decide) (Nat.le_of_ble_eq_true rfl) (Nat.le_of_ble_eq_true rfl) (Nat.le_of_ble_eq_true rfl) d_Tangle_init_7 (fun q1 H hP hD hS => ?_)
  have hP : va_P D classes [(h0, .inr (2, [.null])), (q1, zI (kA 0) 8)] H := hP
  have hD : va_D A [(h0, .inr (2, [.null])), (q1, zI (kA 0) 8)] := hD
  refine va_putF (D := D) (ci := 2) (v := .ref q1) (ty := .array .int) (C := R_Tangle) (T := F_Tangle) (N := 1) hx hb hts i_Tangle t_Tangle t_Tangle_ok n_Tangle hown hK hP hD hS 0 rfl rfl 0 (by decide) (hts _ fk_Tangle_9) (fun _ h9 => h9) rfl hin rfl (by decide +kernel) rfl rfl (Nat.le_of_ble_eq_true rfl) d_Tangle_init_9 (fun H locs hP hD hS => ?_)
  have hP : va_P D classes [(h0, .inr (2, [.ref q1])), (q1, zI (kA 0) 8)] H := hP
  have hD : va_D A [(h0, .inr (2, [.ref q1])), (q1, zI (kA 0) 8)] := hD
  refine W.widen (k := 1) (n := 8) (Nat.le_of_ble_eq_true rfl) (Nat.le_of_ble_eq_true rfl) ?_
  exact W.vret hx hb hr (fun t ht hW => ⟨⟨(fun k => [h0, q1].getD k 0), rfl, rfl, by rw [ht]; exact hP, hD⟩, hS.F ht⟩) hS.2.2 d_Tangle_init_12 hlocks
abbrev w_Text (kA : Nat → ClassId) (u : Nat → Nat) : va_W := [(u 0, .inr (3, [.ref (u 1), .int 0])), (u 1, zI (kA 2) 200)]
set_option maxHeartbeats 4000000 in
set_option maxRecDepth 100000 in
theorem n_Text_init (l : Launch) (D : va_G) (kA : Nat → ClassId) (h0 sz : Nat) : Met l y_Text_init (.code y_Text_init c_Text_init 1 none :: TB) (rmI 1 200) (Pn D kA [(h0, .inr (3, [.null, .int 0]))] sz h0) (va_Qv (fun u : Nat → Nat => u 0 = h0) (Bn D (w_Text kA) (va_A [(h0, .inr (3, [.null, .int 0]))] sz)) (va_A [(h0, .inr (3, [.null, .int 0]))] sz)) 1 200 (va_A [(h0, .inr (3, [.null, .int 0]))] sz) := by
  refine Met.ofW (cc := c_Text_init) (maxL := 1) (ret := none) (by decide) rfl ?_
  intro p e s m args below meth c s₁ B hml hv
  obtain ⟨rfl, hsz, hP, hK, hD0⟩ := hv
  have hx := B.exec
  have hb := B.bytes
  have hr := B.returns
  have hts0 := atoms_spec (ws := Cond.code y_Text_init c_Text_init 1 none :: TB) B.pre
  have hts : ∀ w ∈ TB, w.before ([.ref h0] : List Value).toArray s = true := fun w hw => hts0 w (List.mem_cons_of_mem _ hw)
  have hown : s.vm.findClass R_Text = some m.cls := findClass_of_methodNamed B.named
  have hlocks := B.notSynchronized
  have hin : meth.name = "<init>" := (name_of_methodNamed B.named B.method).1
  subst hsz
  have hD := hD0.self (sz := s.heap.size)
  generalize hAe : va_A [(h0, .inr (3, [.null, .int 0]))] s.heap.size = A at hD ⊢
  have hA : ∀ q : Nat, s.heap.size ≤ q → A q := fun q h => by rw [← hAe]; exact Or.inr h
  have hS : va_S A s.heap s.heap [] := va_S.rf
  have hl := lv_entry ([.ref h0]) (n := 1) (Nat.le_of_ble_eq_true rfl)
  rw [lg_entry_eq]
  generalize (lg_sl ([.ref h0]) ++ List.replicate (1 - (lg_sl ([.ref h0])).length) Slot.unset).toArray = ls at hl ⊢
  have hl : lv_has ls 1 [(0, .ref h0)] := hl
  refine lv_aload_n hx hb d_Text_init_0 rfl (lv_at hl 0 rfl) ?_
  refine W.objInit hx hb hown (hts _ oi_Text) (hts _ oi_i) (hts _ oi_c) rfl (by rw [hml]; exact hl.1) rfl d_Text_init_1 (Nat.le_of_ble_eq_true rfl) (Nat.le_of_ble_eq_true rfl) ?_
  refine W.eq (g2 := F0 m 4 ls []) rfl ?_
  refine lv_aload_n hx hb d_Text_init_4 rfl (lv_at hl 0 rfl) ?_
  refine lv_sipush (v := 200) hx hb d_Text_init_5 (by decide) ?_
  refine nw_arr (atype := .char) (kt := kA 2) (N' := 200) (a0 := (200, .inl (fun _ => 0))) hx hb (hts _ ac_char) hK 2 rfl hP hD hS hA (fun _ => rfl) (by decide) (by decide) (Nat.le_of_ble_eq_true rfl) (Nat.le_of_ble_eq_true rfl) (Nat.le_of_ble_eq_true rfl) d_Text_init_8 (fun q1 H hP hD hS => ?_)
  have hP : va_P D classes [(h0, .inr (3, [.null, .int 0])), (q1, zI (kA 2) 200)] H := hP
  have hD : va_D A [(h0, .inr (3, [.null, .int 0])), (q1, zI (kA 2) 200)] := hD
  refine va_putF (D := D) (ci := 3) (v := .ref q1) (ty := .array .char) (C := R_Text) (T := F_Text) (N := 2) hx hb hts i_Text t_Text t_Text_ok n_Text hown hK hP hD hS 0 rfl rfl 0 (by decide) (hts _ fk_Text_9) (fun _ h9 => h9) rfl hin rfl (by decide +kernel) rfl rfl (Nat.le_of_ble_eq_true rfl) d_Text_init_10 (fun H locs hP hD hS => ?_)
  have hP : va_P D classes [(h0, .inr (3, [.ref q1, .int 0])), (q1, zI (kA 2) 200)] H := hP
  have hD : va_D A [(h0, .inr (3, [.ref q1, .int 0])), (q1, zI (kA 2) 200)] := hD
  refine lv_aload_n hx hb d_Text_init_13 rfl (lv_at hl 0 rfl) ?_
  refine lv_iconst (v := 0) hx hb d_Text_init_14 (by decide) ?_
  refine va_put (D := D) (ci := 3) (v := .int 0) (ty := .int) (C := R_Text) (T := F_Text) (N := 2) hx hb hts i_Text t_Text t_Text_ok n_Text hown hK hP hD hS 0 rfl rfl 1 (by decide) (hts _ fk_Text_15) (fun _ h9 => h9) rfl (by decide +kernel) rfl rfl (Nat.le_of_ble_eq_true rfl) d_Text_init_15 (fun H locs hP hD hS => ?_)
  have hP : va_P D classes [(h0, .inr (3, [.ref q1, .int 0])), (q1, zI (kA 2) 200)] H := hP
  have hD : va_D A [(h0, .inr (3, [.ref q1, .int 0])), (q1, zI (kA 2) 200)] := hD
  refine W.widen (k := 1) (n := 200) (Nat.le_of_ble_eq_true rfl) (Nat.le_of_ble_eq_true rfl) ?_
  exact W.vret hx hb hr (fun t ht hW => ⟨⟨(fun k => [h0, q1].getD k 0), rfl, rfl, by rw [ht]; exact hP, hD⟩, hS.F ht⟩) hS.2.2 d_Text_init_18 hlocks
abbrev w_Numbers (kA : Nat → ClassId) (u : Nat → Nat) : va_W := [(u 0, .inr (4, [.ref (u 1), .int 0])), (u 1, zL (kA 1) 64)]
set_option maxHeartbeats 4000000 in
set_option maxRecDepth 100000 in
theorem n_Numbers_init (l : Launch) (D : va_G) (kA : Nat → ClassId) (h0 sz : Nat) : Met l y_Numbers_init (.code y_Numbers_init c_Numbers_init 1 none :: TB) (rmI 1 64) (Pn D kA [(h0, .inr (4, [.null, .int 0]))] sz h0) (va_Qv (fun u : Nat → Nat => u 0 = h0) (Bn D (w_Numbers kA) (va_A [(h0, .inr (4, [.null, .int 0]))] sz)) (va_A [(h0, .inr (4, [.null, .int 0]))] sz)) 1 64 (va_A [(h0, .inr (4, [.null, .int 0]))] sz) := by
  refine Met.ofW (cc := c_Numbers_init) (maxL := 1) (ret := none) (by decide) rfl ?_
  intro p e s m args below meth c s₁ B hml hv
  obtain ⟨rfl, hsz, hP, hK, hD0⟩ := hv
  have hx := B.exec
  have hb := B.bytes
  have hr := B.returns
  have hts0 := atoms_spec (ws := Cond.code y_Numbers_init c_Numbers_init 1 none :: TB) B.pre
  have hts : ∀ w ∈ TB, w.before ([.ref h0] : List Value).toArray s = true := fun w hw => hts0 w (List.mem_cons_of_mem _ hw)
  have hown : s.vm.findClass R_Numbers = some m.cls := findClass_of_methodNamed B.named
  have hlocks := B.notSynchronized
  have hin : meth.name = "<init>" := (name_of_methodNamed B.named B.method).1
  subst hsz
  have hD := hD0.self (sz := s.heap.size)
  generalize hAe : va_A [(h0, .inr (4, [.null, .int 0]))] s.heap.size = A at hD ⊢
  have hA : ∀ q : Nat, s.heap.size ≤ q → A q := fun q h => by rw [← hAe]; exact Or.inr h
  have hS : va_S A s.heap s.heap [] := va_S.rf
  have hl := lv_entry ([.ref h0]) (n := 1) (Nat.le_of_ble_eq_true rfl)
  rw [lg_entry_eq]
  generalize (lg_sl ([.ref h0]) ++ List.replicate (1 - (lg_sl ([.ref h0])).length) Slot.unset).toArray = ls at hl ⊢
  have hl : lv_has ls 1 [(0, .ref h0)] := hl
  refine lv_aload_n hx hb d_Numbers_init_0 rfl (lv_at hl 0 rfl) ?_
  refine W.objInit hx hb hown (hts _ oi_Numbers) (hts _ oi_i) (hts _ oi_c) rfl (by rw [hml]; exact hl.1) rfl d_Numbers_init_1 (Nat.le_of_ble_eq_true rfl) (Nat.le_of_ble_eq_true rfl) ?_
  refine W.eq (g2 := F0 m 4 ls []) rfl ?_
  refine lv_aload_n hx hb d_Numbers_init_4 rfl (lv_at hl 0 rfl) ?_
  refine lv_bipush (v := 64) hx hb d_Numbers_init_5 (by decide) ?_
  refine nw_arr (atype := .long) (kt := kA 1) (N' := 64) (a0 := (64, .inr (.inl (fun _ => 0)))) hx hb (hts _ ac_long) hK 1 rfl hP hD hS hA (fun _ => rfl) (by decide) (by decide) (Nat.le_of_ble_eq_true rfl) (Nat.le_of_ble_eq_true rfl) (Nat.le_of_ble_eq_true rfl) d_Numbers_init_7 (fun q1 H hP hD hS => ?_)
  have hP : va_P D classes [(h0, .inr (4, [.null, .int 0])), (q1, zL (kA 1) 64)] H := hP
  have hD : va_D A [(h0, .inr (4, [.null, .int 0])), (q1, zL (kA 1) 64)] := hD
  refine va_putF (D := D) (ci := 4) (v := .ref q1) (ty := .array .long) (C := R_Numbers) (T := F_Numbers) (N := 2) hx hb hts i_Numbers t_Numbers t_Numbers_ok n_Numbers hown hK hP hD hS 0 rfl rfl 0 (by decide) (hts _ fk_Numbers_9) (fun _ h9 => h9) rfl hin rfl (by decide +kernel) rfl rfl (Nat.le_of_ble_eq_true rfl) d_Numbers_init_9 (fun H locs hP hD hS => ?_)
  have hP : va_P D classes [(h0, .inr (4, [.ref q1, .int 0])), (q1, zL (kA 1) 64)] H := hP
  have hD : va_D A [(h0, .inr (4, [.ref q1, .int 0])), (q1, zL (kA 1) 64)] := hD
  refine lv_aload_n hx hb d_Numbers_init_12 rfl (lv_at hl 0 rfl) ?_
  refine lv_iconst (v := 0) hx hb d_Numbers_init_13 (by decide) ?_
  refine va_put (D := D) (ci := 4) (v := .int 0) (ty := .int) (C := R_Numbers) (T := F_Numbers) (N := 2) hx hb hts i_Numbers t_Numbers t_Numbers_ok n_Numbers hown hK hP hD hS 0 rfl rfl 1 (by decide) (hts _ fk_Numbers_13) (fun _ h9 => h9) rfl (by decide +kernel) rfl rfl (Nat.le_of_ble_eq_true rfl) d_Numbers_init_14 (fun H locs hP hD hS => ?_)
  have hP : va_P D classes [(h0, .inr (4, [.ref q1, .int 0])), (q1, zL (kA 1) 64)] H := hP
  have hD : va_D A [(h0, .inr (4, [.ref q1, .int 0])), (q1, zL (kA 1) 64)] := hD
  refine W.widen (k := 1) (n := 64) (Nat.le_of_ble_eq_true rfl) (Nat.le_of_ble_eq_true rfl) ?_
  exact W.vret hx hb hr (fun t ht hW => ⟨⟨(fun k => [h0, q1].getD k 0), rfl, rfl, by rw [ht]; exact hP, hD⟩, hS.F ht⟩) hS.2.2 d_Numbers_init_17 hlocks
abbrev w_Layers (kA : Nat → ClassId) (u : Nat → Nat) : va_W := [(u 0, .inr (5, [.ref (u 1), .int 0, .ref (u 2), .ref (u 3)])), (u 1, zI (kA 0) 60), (u 2, zI (kA 0) 61), (u 3, zI (kA 0) 8)]
set_option maxHeartbeats 4000000 in
set_option maxRecDepth 100000 in
theorem n_Layers_init (l : Launch) (D : va_G) (kA : Nat → ClassId) (h0 sz : Nat) : Met l y_Layers_init (.code y_Layers_init c_Layers_init 1 none :: TB) (rmI 3 129) (Pn D kA [(h0, .inr (5, [.null, .int 0, .null, .null]))] sz h0) (va_Qv (fun u : Nat → Nat => u 0 = h0) (Bn D (w_Layers kA) (va_A [(h0, .inr (5, [.null, .int 0, .null, .null]))] sz)) (va_A [(h0, .inr (5, [.null, .int 0, .null, .null]))] sz)) 3 129 (va_A [(h0, .inr (5, [.null, .int 0, .null, .null]))] sz) := by
  refine Met.ofW (cc := c_Layers_init) (maxL := 1) (ret := none) (by decide) rfl ?_
  intro p e s m args below meth c s₁ B hml hv
  obtain ⟨rfl, hsz, hP, hK, hD0⟩ := hv
  have hx := B.exec
  have hb := B.bytes
  have hr := B.returns
  have hts0 := atoms_spec (ws := Cond.code y_Layers_init c_Layers_init 1 none :: TB) B.pre
  have hts : ∀ w ∈ TB, w.before ([.ref h0] : List Value).toArray s = true := fun w hw => hts0 w (List.mem_cons_of_mem _ hw)
  have hown : s.vm.findClass R_Layers = some m.cls := findClass_of_methodNamed B.named
  have hlocks := B.notSynchronized
  have hin : meth.name = "<init>" := (name_of_methodNamed B.named B.method).1
  subst hsz
  have hD := hD0.self (sz := s.heap.size)
  generalize hAe : va_A [(h0, .inr (5, [.null, .int 0, .null, .null]))] s.heap.size = A at hD ⊢
  have hA : ∀ q : Nat, s.heap.size ≤ q → A q := fun q h => by rw [← hAe]; exact Or.inr h
  have hS : va_S A s.heap s.heap [] := va_S.rf
  have hl := lv_entry ([.ref h0]) (n := 1) (Nat.le_of_ble_eq_true rfl)
  rw [lg_entry_eq]
  generalize (lg_sl ([.ref h0]) ++ List.replicate (1 - (lg_sl ([.ref h0])).length) Slot.unset).toArray = ls at hl ⊢
  have hl : lv_has ls 1 [(0, .ref h0)] := hl
  refine lv_aload_n hx hb d_Layers_init_0 rfl (lv_at hl 0 rfl) ?_
  refine W.objInit hx hb hown (hts _ oi_Layers) (hts _ oi_i) (hts _ oi_c) rfl (by rw [hml]; exact hl.1) rfl d_Layers_init_1 (Nat.le_of_ble_eq_true rfl) (Nat.le_of_ble_eq_true rfl) ?_
  refine W.eq (g2 := F0 m 4 ls []) rfl ?_
  refine lv_aload_n hx hb d_Layers_init_4 rfl (lv_at hl 0 rfl) ?_
  refine lv_bipush (v := 60) hx hb d_Layers_init_5 (by decide) ?_
  refine nw_arr (atype := .int) (kt := kA 0) (N' := 60) (a0 := (60, .inl (fun _ => 0))) hx hb (hts _ ac_int) hK 0 rfl hP hD hS hA (fun _ => rfl) (by decide) (by decide) (Nat.le_of_ble_eq_true rfl) (Nat.le_of_ble_eq_true rfl) (Nat.le_of_ble_eq_true rfl) d_Layers_init_7 (fun q1 H hP hD hS => ?_)
  have hP : va_P D classes [(h0, .inr (5, [.null, .int 0, .null, .null])), (q1, zI (kA 0) 60)] H := hP
  have hD : va_D A [(h0, .inr (5, [.null, .int 0, .null, .null])), (q1, zI (kA 0) 60)] := hD
  refine va_putF (D := D) (ci := 5) (v := .ref q1) (ty := .array .int) (C := R_Layers) (T := F_Layers) (N := 4) hx hb hts i_Layers t_Layers t_Layers_ok n_Layers hown hK hP hD hS 0 rfl rfl 0 (by decide) (hts _ fk_Layers_9) (fun _ h9 => h9) rfl hin rfl (by decide +kernel) rfl rfl (Nat.le_of_ble_eq_true rfl) d_Layers_init_9 (fun H locs hP hD hS => ?_)
  have hP : va_P D classes [(h0, .inr (5, [.ref q1, .int 0, .null, .null])), (q1, zI (kA 0) 60)] H := hP
  have hD : va_D A [(h0, .inr (5, [.ref q1, .int 0, .null, .null])), (q1, zI (kA 0) 60)] := hD
  refine lv_aload_n hx hb d_Layers_init_12 rfl (lv_at hl 0 rfl) ?_
  refine lv_iconst (v := 0) hx hb d_Layers_init_13 (by decide) ?_
  refine va_put (D := D) (ci := 5) (v := .int 0) (ty := .int) (C := R_Layers) (T := F_Layers) (N := 4) hx hb hts i_Layers t_Layers t_Layers_ok n_Layers hown hK hP hD hS 0 rfl rfl 1 (by decide) (hts _ fk_Layers_15) (fun _ h9 => h9) rfl (by decide +kernel) rfl rfl (Nat.le_of_ble_eq_true rfl) d_Layers_init_14 (fun H locs hP hD hS => ?_)
  have hP : va_P D classes [(h0, .inr (5, [.ref q1, .int 0, .null, .null])), (q1, zI (kA 0) 60)] H := hP
  have hD : va_D A [(h0, .inr (5, [.ref q1, .int 0, .null, .null])), (q1, zI (kA 0) 60)] := hD
  refine lv_aload_n hx hb d_Layers_init_17 rfl (lv_at hl 0 rfl) ?_
  refine lv_bipush (v := 61) hx hb d_Layers_init_18 (by decide) ?_
  refine nw_arr (atype := .int) (kt := kA 0) (N' := 61) (a0 := (61, .inl (fun _ => 0))) hx hb (hts _ ac_int) hK 0 rfl hP hD hS hA (fun _ => rfl) (by decide) (by decide) (Nat.le_of_ble_eq_true rfl) (Nat.le_of_ble_eq_true rfl) (Nat.le_of_ble_eq_true rfl) d_Layers_init_20 (fun q2 H hP hD hS => ?_)
  have hP : va_P D classes [(h0, .inr (5, [.ref q1, .int 0, .null, .null])), (q1, zI (kA 0) 60), (q2, zI (kA 0) 61)] H := hP
  have hD : va_D A [(h0, .inr (5, [.ref q1, .int 0, .null, .null])), (q1, zI (kA 0) 60), (q2, zI (kA 0) 61)] := hD
  refine va_putF (D := D) (ci := 5) (v := .ref q2) (ty := .array .int) (C := R_Layers) (T := F_Layers) (N := 4) hx hb hts i_Layers t_Layers t_Layers_ok n_Layers hown hK hP hD hS 0 rfl rfl 2 (by decide) (hts _ fk_Layers_19) (fun _ h9 => h9) rfl hin rfl (by decide +kernel) rfl rfl (Nat.le_of_ble_eq_true rfl) d_Layers_init_22 (fun H locs hP hD hS => ?_)
  have hP : va_P D classes [(h0, .inr (5, [.ref q1, .int 0, .ref q2, .null])), (q1, zI (kA 0) 60), (q2, zI (kA 0) 61)] H := hP
  have hD : va_D A [(h0, .inr (5, [.ref q1, .int 0, .ref q2, .null])), (q1, zI (kA 0) 60), (q2, zI (kA 0) 61)] := hD
  refine lv_aload_n hx hb d_Layers_init_25 rfl (lv_at hl 0 rfl) ?_
  refine lv_bipush (v := 8) hx hb d_Layers_init_26 (by decide) ?_
  refine nw_arr (atype := .int) (kt := kA 0) (N' := 8) (a0 := (8, .inl (fun _ => 0))) hx hb (hts _ ac_int) hK 0 rfl hP hD hS hA (fun _ => rfl) (by decide) (by decide) (Nat.le_of_ble_eq_true rfl) (Nat.le_of_ble_eq_true rfl) (Nat.le_of_ble_eq_true rfl) d_Layers_init_28 (fun q3 H hP hD hS => ?_)
  have hP : va_P D classes [(h0, .inr (5, [.ref q1, .int 0, .ref q2, .null])), (q1, zI (kA 0) 60), (q2, zI (kA 0) 61), (q3, zI (kA 0) 8)] H := hP
  have hD : va_D A [(h0, .inr (5, [.ref q1, .int 0, .ref q2, .null])), (q1, zI (kA 0) 60), (q2, zI (kA 0) 61), (q3, zI (kA 0) 8)] := hD
  refine va_putF (D := D) (ci := 5) (v := .ref q3) (ty := .array .int) (C := R_Layers) (T := F_Layers) (N := 4) hx hb hts i_Layers t_Layers t_Layers_ok n_Layers hown hK hP hD hS 0 rfl rfl 3 (by decide) (hts _ fk_Layers_22) (fun _ h9 => h9) rfl hin rfl (by decide +kernel) rfl rfl (Nat.le_of_ble_eq_true rfl) d_Layers_init_30 (fun H locs hP hD hS => ?_)
  have hP : va_P D classes [(h0, .inr (5, [.ref q1, .int 0, .ref q2, .ref q3])), (q1, zI (kA 0) 60), (q2, zI (kA 0) 61), (q3, zI (kA 0) 8)] H := hP
  have hD : va_D A [(h0, .inr (5, [.ref q1, .int 0, .ref q2, .ref q3])), (q1, zI (kA 0) 60), (q2, zI (kA 0) 61), (q3, zI (kA 0) 8)] := hD
  refine W.widen (k := 3) (n := 129) (Nat.le_of_ble_eq_true rfl) (Nat.le_of_ble_eq_true rfl) ?_
  exact W.vret hx hb hr (fun t ht hW => ⟨⟨(fun k => [h0, q1, q2, q3].getD k 0), rfl, rfl, by rw [ht]; exact hP, hD⟩, hS.F ht⟩) hS.2.2 d_Layers_init_33 hlocks
abbrev w_Trial (kA : Nat → ClassId) (u : Nat → Nat) : va_W := [(u 0, .inr (6, [.ref (u 1), .int 2, .int 1])), (u 1, zL (kA 1) 32)]
set_option maxHeartbeats 4000000 in
set_option maxRecDepth 100000 in
theorem n_Trial_init (l : Launch) (D : va_G) (kA : Nat → ClassId) (h0 sz : Nat) : Met l y_Trial_init (.code y_Trial_init c_Trial_init 1 none :: TB) (rmI 1 32) (Pn D kA [(h0, .inr (6, [.null, .int 0, .int 0]))] sz h0) (va_Qv (fun u : Nat → Nat => u 0 = h0) (Bn D (w_Trial kA) (va_A [(h0, .inr (6, [.null, .int 0, .int 0]))] sz)) (va_A [(h0, .inr (6, [.null, .int 0, .int 0]))] sz)) 1 32 (va_A [(h0, .inr (6, [.null, .int 0, .int 0]))] sz) := by
  refine Met.ofW (cc := c_Trial_init) (maxL := 1) (ret := none) (by decide) rfl ?_
  intro p e s m args below meth c s₁ B hml hv
  obtain ⟨rfl, hsz, hP, hK, hD0⟩ := hv
  have hx := B.exec
  have hb := B.bytes
  have hr := B.returns
  have hts0 := atoms_spec (ws := Cond.code y_Trial_init c_Trial_init 1 none :: TB) B.pre
  have hts : ∀ w ∈ TB, w.before ([.ref h0] : List Value).toArray s = true := fun w hw => hts0 w (List.mem_cons_of_mem _ hw)
  have hown : s.vm.findClass R_Trial = some m.cls := findClass_of_methodNamed B.named
  have hlocks := B.notSynchronized
  have hin : meth.name = "<init>" := (name_of_methodNamed B.named B.method).1
  subst hsz
  have hD := hD0.self (sz := s.heap.size)
  generalize hAe : va_A [(h0, .inr (6, [.null, .int 0, .int 0]))] s.heap.size = A at hD ⊢
  have hA : ∀ q : Nat, s.heap.size ≤ q → A q := fun q h => by rw [← hAe]; exact Or.inr h
  have hS : va_S A s.heap s.heap [] := va_S.rf
  have hl := lv_entry ([.ref h0]) (n := 1) (Nat.le_of_ble_eq_true rfl)
  rw [lg_entry_eq]
  generalize (lg_sl ([.ref h0]) ++ List.replicate (1 - (lg_sl ([.ref h0])).length) Slot.unset).toArray = ls at hl ⊢
  have hl : lv_has ls 1 [(0, .ref h0)] := hl
  refine lv_aload_n hx hb d_Trial_init_0 rfl (lv_at hl 0 rfl) ?_
  refine W.objInit hx hb hown (hts _ oi_Trial) (hts _ oi_i) (hts _ oi_c) rfl (by rw [hml]; exact hl.1) rfl d_Trial_init_1 (Nat.le_of_ble_eq_true rfl) (Nat.le_of_ble_eq_true rfl) ?_
  refine W.eq (g2 := F0 m 4 ls []) rfl ?_
  refine lv_aload_n hx hb d_Trial_init_4 rfl (lv_at hl 0 rfl) ?_
  refine lv_bipush (v := 32) hx hb d_Trial_init_5 (by decide) ?_
  refine nw_arr (atype := .long) (kt := kA 1) (N' := 32) (a0 := (32, .inr (.inl (fun _ => 0)))) hx hb (hts _ ac_long) hK 1 rfl hP hD hS hA (fun _ => rfl) (by decide) (by decide) (Nat.le_of_ble_eq_true rfl) (Nat.le_of_ble_eq_true rfl) (Nat.le_of_ble_eq_true rfl) d_Trial_init_7 (fun q1 H hP hD hS => ?_)
  have hP : va_P D classes [(h0, .inr (6, [.null, .int 0, .int 0])), (q1, zL (kA 1) 32)] H := hP
  have hD : va_D A [(h0, .inr (6, [.null, .int 0, .int 0])), (q1, zL (kA 1) 32)] := hD
  refine va_putF (D := D) (ci := 6) (v := .ref q1) (ty := .array .long) (C := R_Trial) (T := F_Trial) (N := 3) hx hb hts i_Trial t_Trial t_Trial_ok n_Trial hown hK hP hD hS 0 rfl rfl 0 (by decide) (hts _ fk_Trial_13) (fun _ h9 => h9) rfl hin rfl (by decide +kernel) rfl rfl (Nat.le_of_ble_eq_true rfl) d_Trial_init_9 (fun H locs hP hD hS => ?_)
  have hP : va_P D classes [(h0, .inr (6, [.ref q1, .int 0, .int 0])), (q1, zL (kA 1) 32)] H := hP
  have hD : va_D A [(h0, .inr (6, [.ref q1, .int 0, .int 0])), (q1, zL (kA 1) 32)] := hD
  refine lv_aload_n hx hb d_Trial_init_12 rfl (lv_at hl 0 rfl) ?_
  refine lv_iconst (v := 2) hx hb d_Trial_init_13 (by decide) ?_
  refine va_put (D := D) (ci := 6) (v := .int 2) (ty := .int) (C := R_Trial) (T := F_Trial) (N := 3) hx hb hts i_Trial t_Trial t_Trial_ok n_Trial hown hK hP hD hS 0 rfl rfl 1 (by decide) (hts _ fk_Trial_17) (fun _ h9 => h9) rfl (by decide +kernel) rfl rfl (Nat.le_of_ble_eq_true rfl) d_Trial_init_14 (fun H locs hP hD hS => ?_)
  have hP : va_P D classes [(h0, .inr (6, [.ref q1, .int 2, .int 0])), (q1, zL (kA 1) 32)] H := hP
  have hD : va_D A [(h0, .inr (6, [.ref q1, .int 2, .int 0])), (q1, zL (kA 1) 32)] := hD
  refine lv_aload_n hx hb d_Trial_init_17 rfl (lv_at hl 0 rfl) ?_
  refine lv_iconst (v := 1) hx hb d_Trial_init_18 (by decide) ?_
  refine va_put (D := D) (ci := 6) (v := .int 1) (ty := .int) (C := R_Trial) (T := F_Trial) (N := 3) hx hb hts i_Trial t_Trial t_Trial_ok n_Trial hown hK hP hD hS 0 rfl rfl 2 (by decide) (hts _ fk_Trial_21) (fun _ h9 => h9) rfl (by decide +kernel) rfl rfl (Nat.le_of_ble_eq_true rfl) d_Trial_init_19 (fun H locs hP hD hS => ?_)
  have hP : va_P D classes [(h0, .inr (6, [.ref q1, .int 2, .int 1])), (q1, zL (kA 1) 32)] H := hP
  have hD : va_D A [(h0, .inr (6, [.ref q1, .int 2, .int 1])), (q1, zL (kA 1) 32)] := hD
  refine W.widen (k := 1) (n := 32) (Nat.le_of_ble_eq_true rfl) (Nat.le_of_ble_eq_true rfl) ?_
  exact W.vret hx hb hr (fun t ht hW => ⟨⟨(fun k => [h0, q1].getD k 0), rfl, rfl, by rw [ht]; exact hP, hD⟩, hS.F ht⟩) hS.2.2 d_Trial_init_22 hlocks
abbrev w_PatternSet (kA : Nat → ClassId) (u : Nat → Nat) : va_W := [(u 0, .inr (7, [.ref (u 1)])), (u 1, zL (kA 1) 4)]
set_option maxHeartbeats 4000000 in
set_option maxRecDepth 100000 in
theorem n_PatternSet_init (l : Launch) (D : va_G) (kA : Nat → ClassId) (h0 sz : Nat) : Met l y_PatternSet_init (.code y_PatternSet_init c_PatternSet_init 1 none :: TB) (rmI 1 4) (Pn D kA [(h0, .inr (7, [.null]))] sz h0) (va_Qv (fun u : Nat → Nat => u 0 = h0) (Bn D (w_PatternSet kA) (va_A [(h0, .inr (7, [.null]))] sz)) (va_A [(h0, .inr (7, [.null]))] sz)) 1 4 (va_A [(h0, .inr (7, [.null]))] sz) := by
  refine Met.ofW (cc := c_PatternSet_init) (maxL := 1) (ret := none) (by decide) rfl ?_
  intro p e s m args below meth c s₁ B hml hv
  obtain ⟨rfl, hsz, hP, hK, hD0⟩ := hv
  have hx := B.exec
  have hb := B.bytes
  have hr := B.returns
  have hts0 := atoms_spec (ws := Cond.code y_PatternSet_init c_PatternSet_init 1 none :: TB) B.pre
  have hts : ∀ w ∈ TB, w.before ([.ref h0] : List Value).toArray s = true := fun w hw => hts0 w (List.mem_cons_of_mem _ hw)
  have hown : s.vm.findClass R_PatternSet = some m.cls := findClass_of_methodNamed B.named
  have hlocks := B.notSynchronized
  have hin : meth.name = "<init>" := (name_of_methodNamed B.named B.method).1
  subst hsz
  have hD := hD0.self (sz := s.heap.size)
  generalize hAe : va_A [(h0, .inr (7, [.null]))] s.heap.size = A at hD ⊢
  have hA : ∀ q : Nat, s.heap.size ≤ q → A q := fun q h => by rw [← hAe]; exact Or.inr h
  have hS : va_S A s.heap s.heap [] := va_S.rf
  have hl := lv_entry ([.ref h0]) (n := 1) (Nat.le_of_ble_eq_true rfl)
  rw [lg_entry_eq]
  generalize (lg_sl ([.ref h0]) ++ List.replicate (1 - (lg_sl ([.ref h0])).length) Slot.unset).toArray = ls at hl ⊢
  have hl : lv_has ls 1 [(0, .ref h0)] := hl
  refine lv_aload_n hx hb d_PatternSet_init_0 rfl (lv_at hl 0 rfl) ?_
  refine W.objInit hx hb hown (hts _ oi_PatternSet) (hts _ oi_i) (hts _ oi_c) rfl (by rw [hml]; exact hl.1) rfl d_PatternSet_init_1 (Nat.le_of_ble_eq_true rfl) (Nat.le_of_ble_eq_true rfl) ?_
  refine W.eq (g2 := F0 m 4 ls []) rfl ?_
  refine lv_aload_n hx hb d_PatternSet_init_4 rfl (lv_at hl 0 rfl) ?_
  refine lv_iconst (v := 4) hx hb d_PatternSet_init_5 (by decide) ?_
  refine nw_arr (atype := .long) (kt := kA 1) (N' := 4) (a0 := (4, .inr (.inl (fun _ => 0)))) hx hb (hts _ ac_long) hK 1 rfl hP hD hS hA (fun _ => rfl) (by decide) (by decide) (Nat.le_of_ble_eq_true rfl) (Nat.le_of_ble_eq_true rfl) (Nat.le_of_ble_eq_true rfl) d_PatternSet_init_6 (fun q1 H hP hD hS => ?_)
  have hP : va_P D classes [(h0, .inr (7, [.null])), (q1, zL (kA 1) 4)] H := hP
  have hD : va_D A [(h0, .inr (7, [.null])), (q1, zL (kA 1) 4)] := hD
  refine va_putF (D := D) (ci := 7) (v := .ref q1) (ty := .array .long) (C := R_PatternSet) (T := F_PatternSet) (N := 1) hx hb hts i_PatternSet t_PatternSet t_PatternSet_ok n_PatternSet hown hK hP hD hS 0 rfl rfl 0 (by decide) (hts _ fk_PatternSet_11) (fun _ h9 => h9) rfl hin rfl (by decide +kernel) rfl rfl (Nat.le_of_ble_eq_true rfl) d_PatternSet_init_8 (fun H locs hP hD hS => ?_)
  have hP : va_P D classes [(h0, .inr (7, [.ref q1])), (q1, zL (kA 1) 4)] H := hP
  have hD : va_D A [(h0, .inr (7, [.ref q1])), (q1, zL (kA 1) 4)] := hD
  refine W.widen (k := 1) (n := 4) (Nat.le_of_ble_eq_true rfl) (Nat.le_of_ble_eq_true rfl) ?_
  exact W.vret hx hb hr (fun t ht hW => ⟨⟨(fun k => [h0, q1].getD k 0), rfl, rfl, by rw [ht]; exact hP, hD⟩, hS.F ht⟩) hS.2.2 d_PatternSet_init_11 hlocks
abbrev w_Search (kA : Nat → ClassId) (u : Nat → Nat) : va_W := [(u 0, .inr (8, [.ref (u 1), .ref (u 2), .ref (u 3), .ref (u 4), .ref (u 5), .int 1, .int 0, .int 0, .int 0, .int 0])), (u 1, zI (kA 0) 10), (u 2, zI (kA 0) 10), (u 3, zI (kA 0) 26), (u 4, zL (kA 1) 64), (u 5, zL (kA 1) 64)]
set_option maxHeartbeats 4000000 in
set_option maxRecDepth 100000 in
theorem n_Search_init (l : Launch) (D : va_G) (kA : Nat → ClassId) (h0 sz : Nat) : Met l y_Search_init (.code y_Search_init c_Search_init 1 none :: TB) (rmI 5 174) (Pn D kA [(h0, .inr (8, [.null, .null, .null, .null, .null, .int 0, .int 0, .int 0, .int 0, .int 0]))] sz h0) (va_Qv (fun u : Nat → Nat => u 0 = h0) (Bn D (w_Search kA) (va_A [(h0, .inr (8, [.null, .null, .null, .null, .null, .int 0, .int 0, .int 0, .int 0, .int 0]))] sz)) (va_A [(h0, .inr (8, [.null, .null, .null, .null, .null, .int 0, .int 0, .int 0, .int 0, .int 0]))] sz)) 5 174 (va_A [(h0, .inr (8, [.null, .null, .null, .null, .null, .int 0, .int 0, .int 0, .int 0, .int 0]))] sz) := by
  refine Met.ofW (cc := c_Search_init) (maxL := 1) (ret := none) (by decide) rfl ?_
  intro p e s m args below meth c s₁ B hml hv
  obtain ⟨rfl, hsz, hP, hK, hD0⟩ := hv
  have hx := B.exec
  have hb := B.bytes
  have hr := B.returns
  have hts0 := atoms_spec (ws := Cond.code y_Search_init c_Search_init 1 none :: TB) B.pre
  have hts : ∀ w ∈ TB, w.before ([.ref h0] : List Value).toArray s = true := fun w hw => hts0 w (List.mem_cons_of_mem _ hw)
  have hown : s.vm.findClass R_Search = some m.cls := findClass_of_methodNamed B.named
  have hlocks := B.notSynchronized
  have hin : meth.name = "<init>" := (name_of_methodNamed B.named B.method).1
  subst hsz
  have hD := hD0.self (sz := s.heap.size)
  generalize hAe : va_A [(h0, .inr (8, [.null, .null, .null, .null, .null, .int 0, .int 0, .int 0, .int 0, .int 0]))] s.heap.size = A at hD ⊢
  have hA : ∀ q : Nat, s.heap.size ≤ q → A q := fun q h => by rw [← hAe]; exact Or.inr h
  have hS : va_S A s.heap s.heap [] := va_S.rf
  have hl := lv_entry ([.ref h0]) (n := 1) (Nat.le_of_ble_eq_true rfl)
  rw [lg_entry_eq]
  generalize (lg_sl ([.ref h0]) ++ List.replicate (1 - (lg_sl ([.ref h0])).length) Slot.unset).toArray = ls at hl ⊢
  have hl : lv_has ls 1 [(0, .ref h0)] := hl
  refine lv_aload_n hx hb d_Search_init_0 rfl (lv_at hl 0 rfl) ?_
  refine W.objInit hx hb hown (hts _ oi_Search) (hts _ oi_i) (hts _ oi_c) rfl (by rw [hml]; exact hl.1) rfl d_Search_init_1 (Nat.le_of_ble_eq_true rfl) (Nat.le_of_ble_eq_true rfl) ?_
  refine W.eq (g2 := F0 m 4 ls []) rfl ?_
  refine lv_aload_n hx hb d_Search_init_4 rfl (lv_at hl 0 rfl) ?_
  refine lv_bipush (v := 10) hx hb d_Search_init_5 (by decide) ?_
  refine nw_arr (atype := .int) (kt := kA 0) (N' := 10) (a0 := (10, .inl (fun _ => 0))) hx hb (hts _ ac_int) hK 0 rfl hP hD hS hA (fun _ => rfl) (by decide) (by decide) (Nat.le_of_ble_eq_true rfl) (Nat.le_of_ble_eq_true rfl) (Nat.le_of_ble_eq_true rfl) d_Search_init_7 (fun q1 H hP hD hS => ?_)
  have hP : va_P D classes [(h0, .inr (8, [.null, .null, .null, .null, .null, .int 0, .int 0, .int 0, .int 0, .int 0])), (q1, zI (kA 0) 10)] H := hP
  have hD : va_D A [(h0, .inr (8, [.null, .null, .null, .null, .null, .int 0, .int 0, .int 0, .int 0, .int 0])), (q1, zI (kA 0) 10)] := hD
  refine va_putF (D := D) (ci := 8) (v := .ref q1) (ty := .array .int) (C := R_Search) (T := F_Search) (N := 10) hx hb hts i_Search t_Search t_Search_ok n_Search hown hK hP hD hS 0 rfl rfl 0 (by decide) (hts _ fk_Search_9) (fun _ h9 => h9) rfl hin rfl (by decide +kernel) rfl rfl (Nat.le_of_ble_eq_true rfl) d_Search_init_9 (fun H locs hP hD hS => ?_)
  have hP : va_P D classes [(h0, .inr (8, [.ref q1, .null, .null, .null, .null, .int 0, .int 0, .int 0, .int 0, .int 0])), (q1, zI (kA 0) 10)] H := hP
  have hD : va_D A [(h0, .inr (8, [.ref q1, .null, .null, .null, .null, .int 0, .int 0, .int 0, .int 0, .int 0])), (q1, zI (kA 0) 10)] := hD
  refine lv_aload_n hx hb d_Search_init_12 rfl (lv_at hl 0 rfl) ?_
  refine lv_bipush (v := 10) hx hb d_Search_init_13 (by decide) ?_
  refine nw_arr (atype := .int) (kt := kA 0) (N' := 10) (a0 := (10, .inl (fun _ => 0))) hx hb (hts _ ac_int) hK 0 rfl hP hD hS hA (fun _ => rfl) (by decide) (by decide) (Nat.le_of_ble_eq_true rfl) (Nat.le_of_ble_eq_true rfl) (Nat.le_of_ble_eq_true rfl) d_Search_init_15 (fun q2 H hP hD hS => ?_)
  have hP : va_P D classes [(h0, .inr (8, [.ref q1, .null, .null, .null, .null, .int 0, .int 0, .int 0, .int 0, .int 0])), (q1, zI (kA 0) 10), (q2, zI (kA 0) 10)] H := hP
  have hD : va_D A [(h0, .inr (8, [.ref q1, .null, .null, .null, .null, .int 0, .int 0, .int 0, .int 0, .int 0])), (q1, zI (kA 0) 10), (q2, zI (kA 0) 10)] := hD
  refine va_putF (D := D) (ci := 8) (v := .ref q2) (ty := .array .int) (C := R_Search) (T := F_Search) (N := 10) hx hb hts i_Search t_Search t_Search_ok n_Search hown hK hP hD hS 0 rfl rfl 1 (by decide) (hts _ fk_Search_13) (fun _ h9 => h9) rfl hin rfl (by decide +kernel) rfl rfl (Nat.le_of_ble_eq_true rfl) d_Search_init_17 (fun H locs hP hD hS => ?_)
  have hP : va_P D classes [(h0, .inr (8, [.ref q1, .ref q2, .null, .null, .null, .int 0, .int 0, .int 0, .int 0, .int 0])), (q1, zI (kA 0) 10), (q2, zI (kA 0) 10)] H := hP
  have hD : va_D A [(h0, .inr (8, [.ref q1, .ref q2, .null, .null, .null, .int 0, .int 0, .int 0, .int 0, .int 0])), (q1, zI (kA 0) 10), (q2, zI (kA 0) 10)] := hD
  refine lv_aload_n hx hb d_Search_init_20 rfl (lv_at hl 0 rfl) ?_
  refine lv_bipush (v := 26) hx hb d_Search_init_21 (by decide) ?_
  refine nw_arr (atype := .int) (kt := kA 0) (N' := 26) (a0 := (26, .inl (fun _ => 0))) hx hb (hts _ ac_int) hK 0 rfl hP hD hS hA (fun _ => rfl) (by decide) (by decide) (Nat.le_of_ble_eq_true rfl) (Nat.le_of_ble_eq_true rfl) (Nat.le_of_ble_eq_true rfl) d_Search_init_23 (fun q3 H hP hD hS => ?_)
  have hP : va_P D classes [(h0, .inr (8, [.ref q1, .ref q2, .null, .null, .null, .int 0, .int 0, .int 0, .int 0, .int 0])), (q1, zI (kA 0) 10), (q2, zI (kA 0) 10), (q3, zI (kA 0) 26)] H := hP
  have hD : va_D A [(h0, .inr (8, [.ref q1, .ref q2, .null, .null, .null, .int 0, .int 0, .int 0, .int 0, .int 0])), (q1, zI (kA 0) 10), (q2, zI (kA 0) 10), (q3, zI (kA 0) 26)] := hD
  refine va_putF (D := D) (ci := 8) (v := .ref q3) (ty := .array .int) (C := R_Search) (T := F_Search) (N := 10) hx hb hts i_Search t_Search t_Search_ok n_Search hown hK hP hD hS 0 rfl rfl 2 (by decide) (hts _ fk_Search_16) (fun _ h9 => h9) rfl hin rfl (by decide +kernel) rfl rfl (Nat.le_of_ble_eq_true rfl) d_Search_init_25 (fun H locs hP hD hS => ?_)
  have hP : va_P D classes [(h0, .inr (8, [.ref q1, .ref q2, .ref q3, .null, .null, .int 0, .int 0, .int 0, .int 0, .int 0])), (q1, zI (kA 0) 10), (q2, zI (kA 0) 10), (q3, zI (kA 0) 26)] H := hP
  have hD : va_D A [(h0, .inr (8, [.ref q1, .ref q2, .ref q3, .null, .null, .int 0, .int 0, .int 0, .int 0, .int 0])), (q1, zI (kA 0) 10), (q2, zI (kA 0) 10), (q3, zI (kA 0) 26)] := hD
  refine lv_aload_n hx hb d_Search_init_28 rfl (lv_at hl 0 rfl) ?_
  refine lv_bipush (v := 64) hx hb d_Search_init_29 (by decide) ?_
  refine nw_arr (atype := .long) (kt := kA 1) (N' := 64) (a0 := (64, .inr (.inl (fun _ => 0)))) hx hb (hts _ ac_long) hK 1 rfl hP hD hS hA (fun _ => rfl) (by decide) (by decide) (Nat.le_of_ble_eq_true rfl) (Nat.le_of_ble_eq_true rfl) (Nat.le_of_ble_eq_true rfl) d_Search_init_31 (fun q4 H hP hD hS => ?_)
  have hP : va_P D classes [(h0, .inr (8, [.ref q1, .ref q2, .ref q3, .null, .null, .int 0, .int 0, .int 0, .int 0, .int 0])), (q1, zI (kA 0) 10), (q2, zI (kA 0) 10), (q3, zI (kA 0) 26), (q4, zL (kA 1) 64)] H := hP
  have hD : va_D A [(h0, .inr (8, [.ref q1, .ref q2, .ref q3, .null, .null, .int 0, .int 0, .int 0, .int 0, .int 0])), (q1, zI (kA 0) 10), (q2, zI (kA 0) 10), (q3, zI (kA 0) 26), (q4, zL (kA 1) 64)] := hD
  refine va_putF (D := D) (ci := 8) (v := .ref q4) (ty := .array .long) (C := R_Search) (T := F_Search) (N := 10) hx hb hts i_Search t_Search t_Search_ok n_Search hown hK hP hD hS 0 rfl rfl 3 (by decide) (hts _ fk_Search_19) (fun _ h9 => h9) rfl hin rfl (by decide +kernel) rfl rfl (Nat.le_of_ble_eq_true rfl) d_Search_init_33 (fun H locs hP hD hS => ?_)
  have hP : va_P D classes [(h0, .inr (8, [.ref q1, .ref q2, .ref q3, .ref q4, .null, .int 0, .int 0, .int 0, .int 0, .int 0])), (q1, zI (kA 0) 10), (q2, zI (kA 0) 10), (q3, zI (kA 0) 26), (q4, zL (kA 1) 64)] H := hP
  have hD : va_D A [(h0, .inr (8, [.ref q1, .ref q2, .ref q3, .ref q4, .null, .int 0, .int 0, .int 0, .int 0, .int 0])), (q1, zI (kA 0) 10), (q2, zI (kA 0) 10), (q3, zI (kA 0) 26), (q4, zL (kA 1) 64)] := hD
  refine lv_aload_n hx hb d_Search_init_36 rfl (lv_at hl 0 rfl) ?_
  refine lv_bipush (v := 64) hx hb d_Search_init_37 (by decide) ?_
  refine nw_arr (atype := .long) (kt := kA 1) (N' := 64) (a0 := (64, .inr (.inl (fun _ => 0)))) hx hb (hts _ ac_long) hK 1 rfl hP hD hS hA (fun _ => rfl) (by decide) (by decide) (Nat.le_of_ble_eq_true rfl) (Nat.le_of_ble_eq_true rfl) (Nat.le_of_ble_eq_true rfl) d_Search_init_39 (fun q5 H hP hD hS => ?_)
  have hP : va_P D classes [(h0, .inr (8, [.ref q1, .ref q2, .ref q3, .ref q4, .null, .int 0, .int 0, .int 0, .int 0, .int 0])), (q1, zI (kA 0) 10), (q2, zI (kA 0) 10), (q3, zI (kA 0) 26), (q4, zL (kA 1) 64), (q5, zL (kA 1) 64)] H := hP
  have hD : va_D A [(h0, .inr (8, [.ref q1, .ref q2, .ref q3, .ref q4, .null, .int 0, .int 0, .int 0, .int 0, .int 0])), (q1, zI (kA 0) 10), (q2, zI (kA 0) 10), (q3, zI (kA 0) 26), (q4, zL (kA 1) 64), (q5, zL (kA 1) 64)] := hD
  refine va_putF (D := D) (ci := 8) (v := .ref q5) (ty := .array .long) (C := R_Search) (T := F_Search) (N := 10) hx hb hts i_Search t_Search t_Search_ok n_Search hown hK hP hD hS 0 rfl rfl 4 (by decide) (hts _ fk_Search_23) (fun _ h9 => h9) rfl hin rfl (by decide +kernel) rfl rfl (Nat.le_of_ble_eq_true rfl) d_Search_init_41 (fun H locs hP hD hS => ?_)
  have hP : va_P D classes [(h0, .inr (8, [.ref q1, .ref q2, .ref q3, .ref q4, .ref q5, .int 0, .int 0, .int 0, .int 0, .int 0])), (q1, zI (kA 0) 10), (q2, zI (kA 0) 10), (q3, zI (kA 0) 26), (q4, zL (kA 1) 64), (q5, zL (kA 1) 64)] H := hP
  have hD : va_D A [(h0, .inr (8, [.ref q1, .ref q2, .ref q3, .ref q4, .ref q5, .int 0, .int 0, .int 0, .int 0, .int 0])), (q1, zI (kA 0) 10), (q2, zI (kA 0) 10), (q3, zI (kA 0) 26), (q4, zL (kA 1) 64), (q5, zL (kA 1) 64)] := hD
  refine lv_aload_n hx hb d_Search_init_44 rfl (lv_at hl 0 rfl) ?_
  refine lv_iconst (v := 1) hx hb d_Search_init_45 (by decide) ?_
  refine va_put (D := D) (ci := 8) (v := .int 1) (ty := .int) (C := R_Search) (T := F_Search) (N := 10) hx hb hts i_Search t_Search t_Search_ok n_Search hown hK hP hD hS 0 rfl rfl 5 (by decide) (hts _ fk_Search_26) (fun _ h9 => h9) rfl (by decide +kernel) rfl rfl (Nat.le_of_ble_eq_true rfl) d_Search_init_46 (fun H locs hP hD hS => ?_)
  have hP : va_P D classes [(h0, .inr (8, [.ref q1, .ref q2, .ref q3, .ref q4, .ref q5, .int 1, .int 0, .int 0, .int 0, .int 0])), (q1, zI (kA 0) 10), (q2, zI (kA 0) 10), (q3, zI (kA 0) 26), (q4, zL (kA 1) 64), (q5, zL (kA 1) 64)] H := hP
  have hD : va_D A [(h0, .inr (8, [.ref q1, .ref q2, .ref q3, .ref q4, .ref q5, .int 1, .int 0, .int 0, .int 0, .int 0])), (q1, zI (kA 0) 10), (q2, zI (kA 0) 10), (q3, zI (kA 0) 26), (q4, zL (kA 1) 64), (q5, zL (kA 1) 64)] := hD
  refine lv_aload_n hx hb d_Search_init_49 rfl (lv_at hl 0 rfl) ?_
  refine lv_iconst (v := 0) hx hb d_Search_init_50 (by decide) ?_
  refine va_put (D := D) (ci := 8) (v := .int 0) (ty := .int) (C := R_Search) (T := F_Search) (N := 10) hx hb hts i_Search t_Search t_Search_ok n_Search hown hK hP hD hS 0 rfl rfl 6 (by decide) (hts _ fk_Search_30) (fun _ h9 => h9) rfl (by decide +kernel) rfl rfl (Nat.le_of_ble_eq_true rfl) d_Search_init_51 (fun H locs hP hD hS => ?_)
  have hP : va_P D classes [(h0, .inr (8, [.ref q1, .ref q2, .ref q3, .ref q4, .ref q5, .int 1, .int 0, .int 0, .int 0, .int 0])), (q1, zI (kA 0) 10), (q2, zI (kA 0) 10), (q3, zI (kA 0) 26), (q4, zL (kA 1) 64), (q5, zL (kA 1) 64)] H := hP
  have hD : va_D A [(h0, .inr (8, [.ref q1, .ref q2, .ref q3, .ref q4, .ref q5, .int 1, .int 0, .int 0, .int 0, .int 0])), (q1, zI (kA 0) 10), (q2, zI (kA 0) 10), (q3, zI (kA 0) 26), (q4, zL (kA 1) 64), (q5, zL (kA 1) 64)] := hD
  refine lv_aload_n hx hb d_Search_init_54 rfl (lv_at hl 0 rfl) ?_
  refine lv_iconst (v := 0) hx hb d_Search_init_55 (by decide) ?_
  refine va_put (D := D) (ci := 8) (v := .int 0) (ty := .int) (C := R_Search) (T := F_Search) (N := 10) hx hb hts i_Search t_Search t_Search_ok n_Search hown hK hP hD hS 0 rfl rfl 7 (by decide) (hts _ fk_Search_33) (fun _ h9 => h9) rfl (by decide +kernel) rfl rfl (Nat.le_of_ble_eq_true rfl) d_Search_init_56 (fun H locs hP hD hS => ?_)
  have hP : va_P D classes [(h0, .inr (8, [.ref q1, .ref q2, .ref q3, .ref q4, .ref q5, .int 1, .int 0, .int 0, .int 0, .int 0])), (q1, zI (kA 0) 10), (q2, zI (kA 0) 10), (q3, zI (kA 0) 26), (q4, zL (kA 1) 64), (q5, zL (kA 1) 64)] H := hP
  have hD : va_D A [(h0, .inr (8, [.ref q1, .ref q2, .ref q3, .ref q4, .ref q5, .int 1, .int 0, .int 0, .int 0, .int 0])), (q1, zI (kA 0) 10), (q2, zI (kA 0) 10), (q3, zI (kA 0) 26), (q4, zL (kA 1) 64), (q5, zL (kA 1) 64)] := hD
  refine lv_aload_n hx hb d_Search_init_59 rfl (lv_at hl 0 rfl) ?_
  refine lv_iconst (v := 0) hx hb d_Search_init_60 (by decide) ?_
  refine va_put (D := D) (ci := 8) (v := .int 0) (ty := .int) (C := R_Search) (T := F_Search) (N := 10) hx hb hts i_Search t_Search t_Search_ok n_Search hown hK hP hD hS 0 rfl rfl 8 (by decide) (hts _ fk_Search_36) (fun _ h9 => h9) rfl (by decide +kernel) rfl rfl (Nat.le_of_ble_eq_true rfl) d_Search_init_61 (fun H locs hP hD hS => ?_)
  have hP : va_P D classes [(h0, .inr (8, [.ref q1, .ref q2, .ref q3, .ref q4, .ref q5, .int 1, .int 0, .int 0, .int 0, .int 0])), (q1, zI (kA 0) 10), (q2, zI (kA 0) 10), (q3, zI (kA 0) 26), (q4, zL (kA 1) 64), (q5, zL (kA 1) 64)] H := hP
  have hD : va_D A [(h0, .inr (8, [.ref q1, .ref q2, .ref q3, .ref q4, .ref q5, .int 1, .int 0, .int 0, .int 0, .int 0])), (q1, zI (kA 0) 10), (q2, zI (kA 0) 10), (q3, zI (kA 0) 26), (q4, zL (kA 1) 64), (q5, zL (kA 1) 64)] := hD
  refine lv_aload_n hx hb d_Search_init_64 rfl (lv_at hl 0 rfl) ?_
  refine lv_iconst (v := 0) hx hb d_Search_init_65 (by decide) ?_
  refine va_put (D := D) (ci := 8) (v := .int 0) (ty := .int) (C := R_Search) (T := F_Search) (N := 10) hx hb hts i_Search t_Search t_Search_ok n_Search hown hK hP hD hS 0 rfl rfl 9 (by decide) (hts _ fk_Search_39) (fun _ h9 => h9) rfl (by decide +kernel) rfl rfl (Nat.le_of_ble_eq_true rfl) d_Search_init_66 (fun H locs hP hD hS => ?_)
  have hP : va_P D classes [(h0, .inr (8, [.ref q1, .ref q2, .ref q3, .ref q4, .ref q5, .int 1, .int 0, .int 0, .int 0, .int 0])), (q1, zI (kA 0) 10), (q2, zI (kA 0) 10), (q3, zI (kA 0) 26), (q4, zL (kA 1) 64), (q5, zL (kA 1) 64)] H := hP
  have hD : va_D A [(h0, .inr (8, [.ref q1, .ref q2, .ref q3, .ref q4, .ref q5, .int 1, .int 0, .int 0, .int 0, .int 0])), (q1, zI (kA 0) 10), (q2, zI (kA 0) 10), (q3, zI (kA 0) 26), (q4, zL (kA 1) 64), (q5, zL (kA 1) 64)] := hD
  refine W.widen (k := 5) (n := 174) (Nat.le_of_ble_eq_true rfl) (Nat.le_of_ble_eq_true rfl) ?_
  exact W.vret hx hb hr (fun t ht hW => ⟨⟨(fun k => [h0, q1, q2, q3, q4, q5].getD k 0), rfl, rfl, by rw [ht]; exact hP, hD⟩, hS.F ht⟩) hS.2.2 d_Search_init_69 hlocks
abbrev w_M (kA : Nat → ClassId) (u : Nat → Nat) : va_W := [(u 0, .inr (9, [.int 0, .int 0, .ref (u 1), .ref (u 2), .ref (u 3), .ref (u 4), .ref (u 5), .ref (u 6), .int 0, .int 0, .int 0, .int 0, .ref (u 7), .ref (u 8), .int 0, .int 0, .ref (u 9), .int 0, .ref (u 10), .ref (u 11), .ref (u 12), .long 0, .int 0, .ref (u 13), .ref (u 14), .ref (u 15), .ref (u 16), .ref (u 17), .ref (u 18), .int 0, .int 0, .ref (u 19)])), (u 1, zL (kA 1) 64), (u 2, .inl (kA 0, 4, .inl (upd (upd (upd (upd (fun _ => 0) (tn 0) 4) (tn 1) 4) (tn 2) 4) (tn 3) 4))), (u 3, zI (kA 0) 4), (u 4, zI (kA 0) 240), (u 5, zI (kA 0) 240), (u 6, zI (kA 0) 200), (u 7, zI (kA 0) 60), (u 8, zI (kA 0) 60), (u 9, zI (kA 0) 8), (u 10, zI (kA 0) 60), (u 11, zI (kA 0) 8), (u 12, zI (kA 0) 8), (u 13, zI (kA 0) 8), (u 14, zI (kA 3) 256), (u 15, zI (kA 0) 8), (u 16, zL (kA 1) 256), (u 17, zL (kA 1) 2000), (u 18, zL (kA 1) 2000), (u 19, zI (kA 0) 8)]
set_option maxHeartbeats 4000000 in
set_option maxRecDepth 100000 in
theorem n_M_init (l : Launch) (D : va_G) (kA : Nat → ClassId) (h0 sz : Nat) : Met l y_M_init (.code y_M_init c_M_init 1 none :: TB) (rmI 19 5492) (Pn D kA [(h0, .inr (9, [.int 0, .int 0, .null, .null, .null, .null, .null, .null, .int 0, .int 0, .int 0, .int 0, .null, .null, .int 0, .int 0, .null, .int 0, .null, .null, .null, .long 0, .int 0, .null, .null, .null, .null, .null, .null, .int 0, .int 0, .null]))] sz h0) (va_Qv (fun u : Nat → Nat => u 0 = h0) (Bn D (w_M kA) (va_A [(h0, .inr (9, [.int 0, .int 0, .null, .null, .null, .null, .null, .null, .int 0, .int 0, .int 0, .int 0, .null, .null, .int 0, .int 0, .null, .int 0, .null, .null, .null, .long 0, .int 0, .null, .null, .null, .null, .null, .null, .int 0, .int 0, .null]))] sz)) (va_A [(h0, .inr (9, [.int 0, .int 0, .null, .null, .null, .null, .null, .null, .int 0, .int 0, .int 0, .int 0, .null, .null, .int 0, .int 0, .null, .int 0, .null, .null, .null, .long 0, .int 0, .null, .null, .null, .null, .null, .null, .int 0, .int 0, .null]))] sz)) 19 5492 (va_A [(h0, .inr (9, [.int 0, .int 0, .null, .null, .null, .null, .null, .null, .int 0, .int 0, .int 0, .int 0, .null, .null, .int 0, .int 0, .null, .int 0, .null, .null, .null, .long 0, .int 0, .null, .null, .null, .null, .null, .null, .int 0, .int 0, .null]))] sz) := by
  refine Met.ofW (cc := c_M_init) (maxL := 1) (ret := none) (by decide) rfl ?_
  intro p e s m args below meth c s₁ B hml hv
  obtain ⟨rfl, hsz, hP, hK, hD0⟩ := hv
  have hx := B.exec
  have hb := B.bytes
  have hr := B.returns
  have hts0 := atoms_spec (ws := Cond.code y_M_init c_M_init 1 none :: TB) B.pre
  have hts : ∀ w ∈ TB, w.before ([.ref h0] : List Value).toArray s = true := fun w hw => hts0 w (List.mem_cons_of_mem _ hw)
  have hown : s.vm.findClass R_M = some m.cls := findClass_of_methodNamed B.named
  have hlocks := B.notSynchronized
  have hin : meth.name = "<init>" := (name_of_methodNamed B.named B.method).1
  subst hsz
  have hD := hD0.self (sz := s.heap.size)
  generalize hAe : va_A [(h0, .inr (9, [.int 0, .int 0, .null, .null, .null, .null, .null, .null, .int 0, .int 0, .int 0, .int 0, .null, .null, .int 0, .int 0, .null, .int 0, .null, .null, .null, .long 0, .int 0, .null, .null, .null, .null, .null, .null, .int 0, .int 0, .null]))] s.heap.size = A at hD ⊢
  have hA : ∀ q : Nat, s.heap.size ≤ q → A q := fun q h => by rw [← hAe]; exact Or.inr h
  have hS : va_S A s.heap s.heap [] := va_S.rf
  have hl := lv_entry ([.ref h0]) (n := 1) (Nat.le_of_ble_eq_true rfl)
  rw [lg_entry_eq]
  generalize (lg_sl ([.ref h0]) ++ List.replicate (1 - (lg_sl ([.ref h0])).length) Slot.unset).toArray = ls at hl ⊢
  have hl : lv_has ls 1 [(0, .ref h0)] := hl
  refine lv_aload_n hx hb d_M_init_0 rfl (lv_at hl 0 rfl) ?_
  refine W.objInit hx hb hown (hts _ oi_M) (hts _ oi_i) (hts _ oi_c) rfl (by rw [hml]; exact hl.1) rfl d_M_init_1 (Nat.le_of_ble_eq_true rfl) (Nat.le_of_ble_eq_true rfl) ?_
  refine W.eq (g2 := F0 m 4 ls []) rfl ?_
  refine lv_aload_n hx hb d_M_init_4 rfl (lv_at hl 0 rfl) ?_
  refine lv_bipush (v := 64) hx hb d_M_init_5 (by decide) ?_
  refine nw_arr (atype := .long) (kt := kA 1) (N' := 64) (a0 := (64, .inr (.inl (fun _ => 0)))) hx hb (hts _ ac_long) hK 1 rfl hP hD hS hA (fun _ => rfl) (by decide) (by decide) (Nat.le_of_ble_eq_true rfl) (Nat.le_of_ble_eq_true rfl) (Nat.le_of_ble_eq_true rfl) d_M_init_7 (fun q1 H hP hD hS => ?_)
  have hP : va_P D classes [(h0, .inr (9, [.int 0, .int 0, .null, .null, .null, .null, .null, .null, .int 0, .int 0, .int 0, .int 0, .null, .null, .int 0, .int 0, .null, .int 0, .null, .null, .null, .long 0, .int 0, .null, .null, .null, .null, .null, .null, .int 0, .int 0, .null])), (q1, zL (kA 1) 64)] H := hP
  have hD : va_D A [(h0, .inr (9, [.int 0, .int 0, .null, .null, .null, .null, .null, .null, .int 0, .int 0, .int 0, .int 0, .null, .null, .int 0, .int 0, .null, .int 0, .null, .null, .null, .long 0, .int 0, .null, .null, .null, .null, .null, .null, .int 0, .int 0, .null])), (q1, zL (kA 1) 64)] := hD
  refine va_putF (D := D) (ci := 9) (v := .ref q1) (ty := .array .long) (C := R_M) (T := F_M) (N := 32) hx hb hts i_M t_M t_M_ok n_M hown hK hP hD hS 0 rfl rfl 2 (by decide) (hts _ fk_M_7) (fun _ h9 => h9) rfl hin rfl (by decide +kernel) rfl rfl (Nat.le_of_ble_eq_true rfl) d_M_init_9 (fun H locs hP hD hS => ?_)
  have hP : va_P D classes [(h0, .inr (9, [.int 0, .int 0, .ref q1, .null, .null, .null, .null, .null, .int 0, .int 0, .int 0, .int 0, .null, .null, .int 0, .int 0, .null, .int 0, .null, .null, .null, .long 0, .int 0, .null, .null, .null, .null, .null, .null, .int 0, .int 0, .null])), (q1, zL (kA 1) 64)] H := hP
  have hD : va_D A [(h0, .inr (9, [.int 0, .int 0, .ref q1, .null, .null, .null, .null, .null, .int 0, .int 0, .int 0, .int 0, .null, .null, .int 0, .int 0, .null, .int 0, .null, .null, .null, .long 0, .int 0, .null, .null, .null, .null, .null, .null, .int 0, .int 0, .null])), (q1, zL (kA 1) 64)] := hD
  refine lv_aload_n hx hb d_M_init_12 rfl (lv_at hl 0 rfl) ?_
  refine lv_iconst (v := 4) hx hb d_M_init_13 (by decide) ?_
  refine nw_arr (atype := .int) (kt := kA 0) (N' := 4) (a0 := (4, .inl (fun _ => 0))) hx hb (hts _ ac_int) hK 0 rfl hP hD hS hA (fun _ => rfl) (by decide) (by decide) (Nat.le_of_ble_eq_true rfl) (Nat.le_of_ble_eq_true rfl) (Nat.le_of_ble_eq_true rfl) d_M_init_14 (fun q2 H hP hD hS => ?_)
  have hP : va_P D classes [(h0, .inr (9, [.int 0, .int 0, .ref q1, .null, .null, .null, .null, .null, .int 0, .int 0, .int 0, .int 0, .null, .null, .int 0, .int 0, .null, .int 0, .null, .null, .null, .long 0, .int 0, .null, .null, .null, .null, .null, .null, .int 0, .int 0, .null])), (q1, zL (kA 1) 64), (q2, zI (kA 0) 4)] H := hP
  have hD : va_D A [(h0, .inr (9, [.int 0, .int 0, .ref q1, .null, .null, .null, .null, .null, .int 0, .int 0, .int 0, .int 0, .null, .null, .int 0, .int 0, .null, .int 0, .null, .null, .null, .long 0, .int 0, .null, .null, .null, .null, .null, .null, .int 0, .int 0, .null])), (q1, zL (kA 1) 64), (q2, zI (kA 0) 4)] := hD
  refine lv_dup hx hb d_M_init_16 rfl ?_
  refine lv_iconst (v := 0) hx hb d_M_init_17 (by decide) ?_
  refine lv_iconst (v := 4) hx hb d_M_init_18 (by decide) ?_
  refine va_iast hx hb hK hP hD hS 2 0 rfl rfl (inb_in (i := 0) (n := 4) (by decide)) d_M_init_19 (fun H locs hP hD hS => ?_)
  have hP : va_P D classes [(h0, .inr (9, [.int 0, .int 0, .ref q1, .null, .null, .null, .null, .null, .int 0, .int 0, .int 0, .int 0, .null, .null, .int 0, .int 0, .null, .int 0, .null, .null, .null, .long 0, .int 0, .null, .null, .null, .null, .null, .null, .int 0, .int 0, .null])), (q1, zL (kA 1) 64), (q2, .inl (kA 0, 4, .inl (upd (fun _ => 0) (tn 0) 4)))] H := hP
  have hD : va_D A [(h0, .inr (9, [.int 0, .int 0, .ref q1, .null, .null, .null, .null, .null, .int 0, .int 0, .int 0, .int 0, .null, .null, .int 0, .int 0, .null, .int 0, .null, .null, .null, .long 0, .int 0, .null, .null, .null, .null, .null, .null, .int 0, .int 0, .null])), (q1, zL (kA 1) 64), (q2, .inl (kA 0, 4, .inl (upd (fun _ => 0) (tn 0) 4)))] := hD
  refine lv_dup hx hb d_M_init_20 rfl ?_
  refine lv_iconst (v := 1) hx hb d_M_init_21 (by decide) ?_
  refine lv_iconst (v := 4) hx hb d_M_init_22 (by decide) ?_
  refine va_iast hx hb hK hP hD hS 2 0 rfl rfl (inb_in (i := 1) (n := 4) (by decide)) d_M_init_23 (fun H locs hP hD hS => ?_)
  have hP : va_P D classes [(h0, .inr (9, [.int 0, .int 0, .ref q1, .null, .null, .null, .null, .null, .int 0, .int 0, .int 0, .int 0, .null, .null, .int 0, .int 0, .null, .int 0, .null, .null, .null, .long 0, .int 0, .null, .null, .null, .null, .null, .null, .int 0, .int 0, .null])), (q1, zL (kA 1) 64), (q2, .inl (kA 0, 4, .inl (upd (upd (fun _ => 0) (tn 0) 4) (tn 1) 4)))] H := hP
  have hD : va_D A [(h0, .inr (9, [.int 0, .int 0, .ref q1, .null, .null, .null, .null, .null, .int 0, .int 0, .int 0, .int 0, .null, .null, .int 0, .int 0, .null, .int 0, .null, .null, .null, .long 0, .int 0, .null, .null, .null, .null, .null, .null, .int 0, .int 0, .null])), (q1, zL (kA 1) 64), (q2, .inl (kA 0, 4, .inl (upd (upd (fun _ => 0) (tn 0) 4) (tn 1) 4)))] := hD
  refine lv_dup hx hb d_M_init_24 rfl ?_
  refine lv_iconst (v := 2) hx hb d_M_init_25 (by decide) ?_
  refine lv_iconst (v := 4) hx hb d_M_init_26 (by decide) ?_
  refine va_iast hx hb hK hP hD hS 2 0 rfl rfl (inb_in (i := 2) (n := 4) (by decide)) d_M_init_27 (fun H locs hP hD hS => ?_)
  have hP : va_P D classes [(h0, .inr (9, [.int 0, .int 0, .ref q1, .null, .null, .null, .null, .null, .int 0, .int 0, .int 0, .int 0, .null, .null, .int 0, .int 0, .null, .int 0, .null, .null, .null, .long 0, .int 0, .null, .null, .null, .null, .null, .null, .int 0, .int 0, .null])), (q1, zL (kA 1) 64), (q2, .inl (kA 0, 4, .inl (upd (upd (upd (fun _ => 0) (tn 0) 4) (tn 1) 4) (tn 2) 4)))] H := hP
  have hD : va_D A [(h0, .inr (9, [.int 0, .int 0, .ref q1, .null, .null, .null, .null, .null, .int 0, .int 0, .int 0, .int 0, .null, .null, .int 0, .int 0, .null, .int 0, .null, .null, .null, .long 0, .int 0, .null, .null, .null, .null, .null, .null, .int 0, .int 0, .null])), (q1, zL (kA 1) 64), (q2, .inl (kA 0, 4, .inl (upd (upd (upd (fun _ => 0) (tn 0) 4) (tn 1) 4) (tn 2) 4)))] := hD
  refine lv_dup hx hb d_M_init_28 rfl ?_
  refine lv_iconst (v := 3) hx hb d_M_init_29 (by decide) ?_
  refine lv_iconst (v := 4) hx hb d_M_init_30 (by decide) ?_
  refine va_iast hx hb hK hP hD hS 2 0 rfl rfl (inb_in (i := 3) (n := 4) (by decide)) d_M_init_31 (fun H locs hP hD hS => ?_)
  have hP : va_P D classes [(h0, .inr (9, [.int 0, .int 0, .ref q1, .null, .null, .null, .null, .null, .int 0, .int 0, .int 0, .int 0, .null, .null, .int 0, .int 0, .null, .int 0, .null, .null, .null, .long 0, .int 0, .null, .null, .null, .null, .null, .null, .int 0, .int 0, .null])), (q1, zL (kA 1) 64), (q2, .inl (kA 0, 4, .inl (upd (upd (upd (upd (fun _ => 0) (tn 0) 4) (tn 1) 4) (tn 2) 4) (tn 3) 4)))] H := hP
  have hD : va_D A [(h0, .inr (9, [.int 0, .int 0, .ref q1, .null, .null, .null, .null, .null, .int 0, .int 0, .int 0, .int 0, .null, .null, .int 0, .int 0, .null, .int 0, .null, .null, .null, .long 0, .int 0, .null, .null, .null, .null, .null, .null, .int 0, .int 0, .null])), (q1, zL (kA 1) 64), (q2, .inl (kA 0, 4, .inl (upd (upd (upd (upd (fun _ => 0) (tn 0) 4) (tn 1) 4) (tn 2) 4) (tn 3) 4)))] := hD
  refine va_putF (D := D) (ci := 9) (v := .ref q2) (ty := .array .int) (C := R_M) (T := F_M) (N := 32) hx hb hts i_M t_M t_M_ok n_M hown hK hP hD hS 0 rfl rfl 3 (by decide) (hts _ fk_M_13) (fun _ h9 => h9) rfl hin rfl (by decide +kernel) rfl rfl (Nat.le_of_ble_eq_true rfl) d_M_init_32 (fun H locs hP hD hS => ?_)
  have hP : va_P D classes [(h0, .inr (9, [.int 0, .int 0, .ref q1, .ref q2, .null, .null, .null, .null, .int 0, .int 0, .int 0, .int 0, .null, .null, .int 0, .int 0, .null, .int 0, .null, .null, .null, .long 0, .int 0, .null, .null, .null, .null, .null, .null, .int 0, .int 0, .null])), (q1, zL (kA 1) 64), (q2, .inl (kA 0, 4, .inl (upd (upd (upd (upd (fun _ => 0) (tn 0) 4) (tn 1) 4) (tn 2) 4) (tn 3) 4)))] H := hP
  have hD : va_D A [(h0, .inr (9, [.int 0, .int 0, .ref q1, .ref q2, .null, .null, .null, .null, .int 0, .int 0, .int 0, .int 0, .null, .null, .int 0, .int 0, .null, .int 0, .null, .null, .null, .long 0, .int 0, .null, .null, .null, .null, .null, .null, .int 0, .int 0, .null])), (q1, zL (kA 1) 64), (q2, .inl (kA 0, 4, .inl (upd (upd (upd (upd (fun _ => 0) (tn 0) 4) (tn 1) 4) (tn 2) 4) (tn 3) 4)))] := hD
  refine lv_aload_n hx hb d_M_init_35 rfl (lv_at hl 0 rfl) ?_
  refine lv_iconst (v := 4) hx hb d_M_init_36 (by decide) ?_
  refine nw_arr (atype := .int) (kt := kA 0) (N' := 4) (a0 := (4, .inl (fun _ => 0))) hx hb (hts _ ac_int) hK 0 rfl hP hD hS hA (fun _ => rfl) (by decide) (by decide) (Nat.le_of_ble_eq_true rfl) (Nat.le_of_ble_eq_true rfl) (Nat.le_of_ble_eq_true rfl) d_M_init_37 (fun q3 H hP hD hS => ?_)
  have hP : va_P D classes [(h0, .inr (9, [.int 0, .int 0, .ref q1, .ref q2, .null, .null, .null, .null, .int 0, .int 0, .int 0, .int 0, .null, .null, .int 0, .int 0, .null, .int 0, .null, .null, .null, .long 0, .int 0, .null, .null, .null, .null, .null, .null, .int 0, .int 0, .null])), (q1, zL (kA 1) 64), (q2, .inl (kA 0, 4, .inl (upd (upd (upd (upd (fun _ => 0) (tn 0) 4) (tn 1) 4) (tn 2) 4) (tn 3) 4))), (q3, zI (kA 0) 4)] H := hP
  have hD : va_D A [(h0, .inr (9, [.int 0, .int 0, .ref q1, .ref q2, .null, .null, .null, .null, .int 0, .int 0, .int 0, .int 0, .null, .null, .int 0, .int 0, .null, .int 0, .null, .null, .null, .long 0, .int 0, .null, .null, .null, .null, .null, .null, .int 0, .int 0, .null])), (q1, zL (kA 1) 64), (q2, .inl (kA 0, 4, .inl (upd (upd (upd (upd (fun _ => 0) (tn 0) 4) (tn 1) 4) (tn 2) 4) (tn 3) 4))), (q3, zI (kA 0) 4)] := hD
  refine va_putF (D := D) (ci := 9) (v := .ref q3) (ty := .array .int) (C := R_M) (T := F_M) (N := 32) hx hb hts i_M t_M t_M_ok n_M hown hK hP hD hS 0 rfl rfl 4 (by decide) (hts _ fk_M_17) (fun _ h9 => h9) rfl hin rfl (by decide +kernel) rfl rfl (Nat.le_of_ble_eq_true rfl) d_M_init_39 (fun H locs hP hD hS => ?_)
  have hP : va_P D classes [(h0, .inr (9, [.int 0, .int 0, .ref q1, .ref q2, .ref q3, .null, .null, .null, .int 0, .int 0, .int 0, .int 0, .null, .null, .int 0, .int 0, .null, .int 0, .null, .null, .null, .long 0, .int 0, .null, .null, .null, .null, .null, .null, .int 0, .int 0, .null])), (q1, zL (kA 1) 64), (q2, .inl (kA 0, 4, .inl (upd (upd (upd (upd (fun _ => 0) (tn 0) 4) (tn 1) 4) (tn 2) 4) (tn 3) 4))), (q3, zI (kA 0) 4)] H := hP
  have hD : va_D A [(h0, .inr (9, [.int 0, .int 0, .ref q1, .ref q2, .ref q3, .null, .null, .null, .int 0, .int 0, .int 0, .int 0, .null, .null, .int 0, .int 0, .null, .int 0, .null, .null, .null, .long 0, .int 0, .null, .null, .null, .null, .null, .null, .int 0, .int 0, .null])), (q1, zL (kA 1) 64), (q2, .inl (kA 0, 4, .inl (upd (upd (upd (upd (fun _ => 0) (tn 0) 4) (tn 1) 4) (tn 2) 4) (tn 3) 4))), (q3, zI (kA 0) 4)] := hD
  refine lv_aload_n hx hb d_M_init_42 rfl (lv_at hl 0 rfl) ?_
  refine lv_sipush (v := 240) hx hb d_M_init_43 (by decide) ?_
  refine nw_arr (atype := .int) (kt := kA 0) (N' := 240) (a0 := (240, .inl (fun _ => 0))) hx hb (hts _ ac_int) hK 0 rfl hP hD hS hA (fun _ => rfl) (by decide) (by decide) (Nat.le_of_ble_eq_true rfl) (Nat.le_of_ble_eq_true rfl) (Nat.le_of_ble_eq_true rfl) d_M_init_46 (fun q4 H hP hD hS => ?_)
  have hP : va_P D classes [(h0, .inr (9, [.int 0, .int 0, .ref q1, .ref q2, .ref q3, .null, .null, .null, .int 0, .int 0, .int 0, .int 0, .null, .null, .int 0, .int 0, .null, .int 0, .null, .null, .null, .long 0, .int 0, .null, .null, .null, .null, .null, .null, .int 0, .int 0, .null])), (q1, zL (kA 1) 64), (q2, .inl (kA 0, 4, .inl (upd (upd (upd (upd (fun _ => 0) (tn 0) 4) (tn 1) 4) (tn 2) 4) (tn 3) 4))), (q3, zI (kA 0) 4), (q4, zI (kA 0) 240)] H := hP
  have hD : va_D A [(h0, .inr (9, [.int 0, .int 0, .ref q1, .ref q2, .ref q3, .null, .null, .null, .int 0, .int 0, .int 0, .int 0, .null, .null, .int 0, .int 0, .null, .int 0, .null, .null, .null, .long 0, .int 0, .null, .null, .null, .null, .null, .null, .int 0, .int 0, .null])), (q1, zL (kA 1) 64), (q2, .inl (kA 0, 4, .inl (upd (upd (upd (upd (fun _ => 0) (tn 0) 4) (tn 1) 4) (tn 2) 4) (tn 3) 4))), (q3, zI (kA 0) 4), (q4, zI (kA 0) 240)] := hD
  refine va_putF (D := D) (ci := 9) (v := .ref q4) (ty := .array .int) (C := R_M) (T := F_M) (N := 32) hx hb hts i_M t_M t_M_ok n_M hown hK hP hD hS 0 rfl rfl 5 (by decide) (hts _ fk_M_20) (fun _ h9 => h9) rfl hin rfl (by decide +kernel) rfl rfl (Nat.le_of_ble_eq_true rfl) d_M_init_48 (fun H locs hP hD hS => ?_)
  have hP : va_P D classes [(h0, .inr (9, [.int 0, .int 0, .ref q1, .ref q2, .ref q3, .ref q4, .null, .null, .int 0, .int 0, .int 0, .int 0, .null, .null, .int 0, .int 0, .null, .int 0, .null, .null, .null, .long 0, .int 0, .null, .null, .null, .null, .null, .null, .int 0, .int 0, .null])), (q1, zL (kA 1) 64), (q2, .inl (kA 0, 4, .inl (upd (upd (upd (upd (fun _ => 0) (tn 0) 4) (tn 1) 4) (tn 2) 4) (tn 3) 4))), (q3, zI (kA 0) 4), (q4, zI (kA 0) 240)] H := hP
  have hD : va_D A [(h0, .inr (9, [.int 0, .int 0, .ref q1, .ref q2, .ref q3, .ref q4, .null, .null, .int 0, .int 0, .int 0, .int 0, .null, .null, .int 0, .int 0, .null, .int 0, .null, .null, .null, .long 0, .int 0, .null, .null, .null, .null, .null, .null, .int 0, .int 0, .null])), (q1, zL (kA 1) 64), (q2, .inl (kA 0, 4, .inl (upd (upd (upd (upd (fun _ => 0) (tn 0) 4) (tn 1) 4) (tn 2) 4) (tn 3) 4))), (q3, zI (kA 0) 4), (q4, zI (kA 0) 240)] := hD
  refine lv_aload_n hx hb d_M_init_51 rfl (lv_at hl 0 rfl) ?_
  refine lv_sipush (v := 240) hx hb d_M_init_52 (by decide) ?_
  refine nw_arr (atype := .int) (kt := kA 0) (N' := 240) (a0 := (240, .inl (fun _ => 0))) hx hb (hts _ ac_int) hK 0 rfl hP hD hS hA (fun _ => rfl) (by decide) (by decide) (Nat.le_of_ble_eq_true rfl) (Nat.le_of_ble_eq_true rfl) (Nat.le_of_ble_eq_true rfl) d_M_init_55 (fun q5 H hP hD hS => ?_)
  have hP : va_P D classes [(h0, .inr (9, [.int 0, .int 0, .ref q1, .ref q2, .ref q3, .ref q4, .null, .null, .int 0, .int 0, .int 0, .int 0, .null, .null, .int 0, .int 0, .null, .int 0, .null, .null, .null, .long 0, .int 0, .null, .null, .null, .null, .null, .null, .int 0, .int 0, .null])), (q1, zL (kA 1) 64), (q2, .inl (kA 0, 4, .inl (upd (upd (upd (upd (fun _ => 0) (tn 0) 4) (tn 1) 4) (tn 2) 4) (tn 3) 4))), (q3, zI (kA 0) 4), (q4, zI (kA 0) 240), (q5, zI (kA 0) 240)] H := hP
  have hD : va_D A [(h0, .inr (9, [.int 0, .int 0, .ref q1, .ref q2, .ref q3, .ref q4, .null, .null, .int 0, .int 0, .int 0, .int 0, .null, .null, .int 0, .int 0, .null, .int 0, .null, .null, .null, .long 0, .int 0, .null, .null, .null, .null, .null, .null, .int 0, .int 0, .null])), (q1, zL (kA 1) 64), (q2, .inl (kA 0, 4, .inl (upd (upd (upd (upd (fun _ => 0) (tn 0) 4) (tn 1) 4) (tn 2) 4) (tn 3) 4))), (q3, zI (kA 0) 4), (q4, zI (kA 0) 240), (q5, zI (kA 0) 240)] := hD
  refine va_putF (D := D) (ci := 9) (v := .ref q5) (ty := .array .int) (C := R_M) (T := F_M) (N := 32) hx hb hts i_M t_M t_M_ok n_M hown hK hP hD hS 0 rfl rfl 6 (by decide) (hts _ fk_M_23) (fun _ h9 => h9) rfl hin rfl (by decide +kernel) rfl rfl (Nat.le_of_ble_eq_true rfl) d_M_init_57 (fun H locs hP hD hS => ?_)
  have hP : va_P D classes [(h0, .inr (9, [.int 0, .int 0, .ref q1, .ref q2, .ref q3, .ref q4, .ref q5, .null, .int 0, .int 0, .int 0, .int 0, .null, .null, .int 0, .int 0, .null, .int 0, .null, .null, .null, .long 0, .int 0, .null, .null, .null, .null, .null, .null, .int 0, .int 0, .null])), (q1, zL (kA 1) 64), (q2, .inl (kA 0, 4, .inl (upd (upd (upd (upd (fun _ => 0) (tn 0) 4) (tn 1) 4) (tn 2) 4) (tn 3) 4))), (q3, zI (kA 0) 4), (q4, zI (kA 0) 240), (q5, zI (kA 0) 240)] H := hP
  have hD : va_D A [(h0, .inr (9, [.int 0, .int 0, .ref q1, .ref q2, .ref q3, .ref q4, .ref q5, .null, .int 0, .int 0, .int 0, .int 0, .null, .null, .int 0, .int 0, .null, .int 0, .null, .null, .null, .long 0, .int 0, .null, .null, .null, .null, .null, .null, .int 0, .int 0, .null])), (q1, zL (kA 1) 64), (q2, .inl (kA 0, 4, .inl (upd (upd (upd (upd (fun _ => 0) (tn 0) 4) (tn 1) 4) (tn 2) 4) (tn 3) 4))), (q3, zI (kA 0) 4), (q4, zI (kA 0) 240), (q5, zI (kA 0) 240)] := hD
  refine lv_aload_n hx hb d_M_init_60 rfl (lv_at hl 0 rfl) ?_
  refine lv_sipush (v := 200) hx hb d_M_init_61 (by decide) ?_
  refine nw_arr (atype := .int) (kt := kA 0) (N' := 200) (a0 := (200, .inl (fun _ => 0))) hx hb (hts _ ac_int) hK 0 rfl hP hD hS hA (fun _ => rfl) (by decide) (by decide) (Nat.le_of_ble_eq_true rfl) (Nat.le_of_ble_eq_true rfl) (Nat.le_of_ble_eq_true rfl) d_M_init_64 (fun q6 H hP hD hS => ?_)
  have hP : va_P D classes [(h0, .inr (9, [.int 0, .int 0, .ref q1, .ref q2, .ref q3, .ref q4, .ref q5, .null, .int 0, .int 0, .int 0, .int 0, .null, .null, .int 0, .int 0, .null, .int 0, .null, .null, .null, .long 0, .int 0, .null, .null, .null, .null, .null, .null, .int 0, .int 0, .null])), (q1, zL (kA 1) 64), (q2, .inl (kA 0, 4, .inl (upd (upd (upd (upd (fun _ => 0) (tn 0) 4) (tn 1) 4) (tn 2) 4) (tn 3) 4))), (q3, zI (kA 0) 4), (q4, zI (kA 0) 240), (q5, zI (kA 0) 240), (q6, zI (kA 0) 200)] H := hP
  have hD : va_D A [(h0, .inr (9, [.int 0, .int 0, .ref q1, .ref q2, .ref q3, .ref q4, .ref q5, .null, .int 0, .int 0, .int 0, .int 0, .null, .null, .int 0, .int 0, .null, .int 0, .null, .null, .null, .long 0, .int 0, .null, .null, .null, .null, .null, .null, .int 0, .int 0, .null])), (q1, zL (kA 1) 64), (q2, .inl (kA 0, 4, .inl (upd (upd (upd (upd (fun _ => 0) (tn 0) 4) (tn 1) 4) (tn 2) 4) (tn 3) 4))), (q3, zI (kA 0) 4), (q4, zI (kA 0) 240), (q5, zI (kA 0) 240), (q6, zI (kA 0) 200)] := hD
  refine va_putF (D := D) (ci := 9) (v := .ref q6) (ty := .array .int) (C := R_M) (T := F_M) (N := 32) hx hb hts i_M t_M t_M_ok n_M hown hK hP hD hS 0 rfl rfl 7 (by decide) (hts _ fk_M_26) (fun _ h9 => h9) rfl hin rfl (by decide +kernel) rfl rfl (Nat.le_of_ble_eq_true rfl) d_M_init_66 (fun H locs hP hD hS => ?_)
  have hP : va_P D classes [(h0, .inr (9, [.int 0, .int 0, .ref q1, .ref q2, .ref q3, .ref q4, .ref q5, .ref q6, .int 0, .int 0, .int 0, .int 0, .null, .null, .int 0, .int 0, .null, .int 0, .null, .null, .null, .long 0, .int 0, .null, .null, .null, .null, .null, .null, .int 0, .int 0, .null])), (q1, zL (kA 1) 64), (q2, .inl (kA 0, 4, .inl (upd (upd (upd (upd (fun _ => 0) (tn 0) 4) (tn 1) 4) (tn 2) 4) (tn 3) 4))), (q3, zI (kA 0) 4), (q4, zI (kA 0) 240), (q5, zI (kA 0) 240), (q6, zI (kA 0) 200)] H := hP
  have hD : va_D A [(h0, .inr (9, [.int 0, .int 0, .ref q1, .ref q2, .ref q3, .ref q4, .ref q5, .ref q6, .int 0, .int 0, .int 0, .int 0, .null, .null, .int 0, .int 0, .null, .int 0, .null, .null, .null, .long 0, .int 0, .null, .null, .null, .null, .null, .null, .int 0, .int 0, .null])), (q1, zL (kA 1) 64), (q2, .inl (kA 0, 4, .inl (upd (upd (upd (upd (fun _ => 0) (tn 0) 4) (tn 1) 4) (tn 2) 4) (tn 3) 4))), (q3, zI (kA 0) 4), (q4, zI (kA 0) 240), (q5, zI (kA 0) 240), (q6, zI (kA 0) 200)] := hD
  refine lv_aload_n hx hb d_M_init_69 rfl (lv_at hl 0 rfl) ?_
  refine lv_bipush (v := 60) hx hb d_M_init_70 (by decide) ?_
  refine nw_arr (atype := .int) (kt := kA 0) (N' := 60) (a0 := (60, .inl (fun _ => 0))) hx hb (hts _ ac_int) hK 0 rfl hP hD hS hA (fun _ => rfl) (by decide) (by decide) (Nat.le_of_ble_eq_true rfl) (Nat.le_of_ble_eq_true rfl) (Nat.le_of_ble_eq_true rfl) d_M_init_72 (fun q7 H hP hD hS => ?_)
  have hP : va_P D classes [(h0, .inr (9, [.int 0, .int 0, .ref q1, .ref q2, .ref q3, .ref q4, .ref q5, .ref q6, .int 0, .int 0, .int 0, .int 0, .null, .null, .int 0, .int 0, .null, .int 0, .null, .null, .null, .long 0, .int 0, .null, .null, .null, .null, .null, .null, .int 0, .int 0, .null])), (q1, zL (kA 1) 64), (q2, .inl (kA 0, 4, .inl (upd (upd (upd (upd (fun _ => 0) (tn 0) 4) (tn 1) 4) (tn 2) 4) (tn 3) 4))), (q3, zI (kA 0) 4), (q4, zI (kA 0) 240), (q5, zI (kA 0) 240), (q6, zI (kA 0) 200), (q7, zI (kA 0) 60)] H := hP
  have hD : va_D A [(h0, .inr (9, [.int 0, .int 0, .ref q1, .ref q2, .ref q3, .ref q4, .ref q5, .ref q6, .int 0, .int 0, .int 0, .int 0, .null, .null, .int 0, .int 0, .null, .int 0, .null, .null, .null, .long 0, .int 0, .null, .null, .null, .null, .null, .null, .int 0, .int 0, .null])), (q1, zL (kA 1) 64), (q2, .inl (kA 0, 4, .inl (upd (upd (upd (upd (fun _ => 0) (tn 0) 4) (tn 1) 4) (tn 2) 4) (tn 3) 4))), (q3, zI (kA 0) 4), (q4, zI (kA 0) 240), (q5, zI (kA 0) 240), (q6, zI (kA 0) 200), (q7, zI (kA 0) 60)] := hD
  refine va_putF (D := D) (ci := 9) (v := .ref q7) (ty := .array .int) (C := R_M) (T := F_M) (N := 32) hx hb hts i_M t_M t_M_ok n_M hown hK hP hD hS 0 rfl rfl 12 (by decide) (hts _ fk_M_29) (fun _ h9 => h9) rfl hin rfl (by decide +kernel) rfl rfl (Nat.le_of_ble_eq_true rfl) d_M_init_74 (fun H locs hP hD hS => ?_)
  have hP : va_P D classes [(h0, .inr (9, [.int 0, .int 0, .ref q1, .ref q2, .ref q3, .ref q4, .ref q5, .ref q6, .int 0, .int 0, .int 0, .int 0, .ref q7, .null, .int 0, .int 0, .null, .int 0, .null, .null, .null, .long 0, .int 0, .null, .null, .null, .null, .null, .null, .int 0, .int 0, .null])), (q1, zL (kA 1) 64), (q2, .inl (kA 0, 4, .inl (upd (upd (upd (upd (fun _ => 0) (tn 0) 4) (tn 1) 4) (tn 2) 4) (tn 3) 4))), (q3, zI (kA 0) 4), (q4, zI (kA 0) 240), (q5, zI (kA 0) 240), (q6, zI (kA 0) 200), (q7, zI (kA 0) 60)] H := hP
  have hD : va_D A [(h0, .inr (9, [.int 0, .int 0, .ref q1, .ref q2, .ref q3, .ref q4, .ref q5, .ref q6, .int 0, .int 0, .int 0, .int 0, .ref q7, .null, .int 0, .int 0, .null, .int 0, .null, .null, .null, .long 0, .int 0, .null, .null, .null, .null, .null, .null, .int 0, .int 0, .null])), (q1, zL (kA 1) 64), (q2, .inl (kA 0, 4, .inl (upd (upd (upd (upd (fun _ => 0) (tn 0) 4) (tn 1) 4) (tn 2) 4) (tn 3) 4))), (q3, zI (kA 0) 4), (q4, zI (kA 0) 240), (q5, zI (kA 0) 240), (q6, zI (kA 0) 200), (q7, zI (kA 0) 60)] := hD
  refine lv_aload_n hx hb d_M_init_77 rfl (lv_at hl 0 rfl) ?_
  refine lv_bipush (v := 60) hx hb d_M_init_78 (by decide) ?_
  refine nw_arr (atype := .int) (kt := kA 0) (N' := 60) (a0 := (60, .inl (fun _ => 0))) hx hb (hts _ ac_int) hK 0 rfl hP hD hS hA (fun _ => rfl) (by decide) (by decide) (Nat.le_of_ble_eq_true rfl) (Nat.le_of_ble_eq_true rfl) (Nat.le_of_ble_eq_true rfl) d_M_init_80 (fun q8 H hP hD hS => ?_)
  have hP : va_P D classes [(h0, .inr (9, [.int 0, .int 0, .ref q1, .ref q2, .ref q3, .ref q4, .ref q5, .ref q6, .int 0, .int 0, .int 0, .int 0, .ref q7, .null, .int 0, .int 0, .null, .int 0, .null, .null, .null, .long 0, .int 0, .null, .null, .null, .null, .null, .null, .int 0, .int 0, .null])), (q1, zL (kA 1) 64), (q2, .inl (kA 0, 4, .inl (upd (upd (upd (upd (fun _ => 0) (tn 0) 4) (tn 1) 4) (tn 2) 4) (tn 3) 4))), (q3, zI (kA 0) 4), (q4, zI (kA 0) 240), (q5, zI (kA 0) 240), (q6, zI (kA 0) 200), (q7, zI (kA 0) 60), (q8, zI (kA 0) 60)] H := hP
  have hD : va_D A [(h0, .inr (9, [.int 0, .int 0, .ref q1, .ref q2, .ref q3, .ref q4, .ref q5, .ref q6, .int 0, .int 0, .int 0, .int 0, .ref q7, .null, .int 0, .int 0, .null, .int 0, .null, .null, .null, .long 0, .int 0, .null, .null, .null, .null, .null, .null, .int 0, .int 0, .null])), (q1, zL (kA 1) 64), (q2, .inl (kA 0, 4, .inl (upd (upd (upd (upd (fun _ => 0) (tn 0) 4) (tn 1) 4) (tn 2) 4) (tn 3) 4))), (q3, zI (kA 0) 4), (q4, zI (kA 0) 240), (q5, zI (kA 0) 240), (q6, zI (kA 0) 200), (q7, zI (kA 0) 60), (q8, zI (kA 0) 60)] := hD
  refine va_putF (D := D) (ci := 9) (v := .ref q8) (ty := .array .int) (C := R_M) (T := F_M) (N := 32) hx hb hts i_M t_M t_M_ok n_M hown hK hP hD hS 0 rfl rfl 13 (by decide) (hts _ fk_M_32) (fun _ h9 => h9) rfl hin rfl (by decide +kernel) rfl rfl (Nat.le_of_ble_eq_true rfl) d_M_init_82 (fun H locs hP hD hS => ?_)
  have hP : va_P D classes [(h0, .inr (9, [.int 0, .int 0, .ref q1, .ref q2, .ref q3, .ref q4, .ref q5, .ref q6, .int 0, .int 0, .int 0, .int 0, .ref q7, .ref q8, .int 0, .int 0, .null, .int 0, .null, .null, .null, .long 0, .int 0, .null, .null, .null, .null, .null, .null, .int 0, .int 0, .null])), (q1, zL (kA 1) 64), (q2, .inl (kA 0, 4, .inl (upd (upd (upd (upd (fun _ => 0) (tn 0) 4) (tn 1) 4) (tn 2) 4) (tn 3) 4))), (q3, zI (kA 0) 4), (q4, zI (kA 0) 240), (q5, zI (kA 0) 240), (q6, zI (kA 0) 200), (q7, zI (kA 0) 60), (q8, zI (kA 0) 60)] H := hP
  have hD : va_D A [(h0, .inr (9, [.int 0, .int 0, .ref q1, .ref q2, .ref q3, .ref q4, .ref q5, .ref q6, .int 0, .int 0, .int 0, .int 0, .ref q7, .ref q8, .int 0, .int 0, .null, .int 0, .null, .null, .null, .long 0, .int 0, .null, .null, .null, .null, .null, .null, .int 0, .int 0, .null])), (q1, zL (kA 1) 64), (q2, .inl (kA 0, 4, .inl (upd (upd (upd (upd (fun _ => 0) (tn 0) 4) (tn 1) 4) (tn 2) 4) (tn 3) 4))), (q3, zI (kA 0) 4), (q4, zI (kA 0) 240), (q5, zI (kA 0) 240), (q6, zI (kA 0) 200), (q7, zI (kA 0) 60), (q8, zI (kA 0) 60)] := hD
  refine lv_aload_n hx hb d_M_init_85 rfl (lv_at hl 0 rfl) ?_
  refine lv_bipush (v := 8) hx hb d_M_init_86 (by decide) ?_
  refine nw_arr (atype := .int) (kt := kA 0) (N' := 8) (a0 := (8, .inl (fun _ => 0))) hx hb (hts _ ac_int) hK 0 rfl hP hD hS hA (fun _ => rfl) (by decide) (by decide) (Nat.le_of_ble_eq_true rfl) (Nat.le_of_ble_eq_true rfl) (Nat.le_of_ble_eq_true rfl) d_M_init_88 (fun q9 H hP hD hS => ?_)
  have hP : va_P D classes [(h0, .inr (9, [.int 0, .int 0, .ref q1, .ref q2, .ref q3, .ref q4, .ref q5, .ref q6, .int 0, .int 0, .int 0, .int 0, .ref q7, .ref q8, .int 0, .int 0, .null, .int 0, .null, .null, .null, .long 0, .int 0, .null, .null, .null, .null, .null, .null, .int 0, .int 0, .null])), (q1, zL (kA 1) 64), (q2, .inl (kA 0, 4, .inl (upd (upd (upd (upd (fun _ => 0) (tn 0) 4) (tn 1) 4) (tn 2) 4) (tn 3) 4))), (q3, zI (kA 0) 4), (q4, zI (kA 0) 240), (q5, zI (kA 0) 240), (q6, zI (kA 0) 200), (q7, zI (kA 0) 60), (q8, zI (kA 0) 60), (q9, zI (kA 0) 8)] H := hP
  have hD : va_D A [(h0, .inr (9, [.int 0, .int 0, .ref q1, .ref q2, .ref q3, .ref q4, .ref q5, .ref q6, .int 0, .int 0, .int 0, .int 0, .ref q7, .ref q8, .int 0, .int 0, .null, .int 0, .null, .null, .null, .long 0, .int 0, .null, .null, .null, .null, .null, .null, .int 0, .int 0, .null])), (q1, zL (kA 1) 64), (q2, .inl (kA 0, 4, .inl (upd (upd (upd (upd (fun _ => 0) (tn 0) 4) (tn 1) 4) (tn 2) 4) (tn 3) 4))), (q3, zI (kA 0) 4), (q4, zI (kA 0) 240), (q5, zI (kA 0) 240), (q6, zI (kA 0) 200), (q7, zI (kA 0) 60), (q8, zI (kA 0) 60), (q9, zI (kA 0) 8)] := hD
  refine va_putF (D := D) (ci := 9) (v := .ref q9) (ty := .array .int) (C := R_M) (T := F_M) (N := 32) hx hb hts i_M t_M t_M_ok n_M hown hK hP hD hS 0 rfl rfl 16 (by decide) (hts _ fk_M_35) (fun _ h9 => h9) rfl hin rfl (by decide +kernel) rfl rfl (Nat.le_of_ble_eq_true rfl) d_M_init_90 (fun H locs hP hD hS => ?_)
  have hP : va_P D classes [(h0, .inr (9, [.int 0, .int 0, .ref q1, .ref q2, .ref q3, .ref q4, .ref q5, .ref q6, .int 0, .int 0, .int 0, .int 0, .ref q7, .ref q8, .int 0, .int 0, .ref q9, .int 0, .null, .null, .null, .long 0, .int 0, .null, .null, .null, .null, .null, .null, .int 0, .int 0, .null])), (q1, zL (kA 1) 64), (q2, .inl (kA 0, 4, .inl (upd (upd (upd (upd (fun _ => 0) (tn 0) 4) (tn 1) 4) (tn 2) 4) (tn 3) 4))), (q3, zI (kA 0) 4), (q4, zI (kA 0) 240), (q5, zI (kA 0) 240), (q6, zI (kA 0) 200), (q7, zI (kA 0) 60), (q8, zI (kA 0) 60), (q9, zI (kA 0) 8)] H := hP
  have hD : va_D A [(h0, .inr (9, [.int 0, .int 0, .ref q1, .ref q2, .ref q3, .ref q4, .ref q5, .ref q6, .int 0, .int 0, .int 0, .int 0, .ref q7, .ref q8, .int 0, .int 0, .ref q9, .int 0, .null, .null, .null, .long 0, .int 0, .null, .null, .null, .null, .null, .null, .int 0, .int 0, .null])), (q1, zL (kA 1) 64), (q2, .inl (kA 0, 4, .inl (upd (upd (upd (upd (fun _ => 0) (tn 0) 4) (tn 1) 4) (tn 2) 4) (tn 3) 4))), (q3, zI (kA 0) 4), (q4, zI (kA 0) 240), (q5, zI (kA 0) 240), (q6, zI (kA 0) 200), (q7, zI (kA 0) 60), (q8, zI (kA 0) 60), (q9, zI (kA 0) 8)] := hD
  refine lv_aload_n hx hb d_M_init_93 rfl (lv_at hl 0 rfl) ?_
  refine lv_bipush (v := 60) hx hb d_M_init_94 (by decide) ?_
  refine nw_arr (atype := .int) (kt := kA 0) (N' := 60) (a0 := (60, .inl (fun _ => 0))) hx hb (hts _ ac_int) hK 0 rfl hP hD hS hA (fun _ => rfl) (by decide) (by decide) (Nat.le_of_ble_eq_true rfl) (Nat.le_of_ble_eq_true rfl) (Nat.le_of_ble_eq_true rfl) d_M_init_96 (fun q10 H hP hD hS => ?_)
  have hP : va_P D classes [(h0, .inr (9, [.int 0, .int 0, .ref q1, .ref q2, .ref q3, .ref q4, .ref q5, .ref q6, .int 0, .int 0, .int 0, .int 0, .ref q7, .ref q8, .int 0, .int 0, .ref q9, .int 0, .null, .null, .null, .long 0, .int 0, .null, .null, .null, .null, .null, .null, .int 0, .int 0, .null])), (q1, zL (kA 1) 64), (q2, .inl (kA 0, 4, .inl (upd (upd (upd (upd (fun _ => 0) (tn 0) 4) (tn 1) 4) (tn 2) 4) (tn 3) 4))), (q3, zI (kA 0) 4), (q4, zI (kA 0) 240), (q5, zI (kA 0) 240), (q6, zI (kA 0) 200), (q7, zI (kA 0) 60), (q8, zI (kA 0) 60), (q9, zI (kA 0) 8), (q10, zI (kA 0) 60)] H := hP
  have hD : va_D A [(h0, .inr (9, [.int 0, .int 0, .ref q1, .ref q2, .ref q3, .ref q4, .ref q5, .ref q6, .int 0, .int 0, .int 0, .int 0, .ref q7, .ref q8, .int 0, .int 0, .ref q9, .int 0, .null, .null, .null, .long 0, .int 0, .null, .null, .null, .null, .null, .null, .int 0, .int 0, .null])), (q1, zL (kA 1) 64), (q2, .inl (kA 0, 4, .inl (upd (upd (upd (upd (fun _ => 0) (tn 0) 4) (tn 1) 4) (tn 2) 4) (tn 3) 4))), (q3, zI (kA 0) 4), (q4, zI (kA 0) 240), (q5, zI (kA 0) 240), (q6, zI (kA 0) 200), (q7, zI (kA 0) 60), (q8, zI (kA 0) 60), (q9, zI (kA 0) 8), (q10, zI (kA 0) 60)] := hD
  refine va_putF (D := D) (ci := 9) (v := .ref q10) (ty := .array .int) (C := R_M) (T := F_M) (N := 32) hx hb hts i_M t_M t_M_ok n_M hown hK hP hD hS 0 rfl rfl 18 (by decide) (hts _ fk_M_38) (fun _ h9 => h9) rfl hin rfl (by decide +kernel) rfl rfl (Nat.le_of_ble_eq_true rfl) d_M_init_98 (fun H locs hP hD hS => ?_)
  have hP : va_P D classes [(h0, .inr (9, [.int 0, .int 0, .ref q1, .ref q2, .ref q3, .ref q4, .ref q5, .ref q6, .int 0, .int 0, .int 0, .int 0, .ref q7, .ref q8, .int 0, .int 0, .ref q9, .int 0, .ref q10, .null, .null, .long 0, .int 0, .null, .null, .null, .null, .null, .null, .int 0, .int 0, .null])), (q1, zL (kA 1) 64), (q2, .inl (kA 0, 4, .inl (upd (upd (upd (upd (fun _ => 0) (tn 0) 4) (tn 1) 4) (tn 2) 4) (tn 3) 4))), (q3, zI (kA 0) 4), (q4, zI (kA 0) 240), (q5, zI (kA 0) 240), (q6, zI (kA 0) 200), (q7, zI (kA 0) 60), (q8, zI (kA 0) 60), (q9, zI (kA 0) 8), (q10, zI (kA 0) 60)] H := hP
  have hD : va_D A [(h0, .inr (9, [.int 0, .int 0, .ref q1, .ref q2, .ref q3, .ref q4, .ref q5, .ref q6, .int 0, .int 0, .int 0, .int 0, .ref q7, .ref q8, .int 0, .int 0, .ref q9, .int 0, .ref q10, .null, .null, .long 0, .int 0, .null, .null, .null, .null, .null, .null, .int 0, .int 0, .null])), (q1, zL (kA 1) 64), (q2, .inl (kA 0, 4, .inl (upd (upd (upd (upd (fun _ => 0) (tn 0) 4) (tn 1) 4) (tn 2) 4) (tn 3) 4))), (q3, zI (kA 0) 4), (q4, zI (kA 0) 240), (q5, zI (kA 0) 240), (q6, zI (kA 0) 200), (q7, zI (kA 0) 60), (q8, zI (kA 0) 60), (q9, zI (kA 0) 8), (q10, zI (kA 0) 60)] := hD
  refine lv_aload_n hx hb d_M_init_101 rfl (lv_at hl 0 rfl) ?_
  refine lv_bipush (v := 8) hx hb d_M_init_102 (by decide) ?_
  refine nw_arr (atype := .int) (kt := kA 0) (N' := 8) (a0 := (8, .inl (fun _ => 0))) hx hb (hts _ ac_int) hK 0 rfl hP hD hS hA (fun _ => rfl) (by decide) (by decide) (Nat.le_of_ble_eq_true rfl) (Nat.le_of_ble_eq_true rfl) (Nat.le_of_ble_eq_true rfl) d_M_init_104 (fun q11 H hP hD hS => ?_)
  have hP : va_P D classes [(h0, .inr (9, [.int 0, .int 0, .ref q1, .ref q2, .ref q3, .ref q4, .ref q5, .ref q6, .int 0, .int 0, .int 0, .int 0, .ref q7, .ref q8, .int 0, .int 0, .ref q9, .int 0, .ref q10, .null, .null, .long 0, .int 0, .null, .null, .null, .null, .null, .null, .int 0, .int 0, .null])), (q1, zL (kA 1) 64), (q2, .inl (kA 0, 4, .inl (upd (upd (upd (upd (fun _ => 0) (tn 0) 4) (tn 1) 4) (tn 2) 4) (tn 3) 4))), (q3, zI (kA 0) 4), (q4, zI (kA 0) 240), (q5, zI (kA 0) 240), (q6, zI (kA 0) 200), (q7, zI (kA 0) 60), (q8, zI (kA 0) 60), (q9, zI (kA 0) 8), (q10, zI (kA 0) 60), (q11, zI (kA 0) 8)] H := hP
  have hD : va_D A [(h0, .inr (9, [.int 0, .int 0, .ref q1, .ref q2, .ref q3, .ref q4, .ref q5, .ref q6, .int 0, .int 0, .int 0, .int 0, .ref q7, .ref q8, .int 0, .int 0, .ref q9, .int 0, .ref q10, .null, .null, .long 0, .int 0, .null, .null, .null, .null, .null, .null, .int 0, .int 0, .null])), (q1, zL (kA 1) 64), (q2, .inl (kA 0, 4, .inl (upd (upd (upd (upd (fun _ => 0) (tn 0) 4) (tn 1) 4) (tn 2) 4) (tn 3) 4))), (q3, zI (kA 0) 4), (q4, zI (kA 0) 240), (q5, zI (kA 0) 240), (q6, zI (kA 0) 200), (q7, zI (kA 0) 60), (q8, zI (kA 0) 60), (q9, zI (kA 0) 8), (q10, zI (kA 0) 60), (q11, zI (kA 0) 8)] := hD
  refine va_putF (D := D) (ci := 9) (v := .ref q11) (ty := .array .int) (C := R_M) (T := F_M) (N := 32) hx hb hts i_M t_M t_M_ok n_M hown hK hP hD hS 0 rfl rfl 19 (by decide) (hts _ fk_M_41) (fun _ h9 => h9) rfl hin rfl (by decide +kernel) rfl rfl (Nat.le_of_ble_eq_true rfl) d_M_init_106 (fun H locs hP hD hS => ?_)
  have hP : va_P D classes [(h0, .inr (9, [.int 0, .int 0, .ref q1, .ref q2, .ref q3, .ref q4, .ref q5, .ref q6, .int 0, .int 0, .int 0, .int 0, .ref q7, .ref q8, .int 0, .int 0, .ref q9, .int 0, .ref q10, .ref q11, .null, .long 0, .int 0, .null, .null, .null, .null, .null, .null, .int 0, .int 0, .null])), (q1, zL (kA 1) 64), (q2, .inl (kA 0, 4, .inl (upd (upd (upd (upd (fun _ => 0) (tn 0) 4) (tn 1) 4) (tn 2) 4) (tn 3) 4))), (q3, zI (kA 0) 4), (q4, zI (kA 0) 240), (q5, zI (kA 0) 240), (q6, zI (kA 0) 200), (q7, zI (kA 0) 60), (q8, zI (kA 0) 60), (q9, zI (kA 0) 8), (q10, zI (kA 0) 60), (q11, zI (kA 0) 8)] H := hP
  have hD : va_D A [(h0, .inr (9, [.int 0, .int 0, .ref q1, .ref q2, .ref q3, .ref q4, .ref q5, .ref q6, .int 0, .int 0, .int 0, .int 0, .ref q7, .ref q8, .int 0, .int 0, .ref q9, .int 0, .ref q10, .ref q11, .null, .long 0, .int 0, .null, .null, .null, .null, .null, .null, .int 0, .int 0, .null])), (q1, zL (kA 1) 64), (q2, .inl (kA 0, 4, .inl (upd (upd (upd (upd (fun _ => 0) (tn 0) 4) (tn 1) 4) (tn 2) 4) (tn 3) 4))), (q3, zI (kA 0) 4), (q4, zI (kA 0) 240), (q5, zI (kA 0) 240), (q6, zI (kA 0) 200), (q7, zI (kA 0) 60), (q8, zI (kA 0) 60), (q9, zI (kA 0) 8), (q10, zI (kA 0) 60), (q11, zI (kA 0) 8)] := hD
  refine lv_aload_n hx hb d_M_init_109 rfl (lv_at hl 0 rfl) ?_
  refine lv_bipush (v := 8) hx hb d_M_init_110 (by decide) ?_
  refine nw_arr (atype := .int) (kt := kA 0) (N' := 8) (a0 := (8, .inl (fun _ => 0))) hx hb (hts _ ac_int) hK 0 rfl hP hD hS hA (fun _ => rfl) (by decide) (by decide) (Nat.le_of_ble_eq_true rfl) (Nat.le_of_ble_eq_true rfl) (Nat.le_of_ble_eq_true rfl) d_M_init_112 (fun q12 H hP hD hS => ?_)
  have hP : va_P D classes [(h0, .inr (9, [.int 0, .int 0, .ref q1, .ref q2, .ref q3, .ref q4, .ref q5, .ref q6, .int 0, .int 0, .int 0, .int 0, .ref q7, .ref q8, .int 0, .int 0, .ref q9, .int 0, .ref q10, .ref q11, .null, .long 0, .int 0, .null, .null, .null, .null, .null, .null, .int 0, .int 0, .null])), (q1, zL (kA 1) 64), (q2, .inl (kA 0, 4, .inl (upd (upd (upd (upd (fun _ => 0) (tn 0) 4) (tn 1) 4) (tn 2) 4) (tn 3) 4))), (q3, zI (kA 0) 4), (q4, zI (kA 0) 240), (q5, zI (kA 0) 240), (q6, zI (kA 0) 200), (q7, zI (kA 0) 60), (q8, zI (kA 0) 60), (q9, zI (kA 0) 8), (q10, zI (kA 0) 60), (q11, zI (kA 0) 8), (q12, zI (kA 0) 8)] H := hP
  have hD : va_D A [(h0, .inr (9, [.int 0, .int 0, .ref q1, .ref q2, .ref q3, .ref q4, .ref q5, .ref q6, .int 0, .int 0, .int 0, .int 0, .ref q7, .ref q8, .int 0, .int 0, .ref q9, .int 0, .ref q10, .ref q11, .null, .long 0, .int 0, .null, .null, .null, .null, .null, .null, .int 0, .int 0, .null])), (q1, zL (kA 1) 64), (q2, .inl (kA 0, 4, .inl (upd (upd (upd (upd (fun _ => 0) (tn 0) 4) (tn 1) 4) (tn 2) 4) (tn 3) 4))), (q3, zI (kA 0) 4), (q4, zI (kA 0) 240), (q5, zI (kA 0) 240), (q6, zI (kA 0) 200), (q7, zI (kA 0) 60), (q8, zI (kA 0) 60), (q9, zI (kA 0) 8), (q10, zI (kA 0) 60), (q11, zI (kA 0) 8), (q12, zI (kA 0) 8)] := hD
  refine va_putF (D := D) (ci := 9) (v := .ref q12) (ty := .array .int) (C := R_M) (T := F_M) (N := 32) hx hb hts i_M t_M t_M_ok n_M hown hK hP hD hS 0 rfl rfl 20 (by decide) (hts _ fk_M_44) (fun _ h9 => h9) rfl hin rfl (by decide +kernel) rfl rfl (Nat.le_of_ble_eq_true rfl) d_M_init_114 (fun H locs hP hD hS => ?_)
  have hP : va_P D classes [(h0, .inr (9, [.int 0, .int 0, .ref q1, .ref q2, .ref q3, .ref q4, .ref q5, .ref q6, .int 0, .int 0, .int 0, .int 0, .ref q7, .ref q8, .int 0, .int 0, .ref q9, .int 0, .ref q10, .ref q11, .ref q12, .long 0, .int 0, .null, .null, .null, .null, .null, .null, .int 0, .int 0, .null])), (q1, zL (kA 1) 64), (q2, .inl (kA 0, 4, .inl (upd (upd (upd (upd (fun _ => 0) (tn 0) 4) (tn 1) 4) (tn 2) 4) (tn 3) 4))), (q3, zI (kA 0) 4), (q4, zI (kA 0) 240), (q5, zI (kA 0) 240), (q6, zI (kA 0) 200), (q7, zI (kA 0) 60), (q8, zI (kA 0) 60), (q9, zI (kA 0) 8), (q10, zI (kA 0) 60), (q11, zI (kA 0) 8), (q12, zI (kA 0) 8)] H := hP
  have hD : va_D A [(h0, .inr (9, [.int 0, .int 0, .ref q1, .ref q2, .ref q3, .ref q4, .ref q5, .ref q6, .int 0, .int 0, .int 0, .int 0, .ref q7, .ref q8, .int 0, .int 0, .ref q9, .int 0, .ref q10, .ref q11, .ref q12, .long 0, .int 0, .null, .null, .null, .null, .null, .null, .int 0, .int 0, .null])), (q1, zL (kA 1) 64), (q2, .inl (kA 0, 4, .inl (upd (upd (upd (upd (fun _ => 0) (tn 0) 4) (tn 1) 4) (tn 2) 4) (tn 3) 4))), (q3, zI (kA 0) 4), (q4, zI (kA 0) 240), (q5, zI (kA 0) 240), (q6, zI (kA 0) 200), (q7, zI (kA 0) 60), (q8, zI (kA 0) 60), (q9, zI (kA 0) 8), (q10, zI (kA 0) 60), (q11, zI (kA 0) 8), (q12, zI (kA 0) 8)] := hD
  refine lv_aload_n hx hb d_M_init_117 rfl (lv_at hl 0 rfl) ?_
  refine lv_bipush (v := 8) hx hb d_M_init_118 (by decide) ?_
  refine nw_arr (atype := .int) (kt := kA 0) (N' := 8) (a0 := (8, .inl (fun _ => 0))) hx hb (hts _ ac_int) hK 0 rfl hP hD hS hA (fun _ => rfl) (by decide) (by decide) (Nat.le_of_ble_eq_true rfl) (Nat.le_of_ble_eq_true rfl) (Nat.le_of_ble_eq_true rfl) d_M_init_120 (fun q13 H hP hD hS => ?_)
  have hP : va_P D classes [(h0, .inr (9, [.int 0, .int 0, .ref q1, .ref q2, .ref q3, .ref q4, .ref q5, .ref q6, .int 0, .int 0, .int 0, .int 0, .ref q7, .ref q8, .int 0, .int 0, .ref q9, .int 0, .ref q10, .ref q11, .ref q12, .long 0, .int 0, .null, .null, .null, .null, .null, .null, .int 0, .int 0, .null])), (q1, zL (kA 1) 64), (q2, .inl (kA 0, 4, .inl (upd (upd (upd (upd (fun _ => 0) (tn 0) 4) (tn 1) 4) (tn 2) 4) (tn 3) 4))), (q3, zI (kA 0) 4), (q4, zI (kA 0) 240), (q5, zI (kA 0) 240), (q6, zI (kA 0) 200), (q7, zI (kA 0) 60), (q8, zI (kA 0) 60), (q9, zI (kA 0) 8), (q10, zI (kA 0) 60), (q11, zI (kA 0) 8), (q12, zI (kA 0) 8), (q13, zI (kA 0) 8)] H := hP
  have hD : va_D A [(h0, .inr (9, [.int 0, .int 0, .ref q1, .ref q2, .ref q3, .ref q4, .ref q5, .ref q6, .int 0, .int 0, .int 0, .int 0, .ref q7, .ref q8, .int 0, .int 0, .ref q9, .int 0, .ref q10, .ref q11, .ref q12, .long 0, .int 0, .null, .null, .null, .null, .null, .null, .int 0, .int 0, .null])), (q1, zL (kA 1) 64), (q2, .inl (kA 0, 4, .inl (upd (upd (upd (upd (fun _ => 0) (tn 0) 4) (tn 1) 4) (tn 2) 4) (tn 3) 4))), (q3, zI (kA 0) 4), (q4, zI (kA 0) 240), (q5, zI (kA 0) 240), (q6, zI (kA 0) 200), (q7, zI (kA 0) 60), (q8, zI (kA 0) 60), (q9, zI (kA 0) 8), (q10, zI (kA 0) 60), (q11, zI (kA 0) 8), (q12, zI (kA 0) 8), (q13, zI (kA 0) 8)] := hD
  refine va_putF (D := D) (ci := 9) (v := .ref q13) (ty := .array .int) (C := R_M) (T := F_M) (N := 32) hx hb hts i_M t_M t_M_ok n_M hown hK hP hD hS 0 rfl rfl 23 (by decide) (hts _ fk_M_47) (fun _ h9 => h9) rfl hin rfl (by decide +kernel) rfl rfl (Nat.le_of_ble_eq_true rfl) d_M_init_122 (fun H locs hP hD hS => ?_)
  have hP : va_P D classes [(h0, .inr (9, [.int 0, .int 0, .ref q1, .ref q2, .ref q3, .ref q4, .ref q5, .ref q6, .int 0, .int 0, .int 0, .int 0, .ref q7, .ref q8, .int 0, .int 0, .ref q9, .int 0, .ref q10, .ref q11, .ref q12, .long 0, .int 0, .ref q13, .null, .null, .null, .null, .null, .int 0, .int 0, .null])), (q1, zL (kA 1) 64), (q2, .inl (kA 0, 4, .inl (upd (upd (upd (upd (fun _ => 0) (tn 0) 4) (tn 1) 4) (tn 2) 4) (tn 3) 4))), (q3, zI (kA 0) 4), (q4, zI (kA 0) 240), (q5, zI (kA 0) 240), (q6, zI (kA 0) 200), (q7, zI (kA 0) 60), (q8, zI (kA 0) 60), (q9, zI (kA 0) 8), (q10, zI (kA 0) 60), (q11, zI (kA 0) 8), (q12, zI (kA 0) 8), (q13, zI (kA 0) 8)] H := hP
  have hD : va_D A [(h0, .inr (9, [.int 0, .int 0, .ref q1, .ref q2, .ref q3, .ref q4, .ref q5, .ref q6, .int 0, .int 0, .int 0, .int 0, .ref q7, .ref q8, .int 0, .int 0, .ref q9, .int 0, .ref q10, .ref q11, .ref q12, .long 0, .int 0, .ref q13, .null, .null, .null, .null, .null, .int 0, .int 0, .null])), (q1, zL (kA 1) 64), (q2, .inl (kA 0, 4, .inl (upd (upd (upd (upd (fun _ => 0) (tn 0) 4) (tn 1) 4) (tn 2) 4) (tn 3) 4))), (q3, zI (kA 0) 4), (q4, zI (kA 0) 240), (q5, zI (kA 0) 240), (q6, zI (kA 0) 200), (q7, zI (kA 0) 60), (q8, zI (kA 0) 60), (q9, zI (kA 0) 8), (q10, zI (kA 0) 60), (q11, zI (kA 0) 8), (q12, zI (kA 0) 8), (q13, zI (kA 0) 8)] := hD
  refine lv_aload_n hx hb d_M_init_125 rfl (lv_at hl 0 rfl) ?_
  refine lv_sipush (v := 256) hx hb d_M_init_126 (by decide) ?_
  refine nw_arr (atype := .boolean) (kt := kA 3) (N' := 256) (a0 := (256, .inl (fun _ => 0))) hx hb (hts _ ac_boolean) hK 3 rfl hP hD hS hA (fun _ => rfl) (by decide) (by decide) (Nat.le_of_ble_eq_true rfl) (Nat.le_of_ble_eq_true rfl) (Nat.le_of_ble_eq_true rfl) d_M_init_129 (fun q14 H hP hD hS => ?_)
  have hP : va_P D classes [(h0, .inr (9, [.int 0, .int 0, .ref q1, .ref q2, .ref q3, .ref q4, .ref q5, .ref q6, .int 0, .int 0, .int 0, .int 0, .ref q7, .ref q8, .int 0, .int 0, .ref q9, .int 0, .ref q10, .ref q11, .ref q12, .long 0, .int 0, .ref q13, .null, .null, .null, .null, .null, .int 0, .int 0, .null])), (q1, zL (kA 1) 64), (q2, .inl (kA 0, 4, .inl (upd (upd (upd (upd (fun _ => 0) (tn 0) 4) (tn 1) 4) (tn 2) 4) (tn 3) 4))), (q3, zI (kA 0) 4), (q4, zI (kA 0) 240), (q5, zI (kA 0) 240), (q6, zI (kA 0) 200), (q7, zI (kA 0) 60), (q8, zI (kA 0) 60), (q9, zI (kA 0) 8), (q10, zI (kA 0) 60), (q11, zI (kA 0) 8), (q12, zI (kA 0) 8), (q13, zI (kA 0) 8), (q14, zI (kA 3) 256)] H := hP
  have hD : va_D A [(h0, .inr (9, [.int 0, .int 0, .ref q1, .ref q2, .ref q3, .ref q4, .ref q5, .ref q6, .int 0, .int 0, .int 0, .int 0, .ref q7, .ref q8, .int 0, .int 0, .ref q9, .int 0, .ref q10, .ref q11, .ref q12, .long 0, .int 0, .ref q13, .null, .null, .null, .null, .null, .int 0, .int 0, .null])), (q1, zL (kA 1) 64), (q2, .inl (kA 0, 4, .inl (upd (upd (upd (upd (fun _ => 0) (tn 0) 4) (tn 1) 4) (tn 2) 4) (tn 3) 4))), (q3, zI (kA 0) 4), (q4, zI (kA 0) 240), (q5, zI (kA 0) 240), (q6, zI (kA 0) 200), (q7, zI (kA 0) 60), (q8, zI (kA 0) 60), (q9, zI (kA 0) 8), (q10, zI (kA 0) 60), (q11, zI (kA 0) 8), (q12, zI (kA 0) 8), (q13, zI (kA 0) 8), (q14, zI (kA 3) 256)] := hD
  refine va_putF (D := D) (ci := 9) (v := .ref q14) (ty := .array .boolean) (C := R_M) (T := F_M) (N := 32) hx hb hts i_M t_M t_M_ok n_M hown hK hP hD hS 0 rfl rfl 24 (by decide) (hts _ fk_M_50) (fun _ h9 => h9) rfl hin rfl (by decide +kernel) rfl rfl (Nat.le_of_ble_eq_true rfl) d_M_init_131 (fun H locs hP hD hS => ?_)
  have hP : va_P D classes [(h0, .inr (9, [.int 0, .int 0, .ref q1, .ref q2, .ref q3, .ref q4, .ref q5, .ref q6, .int 0, .int 0, .int 0, .int 0, .ref q7, .ref q8, .int 0, .int 0, .ref q9, .int 0, .ref q10, .ref q11, .ref q12, .long 0, .int 0, .ref q13, .ref q14, .null, .null, .null, .null, .int 0, .int 0, .null])), (q1, zL (kA 1) 64), (q2, .inl (kA 0, 4, .inl (upd (upd (upd (upd (fun _ => 0) (tn 0) 4) (tn 1) 4) (tn 2) 4) (tn 3) 4))), (q3, zI (kA 0) 4), (q4, zI (kA 0) 240), (q5, zI (kA 0) 240), (q6, zI (kA 0) 200), (q7, zI (kA 0) 60), (q8, zI (kA 0) 60), (q9, zI (kA 0) 8), (q10, zI (kA 0) 60), (q11, zI (kA 0) 8), (q12, zI (kA 0) 8), (q13, zI (kA 0) 8), (q14, zI (kA 3) 256)] H := hP
  have hD : va_D A [(h0, .inr (9, [.int 0, .int 0, .ref q1, .ref q2, .ref q3, .ref q4, .ref q5, .ref q6, .int 0, .int 0, .int 0, .int 0, .ref q7, .ref q8, .int 0, .int 0, .ref q9, .int 0, .ref q10, .ref q11, .ref q12, .long 0, .int 0, .ref q13, .ref q14, .null, .null, .null, .null, .int 0, .int 0, .null])), (q1, zL (kA 1) 64), (q2, .inl (kA 0, 4, .inl (upd (upd (upd (upd (fun _ => 0) (tn 0) 4) (tn 1) 4) (tn 2) 4) (tn 3) 4))), (q3, zI (kA 0) 4), (q4, zI (kA 0) 240), (q5, zI (kA 0) 240), (q6, zI (kA 0) 200), (q7, zI (kA 0) 60), (q8, zI (kA 0) 60), (q9, zI (kA 0) 8), (q10, zI (kA 0) 60), (q11, zI (kA 0) 8), (q12, zI (kA 0) 8), (q13, zI (kA 0) 8), (q14, zI (kA 3) 256)] := hD
  refine lv_aload_n hx hb d_M_init_134 rfl (lv_at hl 0 rfl) ?_
  refine lv_bipush (v := 8) hx hb d_M_init_135 (by decide) ?_
  refine nw_arr (atype := .int) (kt := kA 0) (N' := 8) (a0 := (8, .inl (fun _ => 0))) hx hb (hts _ ac_int) hK 0 rfl hP hD hS hA (fun _ => rfl) (by decide) (by decide) (Nat.le_of_ble_eq_true rfl) (Nat.le_of_ble_eq_true rfl) (Nat.le_of_ble_eq_true rfl) d_M_init_137 (fun q15 H hP hD hS => ?_)
  have hP : va_P D classes [(h0, .inr (9, [.int 0, .int 0, .ref q1, .ref q2, .ref q3, .ref q4, .ref q5, .ref q6, .int 0, .int 0, .int 0, .int 0, .ref q7, .ref q8, .int 0, .int 0, .ref q9, .int 0, .ref q10, .ref q11, .ref q12, .long 0, .int 0, .ref q13, .ref q14, .null, .null, .null, .null, .int 0, .int 0, .null])), (q1, zL (kA 1) 64), (q2, .inl (kA 0, 4, .inl (upd (upd (upd (upd (fun _ => 0) (tn 0) 4) (tn 1) 4) (tn 2) 4) (tn 3) 4))), (q3, zI (kA 0) 4), (q4, zI (kA 0) 240), (q5, zI (kA 0) 240), (q6, zI (kA 0) 200), (q7, zI (kA 0) 60), (q8, zI (kA 0) 60), (q9, zI (kA 0) 8), (q10, zI (kA 0) 60), (q11, zI (kA 0) 8), (q12, zI (kA 0) 8), (q13, zI (kA 0) 8), (q14, zI (kA 3) 256), (q15, zI (kA 0) 8)] H := hP
  have hD : va_D A [(h0, .inr (9, [.int 0, .int 0, .ref q1, .ref q2, .ref q3, .ref q4, .ref q5, .ref q6, .int 0, .int 0, .int 0, .int 0, .ref q7, .ref q8, .int 0, .int 0, .ref q9, .int 0, .ref q10, .ref q11, .ref q12, .long 0, .int 0, .ref q13, .ref q14, .null, .null, .null, .null, .int 0, .int 0, .null])), (q1, zL (kA 1) 64), (q2, .inl (kA 0, 4, .inl (upd (upd (upd (upd (fun _ => 0) (tn 0) 4) (tn 1) 4) (tn 2) 4) (tn 3) 4))), (q3, zI (kA 0) 4), (q4, zI (kA 0) 240), (q5, zI (kA 0) 240), (q6, zI (kA 0) 200), (q7, zI (kA 0) 60), (q8, zI (kA 0) 60), (q9, zI (kA 0) 8), (q10, zI (kA 0) 60), (q11, zI (kA 0) 8), (q12, zI (kA 0) 8), (q13, zI (kA 0) 8), (q14, zI (kA 3) 256), (q15, zI (kA 0) 8)] := hD
  refine va_putF (D := D) (ci := 9) (v := .ref q15) (ty := .array .int) (C := R_M) (T := F_M) (N := 32) hx hb hts i_M t_M t_M_ok n_M hown hK hP hD hS 0 rfl rfl 25 (by decide) (hts _ fk_M_54) (fun _ h9 => h9) rfl hin rfl (by decide +kernel) rfl rfl (Nat.le_of_ble_eq_true rfl) d_M_init_139 (fun H locs hP hD hS => ?_)
  have hP : va_P D classes [(h0, .inr (9, [.int 0, .int 0, .ref q1, .ref q2, .ref q3, .ref q4, .ref q5, .ref q6, .int 0, .int 0, .int 0, .int 0, .ref q7, .ref q8, .int 0, .int 0, .ref q9, .int 0, .ref q10, .ref q11, .ref q12, .long 0, .int 0, .ref q13, .ref q14, .ref q15, .null, .null, .null, .int 0, .int 0, .null])), (q1, zL (kA 1) 64), (q2, .inl (kA 0, 4, .inl (upd (upd (upd (upd (fun _ => 0) (tn 0) 4) (tn 1) 4) (tn 2) 4) (tn 3) 4))), (q3, zI (kA 0) 4), (q4, zI (kA 0) 240), (q5, zI (kA 0) 240), (q6, zI (kA 0) 200), (q7, zI (kA 0) 60), (q8, zI (kA 0) 60), (q9, zI (kA 0) 8), (q10, zI (kA 0) 60), (q11, zI (kA 0) 8), (q12, zI (kA 0) 8), (q13, zI (kA 0) 8), (q14, zI (kA 3) 256), (q15, zI (kA 0) 8)] H := hP
  have hD : va_D A [(h0, .inr (9, [.int 0, .int 0, .ref q1, .ref q2, .ref q3, .ref q4, .ref q5, .ref q6, .int 0, .int 0, .int 0, .int 0, .ref q7, .ref q8, .int 0, .int 0, .ref q9, .int 0, .ref q10, .ref q11, .ref q12, .long 0, .int 0, .ref q13, .ref q14, .ref q15, .null, .null, .null, .int 0, .int 0, .null])), (q1, zL (kA 1) 64), (q2, .inl (kA 0, 4, .inl (upd (upd (upd (upd (fun _ => 0) (tn 0) 4) (tn 1) 4) (tn 2) 4) (tn 3) 4))), (q3, zI (kA 0) 4), (q4, zI (kA 0) 240), (q5, zI (kA 0) 240), (q6, zI (kA 0) 200), (q7, zI (kA 0) 60), (q8, zI (kA 0) 60), (q9, zI (kA 0) 8), (q10, zI (kA 0) 60), (q11, zI (kA 0) 8), (q12, zI (kA 0) 8), (q13, zI (kA 0) 8), (q14, zI (kA 3) 256), (q15, zI (kA 0) 8)] := hD
  refine lv_aload_n hx hb d_M_init_142 rfl (lv_at hl 0 rfl) ?_
  refine lv_sipush (v := 256) hx hb d_M_init_143 (by decide) ?_
  refine nw_arr (atype := .long) (kt := kA 1) (N' := 256) (a0 := (256, .inr (.inl (fun _ => 0)))) hx hb (hts _ ac_long) hK 1 rfl hP hD hS hA (fun _ => rfl) (by decide) (by decide) (Nat.le_of_ble_eq_true rfl) (Nat.le_of_ble_eq_true rfl) (Nat.le_of_ble_eq_true rfl) d_M_init_146 (fun q16 H hP hD hS => ?_)
  have hP : va_P D classes [(h0, .inr (9, [.int 0, .int 0, .ref q1, .ref q2, .ref q3, .ref q4, .ref q5, .ref q6, .int 0, .int 0, .int 0, .int 0, .ref q7, .ref q8, .int 0, .int 0, .ref q9, .int 0, .ref q10, .ref q11, .ref q12, .long 0, .int 0, .ref q13, .ref q14, .ref q15, .null, .null, .null, .int 0, .int 0, .null])), (q1, zL (kA 1) 64), (q2, .inl (kA 0, 4, .inl (upd (upd (upd (upd (fun _ => 0) (tn 0) 4) (tn 1) 4) (tn 2) 4) (tn 3) 4))), (q3, zI (kA 0) 4), (q4, zI (kA 0) 240), (q5, zI (kA 0) 240), (q6, zI (kA 0) 200), (q7, zI (kA 0) 60), (q8, zI (kA 0) 60), (q9, zI (kA 0) 8), (q10, zI (kA 0) 60), (q11, zI (kA 0) 8), (q12, zI (kA 0) 8), (q13, zI (kA 0) 8), (q14, zI (kA 3) 256), (q15, zI (kA 0) 8), (q16, zL (kA 1) 256)] H := hP
  have hD : va_D A [(h0, .inr (9, [.int 0, .int 0, .ref q1, .ref q2, .ref q3, .ref q4, .ref q5, .ref q6, .int 0, .int 0, .int 0, .int 0, .ref q7, .ref q8, .int 0, .int 0, .ref q9, .int 0, .ref q10, .ref q11, .ref q12, .long 0, .int 0, .ref q13, .ref q14, .ref q15, .null, .null, .null, .int 0, .int 0, .null])), (q1, zL (kA 1) 64), (q2, .inl (kA 0, 4, .inl (upd (upd (upd (upd (fun _ => 0) (tn 0) 4) (tn 1) 4) (tn 2) 4) (tn 3) 4))), (q3, zI (kA 0) 4), (q4, zI (kA 0) 240), (q5, zI (kA 0) 240), (q6, zI (kA 0) 200), (q7, zI (kA 0) 60), (q8, zI (kA 0) 60), (q9, zI (kA 0) 8), (q10, zI (kA 0) 60), (q11, zI (kA 0) 8), (q12, zI (kA 0) 8), (q13, zI (kA 0) 8), (q14, zI (kA 3) 256), (q15, zI (kA 0) 8), (q16, zL (kA 1) 256)] := hD
  refine va_putF (D := D) (ci := 9) (v := .ref q16) (ty := .array .long) (C := R_M) (T := F_M) (N := 32) hx hb hts i_M t_M t_M_ok n_M hown hK hP hD hS 0 rfl rfl 26 (by decide) (hts _ fk_M_57) (fun _ h9 => h9) rfl hin rfl (by decide +kernel) rfl rfl (Nat.le_of_ble_eq_true rfl) d_M_init_148 (fun H locs hP hD hS => ?_)
  have hP : va_P D classes [(h0, .inr (9, [.int 0, .int 0, .ref q1, .ref q2, .ref q3, .ref q4, .ref q5, .ref q6, .int 0, .int 0, .int 0, .int 0, .ref q7, .ref q8, .int 0, .int 0, .ref q9, .int 0, .ref q10, .ref q11, .ref q12, .long 0, .int 0, .ref q13, .ref q14, .ref q15, .ref q16, .null, .null, .int 0, .int 0, .null])), (q1, zL (kA 1) 64), (q2, .inl (kA 0, 4, .inl (upd (upd (upd (upd (fun _ => 0) (tn 0) 4) (tn 1) 4) (tn 2) 4) (tn 3) 4))), (q3, zI (kA 0) 4), (q4, zI (kA 0) 240), (q5, zI (kA 0) 240), (q6, zI (kA 0) 200), (q7, zI (kA 0) 60), (q8, zI (kA 0) 60), (q9, zI (kA 0) 8), (q10, zI (kA 0) 60), (q11, zI (kA 0) 8), (q12, zI (kA 0) 8), (q13, zI (kA 0) 8), (q14, zI (kA 3) 256), (q15, zI (kA 0) 8), (q16, zL (kA 1) 256)] H := hP
  have hD : va_D A [(h0, .inr (9, [.int 0, .int 0, .ref q1, .ref q2, .ref q3, .ref q4, .ref q5, .ref q6, .int 0, .int 0, .int 0, .int 0, .ref q7, .ref q8, .int 0, .int 0, .ref q9, .int 0, .ref q10, .ref q11, .ref q12, .long 0, .int 0, .ref q13, .ref q14, .ref q15, .ref q16, .null, .null, .int 0, .int 0, .null])), (q1, zL (kA 1) 64), (q2, .inl (kA 0, 4, .inl (upd (upd (upd (upd (fun _ => 0) (tn 0) 4) (tn 1) 4) (tn 2) 4) (tn 3) 4))), (q3, zI (kA 0) 4), (q4, zI (kA 0) 240), (q5, zI (kA 0) 240), (q6, zI (kA 0) 200), (q7, zI (kA 0) 60), (q8, zI (kA 0) 60), (q9, zI (kA 0) 8), (q10, zI (kA 0) 60), (q11, zI (kA 0) 8), (q12, zI (kA 0) 8), (q13, zI (kA 0) 8), (q14, zI (kA 3) 256), (q15, zI (kA 0) 8), (q16, zL (kA 1) 256)] := hD
  refine lv_aload_n hx hb d_M_init_151 rfl (lv_at hl 0 rfl) ?_
  refine lv_sipush (v := 2000) hx hb d_M_init_152 (by decide) ?_
  refine nw_arr (atype := .long) (kt := kA 1) (N' := 2000) (a0 := (2000, .inr (.inl (fun _ => 0)))) hx hb (hts _ ac_long) hK 1 rfl hP hD hS hA (fun _ => rfl) (by decide) (by decide) (Nat.le_of_ble_eq_true rfl) (Nat.le_of_ble_eq_true rfl) (Nat.le_of_ble_eq_true rfl) d_M_init_155 (fun q17 H hP hD hS => ?_)
  have hP : va_P D classes [(h0, .inr (9, [.int 0, .int 0, .ref q1, .ref q2, .ref q3, .ref q4, .ref q5, .ref q6, .int 0, .int 0, .int 0, .int 0, .ref q7, .ref q8, .int 0, .int 0, .ref q9, .int 0, .ref q10, .ref q11, .ref q12, .long 0, .int 0, .ref q13, .ref q14, .ref q15, .ref q16, .null, .null, .int 0, .int 0, .null])), (q1, zL (kA 1) 64), (q2, .inl (kA 0, 4, .inl (upd (upd (upd (upd (fun _ => 0) (tn 0) 4) (tn 1) 4) (tn 2) 4) (tn 3) 4))), (q3, zI (kA 0) 4), (q4, zI (kA 0) 240), (q5, zI (kA 0) 240), (q6, zI (kA 0) 200), (q7, zI (kA 0) 60), (q8, zI (kA 0) 60), (q9, zI (kA 0) 8), (q10, zI (kA 0) 60), (q11, zI (kA 0) 8), (q12, zI (kA 0) 8), (q13, zI (kA 0) 8), (q14, zI (kA 3) 256), (q15, zI (kA 0) 8), (q16, zL (kA 1) 256), (q17, zL (kA 1) 2000)] H := hP
  have hD : va_D A [(h0, .inr (9, [.int 0, .int 0, .ref q1, .ref q2, .ref q3, .ref q4, .ref q5, .ref q6, .int 0, .int 0, .int 0, .int 0, .ref q7, .ref q8, .int 0, .int 0, .ref q9, .int 0, .ref q10, .ref q11, .ref q12, .long 0, .int 0, .ref q13, .ref q14, .ref q15, .ref q16, .null, .null, .int 0, .int 0, .null])), (q1, zL (kA 1) 64), (q2, .inl (kA 0, 4, .inl (upd (upd (upd (upd (fun _ => 0) (tn 0) 4) (tn 1) 4) (tn 2) 4) (tn 3) 4))), (q3, zI (kA 0) 4), (q4, zI (kA 0) 240), (q5, zI (kA 0) 240), (q6, zI (kA 0) 200), (q7, zI (kA 0) 60), (q8, zI (kA 0) 60), (q9, zI (kA 0) 8), (q10, zI (kA 0) 60), (q11, zI (kA 0) 8), (q12, zI (kA 0) 8), (q13, zI (kA 0) 8), (q14, zI (kA 3) 256), (q15, zI (kA 0) 8), (q16, zL (kA 1) 256), (q17, zL (kA 1) 2000)] := hD
  refine va_put (D := D) (ci := 9) (v := .ref q17) (ty := .array .long) (C := R_M) (T := F_M) (N := 32) hx hb hts i_M t_M t_M_ok n_M hown hK hP hD hS 0 rfl rfl 27 (by decide) (hts _ fk_M_60) (fun _ h9 => h9) rfl (by decide +kernel) rfl rfl (Nat.le_of_ble_eq_true rfl) d_M_init_157 (fun H locs hP hD hS => ?_)
  have hP : va_P D classes [(h0, .inr (9, [.int 0, .int 0, .ref q1, .ref q2, .ref q3, .ref q4, .ref q5, .ref q6, .int 0, .int 0, .int 0, .int 0, .ref q7, .ref q8, .int 0, .int 0, .ref q9, .int 0, .ref q10, .ref q11, .ref q12, .long 0, .int 0, .ref q13, .ref q14, .ref q15, .ref q16, .ref q17, .null, .int 0, .int 0, .null])), (q1, zL (kA 1) 64), (q2, .inl (kA 0, 4, .inl (upd (upd (upd (upd (fun _ => 0) (tn 0) 4) (tn 1) 4) (tn 2) 4) (tn 3) 4))), (q3, zI (kA 0) 4), (q4, zI (kA 0) 240), (q5, zI (kA 0) 240), (q6, zI (kA 0) 200), (q7, zI (kA 0) 60), (q8, zI (kA 0) 60), (q9, zI (kA 0) 8), (q10, zI (kA 0) 60), (q11, zI (kA 0) 8), (q12, zI (kA 0) 8), (q13, zI (kA 0) 8), (q14, zI (kA 3) 256), (q15, zI (kA 0) 8), (q16, zL (kA 1) 256), (q17, zL (kA 1) 2000)] H := hP
  have hD : va_D A [(h0, .inr (9, [.int 0, .int 0, .ref q1, .ref q2, .ref q3, .ref q4, .ref q5, .ref q6, .int 0, .int 0, .int 0, .int 0, .ref q7, .ref q8, .int 0, .int 0, .ref q9, .int 0, .ref q10, .ref q11, .ref q12, .long 0, .int 0, .ref q13, .ref q14, .ref q15, .ref q16, .ref q17, .null, .int 0, .int 0, .null])), (q1, zL (kA 1) 64), (q2, .inl (kA 0, 4, .inl (upd (upd (upd (upd (fun _ => 0) (tn 0) 4) (tn 1) 4) (tn 2) 4) (tn 3) 4))), (q3, zI (kA 0) 4), (q4, zI (kA 0) 240), (q5, zI (kA 0) 240), (q6, zI (kA 0) 200), (q7, zI (kA 0) 60), (q8, zI (kA 0) 60), (q9, zI (kA 0) 8), (q10, zI (kA 0) 60), (q11, zI (kA 0) 8), (q12, zI (kA 0) 8), (q13, zI (kA 0) 8), (q14, zI (kA 3) 256), (q15, zI (kA 0) 8), (q16, zL (kA 1) 256), (q17, zL (kA 1) 2000)] := hD
  refine lv_aload_n hx hb d_M_init_160 rfl (lv_at hl 0 rfl) ?_
  refine lv_sipush (v := 2000) hx hb d_M_init_161 (by decide) ?_
  refine nw_arr (atype := .long) (kt := kA 1) (N' := 2000) (a0 := (2000, .inr (.inl (fun _ => 0)))) hx hb (hts _ ac_long) hK 1 rfl hP hD hS hA (fun _ => rfl) (by decide) (by decide) (Nat.le_of_ble_eq_true rfl) (Nat.le_of_ble_eq_true rfl) (Nat.le_of_ble_eq_true rfl) d_M_init_164 (fun q18 H hP hD hS => ?_)
  have hP : va_P D classes [(h0, .inr (9, [.int 0, .int 0, .ref q1, .ref q2, .ref q3, .ref q4, .ref q5, .ref q6, .int 0, .int 0, .int 0, .int 0, .ref q7, .ref q8, .int 0, .int 0, .ref q9, .int 0, .ref q10, .ref q11, .ref q12, .long 0, .int 0, .ref q13, .ref q14, .ref q15, .ref q16, .ref q17, .null, .int 0, .int 0, .null])), (q1, zL (kA 1) 64), (q2, .inl (kA 0, 4, .inl (upd (upd (upd (upd (fun _ => 0) (tn 0) 4) (tn 1) 4) (tn 2) 4) (tn 3) 4))), (q3, zI (kA 0) 4), (q4, zI (kA 0) 240), (q5, zI (kA 0) 240), (q6, zI (kA 0) 200), (q7, zI (kA 0) 60), (q8, zI (kA 0) 60), (q9, zI (kA 0) 8), (q10, zI (kA 0) 60), (q11, zI (kA 0) 8), (q12, zI (kA 0) 8), (q13, zI (kA 0) 8), (q14, zI (kA 3) 256), (q15, zI (kA 0) 8), (q16, zL (kA 1) 256), (q17, zL (kA 1) 2000), (q18, zL (kA 1) 2000)] H := hP
  have hD : va_D A [(h0, .inr (9, [.int 0, .int 0, .ref q1, .ref q2, .ref q3, .ref q4, .ref q5, .ref q6, .int 0, .int 0, .int 0, .int 0, .ref q7, .ref q8, .int 0, .int 0, .ref q9, .int 0, .ref q10, .ref q11, .ref q12, .long 0, .int 0, .ref q13, .ref q14, .ref q15, .ref q16, .ref q17, .null, .int 0, .int 0, .null])), (q1, zL (kA 1) 64), (q2, .inl (kA 0, 4, .inl (upd (upd (upd (upd (fun _ => 0) (tn 0) 4) (tn 1) 4) (tn 2) 4) (tn 3) 4))), (q3, zI (kA 0) 4), (q4, zI (kA 0) 240), (q5, zI (kA 0) 240), (q6, zI (kA 0) 200), (q7, zI (kA 0) 60), (q8, zI (kA 0) 60), (q9, zI (kA 0) 8), (q10, zI (kA 0) 60), (q11, zI (kA 0) 8), (q12, zI (kA 0) 8), (q13, zI (kA 0) 8), (q14, zI (kA 3) 256), (q15, zI (kA 0) 8), (q16, zL (kA 1) 256), (q17, zL (kA 1) 2000), (q18, zL (kA 1) 2000)] := hD
  refine va_put (D := D) (ci := 9) (v := .ref q18) (ty := .array .long) (C := R_M) (T := F_M) (N := 32) hx hb hts i_M t_M t_M_ok n_M hown hK hP hD hS 0 rfl rfl 28 (by decide) (hts _ fk_M_63) (fun _ h9 => h9) rfl (by decide +kernel) rfl rfl (Nat.le_of_ble_eq_true rfl) d_M_init_166 (fun H locs hP hD hS => ?_)
  have hP : va_P D classes [(h0, .inr (9, [.int 0, .int 0, .ref q1, .ref q2, .ref q3, .ref q4, .ref q5, .ref q6, .int 0, .int 0, .int 0, .int 0, .ref q7, .ref q8, .int 0, .int 0, .ref q9, .int 0, .ref q10, .ref q11, .ref q12, .long 0, .int 0, .ref q13, .ref q14, .ref q15, .ref q16, .ref q17, .ref q18, .int 0, .int 0, .null])), (q1, zL (kA 1) 64), (q2, .inl (kA 0, 4, .inl (upd (upd (upd (upd (fun _ => 0) (tn 0) 4) (tn 1) 4) (tn 2) 4) (tn 3) 4))), (q3, zI (kA 0) 4), (q4, zI (kA 0) 240), (q5, zI (kA 0) 240), (q6, zI (kA 0) 200), (q7, zI (kA 0) 60), (q8, zI (kA 0) 60), (q9, zI (kA 0) 8), (q10, zI (kA 0) 60), (q11, zI (kA 0) 8), (q12, zI (kA 0) 8), (q13, zI (kA 0) 8), (q14, zI (kA 3) 256), (q15, zI (kA 0) 8), (q16, zL (kA 1) 256), (q17, zL (kA 1) 2000), (q18, zL (kA 1) 2000)] H := hP
  have hD : va_D A [(h0, .inr (9, [.int 0, .int 0, .ref q1, .ref q2, .ref q3, .ref q4, .ref q5, .ref q6, .int 0, .int 0, .int 0, .int 0, .ref q7, .ref q8, .int 0, .int 0, .ref q9, .int 0, .ref q10, .ref q11, .ref q12, .long 0, .int 0, .ref q13, .ref q14, .ref q15, .ref q16, .ref q17, .ref q18, .int 0, .int 0, .null])), (q1, zL (kA 1) 64), (q2, .inl (kA 0, 4, .inl (upd (upd (upd (upd (fun _ => 0) (tn 0) 4) (tn 1) 4) (tn 2) 4) (tn 3) 4))), (q3, zI (kA 0) 4), (q4, zI (kA 0) 240), (q5, zI (kA 0) 240), (q6, zI (kA 0) 200), (q7, zI (kA 0) 60), (q8, zI (kA 0) 60), (q9, zI (kA 0) 8), (q10, zI (kA 0) 60), (q11, zI (kA 0) 8), (q12, zI (kA 0) 8), (q13, zI (kA 0) 8), (q14, zI (kA 3) 256), (q15, zI (kA 0) 8), (q16, zL (kA 1) 256), (q17, zL (kA 1) 2000), (q18, zL (kA 1) 2000)] := hD
  refine lv_aload_n hx hb d_M_init_169 rfl (lv_at hl 0 rfl) ?_
  refine lv_bipush (v := 8) hx hb d_M_init_170 (by decide) ?_
  refine nw_arr (atype := .int) (kt := kA 0) (N' := 8) (a0 := (8, .inl (fun _ => 0))) hx hb (hts _ ac_int) hK 0 rfl hP hD hS hA (fun _ => rfl) (by decide) (by decide) (Nat.le_of_ble_eq_true rfl) (Nat.le_of_ble_eq_true rfl) (Nat.le_of_ble_eq_true rfl) d_M_init_172 (fun q19 H hP hD hS => ?_)
  have hP : va_P D classes [(h0, .inr (9, [.int 0, .int 0, .ref q1, .ref q2, .ref q3, .ref q4, .ref q5, .ref q6, .int 0, .int 0, .int 0, .int 0, .ref q7, .ref q8, .int 0, .int 0, .ref q9, .int 0, .ref q10, .ref q11, .ref q12, .long 0, .int 0, .ref q13, .ref q14, .ref q15, .ref q16, .ref q17, .ref q18, .int 0, .int 0, .null])), (q1, zL (kA 1) 64), (q2, .inl (kA 0, 4, .inl (upd (upd (upd (upd (fun _ => 0) (tn 0) 4) (tn 1) 4) (tn 2) 4) (tn 3) 4))), (q3, zI (kA 0) 4), (q4, zI (kA 0) 240), (q5, zI (kA 0) 240), (q6, zI (kA 0) 200), (q7, zI (kA 0) 60), (q8, zI (kA 0) 60), (q9, zI (kA 0) 8), (q10, zI (kA 0) 60), (q11, zI (kA 0) 8), (q12, zI (kA 0) 8), (q13, zI (kA 0) 8), (q14, zI (kA 3) 256), (q15, zI (kA 0) 8), (q16, zL (kA 1) 256), (q17, zL (kA 1) 2000), (q18, zL (kA 1) 2000), (q19, zI (kA 0) 8)] H := hP
  have hD : va_D A [(h0, .inr (9, [.int 0, .int 0, .ref q1, .ref q2, .ref q3, .ref q4, .ref q5, .ref q6, .int 0, .int 0, .int 0, .int 0, .ref q7, .ref q8, .int 0, .int 0, .ref q9, .int 0, .ref q10, .ref q11, .ref q12, .long 0, .int 0, .ref q13, .ref q14, .ref q15, .ref q16, .ref q17, .ref q18, .int 0, .int 0, .null])), (q1, zL (kA 1) 64), (q2, .inl (kA 0, 4, .inl (upd (upd (upd (upd (fun _ => 0) (tn 0) 4) (tn 1) 4) (tn 2) 4) (tn 3) 4))), (q3, zI (kA 0) 4), (q4, zI (kA 0) 240), (q5, zI (kA 0) 240), (q6, zI (kA 0) 200), (q7, zI (kA 0) 60), (q8, zI (kA 0) 60), (q9, zI (kA 0) 8), (q10, zI (kA 0) 60), (q11, zI (kA 0) 8), (q12, zI (kA 0) 8), (q13, zI (kA 0) 8), (q14, zI (kA 3) 256), (q15, zI (kA 0) 8), (q16, zL (kA 1) 256), (q17, zL (kA 1) 2000), (q18, zL (kA 1) 2000), (q19, zI (kA 0) 8)] := hD
  refine va_putF (D := D) (ci := 9) (v := .ref q19) (ty := .array .int) (C := R_M) (T := F_M) (N := 32) hx hb hts i_M t_M t_M_ok n_M hown hK hP hD hS 0 rfl rfl 31 (by decide) (hts _ fk_M_66) (fun _ h9 => h9) rfl hin rfl (by decide +kernel) rfl rfl (Nat.le_of_ble_eq_true rfl) d_M_init_174 (fun H locs hP hD hS => ?_)
  have hP : va_P D classes [(h0, .inr (9, [.int 0, .int 0, .ref q1, .ref q2, .ref q3, .ref q4, .ref q5, .ref q6, .int 0, .int 0, .int 0, .int 0, .ref q7, .ref q8, .int 0, .int 0, .ref q9, .int 0, .ref q10, .ref q11, .ref q12, .long 0, .int 0, .ref q13, .ref q14, .ref q15, .ref q16, .ref q17, .ref q18, .int 0, .int 0, .ref q19])), (q1, zL (kA 1) 64), (q2, .inl (kA 0, 4, .inl (upd (upd (upd (upd (fun _ => 0) (tn 0) 4) (tn 1) 4) (tn 2) 4) (tn 3) 4))), (q3, zI (kA 0) 4), (q4, zI (kA 0) 240), (q5, zI (kA 0) 240), (q6, zI (kA 0) 200), (q7, zI (kA 0) 60), (q8, zI (kA 0) 60), (q9, zI (kA 0) 8), (q10, zI (kA 0) 60), (q11, zI (kA 0) 8), (q12, zI (kA 0) 8), (q13, zI (kA 0) 8), (q14, zI (kA 3) 256), (q15, zI (kA 0) 8), (q16, zL (kA 1) 256), (q17, zL (kA 1) 2000), (q18, zL (kA 1) 2000), (q19, zI (kA 0) 8)] H := hP
  have hD : va_D A [(h0, .inr (9, [.int 0, .int 0, .ref q1, .ref q2, .ref q3, .ref q4, .ref q5, .ref q6, .int 0, .int 0, .int 0, .int 0, .ref q7, .ref q8, .int 0, .int 0, .ref q9, .int 0, .ref q10, .ref q11, .ref q12, .long 0, .int 0, .ref q13, .ref q14, .ref q15, .ref q16, .ref q17, .ref q18, .int 0, .int 0, .ref q19])), (q1, zL (kA 1) 64), (q2, .inl (kA 0, 4, .inl (upd (upd (upd (upd (fun _ => 0) (tn 0) 4) (tn 1) 4) (tn 2) 4) (tn 3) 4))), (q3, zI (kA 0) 4), (q4, zI (kA 0) 240), (q5, zI (kA 0) 240), (q6, zI (kA 0) 200), (q7, zI (kA 0) 60), (q8, zI (kA 0) 60), (q9, zI (kA 0) 8), (q10, zI (kA 0) 60), (q11, zI (kA 0) 8), (q12, zI (kA 0) 8), (q13, zI (kA 0) 8), (q14, zI (kA 3) 256), (q15, zI (kA 0) 8), (q16, zL (kA 1) 256), (q17, zL (kA 1) 2000), (q18, zL (kA 1) 2000), (q19, zI (kA 0) 8)] := hD
  refine W.widen (k := 19) (n := 5492) (Nat.le_of_ble_eq_true rfl) (Nat.le_of_ble_eq_true rfl) ?_
  exact W.vret hx hb hr (fun t ht hW => ⟨⟨(fun k => [h0, q1, q2, q3, q4, q5, q6, q7, q8, q9, q10, q11, q12, q13, q14, q15, q16, q17, q18, q19].getD k 0), rfl, rfl, by rw [ht]; exact hP, hD⟩, hS.F ht⟩) hS.2.2 d_M_init_177 hlocks

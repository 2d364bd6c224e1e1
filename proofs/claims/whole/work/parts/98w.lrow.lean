/-! law.row -/
theorem t0_z : tn (0 : Int32) = 0 := by decide
theorem PrF_blind {D : va_G} {ad : Nat → Nat} {kA : Nat → ClassId} {As : List Value} {μ : Mem} : FrameBlind (PrF D ad kA As μ) := by
  intro a U g mk h
  obtain ⟨h0, hP, hSt, hTh⟩ := h
  have k : PcF D ad kA As μ a (U.calling g mk a) := PcF_blind a U g mk ⟨h0, hP, hSt⟩
  exact ⟨k.1, k.2.1, k.2.2, hTh.blind⟩
theorem pr_of {D : va_G} {ad : Nat → Nat} {kA : Nat → ClassId} {A : Nat → Prop} {s : State} {H : Heap} {locs : List Loc} {μ : Mem} (hSt : StF D ad kA A s) (hTh : ThS A s) (hP : va_P D classes (wl sh ad kA μ) H) (hS : va_S A s.heap H locs) (As : List Value) : ∀ U : State, U.heap = H → s.WarmedH U.vm → PrF D ad kA As μ (As.map (cv ad)).toArray U := by
  intro U hU hW
  subst hU
  exact ⟨rfl, hP, hSt.moved hS hW, hTh.to hS hW hSt.2.2.2.2.2.2.2⟩
def rmL : Room := { frames := 10, cells := 1, slots := 6, locals := 480 }
def hhL : List (Nat × Nat × Nat × Nat) := [(0, 8, 11, 13)]
def rG (k : (Program × Launch × Env × Room) × (State × MethodId × Array Value × List Frame)) (mt : Method × Code) (w : va_G × (Nat → Nat) × (Nat → ClassId) × (Nat → Prop)) (Q : State → Prop) (ce sl : Nat) : Cx Unit := (k.1, k.2, (mt.1, mt.2, ce, sl), w, fun _ _ => Q)
theorem m_L_row (l : Launch) (hl : l.stackTraces = false) (D : va_G) (ad : Nat → Nat) (kA : Nat → ClassId) (μ : Mem) (x : Int32) (hz : inR μ x → inb x 64 = true) (r : Int32) (μ' : Mem) (h1 : inR μ x → r = 0 ∧ μ' = sL μ 64 0 (gL μ 17 (tn x))) (h2 : ¬ inR μ x → r = 1 ∧ μ' = μ) : Met l y_L_row (.codeWith y_L_row c_L_row 4 (some .int) hhL :: TB) rmL (PrF D ad kA [.ref 0, .int x, .ref 64] μ) (QcF eI D ad kA r μ') 1 6 (Aw ad) := by
  refine va_MetW (cc := c_L_row) (maxL := 4) (ret := some .int) (hh := hhL) (by decide) rfl ?_
  intro p e s m args below meth c s₁ B hml hv
  obtain ⟨rfl, hP, hSt, hTh⟩ := hv
  have hts := atoms_spec (ws := Cond.codeWith y_L_row c_L_row 4 (some .int) hhL :: TB) B.pre
  have hts' : ∀ w ∈ TB, w.before (([.ref 0, .int x, .ref 64] : List Value).map (cv ad)).toArray s = true := fun w hw => hts w (List.mem_cons_of_mem _ hw)
  have htab : c.exceptionTable.toList = [⟨0, 8, 11, 13⟩] := vx_table (x := y_L_row) B (hts _ List.mem_cons_self)
  have hown : s.vm.findClass "SortingNetsLaw" = some m.cls := findClass_of_methodNamed B.named
  have hle := lv_entry (([.ref 0, .int x, .ref 64] : List Value).map (cv ad)) (n := 4) (Nat.le_of_ble_eq_true rfl)
  rw [lg_entry_eq]
  generalize (lg_sl (([.ref 0, .int x, .ref 64] : List Value).map (cv ad)) ++ List.replicate (4 - (lg_sl (([.ref 0, .int x, .ref 64] : List Value).map (cv ad))).length) Slot.unset).toArray = ls at hle ⊢
  rw [lv_args_cv] at hle
  have hQ : ∀ (H : Heap) (locs : List Loc) (ls : Array Slot) (pc : Nat), decode c_L_row pc = .ok (.ireturn, 1) → va_P D classes (wl sh ad kA μ') H → va_S (Aw ad) s.heap H locs → W p l e (headSpec (Cond.codeWith y_L_row c_L_row 4 (some .int) hhL :: TB) rmL).room s m (([.ref 0, .int x, .ref 64] : List Value).map (cv ad)).toArray below meth c H locs (0 + 1) (0 + 6) (MQ below (QcF eI D ad kA r μ') (([.ref 0, .int x, .ref 64] : List Value).map (cv ad)).toArray s 1 6 (Aw ad)) (F0 m pc ls [.int r]) := by
    intro H locs ls pc hd hP hS
    exact W.iret B.exec B.bytes B.returns (fun t ht hW => ⟨⟨rfl, by rw [ht]; exact hP⟩, hS.F ht⟩) hS.2.2 hd B.notSynchronized
  generalize hq : MQ below (QcF eI D ad kA r μ') (([.ref 0, .int x, .ref 64] : List Value).map (cv ad)).toArray s 1 6 (Aw ad) = Q at hQ ⊢
  have ok : ∀ ce sl, Ok (rG ((p, l, e, (headSpec (Cond.codeWith y_L_row c_L_row 4 (some .int) hhL :: TB) rmL).room), (s, m, (([.ref 0, .int x, .ref 64] : List Value).map (cv ad)).toArray, below)) (meth, c) (D, ad, kA, Aw ad) Q ce sl) "SortingNetsLaw" c_L_row 4 := fun ce sl => ⟨B.exec, B.bytes, hml, hown, hts', B.notSynchronized, hSt⟩
  have good : inR μ x → Go (rG ((p, l, e, (headSpec (Cond.codeWith y_L_row c_L_row 4 (some .int) hhL :: TB) rmL).room), (s, m, (([.ref 0, .int x, .ref 64] : List Value).map (cv ad)).toArray, below)) (meth, c) (D, ad, kA, Aw ad) Q (0 + 1) (0 + 6)) 4 7 (lv_args 0 [.ref 0, .int x, .ref 64]) [.long (gL μ 17 (tn x)), .int 0, .ref 64] μ (some ((), μ')) := by
    intro hi
    obtain ⟨hr0, hm0⟩ := h1 hi
    refine go_last (ok _ _) d_L_row_7 (n := 1) rfl (by decide) ?_
    rw [t0_z]
    refine go_goto 14 (ok _ _) d_L_row_8 rfl ?_
    refine go_iconst (ok _ _) d_L_row_14 (v := r) (by rw [hr0]; rfl) ?_
    intro H locs ls r0 μ0 ho hP hS hlv
    refine hQ H locs ls 15 d_L_row_15 ?_ hS
    rw [hm0]
    exact hP
  have bad : ¬ inR μ x → ∀ (H : Heap) (locs : List Loc) (ls : Array Slot) (q : Addr), va_P D classes (wl sh ad kA μ) H → va_S (Aw ad) s.heap H locs → lv_has ls 4 ((lv_args 0 [.ref 0, .int x, .ref 64]).map (cvp ad)) → W p l e (headSpec (Cond.codeWith y_L_row c_L_row 4 (some .int) hhL :: TB) rmL).room s m (([.ref 0, .int x, .ref 64] : List Value).map (cv ad)).toArray below meth c H locs (0 + 1) (0 + 6) Q (F0 m 11 ls [.ref q]) := by
    intro hn H locs ls q hP hS hlv
    obtain ⟨hr0, hm0⟩ := h2 hn
    refine lv_astore_n B.exec B.bytes d_L_row_11 rfl hlv (by decide) rfl ?_
    intro ls' hl'
    refine lv_iconst B.exec B.bytes d_L_row_12 (v := r) (by rw [hr0]; rfl) ?_
    refine hQ H locs ls' 13 d_L_row_13 ?_ hS
    rw [hm0]
    exact hP
  have main : Go (rG ((p, l, e, (headSpec (Cond.codeWith y_L_row c_L_row 4 (some .int) hhL :: TB) rmL).room), (s, m, (([.ref 0, .int x, .ref 64] : List Value).map (cv ad)).toArray, below)) (meth, c) (D, ad, kA, Aw ad) Q 0 0) 4 0 (lv_args 0 [.ref 0, .int x, .ref 64]) [] μ (some ((), μ')) := by
    refine go_aload_n (ok _ _) d_L_row_0 rfl (q := 2) rfl ?_
    refine go_iconst (ok _ _) d_L_row_1 (v := 0) rfl ?_
    refine go_aload_n (ok _ _) d_L_row_2 rfl (q := 0) rfl ?_
    refine go_iload_n (ok _ _) d_L_row_3 rfl (q := 1) rfl ?_
    intro H locs ls r0 μ0 ho hP hS hlv
    have hP : va_P D classes (wl sh ad kA μ) H := hP
    have hS : va_S (Aw ad) s.heap H locs := hS
    have run := vx_runV (p := p) (l := l) (e := e) (R := (headSpec (Cond.codeWith y_L_row c_L_row 4 (some .int) hhL :: TB) rmL).room) (s := s) (m := m) (args := (([.ref 0, .int x, .ref 64] : List Value).map (cv ad)).toArray) (below := below) (meth := meth) (c := c) (locs := locs) (cells := 0) (slots := 0) (g := F0 m 4 ls ([.int x, .ref (ad 0), .int 0, .ref (ad 64)])) (rest := [.int 0, .ref (ad 64)]) (As := [.int x]) (H := H) (b := ad 0) (C := "SortingNets")
      ⟨B.exec, B.bytes, hml, hown, hts'⟩ (m_X_row l hl D ad kA μ x hz)
      ⟨callB_of (bytes := c_X_row) (maxL := 2) (ret := some .long) (ws' := TB) (index := 7) (own := "SortingNetsLaw") 1 hts' (TB_cons mi_X_row.1.2.1) rfl rfl rfl (hts' _ mi_X_row.1.2.2.1) (hts' _ ml_L_7) mi_X_row.1.2.2.2.1 ⟨Nat.le_of_ble_eq_true rfl, Nat.le_of_ble_eq_true rfl⟩, hts' _ mi_X_row.2.1, hts' _ mi_X_row.2.2⟩
      ⟨PrF_blind, va_recv hSt.1 hP (ci := 0) rfl (wl_get (show sh[0]? = some (.inr (0, [4, 21, 24, 17, 19, 26, 30, 32, 34, 36, 37, 38, 39, 40, 41])) from rfl)), pr_of hSt hTh hP hS [.ref 0, .int x]⟩ rfl rfl hlv.1 rfl (lv_room (Nat.le_of_ble_eq_true rfl)) d_L_row_4 ⟨Nat.le_of_ble_eq_true rfl, Nat.le_of_ble_eq_true rfl⟩
    intro T hT X
    rcases run T hT X with ⟨v, st₀, t, T', L, h0, X', hL, e1, e2, ⟨hi, ⟨hv, hp⟩, hF⟩, st⟩ | ⟨q, st₀, t, T', L, E, ce, h0, X', hL, e1, e2, ⟨hn, hE, hp, hF⟩, hce, hcv, hcl, st⟩
    · cases hv
      obtain ⟨k1, k2, k3⟩ := vx_keep h0 e1 hS (fun q _ z => z) (fun q z => z) hL hF
      obtain ⟨t2, a1, b1⟩ := good hi T'.heap (locs ++ L) ls () μ' rfl (by rw [e1]; exact hp) k3 hlv T' rfl X'
      exact ⟨t2, st t2 a1, b1⟩
    · obtain ⟨k1, k2, k3⟩ := vx_keep h0 e1 hS (fun q _ z => z) (fun q z => z) hL hF
      subst hE
      have k := rc_catch (p := p) (l := l) (e := e) (R := (headSpec (Cond.codeWith y_L_row c_L_row 4 (some .int) hhL :: TB) rmL).room) (s := s) (m := m) (args := (([.ref 0, .int x, .ref 64] : List Value).map (cv ad)).toArray) (below := below) (meth := meth) (c := c) (H := T'.heap) (locs := locs ++ L) (cells := 0 + 1) (slots := 0 + 6) (pc := 4) (ls := ls) (rest := [.int 0, .ref (ad 64)]) (Q := Q) (own := "SortingNetsLaw") (name := eN) (E := eN) (ce := ce) (q := q) hown htab (by decide) (by decide) (hts' _ (TB_of (by decide +kernel) rfl)) (va_Nw.use rfl (hTh.1 _ (List.mem_cons_of_mem _ (List.mem_cons_of_mem _ (List.mem_cons_of_mem _ List.mem_cons_self))))) (by rw [e1]; exact hce) hcv hcl (bad hn T'.heap (locs ++ L) ls q (by rw [e1]; exact hp) k3 hlv)
      obtain ⟨t2, a1, b1⟩ := k T' rfl X'
      exact ⟨t2, st.trans a1, b1⟩
  exact main s.heap [] ls () μ' rfl hP va_S.rf hle

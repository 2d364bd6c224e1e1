/-! SortingNets.row -/
def inR (μ : Mem) (x : Int32) : Prop := ¬ x < 0 ∧ x < gI μ 16 1
def PrF (D : va_G) (ad : Nat → Nat) (kA : Nat → ClassId) (As : List Value) (μ : Mem) : Array Value → State → Prop := va_Pc (As.map (cv ad)) (fun U => va_P D classes (wl sh ad kA μ) U.heap ∧ StF D ad kA (Aw ad) U ∧ ThS (Aw ad) U)
def QrF (D : va_G) (ad : Nat → Nat) (kA : Nat → ClassId) (x : Int32) (μ : Mem) : Array Value → State → Outcome → State → Prop := fun a st oc t => inR μ x ∧ QcF eL D ad kA (gL μ 17 (tn x)) μ a st oc t
def XrF (D : va_G) (ad : Nat → Nat) (kA : Nat → ClassId) (x : Int32) (μ : Mem) : String → State → State → Prop := fun E st t => ¬ inR μ x ∧ E = eN ∧ va_P D classes (wl sh ad kA μ) t.heap ∧ va_F (Aw ad) st t
def rmR : Room := { frames := 8, cells := 1, slots := 6, locals := 400 }
theorem m_X_row (l : Launch) (hl : l.stackTraces = false) (D : va_G) (ad : Nat → Nat) (kA : Nat → ClassId) (μ : Mem) (x : Int32) (hz : inR μ x → inb x 64 = true) : vx_Met l y_X_row (.code y_X_row c_X_row 2 (some .long) :: TB) rmR (PrF D ad kA [.ref 0, .int x] μ) (QrF D ad kA x μ) (XrF D ad kA x μ) 1 6 (Aw ad) := by
  refine vx_ofW (cc := c_X_row) (maxL := 2) (ret := some .long) (by decide) rfl ?_
  intro p e s m args below meth c s₁ B hml hno hv
  obtain ⟨rfl, hP, hSt, hTh⟩ := hv
  have hts := atoms_spec (ws := Cond.code y_X_row c_X_row 2 (some .long) :: TB) B.pre
  have hts' : ∀ w ∈ TB, w.before (([.ref 0, .int x] : List Value).map (cv ad)).toArray s = true := fun w hw => hts w (List.mem_cons_of_mem _ hw)
  have hown : s.vm.findClass y_X_row.cls = some m.cls := findClass_of_methodNamed B.named
  have hle := lv_entry (([.ref 0, .int x] : List Value).map (cv ad)) (n := 2) (Nat.le_of_ble_eq_true rfl)
  rw [lg_entry_eq]
  generalize (lg_sl (([.ref 0, .int x] : List Value).map (cv ad)) ++ List.replicate (2 - (lg_sl (([.ref 0, .int x] : List Value).map (cv ad))).length) Slot.unset).toArray = ls at hle ⊢
  rw [lv_args_cv] at hle
  generalize hΓ' : (((p, l, e, (headSpec (Cond.code y_X_row c_X_row 2 (some .long) :: TB) rmR).room), (s, m, (([.ref 0, .int x] : List Value).map (cv ad)).toArray, below), (meth, c, 0, 0), (D, ad, kA, Aw ad), fun _ _ => vx_MQ below (QrF D ad kA x μ) (XrF D ad kA x μ) (([.ref 0, .int x] : List Value).map (cv ad)).toArray s 1 6 (Aw ad)) : Cx Int64) = Γ
  have hΓ : Ok Γ "SortingNets" c_X_row 2 := by rw [← hΓ']; exact ⟨B.exec, B.bytes, hml, hown, hts', B.notSynchronized, hSt⟩
  have thr : ¬ inR μ x → Go Γ 2 15 (lv_args 0 [.ref 0, .int x]) [] μ (some (0, μ)) := by
    intro hn
    subst hΓ'
    intro H locs ls r μ' ho hP hS hlv
    refine vx_throw0 (own := "SortingNets") (cls := eN) (names := ["java/lang/RuntimeException", "java/lang/Exception"]) B.exec B.bytes hl hown (by decide +kernel) (by decide +kernel) (hts' _ (TB_of (by decide +kernel) rfl)) (hts' _ (TB_of (by decide +kernel) rfl)) (hTh.hat hts') at0_ot hTh.2.1 hTh.2.2 hS (hlv.1.trans hml.symm) d_X_row_15 d_X_row_18 d_X_row_19 d_X_row_22 (fun z hz => absurd hz (fun q => hno z q)) (Nat.le_of_ble_eq_true rfl) (Nat.le_of_ble_eq_true rfl) (Nat.le_of_ble_eq_true rfl) (Nat.le_of_ble_eq_true rfl) B.notSynchronized ?_ hS.2.2 (Nat.le_of_ble_eq_true rfl) (Nat.le_of_ble_eq_true rfl)
    intro t hA hz hk
    refine ⟨hn, rfl, hP.kept (fun k q h => hk q.1 (vx_lt hP h)), Nat.le_trans hS.1 hz, fun q h1 h2 => (hk q (Nat.lt_of_lt_of_le h1 hS.1)).trans (hS.2.1 q h1 h2)⟩
  have ret : inR μ x → Go Γ 2 23 (lv_args 0 [.ref 0, .int x]) [] μ (some (0, μ)) := by
    intro hi
    refine go_aload_n hΓ d_X_row_23 rfl (q := 0) rfl ?_
    refine go_getR (q := 16) hΓ fl_X_37 d_X_row_24 rfl rfl ?_
    refine go_getR (q := 17) hΓ fl_X_331 d_X_row_27 rfl rfl ?_
    refine go_iload_n hΓ d_X_row_30 rfl (q := 1) rfl ?_
    refine go_lald hΓ d_X_row_31 rfl (hz hi) ?_
    subst hΓ'
    intro H locs ls r μ' ho hP hS hlv
    refine W.widen (k := 1) (n := 6) (Nat.le_of_ble_eq_true rfl) (Nat.le_of_ble_eq_true rfl) ?_
    exact vx_ret (W.lret B.exec B.bytes B.returns (fun t ht hW => ⟨hi, ⟨rfl, by rw [ht]; exact hP⟩, hS.F ht⟩) hS.2.2 d_X_row_32 B.notSynchronized)
  have main : Go Γ 2 0 (lv_args 0 [.ref 0, .int x]) [] μ (some (0, μ)) := by
    refine go_iload_n hΓ d_X_row_0 rfl (q := 1) rfl ?_
    refine go_if_lt 15 hΓ d_X_row_1 rfl (fun z => thr (fun q => q.1 z)) (fun z => ?_)
    refine go_iload_n hΓ d_X_row_4 rfl (q := 1) rfl ?_
    refine go_aload_n hΓ d_X_row_5 rfl (q := 0) rfl ?_
    refine go_getR (q := 16) hΓ fl_X_37 d_X_row_6 rfl rfl ?_
    refine go_getI hΓ fl_X_300 d_X_row_9 rfl rfl ?_
    exact go_icmp_lt 23 hΓ d_X_row_12 rfl (fun y => ret ⟨z, y⟩) (fun y => thr (fun q => y q.2))
  subst hΓ'
  exact main s.heap [] ls 0 μ rfl hP va_S.rf hle

/-! the law: cuts -/
theorem go_flag {Γ : Cx Unit} {pc : Nat} {lv : List (Nat × Value)} {st : List Value} {μ : Mem} {o : Option (Unit × Mem)} {x : Int32} (h : Ok Γ "SortingNetsLaw" code 8) (d0 : decode code pc = .ok (.ifCond .eq 7, 3)) (d3 : decode code (pc + 3) = .ok (.iconst 1, 1)) (d4 : decode code (pc + 4) = .ok (.goto 4, 3)) (d7 : decode code (pc + 7) = .ok (.iconst 0, 1)) (kk : Go Γ 8 (pc + 8) lv (.int (gI' (decide (¬ x = 0))) :: st) μ o) : Go Γ 8 pc lv (.int x :: st) μ o := by
  refine go_if_eq (pc + 7) h d0 (by omega) (fun z => ?_) (fun z => ?_)
  · rw [decide_eq_false (fun q => q z)] at kk
    exact go_iconst (v := gI' false) h d7 rfl kk
  · rw [decide_eq_true z] at kk
    exact go_iconst (v := gI' true) h d3 rfl (go_goto (pc + 8) h d4 (by omega) kk)
set_option maxRecDepth 100000 in
theorem lc_13 {Γ : Cx Unit} {i L : Nat} {sc : Nat → Int32} {μ : Mem} {o : Option (Unit × Mem)} (N : Nat) (hN : 10000 ≤ N) (h : LH Γ L sc) (hi : i + 5 ≤ L) (hL : L ≤ 2560) (hr : Rel μ) (hend : ∀ μ2, Rel μ2 → Go Γ 8 1531 (lvL i) [] μ2 o) : Go Γ 8 665 (lvL i) [] μ o := by
  obtain ⟨r, μ1, μ2, e1, e2, hr2⟩ := op_cuts N hN (sc (i + 1)) (sc (i + 2)) (decide (¬ sc (i + 3) = 0)) (sc (i + 4)) μ hr
  refine go_aload_n h.1 d_law_665 rfl (q := 1) rfl ?_
  refine go_arg h hi hL 1 (by decide) (by decide) d_law_666 d_law_667 d_law_669 d_law_670 d_law_671 ?_
  refine go_arg h hi hL 2 (by decide) (by decide) d_law_672 d_law_673 d_law_675 d_law_676 d_law_677 ?_
  refine go_arg h hi hL 3 (by decide) (by decide) d_law_678 d_law_679 d_law_681 d_law_682 d_law_683 ?_
  refine go_flag h.1 d_law_684 d_law_687 d_law_688 d_law_691 ?_
  refine go_arg h hi hL 4 (by decide) (by decide) d_law_692 d_law_693 d_law_695 d_law_696 d_law_697 ?_
  refine go_runV emI h.1 h.2.1 (g_X_cuts N 36 (sc (i + 1)) (sc (i + 2)) (gI' (decide (¬ sc (i + 3) = 0))) (sc (i + 4))) mi_X_cuts ml_L_76 d_law_698 rfl rfl rfl rfl rfl e1 ?_
  refine go_aload_n h.1 d_law_701 rfl (q := 2) rfl ?_
  refine go_arg h hi hL 1 (by decide) (by decide) d_law_702 d_law_703 d_law_705 d_law_706 d_law_707 ?_
  refine go_arg h hi hL 2 (by decide) (by decide) d_law_708 d_law_709 d_law_711 d_law_712 d_law_713 ?_
  refine go_arg h hi hL 3 (by decide) (by decide) d_law_714 d_law_715 d_law_717 d_law_718 d_law_719 ?_
  refine go_flag h.1 d_law_720 d_law_723 d_law_724 d_law_727 ?_
  refine go_arg h hi hL 4 (by decide) (by decide) d_law_728 d_law_729 d_law_731 d_law_732 d_law_733 ?_
  refine go_runV emI h.1 h.2.1 (g_M_cuts N 36 (sc (i + 1)) (sc (i + 2)) (gI' (decide (¬ sc (i + 3) = 0))) (sc (i + 4))) mi_M_cuts ml_L_80 d_law_734 rfl rfl rfl rfl rfl e2 ?_
  exact go_icmp_eq 1531 h.1 d_law_737 rfl (fun _ => hend μ2 hr2) (fun z => absurd rfl z)

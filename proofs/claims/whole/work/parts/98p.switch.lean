/-! the law: its switch (written by gen_law.py) -/
set_option maxRecDepth 100000 in
theorem law_switch {Γ : Cx Unit} {i L : Nat} {sc : Nat → Int32} {μ : Mem} {o : Option (Unit × Mem)} (N : Nat) (hN : 10000 ≤ N) (h : LH Γ L sc) (hi : i + 5 ≤ L) (hL : L ≤ 2560) (hr : Rel μ) (hend : ∀ μ2, Rel μ2 → Go Γ 8 1531 (lvL i) [] μ2 o) (hrow : Go Γ 8 1476 (lvL i) [] μ o) (x : Int32) : Go Γ 8 39 (lvL i) [.int x] μ o := by
  by_cases hx : 0 ≤ x.toInt ∧ x.toInt ≤ 38
  · obtain ⟨n, -, h2, rfl⟩ := nat_of (a := 0) (b := 38) hx
    have : n = 0 ∨ n = 1 ∨ n = 2 ∨ n = 3 ∨ n = 4 ∨ n = 5 ∨ n = 6 ∨ n = 7 ∨ n = 8 ∨ n = 9 ∨ n = 10 ∨ n = 11 ∨ n = 12 ∨ n = 13 ∨ n = 14 ∨ n = 15 ∨ n = 16 ∨ n = 17 ∨ n = 18 ∨ n = 19 ∨ n = 20 ∨ n = 21 ∨ n = 22 ∨ n = 23 ∨ n = 24 ∨ n = 25 ∨ n = 26 ∨ n = 27 ∨ n = 28 ∨ n = 29 ∨ n = 30 ∨ n = 31 ∨ n = 32 ∨ n = 33 ∨ n = 34 ∨ n = 35 ∨ n = 36 ∨ n = 37 ∨ n = 38 := by omega
    rcases this with rfl | rfl | rfl | rfl | rfl | rfl | rfl | rfl | rfl | rfl | rfl | rfl | rfl | rfl | rfl | rfl | rfl | rfl | rfl | rfl | rfl | rfl | rfl | rfl | rfl | rfl | rfl | rfl | rfl | rfl | rfl | rfl | rfl | rfl | rfl | rfl | rfl | rfl | rfl
    · refine go_tabIn 208 h.1 d_law_39 (by decide) (by decide) (off := 169) rfl (by decide) ?_
      exact lc_0 N hN h hi hL hr hend
    · refine go_tabIn 233 h.1 d_law_39 (by decide) (by decide) (off := 194) rfl (by decide) ?_
      exact lc_1 N hN h hi hL hr hend
    · refine go_tabIn 258 h.1 d_law_39 (by decide) (by decide) (off := 219) rfl (by decide) ?_
      exact lc_2 N hN h hi hL hr hend
    · refine go_tabIn 283 h.1 d_law_39 (by decide) (by decide) (off := 244) rfl (by decide) ?_
      exact lc_3 N hN h hi hL hr hend
    · refine go_tabIn 332 h.1 d_law_39 (by decide) (by decide) (off := 293) rfl (by decide) ?_
      exact lc_4 N hN h hi hL hr hend
    · refine go_tabIn 393 h.1 d_law_39 (by decide) (by decide) (off := 354) rfl (by decide) ?_
      exact lc_5 N hN h hi hL hr hend
    · refine go_tabIn 442 h.1 d_law_39 (by decide) (by decide) (off := 403) rfl (by decide) ?_
      exact lc_6 N hN h hi hL hr hend
    · refine go_tabIn 479 h.1 d_law_39 (by decide) (by decide) (off := 440) rfl (by decide) ?_
      exact lc_7 N hN h hi hL hr hend
    · refine go_tabIn 516 h.1 d_law_39 (by decide) (by decide) (off := 477) rfl (by decide) ?_
      exact lc_8 N hN h hi hL hr hend
    · refine go_tabIn 553 h.1 d_law_39 (by decide) (by decide) (off := 514) rfl (by decide) ?_
      exact lc_9 N hN h hi hL hr hend
    · refine go_tabIn 590 h.1 d_law_39 (by decide) (by decide) (off := 551) rfl (by decide) ?_
      exact lc_10 N hN h hi hL hr hend
    · refine go_tabIn 615 h.1 d_law_39 (by decide) (by decide) (off := 576) rfl (by decide) ?_
      exact lc_11 N hN h hi hL hr hend
    · refine go_tabIn 640 h.1 d_law_39 (by decide) (by decide) (off := 601) rfl (by decide) ?_
      exact lc_12 N hN h hi hL hr hend
    · refine go_tabIn 665 h.1 d_law_39 (by decide) (by decide) (off := 626) rfl (by decide) ?_
      exact lc_13 N hN h hi hL hr hend
    · refine go_tabIn 742 h.1 d_law_39 (by decide) (by decide) (off := 703) rfl (by decide) ?_
      exact lc_14 N hN h hi hL hr hend
    · refine go_tabIn 779 h.1 d_law_39 (by decide) (by decide) (off := 740) rfl (by decide) ?_
      exact lc_15 N hN h hi hL hr hend
    · refine go_tabIn 804 h.1 d_law_39 (by decide) (by decide) (off := 765) rfl (by decide) ?_
      exact lc_16 N hN h hi hL hr hend
    · refine go_tabIn 841 h.1 d_law_39 (by decide) (by decide) (off := 802) rfl (by decide) ?_
      exact lc_17 N hN h hi hL hr hend
    · refine go_tabIn 866 h.1 d_law_39 (by decide) (by decide) (off := 827) rfl (by decide) ?_
      exact lc_18 N hN h hi hL hr hend
    · refine go_tabIn 891 h.1 d_law_39 (by decide) (by decide) (off := 852) rfl (by decide) ?_
      exact lc_19 N hN h hi hL hr hend
    · refine go_tabIn 916 h.1 d_law_39 (by decide) (by decide) (off := 877) rfl (by decide) ?_
      exact lc_20 N hN h hi hL hr hend
    · refine go_tabIn 953 h.1 d_law_39 (by decide) (by decide) (off := 914) rfl (by decide) ?_
      exact lc_21 N hN h hi hL hr hend
    · refine go_tabIn 990 h.1 d_law_39 (by decide) (by decide) (off := 951) rfl (by decide) ?_
      exact lc_22 N hN h hi hL hr hend
    · refine go_tabIn 1027 h.1 d_law_39 (by decide) (by decide) (off := 988) rfl (by decide) ?_
      exact lc_23 N hN h hi hL hr hend
    · refine go_tabIn 1052 h.1 d_law_39 (by decide) (by decide) (off := 1013) rfl (by decide) ?_
      exact lc_24 N hN h hi hL hr hend
    · refine go_tabIn 1089 h.1 d_law_39 (by decide) (by decide) (off := 1050) rfl (by decide) ?_
      exact lc_25 N hN h hi hL hr hend
    · refine go_tabIn 1115 h.1 d_law_39 (by decide) (by decide) (off := 1076) rfl (by decide) ?_
      exact lc_26 N hN h hi hL hr hend
    · refine go_tabIn 1141 h.1 d_law_39 (by decide) (by decide) (off := 1102) rfl (by decide) ?_
      exact lc_27 N hN h hi hL hr hend
    · refine go_tabIn 1166 h.1 d_law_39 (by decide) (by decide) (off := 1127) rfl (by decide) ?_
      exact lc_28 N hN h hi hL hr hend
    · refine go_tabIn 1215 h.1 d_law_39 (by decide) (by decide) (off := 1176) rfl (by decide) ?_
      exact lc_29 N hN h hi hL hr hend
    · refine go_tabIn 1240 h.1 d_law_39 (by decide) (by decide) (off := 1201) rfl (by decide) ?_
      exact lc_30 N hN h hi hL hr hend
    · refine go_tabIn 1265 h.1 d_law_39 (by decide) (by decide) (off := 1226) rfl (by decide) ?_
      exact lc_31 N hN h hi hL hr hend
    · refine go_tabIn 1302 h.1 d_law_39 (by decide) (by decide) (off := 1263) rfl (by decide) ?_
      exact lc_32 N hN h hi hL hr hend
    · refine go_tabIn 1339 h.1 d_law_39 (by decide) (by decide) (off := 1300) rfl (by decide) ?_
      exact lc_33 N hN h hi hL hr hend
    · refine go_tabIn 1364 h.1 d_law_39 (by decide) (by decide) (off := 1325) rfl (by decide) ?_
      exact lc_34 N hN h hi hL hr hend
    · refine go_tabIn 1389 h.1 d_law_39 (by decide) (by decide) (off := 1350) rfl (by decide) ?_
      exact lc_35 N hN h hi hL hr hend
    · refine go_tabIn 1414 h.1 d_law_39 (by decide) (by decide) (off := 1375) rfl (by decide) ?_
      exact lc_36 N hN h hi hL hr hend
    · refine go_tabIn 1451 h.1 d_law_39 (by decide) (by decide) (off := 1412) rfl (by decide) ?_
      exact lc_37 N hN h hi hL hr hend
    · refine go_tabIn 1476 h.1 d_law_39 (by decide) (by decide) (off := 1437) rfl (by decide) ?_
      exact hrow
  · exact go_tabOut 1531 h.1 d_law_39 (by omega) (by decide) (hend μ hr)

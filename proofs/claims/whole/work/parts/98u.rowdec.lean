/-! row: names, decode rows, links (written by gen_law.py) -/
abbrev c_X_row : ByteArray := prog_1_method_40_code
def y_X_row : MethodName := ⟨"SortingNets", "row", "(I)J"⟩
theorem mi_X_row : MV y_X_row c_X_row 2 (some .long) 1 := ⟨⟨by decide, (tb_4 (List.mem_of_getElem? (i := 19) rfl) rfl), (tb_1 (List.mem_of_getElem? (i := 1) rfl) rfl), by decide +kernel, by decide⟩, (tb_4 (List.mem_of_getElem? (i := 17) rfl) rfl), (tb_4 (List.mem_of_getElem? (i := 18) rfl) rfl)⟩
theorem d_X_row_0 : decode c_X_row 0 = .ok (.iload_n 1, 1) := by decide +kernel
theorem d_X_row_1 : decode c_X_row 1 = .ok (.ifCond .lt 14, 3) := by decide +kernel
theorem d_X_row_4 : decode c_X_row 4 = .ok (.iload_n 1, 1) := by decide +kernel
theorem d_X_row_5 : decode c_X_row 5 = .ok (.aload_n 0, 1) := by decide +kernel
theorem d_X_row_6 : decode c_X_row 6 = .ok (.getfield 37, 3) := by decide +kernel
theorem d_X_row_9 : decode c_X_row 9 = .ok (.getfield 300, 3) := by decide +kernel
theorem d_X_row_12 : decode c_X_row 12 = .ok (.if_icmp .lt 11, 3) := by decide +kernel
theorem d_X_row_15 : decode c_X_row 15 = .ok (.new 328, 3) := by decide +kernel
theorem d_X_row_18 : decode c_X_row 18 = .ok (.dup, 1) := by decide +kernel
theorem d_X_row_19 : decode c_X_row 19 = .ok (.invokespecial 330, 3) := by decide +kernel
theorem d_X_row_22 : decode c_X_row 22 = .ok (.athrow, 1) := by decide +kernel
theorem d_X_row_23 : decode c_X_row 23 = .ok (.aload_n 0, 1) := by decide +kernel
theorem d_X_row_24 : decode c_X_row 24 = .ok (.getfield 37, 3) := by decide +kernel
theorem d_X_row_27 : decode c_X_row 27 = .ok (.getfield 331, 3) := by decide +kernel
theorem d_X_row_30 : decode c_X_row 30 = .ok (.iload_n 1, 1) := by decide +kernel
theorem d_X_row_31 : decode c_X_row 31 = .ok (.laload, 1) := by decide +kernel
theorem d_X_row_32 : decode c_X_row 32 = .ok (.lreturn, 1) := by decide +kernel
theorem fl_X_331 : FLk "SortingNets" 331 4 0 := ⟨R_Numbers, F_Numbers, 2, t_Numbers, rfl, i_Numbers, t_Numbers_ok, n_Numbers, by decide, rfl, (tb_1 (List.mem_of_getElem? (i := 89) rfl) rfl)⟩
abbrev c_L_row : ByteArray := method_3_code
def y_L_row : MethodName := ⟨"SortingNetsLaw", "row", "(LSortingNets;I[J)I"⟩
theorem d_L_row_0 : decode c_L_row 0 = .ok (.aload_n 2, 1) := by decide +kernel
theorem d_L_row_1 : decode c_L_row 1 = .ok (.iconst 0, 1) := by decide +kernel
theorem d_L_row_2 : decode c_L_row 2 = .ok (.aload_n 0, 1) := by decide +kernel
theorem d_L_row_3 : decode c_L_row 3 = .ok (.iload_n 1, 1) := by decide +kernel
theorem d_L_row_4 : decode c_L_row 4 = .ok (.invokevirtual 7, 3) := by decide +kernel
theorem d_L_row_7 : decode c_L_row 7 = .ok (.lastore, 1) := by decide +kernel
theorem d_L_row_8 : decode c_L_row 8 = .ok (.goto 6, 3) := by decide +kernel
theorem d_L_row_11 : decode c_L_row 11 = .ok (.astore_n 3, 1) := by decide +kernel
theorem d_L_row_12 : decode c_L_row 12 = .ok (.iconst 1, 1) := by decide +kernel
theorem d_L_row_13 : decode c_L_row 13 = .ok (.ireturn, 1) := by decide +kernel
theorem d_L_row_14 : decode c_L_row 14 = .ok (.iconst 0, 1) := by decide +kernel
theorem d_L_row_15 : decode c_L_row 15 = .ok (.ireturn, 1) := by decide +kernel
theorem ml_L_7 : Cond.methodLink "SortingNetsLaw" 7 y_X_row ∈ TB := (tb_4 (List.mem_of_getElem? (i := 16) rfl) rfl)
theorem ml_L_177 : Cond.methodLink "SortingNetsLaw" 177 y_L_row ∈ TB := (tb_4 (List.mem_of_getElem? (i := 12) rfl) rfl)

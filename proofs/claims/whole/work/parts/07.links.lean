theorem fl_X_11 : FLk "SortingNets" 11 0 0 := ⟨R_X, F_X, 15, t_X, rfl, i_X, t_X_ok, n_X, by decide, rfl, (tb_1 (List.mem_of_getElem? (i := 184) rfl) rfl)⟩
theorem fl_X_16 : FLk "SortingNets" 16 0 1 := ⟨R_X, F_X, 15, t_X, rfl, i_X, t_X_ok, n_X, by decide, rfl, (tb_1 (List.mem_of_getElem? (i := 185) rfl) rfl)⟩
theorem fl_X_23 : FLk "SortingNets" 23 0 2 := ⟨R_X, F_X, 15, t_X, rfl, i_X, t_X_ok, n_X, by decide, rfl, (tb_1 (List.mem_of_getElem? (i := 186) rfl) rfl)⟩
theorem fl_X_30 : FLk "SortingNets" 30 0 3 := ⟨R_X, F_X, 15, t_X, rfl, i_X, t_X_ok, n_X, by decide, rfl, (tb_1 (List.mem_of_getElem? (i := 187) rfl) rfl)⟩
theorem fl_X_37 : FLk "SortingNets" 37 0 4 := ⟨R_X, F_X, 15, t_X, rfl, i_X, t_X_ok, n_X, by decide, rfl, (tb_1 (List.mem_of_getElem? (i := 188) rfl) rfl)⟩
theorem fl_X_44 : FLk "SortingNets" 44 0 5 := ⟨R_X, F_X, 15, t_X, rfl, i_X, t_X_ok, n_X, by decide, rfl, (tb_1 (List.mem_of_getElem? (i := 189) rfl) rfl)⟩
theorem fl_X_51 : FLk "SortingNets" 51 0 6 := ⟨R_X, F_X, 15, t_X, rfl, i_X, t_X_ok, n_X, by decide, rfl, (tb_1 (List.mem_of_getElem? (i := 190) rfl) rfl)⟩
theorem fl_X_55 : FLk "SortingNets" 55 0 7 := ⟨R_X, F_X, 15, t_X, rfl, i_X, t_X_ok, n_X, by decide, rfl, (tb_1 (List.mem_of_getElem? (i := 191) rfl) rfl)⟩
theorem fl_X_61 : FLk "SortingNets" 61 0 8 := ⟨R_X, F_X, 15, t_X, rfl, i_X, t_X_ok, n_X, by decide, rfl, (tb_1 (List.mem_of_getElem? (i := 192) rfl) rfl)⟩
theorem fl_X_65 : FLk "SortingNets" 65 0 9 := ⟨R_X, F_X, 15, t_X, rfl, i_X, t_X_ok, n_X, by decide, rfl, (tb_1 (List.mem_of_getElem? (i := 193) rfl) rfl)⟩
theorem fl_X_69 : FLk "SortingNets" 69 0 10 := ⟨R_X, F_X, 15, t_X, rfl, i_X, t_X_ok, n_X, by decide, rfl, (tb_1 (List.mem_of_getElem? (i := 194) rfl) rfl)⟩
theorem fl_X_73 : FLk "SortingNets" 73 0 11 := ⟨R_X, F_X, 15, t_X, rfl, i_X, t_X_ok, n_X, by decide, rfl, (tb_1 (List.mem_of_getElem? (i := 195) rfl) rfl)⟩
theorem fl_X_76 : FLk "SortingNets" 76 0 12 := ⟨R_X, F_X, 15, t_X, rfl, i_X, t_X_ok, n_X, by decide, rfl, (tb_1 (List.mem_of_getElem? (i := 196) rfl) rfl)⟩
theorem fl_X_79 : FLk "SortingNets" 79 0 13 := ⟨R_X, F_X, 15, t_X, rfl, i_X, t_X_ok, n_X, by decide, rfl, (tb_1 (List.mem_of_getElem? (i := 197) rfl) rfl)⟩
theorem fl_X_85 : FLk "SortingNets" 85 0 14 := ⟨R_X, F_X, 15, t_X, rfl, i_X, t_X_ok, n_X, by decide, rfl, (tb_1 (List.mem_of_getElem? (i := 198) rfl) rfl)⟩
theorem fl_X_93 : FLk "SortingNets" 93 3 1 := ⟨R_Text, F_Text, 2, t_Text, rfl, i_Text, t_Text_ok, n_Text, by decide, rfl, (tb_1 (List.mem_of_getElem? (i := 75) rfl) rfl)⟩
theorem fp_X_93 : FPk "SortingNets" 93 3 1 (.int) := ⟨R_Text, F_Text, 2, t_Text, rfl, i_Text, t_Text_ok, n_Text, by decide, rfl, (tb_1 (List.mem_of_getElem? (i := 75) rfl) rfl), rfl, rfl⟩
theorem fl_X_111 : FLk "SortingNets" 111 1 0 := ⟨R_Net, F_Net, 4, t_Net, rfl, i_Net, t_Net_ok, n_Net, by decide, rfl, (tb_1 (List.mem_of_getElem? (i := 35) rfl) rfl)⟩
theorem fl_X_121 : FLk "SortingNets" 121 1 1 := ⟨R_Net, F_Net, 4, t_Net, rfl, i_Net, t_Net_ok, n_Net, by decide, rfl, (tb_1 (List.mem_of_getElem? (i := 38) rfl) rfl)⟩
theorem fl_X_175 : FLk "SortingNets" 175 1 2 := ⟨R_Net, F_Net, 4, t_Net, rfl, i_Net, t_Net_ok, n_Net, by decide, rfl, (tb_1 (List.mem_of_getElem? (i := 42) rfl) rfl)⟩
theorem fl_X_178 : FLk "SortingNets" 178 1 3 := ⟨R_Net, F_Net, 4, t_Net, rfl, i_Net, t_Net_ok, n_Net, by decide, rfl, (tb_1 (List.mem_of_getElem? (i := 46) rfl) rfl)⟩
theorem fl_X_190 : FLk "SortingNets" 190 5 1 := ⟨R_Layers, F_Layers, 4, t_Layers, rfl, i_Layers, t_Layers_ok, n_Layers, by decide, rfl, (tb_1 (List.mem_of_getElem? (i := 107) rfl) rfl)⟩
theorem fl_X_211 : FLk "SortingNets" 211 5 0 := ⟨R_Layers, F_Layers, 4, t_Layers, rfl, i_Layers, t_Layers_ok, n_Layers, by decide, rfl, (tb_1 (List.mem_of_getElem? (i := 105) rfl) rfl)⟩
theorem fl_X_300 : FLk "SortingNets" 300 4 1 := ⟨R_Numbers, F_Numbers, 2, t_Numbers, rfl, i_Numbers, t_Numbers_ok, n_Numbers, by decide, rfl, (tb_1 (List.mem_of_getElem? (i := 91) rfl) rfl)⟩
theorem fl_X_361 : FLk "SortingNets" 361 7 0 := ⟨R_PatternSet, F_PatternSet, 1, t_PatternSet, rfl, i_PatternSet, t_PatternSet_ok, n_PatternSet, by decide, rfl, (tb_1 (List.mem_of_getElem? (i := 143) rfl) rfl)⟩
theorem fl_Layers_9 : FLk "SortingNets$Layers" 9 5 0 := ⟨R_Layers, F_Layers, 4, t_Layers, rfl, i_Layers, t_Layers_ok, n_Layers, by decide, rfl, (tb_1 (List.mem_of_getElem? (i := 104) rfl) rfl)⟩
theorem fl_Layers_15 : FLk "SortingNets$Layers" 15 5 1 := ⟨R_Layers, F_Layers, 4, t_Layers, rfl, i_Layers, t_Layers_ok, n_Layers, by decide, rfl, (tb_1 (List.mem_of_getElem? (i := 106) rfl) rfl)⟩
theorem fp_Layers_15 : FPk "SortingNets$Layers" 15 5 1 (.int) := ⟨R_Layers, F_Layers, 4, t_Layers, rfl, i_Layers, t_Layers_ok, n_Layers, by decide, rfl, (tb_1 (List.mem_of_getElem? (i := 106) rfl) rfl), rfl, rfl⟩
theorem fl_Layers_19 : FLk "SortingNets$Layers" 19 5 2 := ⟨R_Layers, F_Layers, 4, t_Layers, rfl, i_Layers, t_Layers_ok, n_Layers, by decide, rfl, (tb_1 (List.mem_of_getElem? (i := 108) rfl) rfl)⟩
theorem fl_Layers_22 : FLk "SortingNets$Layers" 22 5 3 := ⟨R_Layers, F_Layers, 4, t_Layers, rfl, i_Layers, t_Layers_ok, n_Layers, by decide, rfl, (tb_1 (List.mem_of_getElem? (i := 109) rfl) rfl)⟩
theorem fl_Layers_25 : FLk "SortingNets$Layers" 25 1 1 := ⟨R_Net, F_Net, 4, t_Net, rfl, i_Net, t_Net_ok, n_Net, by decide, rfl, (tb_1 (List.mem_of_getElem? (i := 37) rfl) rfl)⟩
theorem fl_Layers_30 : FLk "SortingNets$Layers" 30 1 2 := ⟨R_Net, F_Net, 4, t_Net, rfl, i_Net, t_Net_ok, n_Net, by decide, rfl, (tb_1 (List.mem_of_getElem? (i := 40) rfl) rfl)⟩
theorem fl_Layers_33 : FLk "SortingNets$Layers" 33 1 3 := ⟨R_Net, F_Net, 4, t_Net, rfl, i_Net, t_Net_ok, n_Net, by decide, rfl, (tb_1 (List.mem_of_getElem? (i := 44) rfl) rfl)⟩
theorem fl_Net_9 : FLk "SortingNets$Net" 9 1 0 := ⟨R_Net, F_Net, 4, t_Net, rfl, i_Net, t_Net_ok, n_Net, by decide, rfl, (tb_1 (List.mem_of_getElem? (i := 34) rfl) rfl)⟩
theorem fp_Net_9 : FPk "SortingNets$Net" 9 1 0 (.int) := ⟨R_Net, F_Net, 4, t_Net, rfl, i_Net, t_Net_ok, n_Net, by decide, rfl, (tb_1 (List.mem_of_getElem? (i := 34) rfl) rfl), rfl, rfl⟩
theorem fl_Net_15 : FLk "SortingNets$Net" 15 1 1 := ⟨R_Net, F_Net, 4, t_Net, rfl, i_Net, t_Net_ok, n_Net, by decide, rfl, (tb_1 (List.mem_of_getElem? (i := 36) rfl) rfl)⟩
theorem fp_Net_15 : FPk "SortingNets$Net" 15 1 1 (.int) := ⟨R_Net, F_Net, 4, t_Net, rfl, i_Net, t_Net_ok, n_Net, by decide, rfl, (tb_1 (List.mem_of_getElem? (i := 36) rfl) rfl), rfl, rfl⟩
theorem fl_Net_18 : FLk "SortingNets$Net" 18 1 2 := ⟨R_Net, F_Net, 4, t_Net, rfl, i_Net, t_Net_ok, n_Net, by decide, rfl, (tb_1 (List.mem_of_getElem? (i := 39) rfl) rfl)⟩
theorem fl_Net_22 : FLk "SortingNets$Net" 22 1 3 := ⟨R_Net, F_Net, 4, t_Net, rfl, i_Net, t_Net_ok, n_Net, by decide, rfl, (tb_1 (List.mem_of_getElem? (i := 43) rfl) rfl)⟩
theorem fl_Numbers_9 : FLk "SortingNets$Numbers" 9 4 0 := ⟨R_Numbers, F_Numbers, 2, t_Numbers, rfl, i_Numbers, t_Numbers_ok, n_Numbers, by decide, rfl, (tb_1 (List.mem_of_getElem? (i := 88) rfl) rfl)⟩
theorem fl_Numbers_13 : FLk "SortingNets$Numbers" 13 4 1 := ⟨R_Numbers, F_Numbers, 2, t_Numbers, rfl, i_Numbers, t_Numbers_ok, n_Numbers, by decide, rfl, (tb_1 (List.mem_of_getElem? (i := 90) rfl) rfl)⟩
theorem fp_Numbers_13 : FPk "SortingNets$Numbers" 13 4 1 (.int) := ⟨R_Numbers, F_Numbers, 2, t_Numbers, rfl, i_Numbers, t_Numbers_ok, n_Numbers, by decide, rfl, (tb_1 (List.mem_of_getElem? (i := 90) rfl) rfl), rfl, rfl⟩
theorem fl_PatternSet_11 : FLk "SortingNets$PatternSet" 11 7 0 := ⟨R_PatternSet, F_PatternSet, 1, t_PatternSet, rfl, i_PatternSet, t_PatternSet_ok, n_PatternSet, by decide, rfl, (tb_1 (List.mem_of_getElem? (i := 141) rfl) rfl)⟩
theorem fl_Search_9 : FLk "SortingNets$Search" 9 8 0 := ⟨R_Search, F_Search, 10, t_Search, rfl, i_Search, t_Search_ok, n_Search, by decide, rfl, (tb_1 (List.mem_of_getElem? (i := 153) rfl) rfl)⟩
theorem fl_Search_13 : FLk "SortingNets$Search" 13 8 1 := ⟨R_Search, F_Search, 10, t_Search, rfl, i_Search, t_Search_ok, n_Search, by decide, rfl, (tb_1 (List.mem_of_getElem? (i := 154) rfl) rfl)⟩
theorem fl_Search_16 : FLk "SortingNets$Search" 16 8 2 := ⟨R_Search, F_Search, 10, t_Search, rfl, i_Search, t_Search_ok, n_Search, by decide, rfl, (tb_1 (List.mem_of_getElem? (i := 155) rfl) rfl)⟩
theorem fl_Search_19 : FLk "SortingNets$Search" 19 8 3 := ⟨R_Search, F_Search, 10, t_Search, rfl, i_Search, t_Search_ok, n_Search, by decide, rfl, (tb_1 (List.mem_of_getElem? (i := 156) rfl) rfl)⟩
theorem fl_Search_23 : FLk "SortingNets$Search" 23 8 4 := ⟨R_Search, F_Search, 10, t_Search, rfl, i_Search, t_Search_ok, n_Search, by decide, rfl, (tb_1 (List.mem_of_getElem? (i := 157) rfl) rfl)⟩
theorem fl_Search_26 : FLk "SortingNets$Search" 26 8 5 := ⟨R_Search, F_Search, 10, t_Search, rfl, i_Search, t_Search_ok, n_Search, by decide, rfl, (tb_1 (List.mem_of_getElem? (i := 158) rfl) rfl)⟩
theorem fp_Search_26 : FPk "SortingNets$Search" 26 8 5 (.int) := ⟨R_Search, F_Search, 10, t_Search, rfl, i_Search, t_Search_ok, n_Search, by decide, rfl, (tb_1 (List.mem_of_getElem? (i := 158) rfl) rfl), rfl, rfl⟩
theorem fl_Search_30 : FLk "SortingNets$Search" 30 8 6 := ⟨R_Search, F_Search, 10, t_Search, rfl, i_Search, t_Search_ok, n_Search, by decide, rfl, (tb_1 (List.mem_of_getElem? (i := 159) rfl) rfl)⟩
theorem fp_Search_30 : FPk "SortingNets$Search" 30 8 6 (.int) := ⟨R_Search, F_Search, 10, t_Search, rfl, i_Search, t_Search_ok, n_Search, by decide, rfl, (tb_1 (List.mem_of_getElem? (i := 159) rfl) rfl), rfl, rfl⟩
theorem fl_Search_33 : FLk "SortingNets$Search" 33 8 7 := ⟨R_Search, F_Search, 10, t_Search, rfl, i_Search, t_Search_ok, n_Search, by decide, rfl, (tb_1 (List.mem_of_getElem? (i := 160) rfl) rfl)⟩
theorem fp_Search_33 : FPk "SortingNets$Search" 33 8 7 (.int) := ⟨R_Search, F_Search, 10, t_Search, rfl, i_Search, t_Search_ok, n_Search, by decide, rfl, (tb_1 (List.mem_of_getElem? (i := 160) rfl) rfl), rfl, rfl⟩
theorem fl_Search_36 : FLk "SortingNets$Search" 36 8 8 := ⟨R_Search, F_Search, 10, t_Search, rfl, i_Search, t_Search_ok, n_Search, by decide, rfl, (tb_1 (List.mem_of_getElem? (i := 161) rfl) rfl)⟩
theorem fp_Search_36 : FPk "SortingNets$Search" 36 8 8 (.int) := ⟨R_Search, F_Search, 10, t_Search, rfl, i_Search, t_Search_ok, n_Search, by decide, rfl, (tb_1 (List.mem_of_getElem? (i := 161) rfl) rfl), rfl, rfl⟩
theorem fl_Search_39 : FLk "SortingNets$Search" 39 8 9 := ⟨R_Search, F_Search, 10, t_Search, rfl, i_Search, t_Search_ok, n_Search, by decide, rfl, (tb_1 (List.mem_of_getElem? (i := 162) rfl) rfl)⟩
theorem fp_Search_39 : FPk "SortingNets$Search" 39 8 9 (.int) := ⟨R_Search, F_Search, 10, t_Search, rfl, i_Search, t_Search_ok, n_Search, by decide, rfl, (tb_1 (List.mem_of_getElem? (i := 162) rfl) rfl), rfl, rfl⟩
theorem fl_Tangle_9 : FLk "SortingNets$Tangle" 9 2 0 := ⟨R_Tangle, F_Tangle, 1, t_Tangle, rfl, i_Tangle, t_Tangle_ok, n_Tangle, by decide, rfl, (tb_1 (List.mem_of_getElem? (i := 63) rfl) rfl)⟩
theorem fl_Text_9 : FLk "SortingNets$Text" 9 3 0 := ⟨R_Text, F_Text, 2, t_Text, rfl, i_Text, t_Text_ok, n_Text, by decide, rfl, (tb_1 (List.mem_of_getElem? (i := 73) rfl) rfl)⟩
theorem fl_Text_15 : FLk "SortingNets$Text" 15 3 1 := ⟨R_Text, F_Text, 2, t_Text, rfl, i_Text, t_Text_ok, n_Text, by decide, rfl, (tb_1 (List.mem_of_getElem? (i := 74) rfl) rfl)⟩
theorem fp_Text_15 : FPk "SortingNets$Text" 15 3 1 (.int) := ⟨R_Text, F_Text, 2, t_Text, rfl, i_Text, t_Text_ok, n_Text, by decide, rfl, (tb_1 (List.mem_of_getElem? (i := 74) rfl) rfl), rfl, rfl⟩
theorem fl_Trial_13 : FLk "SortingNets$Trial" 13 6 0 := ⟨R_Trial, F_Trial, 3, t_Trial, rfl, i_Trial, t_Trial_ok, n_Trial, by decide, rfl, (tb_1 (List.mem_of_getElem? (i := 125) rfl) rfl)⟩
theorem fl_Trial_17 : FLk "SortingNets$Trial" 17 6 1 := ⟨R_Trial, F_Trial, 3, t_Trial, rfl, i_Trial, t_Trial_ok, n_Trial, by decide, rfl, (tb_1 (List.mem_of_getElem? (i := 126) rfl) rfl)⟩
theorem fp_Trial_17 : FPk "SortingNets$Trial" 17 6 1 (.int) := ⟨R_Trial, F_Trial, 3, t_Trial, rfl, i_Trial, t_Trial_ok, n_Trial, by decide, rfl, (tb_1 (List.mem_of_getElem? (i := 126) rfl) rfl), rfl, rfl⟩
theorem fl_Trial_21 : FLk "SortingNets$Trial" 21 6 2 := ⟨R_Trial, F_Trial, 3, t_Trial, rfl, i_Trial, t_Trial_ok, n_Trial, by decide, rfl, (tb_1 (List.mem_of_getElem? (i := 127) rfl) rfl)⟩
theorem fp_Trial_21 : FPk "SortingNets$Trial" 21 6 2 (.int) := ⟨R_Trial, F_Trial, 3, t_Trial, rfl, i_Trial, t_Trial_ok, n_Trial, by decide, rfl, (tb_1 (List.mem_of_getElem? (i := 127) rfl) rfl), rfl, rfl⟩
theorem fl_Trial_33 : FLk "SortingNets$Trial" 33 1 2 := ⟨R_Net, F_Net, 4, t_Net, rfl, i_Net, t_Net_ok, n_Net, by decide, rfl, (tb_1 (List.mem_of_getElem? (i := 41) rfl) rfl)⟩
theorem fl_Trial_39 : FLk "SortingNets$Trial" 39 1 3 := ⟨R_Net, F_Net, 4, t_Net, rfl, i_Net, t_Net_ok, n_Net, by decide, rfl, (tb_1 (List.mem_of_getElem? (i := 45) rfl) rfl)⟩
theorem fl_Trial_49 : FLk "SortingNets$Trial" 49 7 0 := ⟨R_PatternSet, F_PatternSet, 1, t_PatternSet, rfl, i_PatternSet, t_PatternSet_ok, n_PatternSet, by decide, rfl, (tb_1 (List.mem_of_getElem? (i := 142) rfl) rfl)⟩
theorem fl_M_7 : FLk "SortingNetsModel" 7 9 2 := ⟨R_M, F_M, 32, t_M, rfl, i_M, t_M_ok, n_M, by decide, rfl, (tb_4 (List.mem_of_getElem? (i := 89) rfl) rfl)⟩
theorem fl_M_13 : FLk "SortingNetsModel" 13 9 3 := ⟨R_M, F_M, 32, t_M, rfl, i_M, t_M_ok, n_M, by decide, rfl, (tb_4 (List.mem_of_getElem? (i := 90) rfl) rfl)⟩
theorem fl_M_17 : FLk "SortingNetsModel" 17 9 4 := ⟨R_M, F_M, 32, t_M, rfl, i_M, t_M_ok, n_M, by decide, rfl, (tb_4 (List.mem_of_getElem? (i := 91) rfl) rfl)⟩
theorem fl_M_20 : FLk "SortingNetsModel" 20 9 5 := ⟨R_M, F_M, 32, t_M, rfl, i_M, t_M_ok, n_M, by decide, rfl, (tb_4 (List.mem_of_getElem? (i := 92) rfl) rfl)⟩
theorem fl_M_23 : FLk "SortingNetsModel" 23 9 6 := ⟨R_M, F_M, 32, t_M, rfl, i_M, t_M_ok, n_M, by decide, rfl, (tb_4 (List.mem_of_getElem? (i := 93) rfl) rfl)⟩
theorem fl_M_26 : FLk "SortingNetsModel" 26 9 7 := ⟨R_M, F_M, 32, t_M, rfl, i_M, t_M_ok, n_M, by decide, rfl, (tb_4 (List.mem_of_getElem? (i := 94) rfl) rfl)⟩
theorem fl_M_29 : FLk "SortingNetsModel" 29 9 12 := ⟨R_M, F_M, 32, t_M, rfl, i_M, t_M_ok, n_M, by decide, rfl, (tb_4 (List.mem_of_getElem? (i := 99) rfl) rfl)⟩
theorem fl_M_32 : FLk "SortingNetsModel" 32 9 13 := ⟨R_M, F_M, 32, t_M, rfl, i_M, t_M_ok, n_M, by decide, rfl, (tb_4 (List.mem_of_getElem? (i := 100) rfl) rfl)⟩
theorem fl_M_35 : FLk "SortingNetsModel" 35 9 16 := ⟨R_M, F_M, 32, t_M, rfl, i_M, t_M_ok, n_M, by decide, rfl, (tb_4 (List.mem_of_getElem? (i := 103) rfl) rfl)⟩
theorem fl_M_38 : FLk "SortingNetsModel" 38 9 18 := ⟨R_M, F_M, 32, t_M, rfl, i_M, t_M_ok, n_M, by decide, rfl, (tb_4 (List.mem_of_getElem? (i := 105) rfl) rfl)⟩
theorem fl_M_41 : FLk "SortingNetsModel" 41 9 19 := ⟨R_M, F_M, 32, t_M, rfl, i_M, t_M_ok, n_M, by decide, rfl, (tb_4 (List.mem_of_getElem? (i := 106) rfl) rfl)⟩
theorem fl_M_44 : FLk "SortingNetsModel" 44 9 20 := ⟨R_M, F_M, 32, t_M, rfl, i_M, t_M_ok, n_M, by decide, rfl, (tb_4 (List.mem_of_getElem? (i := 107) rfl) rfl)⟩
theorem fl_M_47 : FLk "SortingNetsModel" 47 9 23 := ⟨R_M, F_M, 32, t_M, rfl, i_M, t_M_ok, n_M, by decide, rfl, (tb_4 (List.mem_of_getElem? (i := 110) rfl) rfl)⟩
theorem fl_M_50 : FLk "SortingNetsModel" 50 9 24 := ⟨R_M, F_M, 32, t_M, rfl, i_M, t_M_ok, n_M, by decide, rfl, (tb_4 (List.mem_of_getElem? (i := 111) rfl) rfl)⟩
theorem fl_M_54 : FLk "SortingNetsModel" 54 9 25 := ⟨R_M, F_M, 32, t_M, rfl, i_M, t_M_ok, n_M, by decide, rfl, (tb_4 (List.mem_of_getElem? (i := 112) rfl) rfl)⟩
theorem fl_M_57 : FLk "SortingNetsModel" 57 9 26 := ⟨R_M, F_M, 32, t_M, rfl, i_M, t_M_ok, n_M, by decide, rfl, (tb_4 (List.mem_of_getElem? (i := 113) rfl) rfl)⟩
theorem fl_M_60 : FLk "SortingNetsModel" 60 9 27 := ⟨R_M, F_M, 32, t_M, rfl, i_M, t_M_ok, n_M, by decide, rfl, (tb_4 (List.mem_of_getElem? (i := 114) rfl) rfl)⟩
theorem fp_M_60 : FPk "SortingNetsModel" 60 9 27 (.array .long) := ⟨R_M, F_M, 32, t_M, rfl, i_M, t_M_ok, n_M, by decide, rfl, (tb_4 (List.mem_of_getElem? (i := 114) rfl) rfl), rfl, rfl⟩
theorem fl_M_63 : FLk "SortingNetsModel" 63 9 28 := ⟨R_M, F_M, 32, t_M, rfl, i_M, t_M_ok, n_M, by decide, rfl, (tb_4 (List.mem_of_getElem? (i := 115) rfl) rfl)⟩
theorem fp_M_63 : FPk "SortingNetsModel" 63 9 28 (.array .long) := ⟨R_M, F_M, 32, t_M, rfl, i_M, t_M_ok, n_M, by decide, rfl, (tb_4 (List.mem_of_getElem? (i := 115) rfl) rfl), rfl, rfl⟩
theorem fl_M_66 : FLk "SortingNetsModel" 66 9 31 := ⟨R_M, F_M, 32, t_M, rfl, i_M, t_M_ok, n_M, by decide, rfl, (tb_4 (List.mem_of_getElem? (i := 118) rfl) rfl)⟩
theorem fl_M_69 : FLk "SortingNetsModel" 69 9 0 := ⟨R_M, F_M, 32, t_M, rfl, i_M, t_M_ok, n_M, by decide, rfl, (tb_4 (List.mem_of_getElem? (i := 87) rfl) rfl)⟩
theorem fp_M_69 : FPk "SortingNetsModel" 69 9 0 (.int) := ⟨R_M, F_M, 32, t_M, rfl, i_M, t_M_ok, n_M, by decide, rfl, (tb_4 (List.mem_of_getElem? (i := 87) rfl) rfl), rfl, rfl⟩
theorem fl_M_73 : FLk "SortingNetsModel" 73 9 1 := ⟨R_M, F_M, 32, t_M, rfl, i_M, t_M_ok, n_M, by decide, rfl, (tb_4 (List.mem_of_getElem? (i := 88) rfl) rfl)⟩
theorem fp_M_73 : FPk "SortingNetsModel" 73 9 1 (.int) := ⟨R_M, F_M, 32, t_M, rfl, i_M, t_M_ok, n_M, by decide, rfl, (tb_4 (List.mem_of_getElem? (i := 88) rfl) rfl), rfl, rfl⟩
theorem fl_M_94 : FLk "SortingNetsModel" 94 9 8 := ⟨R_M, F_M, 32, t_M, rfl, i_M, t_M_ok, n_M, by decide, rfl, (tb_4 (List.mem_of_getElem? (i := 95) rfl) rfl)⟩
theorem fp_M_94 : FPk "SortingNetsModel" 94 9 8 (.int) := ⟨R_M, F_M, 32, t_M, rfl, i_M, t_M_ok, n_M, by decide, rfl, (tb_4 (List.mem_of_getElem? (i := 95) rfl) rfl), rfl, rfl⟩
theorem fl_M_97 : FLk "SortingNetsModel" 97 9 10 := ⟨R_M, F_M, 32, t_M, rfl, i_M, t_M_ok, n_M, by decide, rfl, (tb_4 (List.mem_of_getElem? (i := 97) rfl) rfl)⟩
theorem fp_M_97 : FPk "SortingNetsModel" 97 9 10 (.int) := ⟨R_M, F_M, 32, t_M, rfl, i_M, t_M_ok, n_M, by decide, rfl, (tb_4 (List.mem_of_getElem? (i := 97) rfl) rfl), rfl, rfl⟩
theorem fl_M_100 : FLk "SortingNetsModel" 100 9 9 := ⟨R_M, F_M, 32, t_M, rfl, i_M, t_M_ok, n_M, by decide, rfl, (tb_4 (List.mem_of_getElem? (i := 96) rfl) rfl)⟩
theorem fp_M_100 : FPk "SortingNetsModel" 100 9 9 (.int) := ⟨R_M, F_M, 32, t_M, rfl, i_M, t_M_ok, n_M, by decide, rfl, (tb_4 (List.mem_of_getElem? (i := 96) rfl) rfl), rfl, rfl⟩
theorem fl_M_107 : FLk "SortingNetsModel" 107 9 11 := ⟨R_M, F_M, 32, t_M, rfl, i_M, t_M_ok, n_M, by decide, rfl, (tb_4 (List.mem_of_getElem? (i := 98) rfl) rfl)⟩
theorem fp_M_107 : FPk "SortingNetsModel" 107 9 11 (.int) := ⟨R_M, F_M, 32, t_M, rfl, i_M, t_M_ok, n_M, by decide, rfl, (tb_4 (List.mem_of_getElem? (i := 98) rfl) rfl), rfl, rfl⟩
theorem fl_M_110 : FLk "SortingNetsModel" 110 9 15 := ⟨R_M, F_M, 32, t_M, rfl, i_M, t_M_ok, n_M, by decide, rfl, (tb_4 (List.mem_of_getElem? (i := 102) rfl) rfl)⟩
theorem fp_M_110 : FPk "SortingNetsModel" 110 9 15 (.int) := ⟨R_M, F_M, 32, t_M, rfl, i_M, t_M_ok, n_M, by decide, rfl, (tb_4 (List.mem_of_getElem? (i := 102) rfl) rfl), rfl, rfl⟩
theorem fl_M_117 : FLk "SortingNetsModel" 117 9 14 := ⟨R_M, F_M, 32, t_M, rfl, i_M, t_M_ok, n_M, by decide, rfl, (tb_4 (List.mem_of_getElem? (i := 101) rfl) rfl)⟩
theorem fp_M_117 : FPk "SortingNetsModel" 117 9 14 (.int) := ⟨R_M, F_M, 32, t_M, rfl, i_M, t_M_ok, n_M, by decide, rfl, (tb_4 (List.mem_of_getElem? (i := 101) rfl) rfl), rfl, rfl⟩
theorem fl_M_179 : FLk "SortingNetsModel" 179 9 17 := ⟨R_M, F_M, 32, t_M, rfl, i_M, t_M_ok, n_M, by decide, rfl, (tb_4 (List.mem_of_getElem? (i := 104) rfl) rfl)⟩
theorem fp_M_179 : FPk "SortingNetsModel" 179 9 17 (.int) := ⟨R_M, F_M, 32, t_M, rfl, i_M, t_M_ok, n_M, by decide, rfl, (tb_4 (List.mem_of_getElem? (i := 104) rfl) rfl), rfl, rfl⟩
theorem fl_M_224 : FLk "SortingNetsModel" 224 9 21 := ⟨R_M, F_M, 32, t_M, rfl, i_M, t_M_ok, n_M, by decide, rfl, (tb_4 (List.mem_of_getElem? (i := 108) rfl) rfl)⟩
theorem fp_M_224 : FPk "SortingNetsModel" 224 9 21 (.long) := ⟨R_M, F_M, 32, t_M, rfl, i_M, t_M_ok, n_M, by decide, rfl, (tb_4 (List.mem_of_getElem? (i := 108) rfl) rfl), rfl, rfl⟩
theorem fl_M_235 : FLk "SortingNetsModel" 235 9 22 := ⟨R_M, F_M, 32, t_M, rfl, i_M, t_M_ok, n_M, by decide, rfl, (tb_4 (List.mem_of_getElem? (i := 109) rfl) rfl)⟩
theorem fp_M_235 : FPk "SortingNetsModel" 235 9 22 (.int) := ⟨R_M, F_M, 32, t_M, rfl, i_M, t_M_ok, n_M, by decide, rfl, (tb_4 (List.mem_of_getElem? (i := 109) rfl) rfl), rfl, rfl⟩
theorem fl_M_307 : FLk "SortingNetsModel" 307 9 30 := ⟨R_M, F_M, 32, t_M, rfl, i_M, t_M_ok, n_M, by decide, rfl, (tb_4 (List.mem_of_getElem? (i := 117) rfl) rfl)⟩
theorem fp_M_307 : FPk "SortingNetsModel" 307 9 30 (.int) := ⟨R_M, F_M, 32, t_M, rfl, i_M, t_M_ok, n_M, by decide, rfl, (tb_4 (List.mem_of_getElem? (i := 117) rfl) rfl), rfl, rfl⟩
theorem fl_M_322 : FLk "SortingNetsModel" 322 9 29 := ⟨R_M, F_M, 32, t_M, rfl, i_M, t_M_ok, n_M, by decide, rfl, (tb_4 (List.mem_of_getElem? (i := 116) rfl) rfl)⟩
theorem fp_M_322 : FPk "SortingNetsModel" 322 9 29 (.int) := ⟨R_M, F_M, 32, t_M, rfl, i_M, t_M_ok, n_M, by decide, rfl, (tb_4 (List.mem_of_getElem? (i := 116) rfl) rfl), rfl, rfl⟩
theorem ml_X_89 : Cond.methodLink "SortingNets" 89 y_Text_append ∈ TB := (tb_1 (List.mem_of_getElem? (i := 234) rfl) rfl)
theorem ml_X_97 : Cond.methodLink "SortingNets" 97 y_X_readNet ∈ TB := (tb_2 (List.mem_of_getElem? (i := 6) rfl) rfl)
theorem ml_X_101 : Cond.methodLink "SortingNets" 101 y_X_isNet ∈ TB := (tb_2 (List.mem_of_getElem? (i := 42) rfl) rfl)
theorem ml_X_104 : Cond.methodLink "SortingNets" 104 y_Net_take ∈ TB := (tb_2 (List.mem_of_getElem? (i := 45) rfl) rfl)
theorem ml_X_108 : Cond.methodLink "SortingNets" 108 y_Numbers_clear ∈ TB := (tb_2 (List.mem_of_getElem? (i := 49) rfl) rfl)
theorem ml_X_114 : Cond.methodLink "SortingNets" 114 y_Tangle_placeOf ∈ TB := (tb_2 (List.mem_of_getElem? (i := 53) rfl) rfl)
theorem ml_X_118 : Cond.methodLink "SortingNets" 118 y_Numbers_append ∈ TB := (tb_2 (List.mem_of_getElem? (i := 57) rfl) rfl)
theorem ml_X_124 : Cond.methodLink "SortingNets" 124 y_X_isWires ∈ TB := (tb_2 (List.mem_of_getElem? (i := 18) rfl) rfl)
theorem ml_X_127 : Cond.methodLink "SortingNets" 127 y_Net_clear ∈ TB := (tb_2 (List.mem_of_getElem? (i := 22) rfl) rfl)
theorem ml_X_130 : Cond.methodLink "SortingNets" 130 y_X_makeBubbles ∈ TB := (tb_2 (List.mem_of_getElem? (i := 65) rfl) rfl)
theorem ml_X_133 : Cond.methodLink "SortingNets" 133 y_X_makeInsertions ∈ TB := (tb_2 (List.mem_of_getElem? (i := 69) rfl) rfl)
theorem ml_X_136 : Cond.methodLink "SortingNets" 136 y_X_makeBricks ∈ TB := (tb_2 (List.mem_of_getElem? (i := 72) rfl) rfl)
theorem ml_X_139 : Cond.methodLink "SortingNets" 139 y_X_makeMergeExchange ∈ TB := (tb_2 (List.mem_of_getElem? (i := 75) rfl) rfl)
theorem ml_X_142 : Cond.methodLink "SortingNets" 142 y_X_nextState ∈ TB := (tb_2 (List.mem_of_getElem? (i := 85) rfl) rfl)
theorem ml_X_145 : Cond.methodLink "SortingNets" 145 Lib.Math.min.name ∈ TB := (tb_2 (List.mem_of_getElem? (i := 89) rfl) rfl)
theorem ml_X_151 : Cond.methodLink "SortingNets" 151 Lib.Math.max.name ∈ TB := (tb_2 (List.mem_of_getElem? (i := 92) rfl) rfl)
theorem ml_X_154 : Cond.methodLink "SortingNets" 154 y_Net_append ∈ TB := (tb_2 (List.mem_of_getElem? (i := 68) rfl) rfl)
theorem ml_X_157 : Cond.methodLink "SortingNets" 157 y_X_judge ∈ TB := (tb_2 (List.mem_of_getElem? (i := 95) rfl) rfl)
theorem ml_X_161 : Cond.methodLink "SortingNets" 161 y_PatternSet_size ∈ TB := (tb_2 (List.mem_of_getElem? (i := 125) rfl) rfl)
theorem ml_X_163 : Cond.methodLink "SortingNets" 163 y_Net_isWire ∈ TB := (tb_2 (List.mem_of_getElem? (i := 30) rfl) rfl)
theorem ml_X_166 : Cond.methodLink "SortingNets" 166 y_X_isComparer ∈ TB := (tb_2 (List.mem_of_getElem? (i := 143) rfl) rfl)
theorem ml_X_169 : Cond.methodLink "SortingNets" 169 y_Net_remove ∈ TB := (tb_2 (List.mem_of_getElem? (i := 147) rfl) rfl)
theorem ml_X_172 : Cond.methodLink "SortingNets" 172 y_Net_exchangeWithNext ∈ TB := (tb_2 (List.mem_of_getElem? (i := 155) rfl) rfl)
theorem ml_X_181 : Cond.methodLink "SortingNets" 181 y_Net_reverse ∈ TB := (tb_2 (List.mem_of_getElem? (i := 175) rfl) rfl)
theorem ml_X_184 : Cond.methodLink "SortingNets" 184 y_Net_reflect ∈ TB := (tb_2 (List.mem_of_getElem? (i := 183) rfl) rfl)
theorem ml_X_187 : Cond.methodLink "SortingNets" 187 y_Layers_read ∈ TB := (tb_2 (List.mem_of_getElem? (i := 191) rfl) rfl)
theorem ml_X_193 : Cond.methodLink "SortingNets" 193 y_X_appendLayer ∈ TB := (tb_2 (List.mem_of_getElem? (i := 196) rfl) rfl)
theorem ml_X_196 : Cond.methodLink "SortingNets" 196 y_Net_differences ∈ TB := (tb_2 (List.mem_of_getElem? (i := 200) rfl) rfl)
theorem ml_X_200 : Cond.methodLink "SortingNets" 200 y_X_nameLines ∈ TB := (tb_2 (List.mem_of_getElem? (i := 208) rfl) rfl)
theorem ml_X_204 : Cond.methodLink "SortingNets" 204 y_Tangle_start ∈ TB := (tb_2 (List.mem_of_getElem? (i := 26) rfl) rfl)
theorem ml_X_207 : Cond.methodLink "SortingNets" 207 y_X_cutAt ∈ TB := (tb_2 (List.mem_of_getElem? (i := 212) rfl) rfl)
theorem ml_X_214 : Cond.methodLink "SortingNets" 214 y_X_code ∈ TB := (tb_2 (List.mem_of_getElem? (i := 220) rfl) rfl)
theorem ml_X_217 : Cond.methodLink "SortingNets" 217 y_Layers_sizeOf ∈ TB := (tb_2 (List.mem_of_getElem? (i := 227) rfl) rfl)
theorem ml_X_220 : Cond.methodLink "SortingNets" 220 y_X_isPattern ∈ TB := (tb_2 (List.mem_of_getElem? (i := 235) rfl) rfl)
theorem ml_X_223 : Cond.methodLink "SortingNets" 223 y_X_readValues ∈ TB := (tb_3 (List.mem_of_getElem? (i := 3) rfl) rfl)
theorem ml_X_226 : Cond.methodLink "SortingNets" 226 y_X_orderValues ∈ TB := (tb_3 (List.mem_of_getElem? (i := 7) rfl) rfl)
theorem ml_X_229 : Cond.methodLink "SortingNets" 229 y_X_tellFirst ∈ TB := (tb_3 (List.mem_of_getElem? (i := 11) rfl) rfl)
theorem ml_X_233 : Cond.methodLink "SortingNets" 233 y_PatternSet_first ∈ TB := (tb_3 (List.mem_of_getElem? (i := 19) rfl) rfl)
theorem ml_X_236 : Cond.methodLink "SortingNets" 236 y_PatternSet_isEmpty ∈ TB := (tb_3 (List.mem_of_getElem? (i := 23) rfl) rfl)
theorem ml_X_240 : Cond.methodLink "SortingNets" 240 y_X_takeImage ∈ TB := (tb_3 (List.mem_of_getElem? (i := 32) rfl) rfl)
theorem ml_X_243 : Cond.methodLink "SortingNets" 243 y_X_topOnes ∈ TB := (tb_3 (List.mem_of_getElem? (i := 49) rfl) rfl)
theorem ml_X_246 : Cond.methodLink "SortingNets" 246 y_PatternSet_holds ∈ TB := (tb_3 (List.mem_of_getElem? (i := 52) rfl) rfl)
theorem ml_X_249 : Cond.methodLink "SortingNets" 249 y_X_findResults ∈ TB := (tb_3 (List.mem_of_getElem? (i := 36) rfl) rfl)
theorem ml_X_252 : Cond.methodLink "SortingNets" 252 y_X_findReach ∈ TB := (tb_3 (List.mem_of_getElem? (i := 64) rfl) rfl)
theorem ml_X_255 : Cond.methodLink "SortingNets" 255 y_X_tellBits ∈ TB := (tb_3 (List.mem_of_getElem? (i := 74) rfl) rfl)
theorem ml_X_258 : Cond.methodLink "SortingNets" 258 y_X_leavesUnsorted ∈ TB := (tb_3 (List.mem_of_getElem? (i := 86) rfl) rfl)
theorem ml_X_261 : Cond.methodLink "SortingNets" 261 y_X_nextOrder ∈ TB := (tb_3 (List.mem_of_getElem? (i := 90) rfl) rfl)
theorem ml_X_266 : Cond.methodLink "SortingNets" 266 y_Trial_start ∈ TB := (tb_2 (List.mem_of_getElem? (i := 99) rfl) rfl)
theorem ml_X_267 : Cond.methodLink "SortingNets" 267 y_Trial_isBusy ∈ TB := (tb_3 (List.mem_of_getElem? (i := 107) rfl) rfl)
theorem ml_X_270 : Cond.methodLink "SortingNets" 270 y_Trial_compare ∈ TB := (tb_3 (List.mem_of_getElem? (i := 111) rfl) rfl)
theorem ml_X_273 : Cond.methodLink "SortingNets" 273 y_JLong_bitCount ∈ TB := (tb_3 (List.mem_of_getElem? (i := 112) rfl) rfl)
theorem ml_X_279 : Cond.methodLink "SortingNets" 279 y_X_isSorting ∈ TB := (tb_3 (List.mem_of_getElem? (i := 117) rfl) rfl)
theorem ml_X_285 : Cond.methodLink "SortingNets" 285 y_Trial_runPart ∈ TB := (tb_2 (List.mem_of_getElem? (i := 109) rfl) rfl)
theorem ml_X_289 : Cond.methodLink "SortingNets" 289 y_Trial_exchange ∈ TB := (tb_3 (List.mem_of_getElem? (i := 130) rfl) rfl)
theorem ml_X_292 : Cond.methodLink "SortingNets" 292 y_Trial_findUnsorted ∈ TB := (tb_2 (List.mem_of_getElem? (i := 117) rfl) rfl)
theorem ml_X_296 : Cond.methodLink "SortingNets" 296 y_X_findNotices ∈ TB := (tb_3 (List.mem_of_getElem? (i := 138) rfl) rfl)
theorem ml_X_301 : Cond.methodLink "SortingNets" 301 y_Trial_take ∈ TB := (tb_3 (List.mem_of_getElem? (i := 146) rfl) rfl)
theorem ml_X_304 : Cond.methodLink "SortingNets" 304 y_Trial_findUnlike ∈ TB := (tb_3 (List.mem_of_getElem? (i := 154) rfl) rfl)
theorem ml_X_308 : Cond.methodLink "SortingNets" 308 y_X_smallImage ∈ TB := (tb_3 (List.mem_of_getElem? (i := 162) rfl) rfl)
theorem ml_X_317 : Cond.methodLink "SortingNets" 317 y_Search_tellSteps ∈ TB := (tb_3 (List.mem_of_getElem? (i := 183) rfl) rfl)
theorem ml_X_321 : Cond.methodLink "SortingNets" 321 y_X_isFinishedBy ∈ TB := (tb_3 (List.mem_of_getElem? (i := 236) rfl) rfl)
theorem ml_X_325 : Cond.methodLink "SortingNets" 325 y_X_allComparers ∈ TB := (tb_4 (List.mem_of_getElem? (i := 8) rfl) rfl)
theorem ml_X_334 : Cond.methodLink "SortingNets" 334 y_JInt_bitCount ∈ TB := (tb_3 (List.mem_of_getElem? (i := 68) rfl) rfl)
theorem ml_X_338 : Cond.methodLink "SortingNets" 338 y_Text_digitAt ∈ TB := (tb_2 (List.mem_of_getElem? (i := 10) rfl) rfl)
theorem ml_X_341 : Cond.methodLink "SortingNets" 341 y_Text_signAt ∈ TB := (tb_2 (List.mem_of_getElem? (i := 21) rfl) rfl)
theorem ml_X_344 : Cond.methodLink "SortingNets" 344 y_Tangle_untangle ∈ TB := (tb_2 (List.mem_of_getElem? (i := 34) rfl) rfl)
theorem ml_X_349 : Cond.methodLink "SortingNets" 349 y_X_appendStride ∈ TB := (tb_2 (List.mem_of_getElem? (i := 78) rfl) rfl)
theorem ml_X_353 : Cond.methodLink "SortingNets" 353 y_Trial_listResults ∈ TB := (tb_3 (List.mem_of_getElem? (i := 40) rfl) rfl)
theorem ml_X_357 : Cond.methodLink "SortingNets" 357 y_PatternSet_clear ∈ TB := (tb_3 (List.mem_of_getElem? (i := 44) rfl) rfl)
theorem ml_X_358 : Cond.methodLink "SortingNets" 358 y_PatternSet_put ∈ TB := (tb_3 (List.mem_of_getElem? (i := 45) rfl) rfl)
theorem ml_X_364 : Cond.methodLink "SortingNets" 364 y_X_exchangeValues ∈ TB := (tb_3 (List.mem_of_getElem? (i := 94) rfl) rfl)
theorem ml_X_367 : Cond.methodLink "SortingNets" 367 y_Sets_compared ∈ TB := (tb_3 (List.mem_of_getElem? (i := 239) rfl) rfl)
theorem ml_Layers_36 : Cond.methodLink "SortingNets$Layers" 36 Lib.Math.max.name ∈ TB := (tb_2 (List.mem_of_getElem? (i := 195) rfl) rfl)
theorem ml_Net_25 : Cond.methodLink "SortingNets$Net" 25 y_Net_exchangeAt ∈ TB := (tb_2 (List.mem_of_getElem? (i := 159) rfl) rfl)
theorem ml_PatternSet_15 : Cond.methodLink "SortingNets$PatternSet" 15 y_JLong_bitCount ∈ TB := (tb_2 (List.mem_of_getElem? (i := 129) rfl) rfl)
theorem ml_PatternSet_21 : Cond.methodLink "SortingNets$PatternSet" 21 y_PatternSet_first ∈ TB := (tb_3 (List.mem_of_getElem? (i := 27) rfl) rfl)
theorem ml_Search_42 : Cond.methodLink "SortingNets$Search" 42 y_Search_listPairs ∈ TB := (tb_3 (List.mem_of_getElem? (i := 187) rfl) rfl)
theorem ml_Search_45 : Cond.methodLink "SortingNets$Search" 45 y_Search_listMoves ∈ TB := (tb_3 (List.mem_of_getElem? (i := 191) rfl) rfl)
theorem ml_Search_49 : Cond.methodLink "SortingNets$Search" 49 y_Sets_all ∈ TB := (tb_3 (List.mem_of_getElem? (i := 200) rfl) rfl)
theorem ml_Search_55 : Cond.methodLink "SortingNets$Search" 55 y_Numbers_clear ∈ TB := (tb_3 (List.mem_of_getElem? (i := 203) rfl) rfl)
theorem ml_Search_60 : Cond.methodLink "SortingNets$Search" 60 y_Search_isOver ∈ TB := (tb_3 (List.mem_of_getElem? (i := 204) rfl) rfl)
theorem ml_Search_64 : Cond.methodLink "SortingNets$Search" 64 y_Search_makeStep ∈ TB := (tb_3 (List.mem_of_getElem? (i := 209) rfl) rfl)
theorem ml_Search_67 : Cond.methodLink "SortingNets$Search" 67 y_Numbers_append ∈ TB := (tb_3 (List.mem_of_getElem? (i := 227) rfl) rfl)
theorem ml_Search_71 : Cond.methodLink "SortingNets$Search" 71 y_JInt_bitCount ∈ TB := (tb_3 (List.mem_of_getElem? (i := 195) rfl) rfl)
theorem ml_Search_77 : Cond.methodLink "SortingNets$Search" 77 y_Search_isLayer ∈ TB := (tb_3 (List.mem_of_getElem? (i := 196) rfl) rfl)
theorem ml_Search_81 : Cond.methodLink "SortingNets$Search" 81 y_JLong_bitCount ∈ TB := (tb_3 (List.mem_of_getElem? (i := 208) rfl) rfl)
theorem ml_Search_86 : Cond.methodLink "SortingNets$Search" 86 y_Search_moved ∈ TB := (tb_3 (List.mem_of_getElem? (i := 213) rfl) rfl)
theorem ml_Search_90 : Cond.methodLink "SortingNets$Search" 90 y_Search_consider ∈ TB := (tb_3 (List.mem_of_getElem? (i := 220) rfl) rfl)
theorem ml_Search_93 : Cond.methodLink "SortingNets$Search" 93 y_Sets_compared ∈ TB := (tb_3 (List.mem_of_getElem? (i := 217) rfl) rfl)
theorem ml_Search_97 : Cond.methodLink "SortingNets$Search" 97 y_Sets_isWithin ∈ TB := (tb_3 (List.mem_of_getElem? (i := 224) rfl) rfl)
theorem ml_Sets_15 : Cond.methodLink "SortingNets$Sets" 15 y_Sets_exchanged ∈ TB := (tb_3 (List.mem_of_getElem? (i := 170) rfl) rfl)
theorem ml_Sets_21 : Cond.methodLink "SortingNets$Sets" 21 y_Sets_mayFit ∈ TB := (tb_3 (List.mem_of_getElem? (i := 174) rfl) rfl)
theorem ml_Sets_25 : Cond.methodLink "SortingNets$Sets" 25 y_Sets_waysWithin ∈ TB := (tb_3 (List.mem_of_getElem? (i := 178) rfl) rfl)
theorem ml_Sets_29 : Cond.methodLink "SortingNets$Sets" 29 y_JLong_bitCount ∈ TB := (tb_3 (List.mem_of_getElem? (i := 177) rfl) rfl)
theorem ml_Tangle_15 : Cond.methodLink "SortingNets$Tangle" 15 y_Net_append ∈ TB := (tb_2 (List.mem_of_getElem? (i := 38) rfl) rfl)
theorem ml_Text_19 : Cond.methodLink "SortingNets$Text" 19 y_Text_signAt ∈ TB := (tb_2 (List.mem_of_getElem? (i := 14) rfl) rfl)
theorem ml_Trial_26 : Cond.methodLink "SortingNets$Trial" 26 y_Trial_column ∈ TB := (tb_2 (List.mem_of_getElem? (i := 104) rfl) rfl)
theorem ml_Trial_42 : Cond.methodLink "SortingNets$Trial" 42 y_Trial_compare ∈ TB := (tb_2 (List.mem_of_getElem? (i := 113) rfl) rfl)
theorem ml_Trial_46 : Cond.methodLink "SortingNets$Trial" 46 y_PatternSet_clear ∈ TB := (tb_2 (List.mem_of_getElem? (i := 121) rfl) rfl)
theorem ml_M_76 : Cond.methodLink "SortingNetsModel" 76 y_M_enters ∈ TB := (tb_5 (List.mem_of_getElem? (i := 6) rfl) rfl)
theorem ml_M_82 : Cond.methodLink "SortingNetsModel" 82 y_M_in ∈ TB := (tb_4 (List.mem_of_getElem? (i := 197) rfl) rfl)
theorem ml_M_86 : Cond.methodLink "SortingNetsModel" 86 y_M_all ∈ TB := (tb_5 (List.mem_of_getElem? (i := 54) rfl) rfl)
theorem ml_M_90 : Cond.methodLink "SortingNetsModel" 90 y_M_sets ∈ TB := (tb_5 (List.mem_of_getElem? (i := 2) rfl) rfl)
theorem ml_M_113 : Cond.methodLink "SortingNetsModel" 113 y_M_takesDigit ∈ TB := (tb_4 (List.mem_of_getElem? (i := 212) rfl) rfl)
theorem ml_M_120 : Cond.methodLink "SortingNetsModel" 120 y_M_takes ∈ TB := (tb_4 (List.mem_of_getElem? (i := 216) rfl) rfl)
theorem ml_M_124 : Cond.methodLink "SortingNetsModel" 124 y_M_takesPair ∈ TB := (tb_4 (List.mem_of_getElem? (i := 220) rfl) rfl)
theorem ml_M_128 : Cond.methodLink "SortingNetsModel" 128 y_M_begins ∈ TB := (tb_4 (List.mem_of_getElem? (i := 232) rfl) rfl)
theorem ml_M_132 : Cond.methodLink "SortingNetsModel" 132 Lib.Math.min.name ∈ TB := (tb_4 (List.mem_of_getElem? (i := 236) rfl) rfl)
theorem ml_M_138 : Cond.methodLink "SortingNetsModel" 138 Lib.Math.max.name ∈ TB := (tb_4 (List.mem_of_getElem? (i := 237) rfl) rfl)
theorem ml_M_141 : Cond.methodLink "SortingNetsModel" 141 y_M_comes3 ∈ TB := (tb_4 (List.mem_of_getElem? (i := 238) rfl) rfl)
theorem ml_M_145 : Cond.methodLink "SortingNetsModel" 145 y_M_reads ∈ TB := (tb_4 (List.mem_of_getElem? (i := 204) rfl) rfl)
theorem ml_M_148 : Cond.methodLink "SortingNetsModel" 148 y_M_takesNet ∈ TB := (tb_4 (List.mem_of_getElem? (i := 208) rfl) rfl)
theorem ml_M_151 : Cond.methodLink "SortingNetsModel" 151 y_M_isNet ∈ TB := (tb_4 (List.mem_of_getElem? (i := 224) rfl) rfl)
theorem ml_M_154 : Cond.methodLink "SortingNetsModel" 154 y_M_untangles ∈ TB := (tb_4 (List.mem_of_getElem? (i := 228) rfl) rfl)
theorem ml_M_157 : Cond.methodLink "SortingNetsModel" 157 y_M_exchanges5 ∈ TB := (tb_5 (List.mem_of_getElem? (i := 33) rfl) rfl)
theorem ml_M_167 : Cond.methodLink "SortingNetsModel" 167 y_M_sinks ∈ TB := (tb_5 (List.mem_of_getElem? (i := 17) rfl) rfl)
theorem ml_M_170 : Cond.methodLink "SortingNetsModel" 170 y_M_inserts ∈ TB := (tb_5 (List.mem_of_getElem? (i := 21) rfl) rfl)
theorem ml_M_173 : Cond.methodLink "SortingNetsModel" 173 y_M_alternates ∈ TB := (tb_5 (List.mem_of_getElem? (i := 25) rfl) rfl)
theorem ml_M_176 : Cond.methodLink "SortingNetsModel" 176 y_M_mergesAll ∈ TB := (tb_5 (List.mem_of_getElem? (i := 29) rfl) rfl)
theorem ml_M_185 : Cond.methodLink "SortingNetsModel" 185 y_M_draw ∈ TB := (tb_5 (List.mem_of_getElem? (i := 42) rfl) rfl)
theorem ml_M_188 : Cond.methodLink "SortingNetsModel" 188 y_M_flag ∈ TB := (tb_5 (List.mem_of_getElem? (i := 47) rfl) rfl)
theorem ml_M_192 : Cond.methodLink "SortingNetsModel" 192 y_M_wrongs ∈ TB := (tb_5 (List.mem_of_getElem? (i := 50) rfl) rfl)
theorem ml_M_196 : Cond.methodLink "SortingNetsModel" 196 y_M_isWire ∈ TB := (tb_5 (List.mem_of_getElem? (i := 81) rfl) rfl)
theorem ml_M_199 : Cond.methodLink "SortingNetsModel" 199 y_M_lowOf ∈ TB := (tb_5 (List.mem_of_getElem? (i := 66) rfl) rfl)
theorem ml_M_202 : Cond.methodLink "SortingNetsModel" 202 y_M_highOf ∈ TB := (tb_5 (List.mem_of_getElem? (i := 70) rfl) rfl)
theorem ml_M_205 : Cond.methodLink "SortingNetsModel" 205 y_M_isComparer ∈ TB := (tb_5 (List.mem_of_getElem? (i := 89) rfl) rfl)
theorem ml_M_208 : Cond.methodLink "SortingNetsModel" 208 y_M_goes ∈ TB := (tb_5 (List.mem_of_getElem? (i := 93) rfl) rfl)
theorem ml_M_211 : Cond.methodLink "SortingNetsModel" 211 y_M_touch ∈ TB := (tb_5 (List.mem_of_getElem? (i := 101) rfl) rfl)
theorem ml_M_215 : Cond.methodLink "SortingNetsModel" 215 y_M_changes ∈ TB := (tb_5 (List.mem_of_getElem? (i := 105) rfl) rfl)
theorem ml_M_218 : Cond.methodLink "SortingNetsModel" 218 y_M_laysLayers ∈ TB := (tb_5 (List.mem_of_getElem? (i := 129) rfl) rfl)
theorem ml_M_221 : Cond.methodLink "SortingNetsModel" 221 y_M_tellsOne ∈ TB := (tb_5 (List.mem_of_getElem? (i := 137) rfl) rfl)
theorem ml_M_228 : Cond.methodLink "SortingNetsModel" 228 y_M_result ∈ TB := (tb_5 (List.mem_of_getElem? (i := 62) rfl) rfl)
theorem ml_M_232 : Cond.methodLink "SortingNetsModel" 232 y_M_isSorted ∈ TB := (tb_5 (List.mem_of_getElem? (i := 74) rfl) rfl)
theorem ml_M_238 : Cond.methodLink "SortingNetsModel" 238 y_M_isWrong ∈ TB := (tb_5 (List.mem_of_getElem? (i := 58) rfl) rfl)
theorem ml_M_242 : Cond.methodLink "SortingNetsModel" 242 y_M_isPattern ∈ TB := (tb_5 (List.mem_of_getElem? (i := 153) rfl) rfl)
theorem ml_M_245 : Cond.methodLink "SortingNetsModel" 245 y_M_isDigit ∈ TB := (tb_5 (List.mem_of_getElem? (i := 165) rfl) rfl)
theorem ml_M_248 : Cond.methodLink "SortingNetsModel" 248 y_M_takesNumbers ∈ TB := (tb_5 (List.mem_of_getElem? (i := 161) rfl) rfl)
theorem ml_M_251 : Cond.methodLink "SortingNetsModel" 251 y_M_laysImage ∈ TB := (tb_5 (List.mem_of_getElem? (i := 179) rfl) rfl)
theorem ml_M_255 : Cond.methodLink "SortingNetsModel" 255 y_JInt_bitCount ∈ TB := (tb_5 (List.mem_of_getElem? (i := 195) rfl) rfl)
theorem ml_M_260 : Cond.methodLink "SortingNetsModel" 260 y_M_wiresOf ∈ TB := (tb_5 (List.mem_of_getElem? (i := 191) rfl) rfl)
theorem ml_M_263 : Cond.methodLink "SortingNetsModel" 263 y_M_exchanges2 ∈ TB := (tb_5 (List.mem_of_getElem? (i := 216) rfl) rfl)
theorem ml_M_265 : Cond.methodLink "SortingNetsModel" 265 y_M_firstOrder ∈ TB := (tb_5 (List.mem_of_getElem? (i := 204) rfl) rfl)
theorem ml_M_268 : Cond.methodLink "SortingNetsModel" 268 y_M_leavesSorted ∈ TB := (tb_5 (List.mem_of_getElem? (i := 208) rfl) rfl)
theorem ml_M_271 : Cond.methodLink "SortingNetsModel" 271 y_M_nextOrder ∈ TB := (tb_5 (List.mem_of_getElem? (i := 212) rfl) rfl)
theorem ml_M_274 : Cond.methodLink "SortingNetsModel" 274 y_JLong_bitCount ∈ TB := (tb_5 (List.mem_of_getElem? (i := 232) rfl) rfl)
theorem ml_M_281 : Cond.methodLink "SortingNetsModel" 281 y_M_bits ∈ TB := (tb_5 (List.mem_of_getElem? (i := 229) rfl) rfl)
theorem ml_M_284 : Cond.methodLink "SortingNetsModel" 284 y_M_doesSort ∈ TB := (tb_5 (List.mem_of_getElem? (i := 237) rfl) rfl)
theorem ml_M_289 : Cond.methodLink "SortingNetsModel" 289 y_M_spares ∈ TB := (tb_6 (List.mem_of_getElem? (i := 2) rfl) rfl)
theorem ml_M_293 : Cond.methodLink "SortingNetsModel" 293 y_M_compared ∈ TB := (tb_6 (List.mem_of_getElem? (i := 22) rfl) rfl)
theorem ml_M_296 : Cond.methodLink "SortingNetsModel" 296 y_M_isTurnedIn ∈ TB := (tb_6 (List.mem_of_getElem? (i := 41) rfl) rfl)
theorem ml_M_300 : Cond.methodLink "SortingNetsModel" 300 y_M_imageOf ∈ TB := (tb_6 (List.mem_of_getElem? (i := 33) rfl) rfl)
theorem ml_M_303 : Cond.methodLink "SortingNetsModel" 303 y_M_turns ∈ TB := (tb_6 (List.mem_of_getElem? (i := 37) rfl) rfl)
theorem ml_M_310 : Cond.methodLink "SortingNetsModel" 310 y_M_comparedAll ∈ TB := (tb_6 (List.mem_of_getElem? (i := 65) rfl) rfl)
theorem ml_M_314 : Cond.methodLink "SortingNetsModel" 314 y_M_offers ∈ TB := (tb_6 (List.mem_of_getElem? (i := 68) rfl) rfl)
theorem ml_M_318 : Cond.methodLink "SortingNetsModel" 318 y_M_layered ∈ TB := (tb_6 (List.mem_of_getElem? (i := 62) rfl) rfl)
theorem ml_M_325 : Cond.methodLink "SortingNetsModel" 325 y_M_isDone ∈ TB := (tb_6 (List.mem_of_getElem? (i := 54) rfl) rfl)
theorem ml_M_328 : Cond.methodLink "SortingNetsModel" 328 y_M_offersLayers ∈ TB := (tb_6 (List.mem_of_getElem? (i := 58) rfl) rfl)
theorem ml_M_331 : Cond.methodLink "SortingNetsModel" 331 y_M_offersEach ∈ TB := (tb_6 (List.mem_of_getElem? (i := 72) rfl) rfl)
theorem ml_M_336 : Cond.methodLink "SortingNetsModel" 336 y_M_fewest ∈ TB := (tb_6 (List.mem_of_getElem? (i := 50) rfl) rfl)
theorem ml_M_340 : Cond.methodLink "SortingNetsModel" 340 y_M_canBe ∈ TB := (tb_6 (List.mem_of_getElem? (i := 84) rfl) rfl)

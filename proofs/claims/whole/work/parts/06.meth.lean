abbrev c_Text_append : ByteArray := prog_9_method_2_code
def y_Text_append : MethodName := ⟨"SortingNets$Text", "append", "(I)Z"⟩
theorem mi_Text_append : MV y_Text_append c_Text_append 3 (some .boolean) 1 := ⟨⟨by decide, (tb_1 (List.mem_of_getElem? (i := 237) rfl) rfl), (tb_1 (List.mem_of_getElem? (i := 4) rfl) rfl), by decide +kernel, by decide⟩, (tb_1 (List.mem_of_getElem? (i := 235) rfl) rfl), (tb_1 (List.mem_of_getElem? (i := 236) rfl) rfl)⟩
abbrev c_X_sign : ByteArray := prog_1_method_2_code
def y_X_sign : MethodName := ⟨"SortingNets", "sign", "(I)I"⟩
theorem mi_X_sign : MV y_X_sign c_X_sign 2 (some .int) 1 := ⟨⟨by decide, (tb_1 (List.mem_of_getElem? (i := 233) rfl) rfl), (tb_1 (List.mem_of_getElem? (i := 1) rfl) rfl), by decide +kernel, by decide⟩, (tb_1 (List.mem_of_getElem? (i := 231) rfl) rfl), (tb_1 (List.mem_of_getElem? (i := 232) rfl) rfl)⟩
abbrev c_X_end : ByteArray := prog_1_method_3_code
def y_X_end : MethodName := ⟨"SortingNets", "end", "(I)Z"⟩
theorem mi_X_end : MV y_X_end c_X_end 2 (some .boolean) 1 := ⟨⟨by decide, (tb_2 (List.mem_of_getElem? (i := 1) rfl) rfl), (tb_1 (List.mem_of_getElem? (i := 1) rfl) rfl), by decide +kernel, by decide⟩, (tb_1 (List.mem_of_getElem? (i := 239) rfl) rfl), (tb_2 (List.mem_of_getElem? (i := 0) rfl) rfl)⟩
abbrev c_Text_signAt : ByteArray := prog_9_method_3_code
def y_Text_signAt : MethodName := ⟨"SortingNets$Text", "signAt", "(I)I"⟩
theorem mi_Text_signAt : MV y_Text_signAt c_Text_signAt 2 (some .int) 1 := ⟨⟨by decide, (tb_2 (List.mem_of_getElem? (i := 17) rfl) rfl), (tb_1 (List.mem_of_getElem? (i := 4) rfl) rfl), by decide +kernel, by decide⟩, (tb_2 (List.mem_of_getElem? (i := 15) rfl) rfl), (tb_2 (List.mem_of_getElem? (i := 16) rfl) rfl)⟩
abbrev c_Text_digitAt : ByteArray := prog_9_method_4_code
def y_Text_digitAt : MethodName := ⟨"SortingNets$Text", "digitAt", "(I)I"⟩
theorem mi_Text_digitAt : MV y_Text_digitAt c_Text_digitAt 3 (some .int) 1 := ⟨⟨by decide, (tb_2 (List.mem_of_getElem? (i := 13) rfl) rfl), (tb_1 (List.mem_of_getElem? (i := 4) rfl) rfl), by decide +kernel, by decide⟩, (tb_2 (List.mem_of_getElem? (i := 11) rfl) rfl), (tb_2 (List.mem_of_getElem? (i := 12) rfl) rfl)⟩
abbrev c_X_isWires : ByteArray := prog_1_method_42_code
def y_X_isWires : MethodName := ⟨"SortingNets", "isWires", "(I)Z"⟩
theorem mi_X_isWires : MS y_X_isWires c_X_isWires 1 (some .boolean) 1 := ⟨⟨by decide, (tb_2 (List.mem_of_getElem? (i := 20) rfl) rfl), (tb_1 (List.mem_of_getElem? (i := 1) rfl) rfl), by decide +kernel, by decide⟩, (tb_2 (List.mem_of_getElem? (i := 19) rfl) rfl)⟩
abbrev c_Net_clear : ByteArray := prog_3_method_3_code
def y_Net_clear : MethodName := ⟨"SortingNets$Net", "clear", "(I)V"⟩
theorem mi_Net_clear : MV y_Net_clear c_Net_clear 2 none 1 := ⟨⟨by decide, (tb_2 (List.mem_of_getElem? (i := 25) rfl) rfl), (tb_1 (List.mem_of_getElem? (i := 2) rfl) rfl), by decide +kernel, by decide⟩, (tb_2 (List.mem_of_getElem? (i := 23) rfl) rfl), (tb_2 (List.mem_of_getElem? (i := 24) rfl) rfl)⟩
abbrev c_Tangle_start : ByteArray := prog_8_method_2_code
def y_Tangle_start : MethodName := ⟨"SortingNets$Tangle", "start", "(I)V"⟩
theorem mi_Tangle_start : MV y_Tangle_start c_Tangle_start 3 none 1 := ⟨⟨by decide, (tb_2 (List.mem_of_getElem? (i := 29) rfl) rfl), (tb_1 (List.mem_of_getElem? (i := 3) rfl) rfl), by decide +kernel, by decide⟩, (tb_2 (List.mem_of_getElem? (i := 27) rfl) rfl), (tb_2 (List.mem_of_getElem? (i := 28) rfl) rfl)⟩
abbrev c_Net_isWire : ByteArray := prog_3_method_2_code
def y_Net_isWire : MethodName := ⟨"SortingNets$Net", "isWire", "(I)Z"⟩
theorem mi_Net_isWire : MV y_Net_isWire c_Net_isWire 2 (some .boolean) 1 := ⟨⟨by decide, (tb_2 (List.mem_of_getElem? (i := 33) rfl) rfl), (tb_1 (List.mem_of_getElem? (i := 2) rfl) rfl), by decide +kernel, by decide⟩, (tb_2 (List.mem_of_getElem? (i := 31) rfl) rfl), (tb_2 (List.mem_of_getElem? (i := 32) rfl) rfl)⟩
abbrev c_Net_append : ByteArray := prog_3_method_4_code
def y_Net_append : MethodName := ⟨"SortingNets$Net", "append", "(II)Z"⟩
theorem mi_Net_append : MV y_Net_append c_Net_append 3 (some .boolean) 2 := ⟨⟨by decide, (tb_2 (List.mem_of_getElem? (i := 41) rfl) rfl), (tb_1 (List.mem_of_getElem? (i := 2) rfl) rfl), by decide +kernel, by decide⟩, (tb_2 (List.mem_of_getElem? (i := 39) rfl) rfl), (tb_2 (List.mem_of_getElem? (i := 40) rfl) rfl)⟩
abbrev c_Tangle_untangle : ByteArray := prog_8_method_4_code
def y_Tangle_untangle : MethodName := ⟨"SortingNets$Tangle", "untangle", "(IILSortingNets$Net;)V"⟩
theorem mi_Tangle_untangle : MV y_Tangle_untangle c_Tangle_untangle 6 none 3 := ⟨⟨by decide, (tb_2 (List.mem_of_getElem? (i := 37) rfl) rfl), (tb_1 (List.mem_of_getElem? (i := 3) rfl) rfl), by decide +kernel, by decide⟩, (tb_2 (List.mem_of_getElem? (i := 35) rfl) rfl), (tb_2 (List.mem_of_getElem? (i := 36) rfl) rfl)⟩
abbrev c_X_readNet : ByteArray := prog_1_method_50_code
def y_X_readNet : MethodName := ⟨"SortingNets", "readNet", "()I"⟩
theorem mi_X_readNet : MV y_X_readNet c_X_readNet 6 (some .int) 0 := ⟨⟨by decide, (tb_2 (List.mem_of_getElem? (i := 9) rfl) rfl), (tb_1 (List.mem_of_getElem? (i := 1) rfl) rfl), by decide +kernel, by decide⟩, (tb_2 (List.mem_of_getElem? (i := 8) rfl) rfl), (tb_0 (List.mem_of_getElem? (i := 0) rfl) rfl)⟩
abbrev c_X_isNet : ByteArray := prog_1_method_41_code
def y_X_isNet : MethodName := ⟨"SortingNets", "isNet", "(I)Z"⟩
theorem mi_X_isNet : MS y_X_isNet c_X_isNet 1 (some .boolean) 1 := ⟨⟨by decide, (tb_2 (List.mem_of_getElem? (i := 44) rfl) rfl), (tb_1 (List.mem_of_getElem? (i := 1) rfl) rfl), by decide +kernel, by decide⟩, (tb_2 (List.mem_of_getElem? (i := 43) rfl) rfl)⟩
abbrev c_Net_take : ByteArray := prog_3_method_6_code
def y_Net_take : MethodName := ⟨"SortingNets$Net", "take", "(LSortingNets$Net;)V"⟩
theorem mi_Net_take : MV y_Net_take c_Net_take 3 none 1 := ⟨⟨by decide, (tb_2 (List.mem_of_getElem? (i := 48) rfl) rfl), (tb_1 (List.mem_of_getElem? (i := 2) rfl) rfl), by decide +kernel, by decide⟩, (tb_2 (List.mem_of_getElem? (i := 46) rfl) rfl), (tb_2 (List.mem_of_getElem? (i := 47) rfl) rfl)⟩
abbrev c_Numbers_clear : ByteArray := prog_4_method_2_code
def y_Numbers_clear : MethodName := ⟨"SortingNets$Numbers", "clear", "()V"⟩
theorem mi_Numbers_clear : MV y_Numbers_clear c_Numbers_clear 1 none 0 := ⟨⟨by decide, (tb_2 (List.mem_of_getElem? (i := 52) rfl) rfl), (tb_1 (List.mem_of_getElem? (i := 5) rfl) rfl), by decide +kernel, by decide⟩, (tb_2 (List.mem_of_getElem? (i := 50) rfl) rfl), (tb_2 (List.mem_of_getElem? (i := 51) rfl) rfl)⟩
abbrev c_Tangle_placeOf : ByteArray := prog_8_method_3_code
def y_Tangle_placeOf : MethodName := ⟨"SortingNets$Tangle", "placeOf", "(I)I"⟩
theorem mi_Tangle_placeOf : MV y_Tangle_placeOf c_Tangle_placeOf 2 (some .int) 1 := ⟨⟨by decide, (tb_2 (List.mem_of_getElem? (i := 56) rfl) rfl), (tb_1 (List.mem_of_getElem? (i := 3) rfl) rfl), by decide +kernel, by decide⟩, (tb_2 (List.mem_of_getElem? (i := 54) rfl) rfl), (tb_2 (List.mem_of_getElem? (i := 55) rfl) rfl)⟩
abbrev c_Numbers_append : ByteArray := prog_4_method_3_code
def y_Numbers_append : MethodName := ⟨"SortingNets$Numbers", "append", "(J)V"⟩
theorem mi_Numbers_append : MV y_Numbers_append c_Numbers_append 3 none 1 := ⟨⟨by decide, (tb_2 (List.mem_of_getElem? (i := 60) rfl) rfl), (tb_1 (List.mem_of_getElem? (i := 5) rfl) rfl), by decide +kernel, by decide⟩, (tb_2 (List.mem_of_getElem? (i := 58) rfl) rfl), (tb_2 (List.mem_of_getElem? (i := 59) rfl) rfl)⟩
abbrev c_X_net : ByteArray := prog_1_method_4_code
def y_X_net : MethodName := ⟨"SortingNets", "net", "(I)I"⟩
theorem mi_X_net : MV y_X_net c_X_net 4 (some .int) 1 := ⟨⟨by decide, (tb_2 (List.mem_of_getElem? (i := 5) rfl) rfl), (tb_1 (List.mem_of_getElem? (i := 1) rfl) rfl), by decide +kernel, by decide⟩, (tb_2 (List.mem_of_getElem? (i := 3) rfl) rfl), (tb_2 (List.mem_of_getElem? (i := 4) rfl) rfl)⟩
abbrev c_X_makeBubbles : ByteArray := prog_1_method_54_code
def y_X_makeBubbles : MethodName := ⟨"SortingNets", "makeBubbles", "(LSortingNets$Net;)V"⟩
theorem mi_X_makeBubbles : MS y_X_makeBubbles c_X_makeBubbles 4 none 1 := ⟨⟨by decide, (tb_2 (List.mem_of_getElem? (i := 67) rfl) rfl), (tb_1 (List.mem_of_getElem? (i := 1) rfl) rfl), by decide +kernel, by decide⟩, (tb_2 (List.mem_of_getElem? (i := 66) rfl) rfl)⟩
abbrev c_X_makeInsertions : ByteArray := prog_1_method_55_code
def y_X_makeInsertions : MethodName := ⟨"SortingNets", "makeInsertions", "(LSortingNets$Net;)V"⟩
theorem mi_X_makeInsertions : MS y_X_makeInsertions c_X_makeInsertions 3 none 1 := ⟨⟨by decide, (tb_2 (List.mem_of_getElem? (i := 71) rfl) rfl), (tb_1 (List.mem_of_getElem? (i := 1) rfl) rfl), by decide +kernel, by decide⟩, (tb_2 (List.mem_of_getElem? (i := 70) rfl) rfl)⟩
abbrev c_X_makeBricks : ByteArray := prog_1_method_56_code
def y_X_makeBricks : MethodName := ⟨"SortingNets", "makeBricks", "(LSortingNets$Net;)V"⟩
theorem mi_X_makeBricks : MS y_X_makeBricks c_X_makeBricks 3 none 1 := ⟨⟨by decide, (tb_2 (List.mem_of_getElem? (i := 74) rfl) rfl), (tb_1 (List.mem_of_getElem? (i := 1) rfl) rfl), by decide +kernel, by decide⟩, (tb_2 (List.mem_of_getElem? (i := 73) rfl) rfl)⟩
abbrev c_X_appendStride : ByteArray := prog_1_method_58_code
def y_X_appendStride : MethodName := ⟨"SortingNets", "appendStride", "(LSortingNets$Net;III)V"⟩
theorem mi_X_appendStride : MS y_X_appendStride c_X_appendStride 5 none 4 := ⟨⟨by decide, (tb_2 (List.mem_of_getElem? (i := 80) rfl) rfl), (tb_1 (List.mem_of_getElem? (i := 1) rfl) rfl), by decide +kernel, by decide⟩, (tb_2 (List.mem_of_getElem? (i := 79) rfl) rfl)⟩
abbrev c_X_makeMergeExchange : ByteArray := prog_1_method_57_code
def y_X_makeMergeExchange : MethodName := ⟨"SortingNets", "makeMergeExchange", "(LSortingNets$Net;)V"⟩
theorem mi_X_makeMergeExchange : MS y_X_makeMergeExchange c_X_makeMergeExchange 4 none 1 := ⟨⟨by decide, (tb_2 (List.mem_of_getElem? (i := 77) rfl) rfl), (tb_1 (List.mem_of_getElem? (i := 1) rfl) rfl), by decide +kernel, by decide⟩, (tb_2 (List.mem_of_getElem? (i := 76) rfl) rfl)⟩
abbrev c_X_makes : ByteArray := prog_1_method_5_code
def y_X_makes : MethodName := ⟨"SortingNets", "makes", "(III)I"⟩
theorem mi_X_makes : MV y_X_makes c_X_makes 5 (some .int) 3 := ⟨⟨by decide, (tb_2 (List.mem_of_getElem? (i := 64) rfl) rfl), (tb_1 (List.mem_of_getElem? (i := 1) rfl) rfl), by decide +kernel, by decide⟩, (tb_2 (List.mem_of_getElem? (i := 62) rfl) rfl), (tb_2 (List.mem_of_getElem? (i := 63) rfl) rfl)⟩
abbrev c_X_nextState : ByteArray := prog_1_method_53_code
def y_X_nextState : MethodName := ⟨"SortingNets", "nextState", "(I)I"⟩
theorem mi_X_nextState : MS y_X_nextState c_X_nextState 1 (some .int) 1 := ⟨⟨by decide, (tb_2 (List.mem_of_getElem? (i := 87) rfl) rfl), (tb_1 (List.mem_of_getElem? (i := 1) rfl) rfl), by decide +kernel, by decide⟩, (tb_2 (List.mem_of_getElem? (i := 86) rfl) rfl)⟩
abbrev c_Trial_column : ByteArray := prog_10_method_3_code
def y_Trial_column : MethodName := ⟨"SortingNets$Trial", "column", "(II)J"⟩
theorem mi_Trial_column : MS y_Trial_column c_Trial_column 2 (some .long) 2 := ⟨⟨by decide, (tb_2 (List.mem_of_getElem? (i := 106) rfl) rfl), (tb_1 (List.mem_of_getElem? (i := 7) rfl) rfl), by decide +kernel, by decide⟩, (tb_2 (List.mem_of_getElem? (i := 105) rfl) rfl)⟩
abbrev c_Trial_start : ByteArray := prog_10_method_2_code
def y_Trial_start : MethodName := ⟨"SortingNets$Trial", "start", "(I)V"⟩
theorem mi_Trial_start : MV y_Trial_start c_Trial_start 6 none 1 := ⟨⟨by decide, (tb_2 (List.mem_of_getElem? (i := 102) rfl) rfl), (tb_1 (List.mem_of_getElem? (i := 7) rfl) rfl), by decide +kernel, by decide⟩, (tb_2 (List.mem_of_getElem? (i := 100) rfl) rfl), (tb_2 (List.mem_of_getElem? (i := 101) rfl) rfl)⟩
abbrev c_Trial_compare : ByteArray := prog_10_method_6_code
def y_Trial_compare : MethodName := ⟨"SortingNets$Trial", "compare", "(II)V"⟩
theorem mi_Trial_compare : MV y_Trial_compare c_Trial_compare 8 none 2 := ⟨⟨by decide, (tb_2 (List.mem_of_getElem? (i := 116) rfl) rfl), (tb_1 (List.mem_of_getElem? (i := 7) rfl) rfl), by decide +kernel, by decide⟩, (tb_2 (List.mem_of_getElem? (i := 114) rfl) rfl), (tb_2 (List.mem_of_getElem? (i := 115) rfl) rfl)⟩
abbrev c_Trial_runPart : ByteArray := prog_10_method_5_code
def y_Trial_runPart : MethodName := ⟨"SortingNets$Trial", "runPart", "(LSortingNets$Net;II)V"⟩
theorem mi_Trial_runPart : MV y_Trial_runPart c_Trial_runPart 5 none 3 := ⟨⟨by decide, (tb_2 (List.mem_of_getElem? (i := 112) rfl) rfl), (tb_1 (List.mem_of_getElem? (i := 7) rfl) rfl), by decide +kernel, by decide⟩, (tb_2 (List.mem_of_getElem? (i := 110) rfl) rfl), (tb_2 (List.mem_of_getElem? (i := 111) rfl) rfl)⟩
abbrev c_PatternSet_clear : ByteArray := prog_5_method_2_code
def y_PatternSet_clear : MethodName := ⟨"SortingNets$PatternSet", "clear", "()V"⟩
theorem mi_PatternSet_clear : MV y_PatternSet_clear c_PatternSet_clear 2 none 0 := ⟨⟨by decide, (tb_2 (List.mem_of_getElem? (i := 124) rfl) rfl), (tb_1 (List.mem_of_getElem? (i := 8) rfl) rfl), by decide +kernel, by decide⟩, (tb_2 (List.mem_of_getElem? (i := 122) rfl) rfl), (tb_2 (List.mem_of_getElem? (i := 123) rfl) rfl)⟩
abbrev c_Trial_findUnsorted : ByteArray := prog_10_method_9_code
def y_Trial_findUnsorted : MethodName := ⟨"SortingNets$Trial", "findUnsorted", "(LSortingNets$PatternSet;)V"⟩
theorem mi_Trial_findUnsorted : MV y_Trial_findUnsorted c_Trial_findUnsorted 4 none 1 := ⟨⟨by decide, (tb_2 (List.mem_of_getElem? (i := 120) rfl) rfl), (tb_1 (List.mem_of_getElem? (i := 7) rfl) rfl), by decide +kernel, by decide⟩, (tb_2 (List.mem_of_getElem? (i := 118) rfl) rfl), (tb_2 (List.mem_of_getElem? (i := 119) rfl) rfl)⟩
abbrev c_X_judge : ByteArray := prog_1_method_62_code
def y_X_judge : MethodName := ⟨"SortingNets", "judge", "(LSortingNets$Net;I)V"⟩
theorem mi_X_judge : MV y_X_judge c_X_judge 3 none 2 := ⟨⟨by decide, (tb_2 (List.mem_of_getElem? (i := 98) rfl) rfl), (tb_1 (List.mem_of_getElem? (i := 1) rfl) rfl), by decide +kernel, by decide⟩, (tb_2 (List.mem_of_getElem? (i := 97) rfl) rfl), (tb_0 (List.mem_of_getElem? (i := 1) rfl) rfl)⟩
abbrev c_JLong_bitCount : ByteArray := prog_16_method_50_code
def y_JLong_bitCount : MethodName := ⟨"java/lang/Long", "bitCount", "(J)I"⟩
theorem mi_JLong_bitCount : MS y_JLong_bitCount c_JLong_bitCount 2 (some .int) 1 := ⟨⟨by decide, (tb_2 (List.mem_of_getElem? (i := 131) rfl) rfl), (tb_1 (List.mem_of_getElem? (i := 12) rfl) rfl), by decide +kernel, by decide⟩, (tb_2 (List.mem_of_getElem? (i := 130) rfl) rfl)⟩
abbrev c_PatternSet_size : ByteArray := prog_5_method_5_code
def y_PatternSet_size : MethodName := ⟨"SortingNets$PatternSet", "size", "()I"⟩
theorem mi_PatternSet_size : MV y_PatternSet_size c_PatternSet_size 3 (some .int) 0 := ⟨⟨by decide, (tb_2 (List.mem_of_getElem? (i := 128) rfl) rfl), (tb_1 (List.mem_of_getElem? (i := 8) rfl) rfl), by decide +kernel, by decide⟩, (tb_2 (List.mem_of_getElem? (i := 126) rfl) rfl), (tb_2 (List.mem_of_getElem? (i := 127) rfl) rfl)⟩
abbrev c_X_draws : ByteArray := prog_1_method_6_code
def y_X_draws : MethodName := ⟨"SortingNets", "draws", "(IIII)I"⟩
theorem mi_X_draws : MV y_X_draws c_X_draws 10 (some .int) 4 := ⟨⟨by decide, (tb_2 (List.mem_of_getElem? (i := 84) rfl) rfl), (tb_1 (List.mem_of_getElem? (i := 1) rfl) rfl), by decide +kernel, by decide⟩, (tb_2 (List.mem_of_getElem? (i := 82) rfl) rfl), (tb_2 (List.mem_of_getElem? (i := 83) rfl) rfl)⟩
abbrev c_X_adds : ByteArray := prog_1_method_7_code
def y_X_adds : MethodName := ⟨"SortingNets", "adds", "(III)I"⟩
theorem mi_X_adds : MV y_X_adds c_X_adds 4 (some .int) 3 := ⟨⟨by decide, (tb_2 (List.mem_of_getElem? (i := 138) rfl) rfl), (tb_1 (List.mem_of_getElem? (i := 1) rfl) rfl), by decide +kernel, by decide⟩, (tb_2 (List.mem_of_getElem? (i := 136) rfl) rfl), (tb_2 (List.mem_of_getElem? (i := 137) rfl) rfl)⟩
abbrev c_X_isComparer : ByteArray := prog_1_method_43_code
def y_X_isComparer : MethodName := ⟨"SortingNets", "isComparer", "(II)Z"⟩
theorem mi_X_isComparer : MV y_X_isComparer c_X_isComparer 3 (some .boolean) 2 := ⟨⟨by decide, (tb_2 (List.mem_of_getElem? (i := 146) rfl) rfl), (tb_1 (List.mem_of_getElem? (i := 1) rfl) rfl), by decide +kernel, by decide⟩, (tb_2 (List.mem_of_getElem? (i := 145) rfl) rfl), (tb_0 (List.mem_of_getElem? (i := 2) rfl) rfl)⟩
abbrev c_Net_remove : ByteArray := prog_3_method_5_code
def y_Net_remove : MethodName := ⟨"SortingNets$Net", "remove", "(I)V"⟩
theorem mi_Net_remove : MV y_Net_remove c_Net_remove 3 none 1 := ⟨⟨by decide, (tb_2 (List.mem_of_getElem? (i := 150) rfl) rfl), (tb_1 (List.mem_of_getElem? (i := 2) rfl) rfl), by decide +kernel, by decide⟩, (tb_2 (List.mem_of_getElem? (i := 148) rfl) rfl), (tb_2 (List.mem_of_getElem? (i := 149) rfl) rfl)⟩
abbrev c_X_drops : ByteArray := prog_1_method_8_code
def y_X_drops : MethodName := ⟨"SortingNets", "drops", "(II)I"⟩
theorem mi_X_drops : MV y_X_drops c_X_drops 3 (some .int) 2 := ⟨⟨by decide, (tb_2 (List.mem_of_getElem? (i := 142) rfl) rfl), (tb_1 (List.mem_of_getElem? (i := 1) rfl) rfl), by decide +kernel, by decide⟩, (tb_2 (List.mem_of_getElem? (i := 140) rfl) rfl), (tb_2 (List.mem_of_getElem? (i := 141) rfl) rfl)⟩
abbrev c_Net_exchangeAt : ByteArray := prog_3_method_8_code
def y_Net_exchangeAt : MethodName := ⟨"SortingNets$Net", "exchangeAt", "(II)V"⟩
theorem mi_Net_exchangeAt : MV y_Net_exchangeAt c_Net_exchangeAt 5 none 2 := ⟨⟨by decide, (tb_2 (List.mem_of_getElem? (i := 162) rfl) rfl), (tb_1 (List.mem_of_getElem? (i := 2) rfl) rfl), by decide +kernel, by decide⟩, (tb_2 (List.mem_of_getElem? (i := 161) rfl) rfl), (tb_0 (List.mem_of_getElem? (i := 3) rfl) rfl)⟩
abbrev c_Net_exchangeWithNext : ByteArray := prog_3_method_7_code
def y_Net_exchangeWithNext : MethodName := ⟨"SortingNets$Net", "exchangeWithNext", "(I)Z"⟩
theorem mi_Net_exchangeWithNext : MV y_Net_exchangeWithNext c_Net_exchangeWithNext 2 (some .boolean) 1 := ⟨⟨by decide, (tb_2 (List.mem_of_getElem? (i := 158) rfl) rfl), (tb_1 (List.mem_of_getElem? (i := 2) rfl) rfl), by decide +kernel, by decide⟩, (tb_2 (List.mem_of_getElem? (i := 156) rfl) rfl), (tb_2 (List.mem_of_getElem? (i := 157) rfl) rfl)⟩
abbrev c_X_swaps : ByteArray := prog_1_method_9_code
def y_X_swaps : MethodName := ⟨"SortingNets", "swaps", "(II)I"⟩
theorem mi_X_swaps : MV y_X_swaps c_X_swaps 3 (some .int) 2 := ⟨⟨by decide, (tb_2 (List.mem_of_getElem? (i := 154) rfl) rfl), (tb_1 (List.mem_of_getElem? (i := 1) rfl) rfl), by decide +kernel, by decide⟩, (tb_2 (List.mem_of_getElem? (i := 152) rfl) rfl), (tb_2 (List.mem_of_getElem? (i := 153) rfl) rfl)⟩
abbrev c_X_copies : ByteArray := prog_1_method_10_code
def y_X_copies : MethodName := ⟨"SortingNets", "copies", "(II)I"⟩
theorem mi_X_copies : MV y_X_copies c_X_copies 3 (some .int) 2 := ⟨⟨by decide, (tb_2 (List.mem_of_getElem? (i := 166) rfl) rfl), (tb_1 (List.mem_of_getElem? (i := 1) rfl) rfl), by decide +kernel, by decide⟩, (tb_2 (List.mem_of_getElem? (i := 164) rfl) rfl), (tb_2 (List.mem_of_getElem? (i := 165) rfl) rfl)⟩
abbrev c_X_joins : ByteArray := prog_1_method_11_code
def y_X_joins : MethodName := ⟨"SortingNets", "joins", "(II)I"⟩
theorem mi_X_joins : MV y_X_joins c_X_joins 7 (some .int) 2 := ⟨⟨by decide, (tb_2 (List.mem_of_getElem? (i := 170) rfl) rfl), (tb_1 (List.mem_of_getElem? (i := 1) rfl) rfl), by decide +kernel, by decide⟩, (tb_2 (List.mem_of_getElem? (i := 168) rfl) rfl), (tb_2 (List.mem_of_getElem? (i := 169) rfl) rfl)⟩
abbrev c_Net_reverse : ByteArray := prog_3_method_9_code
def y_Net_reverse : MethodName := ⟨"SortingNets$Net", "reverse", "()V"⟩
theorem mi_Net_reverse : MV y_Net_reverse c_Net_reverse 3 none 0 := ⟨⟨by decide, (tb_2 (List.mem_of_getElem? (i := 178) rfl) rfl), (tb_1 (List.mem_of_getElem? (i := 2) rfl) rfl), by decide +kernel, by decide⟩, (tb_2 (List.mem_of_getElem? (i := 176) rfl) rfl), (tb_2 (List.mem_of_getElem? (i := 177) rfl) rfl)⟩
abbrev c_X_flips : ByteArray := prog_1_method_12_code
def y_X_flips : MethodName := ⟨"SortingNets", "flips", "(I)I"⟩
theorem mi_X_flips : MV y_X_flips c_X_flips 2 (some .int) 1 := ⟨⟨by decide, (tb_2 (List.mem_of_getElem? (i := 174) rfl) rfl), (tb_1 (List.mem_of_getElem? (i := 1) rfl) rfl), by decide +kernel, by decide⟩, (tb_2 (List.mem_of_getElem? (i := 172) rfl) rfl), (tb_2 (List.mem_of_getElem? (i := 173) rfl) rfl)⟩
abbrev c_Net_reflect : ByteArray := prog_3_method_10_code
def y_Net_reflect : MethodName := ⟨"SortingNets$Net", "reflect", "()V"⟩
theorem mi_Net_reflect : MV y_Net_reflect c_Net_reflect 3 none 0 := ⟨⟨by decide, (tb_2 (List.mem_of_getElem? (i := 186) rfl) rfl), (tb_1 (List.mem_of_getElem? (i := 2) rfl) rfl), by decide +kernel, by decide⟩, (tb_2 (List.mem_of_getElem? (i := 184) rfl) rfl), (tb_2 (List.mem_of_getElem? (i := 185) rfl) rfl)⟩
abbrev c_X_mirrors : ByteArray := prog_1_method_13_code
def y_X_mirrors : MethodName := ⟨"SortingNets", "mirrors", "(I)I"⟩
theorem mi_X_mirrors : MV y_X_mirrors c_X_mirrors 2 (some .int) 1 := ⟨⟨by decide, (tb_2 (List.mem_of_getElem? (i := 182) rfl) rfl), (tb_1 (List.mem_of_getElem? (i := 1) rfl) rfl), by decide +kernel, by decide⟩, (tb_2 (List.mem_of_getElem? (i := 180) rfl) rfl), (tb_2 (List.mem_of_getElem? (i := 181) rfl) rfl)⟩
abbrev c_Layers_read : ByteArray := prog_2_method_2_code
def y_Layers_read : MethodName := ⟨"SortingNets$Layers", "read", "(LSortingNets$Net;)V"⟩
theorem mi_Layers_read : MV y_Layers_read c_Layers_read 4 none 1 := ⟨⟨by decide, (tb_2 (List.mem_of_getElem? (i := 194) rfl) rfl), (tb_1 (List.mem_of_getElem? (i := 6) rfl) rfl), by decide +kernel, by decide⟩, (tb_2 (List.mem_of_getElem? (i := 192) rfl) rfl), (tb_2 (List.mem_of_getElem? (i := 193) rfl) rfl)⟩
abbrev c_X_appendLayer : ByteArray := prog_1_method_59_code
def y_X_appendLayer : MethodName := ⟨"SortingNets", "appendLayer", "(LSortingNets$Net;I)V"⟩
theorem mi_X_appendLayer : MV y_X_appendLayer c_X_appendLayer 5 none 2 := ⟨⟨by decide, (tb_2 (List.mem_of_getElem? (i := 199) rfl) rfl), (tb_1 (List.mem_of_getElem? (i := 1) rfl) rfl), by decide +kernel, by decide⟩, (tb_2 (List.mem_of_getElem? (i := 198) rfl) rfl), (tb_0 (List.mem_of_getElem? (i := 4) rfl) rfl)⟩
abbrev c_Net_differences : ByteArray := prog_3_method_11_code
def y_Net_differences : MethodName := ⟨"SortingNets$Net", "differences", "(LSortingNets$Net;)I"⟩
theorem mi_Net_differences : MV y_Net_differences c_Net_differences 4 (some .int) 1 := ⟨⟨by decide, (tb_2 (List.mem_of_getElem? (i := 203) rfl) rfl), (tb_1 (List.mem_of_getElem? (i := 2) rfl) rfl), by decide +kernel, by decide⟩, (tb_2 (List.mem_of_getElem? (i := 201) rfl) rfl), (tb_2 (List.mem_of_getElem? (i := 202) rfl) rfl)⟩
abbrev c_X_lays : ByteArray := prog_1_method_14_code
def y_X_lays : MethodName := ⟨"SortingNets", "lays", "(I)I"⟩
theorem mi_X_lays : MV y_X_lays c_X_lays 4 (some .int) 1 := ⟨⟨by decide, (tb_2 (List.mem_of_getElem? (i := 190) rfl) rfl), (tb_1 (List.mem_of_getElem? (i := 1) rfl) rfl), by decide +kernel, by decide⟩, (tb_2 (List.mem_of_getElem? (i := 188) rfl) rfl), (tb_2 (List.mem_of_getElem? (i := 189) rfl) rfl)⟩
abbrev c_X_nameLines : ByteArray := prog_1_method_60_code
def y_X_nameLines : MethodName := ⟨"SortingNets", "nameLines", "(II)V"⟩
theorem mi_X_nameLines : MV y_X_nameLines c_X_nameLines 4 none 2 := ⟨⟨by decide, (tb_2 (List.mem_of_getElem? (i := 211) rfl) rfl), (tb_1 (List.mem_of_getElem? (i := 1) rfl) rfl), by decide +kernel, by decide⟩, (tb_2 (List.mem_of_getElem? (i := 210) rfl) rfl), (tb_0 (List.mem_of_getElem? (i := 5) rfl) rfl)⟩
abbrev c_X_cutAt : ByteArray := prog_1_method_61_code
def y_X_cutAt : MethodName := ⟨"SortingNets", "cutAt", "(IIIZ)I"⟩
theorem mi_X_cutAt : MV y_X_cutAt c_X_cutAt 6 (some .int) 4 := ⟨⟨by decide, (tb_2 (List.mem_of_getElem? (i := 215) rfl) rfl), (tb_1 (List.mem_of_getElem? (i := 1) rfl) rfl), by decide +kernel, by decide⟩, (tb_2 (List.mem_of_getElem? (i := 214) rfl) rfl), (tb_0 (List.mem_of_getElem? (i := 6) rfl) rfl)⟩
abbrev c_X_cuts : ByteArray := prog_1_method_15_code
def y_X_cuts : MethodName := ⟨"SortingNets", "cuts", "(IIZI)I"⟩
theorem mi_X_cuts : MV y_X_cuts c_X_cuts 8 (some .int) 4 := ⟨⟨by decide, (tb_2 (List.mem_of_getElem? (i := 207) rfl) rfl), (tb_1 (List.mem_of_getElem? (i := 1) rfl) rfl), by decide +kernel, by decide⟩, (tb_2 (List.mem_of_getElem? (i := 205) rfl) rfl), (tb_2 (List.mem_of_getElem? (i := 206) rfl) rfl)⟩
abbrev c_X_code : ByteArray := prog_1_method_46_code
def y_X_code : MethodName := ⟨"SortingNets", "code", "(II)I"⟩
theorem mi_X_code : MS y_X_code c_X_code 2 (some .int) 2 := ⟨⟨by decide, (tb_2 (List.mem_of_getElem? (i := 222) rfl) rfl), (tb_1 (List.mem_of_getElem? (i := 1) rfl) rfl), by decide +kernel, by decide⟩, (tb_2 (List.mem_of_getElem? (i := 221) rfl) rfl)⟩
abbrev c_X_comparer : ByteArray := prog_1_method_16_code
def y_X_comparer : MethodName := ⟨"SortingNets", "comparer", "(II)I"⟩
theorem mi_X_comparer : MV y_X_comparer c_X_comparer 3 (some .int) 2 := ⟨⟨by decide, (tb_2 (List.mem_of_getElem? (i := 219) rfl) rfl), (tb_1 (List.mem_of_getElem? (i := 1) rfl) rfl), by decide +kernel, by decide⟩, (tb_2 (List.mem_of_getElem? (i := 217) rfl) rfl), (tb_2 (List.mem_of_getElem? (i := 218) rfl) rfl)⟩
abbrev c_Layers_sizeOf : ByteArray := prog_2_method_3_code
def y_Layers_sizeOf : MethodName := ⟨"SortingNets$Layers", "sizeOf", "(I)I"⟩
theorem mi_Layers_sizeOf : MV y_Layers_sizeOf c_Layers_sizeOf 2 (some .int) 1 := ⟨⟨by decide, (tb_2 (List.mem_of_getElem? (i := 230) rfl) rfl), (tb_1 (List.mem_of_getElem? (i := 6) rfl) rfl), by decide +kernel, by decide⟩, (tb_2 (List.mem_of_getElem? (i := 228) rfl) rfl), (tb_2 (List.mem_of_getElem? (i := 229) rfl) rfl)⟩
abbrev c_X_depth : ByteArray := prog_1_method_17_code
def y_X_depth : MethodName := ⟨"SortingNets", "depth", "(I)I"⟩
theorem mi_X_depth : MV y_X_depth c_X_depth 3 (some .int) 1 := ⟨⟨by decide, (tb_2 (List.mem_of_getElem? (i := 226) rfl) rfl), (tb_1 (List.mem_of_getElem? (i := 1) rfl) rfl), by decide +kernel, by decide⟩, (tb_2 (List.mem_of_getElem? (i := 224) rfl) rfl), (tb_2 (List.mem_of_getElem? (i := 225) rfl) rfl)⟩
abbrev c_X_isPattern : ByteArray := prog_1_method_44_code
def y_X_isPattern : MethodName := ⟨"SortingNets", "isPattern", "(II)Z"⟩
theorem mi_X_isPattern : MV y_X_isPattern c_X_isPattern 3 (some .boolean) 2 := ⟨⟨by decide, (tb_2 (List.mem_of_getElem? (i := 238) rfl) rfl), (tb_1 (List.mem_of_getElem? (i := 1) rfl) rfl), by decide +kernel, by decide⟩, (tb_2 (List.mem_of_getElem? (i := 237) rfl) rfl), (tb_0 (List.mem_of_getElem? (i := 7) rfl) rfl)⟩
abbrev c_X_runs : ByteArray := prog_1_method_18_code
def y_X_runs : MethodName := ⟨"SortingNets", "runs", "(II)I"⟩
theorem mi_X_runs : MV y_X_runs c_X_runs 10 (some .int) 2 := ⟨⟨by decide, (tb_2 (List.mem_of_getElem? (i := 234) rfl) rfl), (tb_1 (List.mem_of_getElem? (i := 1) rfl) rfl), by decide +kernel, by decide⟩, (tb_2 (List.mem_of_getElem? (i := 232) rfl) rfl), (tb_2 (List.mem_of_getElem? (i := 233) rfl) rfl)⟩
abbrev c_X_readValues : ByteArray := prog_1_method_51_code
def y_X_readValues : MethodName := ⟨"SortingNets", "readValues", "(I)I"⟩
theorem mi_X_readValues : MV y_X_readValues c_X_readValues 6 (some .int) 1 := ⟨⟨by decide, (tb_3 (List.mem_of_getElem? (i := 6) rfl) rfl), (tb_1 (List.mem_of_getElem? (i := 1) rfl) rfl), by decide +kernel, by decide⟩, (tb_3 (List.mem_of_getElem? (i := 5) rfl) rfl), (tb_0 (List.mem_of_getElem? (i := 8) rfl) rfl)⟩
abbrev c_X_orderValues : ByteArray := prog_1_method_52_code
def y_X_orderValues : MethodName := ⟨"SortingNets", "orderValues", "(II)I"⟩
theorem mi_X_orderValues : MV y_X_orderValues c_X_orderValues 4 (some .int) 2 := ⟨⟨by decide, (tb_3 (List.mem_of_getElem? (i := 10) rfl) rfl), (tb_1 (List.mem_of_getElem? (i := 1) rfl) rfl), by decide +kernel, by decide⟩, (tb_3 (List.mem_of_getElem? (i := 9) rfl) rfl), (tb_0 (List.mem_of_getElem? (i := 9) rfl) rfl)⟩
abbrev c_X_tellFirst : ByteArray := prog_1_method_48_code
def y_X_tellFirst : MethodName := ⟨"SortingNets", "tellFirst", "([II)V"⟩
theorem mi_X_tellFirst : MV y_X_tellFirst c_X_tellFirst 4 none 2 := ⟨⟨by decide, (tb_3 (List.mem_of_getElem? (i := 14) rfl) rfl), (tb_1 (List.mem_of_getElem? (i := 1) rfl) rfl), by decide +kernel, by decide⟩, (tb_3 (List.mem_of_getElem? (i := 13) rfl) rfl), (tb_0 (List.mem_of_getElem? (i := 10) rfl) rfl)⟩
abbrev c_X_tells : ByteArray := prog_1_method_19_code
def y_X_tells : MethodName := ⟨"SortingNets", "tells", "(I)I"⟩
theorem mi_X_tells : MV y_X_tells c_X_tells 6 (some .int) 1 := ⟨⟨by decide, (tb_3 (List.mem_of_getElem? (i := 2) rfl) rfl), (tb_1 (List.mem_of_getElem? (i := 1) rfl) rfl), by decide +kernel, by decide⟩, (tb_3 (List.mem_of_getElem? (i := 0) rfl) rfl), (tb_3 (List.mem_of_getElem? (i := 1) rfl) rfl)⟩
abbrev c_PatternSet_first : ByteArray := prog_5_method_7_code
def y_PatternSet_first : MethodName := ⟨"SortingNets$PatternSet", "first", "()I"⟩
theorem mi_PatternSet_first : MV y_PatternSet_first c_PatternSet_first 2 (some .int) 0 := ⟨⟨by decide, (tb_3 (List.mem_of_getElem? (i := 22) rfl) rfl), (tb_1 (List.mem_of_getElem? (i := 8) rfl) rfl), by decide +kernel, by decide⟩, (tb_3 (List.mem_of_getElem? (i := 20) rfl) rfl), (tb_3 (List.mem_of_getElem? (i := 21) rfl) rfl)⟩
abbrev c_PatternSet_isEmpty : ByteArray := prog_5_method_6_code
def y_PatternSet_isEmpty : MethodName := ⟨"SortingNets$PatternSet", "isEmpty", "()Z"⟩
theorem mi_PatternSet_isEmpty : MV y_PatternSet_isEmpty c_PatternSet_isEmpty 1 (some .boolean) 0 := ⟨⟨by decide, (tb_3 (List.mem_of_getElem? (i := 26) rfl) rfl), (tb_1 (List.mem_of_getElem? (i := 8) rfl) rfl), by decide +kernel, by decide⟩, (tb_3 (List.mem_of_getElem? (i := 24) rfl) rfl), (tb_3 (List.mem_of_getElem? (i := 25) rfl) rfl)⟩
abbrev c_X_sorts : ByteArray := prog_1_method_20_code
def y_X_sorts : MethodName := ⟨"SortingNets", "sorts", "(I)I"⟩
theorem mi_X_sorts : MV y_X_sorts c_X_sorts 2 (some .int) 1 := ⟨⟨by decide, (tb_3 (List.mem_of_getElem? (i := 18) rfl) rfl), (tb_1 (List.mem_of_getElem? (i := 1) rfl) rfl), by decide +kernel, by decide⟩, (tb_3 (List.mem_of_getElem? (i := 16) rfl) rfl), (tb_3 (List.mem_of_getElem? (i := 17) rfl) rfl)⟩
abbrev c_Trial_listResults : ByteArray := prog_10_method_11_code
def y_Trial_listResults : MethodName := ⟨"SortingNets$Trial", "listResults", "([I)V"⟩
theorem mi_Trial_listResults : MV y_Trial_listResults c_Trial_listResults 7 none 1 := ⟨⟨by decide, (tb_3 (List.mem_of_getElem? (i := 43) rfl) rfl), (tb_1 (List.mem_of_getElem? (i := 7) rfl) rfl), by decide +kernel, by decide⟩, (tb_3 (List.mem_of_getElem? (i := 41) rfl) rfl), (tb_3 (List.mem_of_getElem? (i := 42) rfl) rfl)⟩
abbrev c_X_findResults : ByteArray := prog_1_method_64_code
def y_X_findResults : MethodName := ⟨"SortingNets", "findResults", "(LSortingNets$Net;)V"⟩
theorem mi_X_findResults : MV y_X_findResults c_X_findResults 2 none 1 := ⟨⟨by decide, (tb_3 (List.mem_of_getElem? (i := 39) rfl) rfl), (tb_1 (List.mem_of_getElem? (i := 1) rfl) rfl), by decide +kernel, by decide⟩, (tb_3 (List.mem_of_getElem? (i := 38) rfl) rfl), (tb_0 (List.mem_of_getElem? (i := 12) rfl) rfl)⟩
abbrev c_PatternSet_put : ByteArray := prog_5_method_3_code
def y_PatternSet_put : MethodName := ⟨"SortingNets$PatternSet", "put", "(I)V"⟩
theorem mi_PatternSet_put : MV y_PatternSet_put c_PatternSet_put 2 none 1 := ⟨⟨by decide, (tb_3 (List.mem_of_getElem? (i := 48) rfl) rfl), (tb_1 (List.mem_of_getElem? (i := 8) rfl) rfl), by decide +kernel, by decide⟩, (tb_3 (List.mem_of_getElem? (i := 46) rfl) rfl), (tb_3 (List.mem_of_getElem? (i := 47) rfl) rfl)⟩
abbrev c_X_takeImage : ByteArray := prog_1_method_65_code
def y_X_takeImage : MethodName := ⟨"SortingNets", "takeImage", "(LSortingNets$Net;)V"⟩
theorem mi_X_takeImage : MV y_X_takeImage c_X_takeImage 3 none 1 := ⟨⟨by decide, (tb_3 (List.mem_of_getElem? (i := 35) rfl) rfl), (tb_1 (List.mem_of_getElem? (i := 1) rfl) rfl), by decide +kernel, by decide⟩, (tb_3 (List.mem_of_getElem? (i := 34) rfl) rfl), (tb_0 (List.mem_of_getElem? (i := 11) rfl) rfl)⟩
abbrev c_X_topOnes : ByteArray := prog_1_method_47_code
def y_X_topOnes : MethodName := ⟨"SortingNets", "topOnes", "(II)I"⟩
theorem mi_X_topOnes : MS y_X_topOnes c_X_topOnes 2 (some .int) 2 := ⟨⟨by decide, (tb_3 (List.mem_of_getElem? (i := 51) rfl) rfl), (tb_1 (List.mem_of_getElem? (i := 1) rfl) rfl), by decide +kernel, by decide⟩, (tb_3 (List.mem_of_getElem? (i := 50) rfl) rfl)⟩
abbrev c_PatternSet_holds : ByteArray := prog_5_method_4_code
def y_PatternSet_holds : MethodName := ⟨"SortingNets$PatternSet", "holds", "(I)Z"⟩
theorem mi_PatternSet_holds : MV y_PatternSet_holds c_PatternSet_holds 2 (some .boolean) 1 := ⟨⟨by decide, (tb_3 (List.mem_of_getElem? (i := 55) rfl) rfl), (tb_1 (List.mem_of_getElem? (i := 8) rfl) rfl), by decide +kernel, by decide⟩, (tb_3 (List.mem_of_getElem? (i := 53) rfl) rfl), (tb_3 (List.mem_of_getElem? (i := 54) rfl) rfl)⟩
abbrev c_X_image : ByteArray := prog_1_method_21_code
def y_X_image : MethodName := ⟨"SortingNets", "image", "(I)I"⟩
theorem mi_X_image : MV y_X_image c_X_image 4 (some .int) 1 := ⟨⟨by decide, (tb_3 (List.mem_of_getElem? (i := 31) rfl) rfl), (tb_1 (List.mem_of_getElem? (i := 1) rfl) rfl), by decide +kernel, by decide⟩, (tb_3 (List.mem_of_getElem? (i := 29) rfl) rfl), (tb_3 (List.mem_of_getElem? (i := 30) rfl) rfl)⟩
abbrev c_X_comes : ByteArray := prog_1_method_22_code
def y_X_comes : MethodName := ⟨"SortingNets", "comes", "(II)I"⟩
theorem mi_X_comes : MV y_X_comes c_X_comes 6 (some .int) 2 := ⟨⟨by decide, (tb_3 (List.mem_of_getElem? (i := 59) rfl) rfl), (tb_1 (List.mem_of_getElem? (i := 1) rfl) rfl), by decide +kernel, by decide⟩, (tb_3 (List.mem_of_getElem? (i := 57) rfl) rfl), (tb_3 (List.mem_of_getElem? (i := 58) rfl) rfl)⟩
abbrev c_JInt_bitCount : ByteArray := prog_15_method_49_code
def y_JInt_bitCount : MethodName := ⟨"java/lang/Integer", "bitCount", "(I)I"⟩
theorem mi_JInt_bitCount : MS y_JInt_bitCount c_JInt_bitCount 1 (some .int) 1 := ⟨⟨by decide, (tb_3 (List.mem_of_getElem? (i := 70) rfl) rfl), (tb_1 (List.mem_of_getElem? (i := 13) rfl) rfl), by decide +kernel, by decide⟩, (tb_3 (List.mem_of_getElem? (i := 69) rfl) rfl)⟩
abbrev c_X_findReach : ByteArray := prog_1_method_67_code
def y_X_findReach : MethodName := ⟨"SortingNets", "findReach", "(LSortingNets$Net;)V"⟩
theorem mi_X_findReach : MV y_X_findReach c_X_findReach 6 none 1 := ⟨⟨by decide, (tb_3 (List.mem_of_getElem? (i := 67) rfl) rfl), (tb_1 (List.mem_of_getElem? (i := 1) rfl) rfl), by decide +kernel, by decide⟩, (tb_3 (List.mem_of_getElem? (i := 66) rfl) rfl), (tb_0 (List.mem_of_getElem? (i := 13) rfl) rfl)⟩
abbrev c_X_tellBits : ByteArray := prog_1_method_49_code
def y_X_tellBits : MethodName := ⟨"SortingNets", "tellBits", "(I)I"⟩
theorem mi_X_tellBits : MV y_X_tellBits c_X_tellBits 2 (some .int) 1 := ⟨⟨by decide, (tb_3 (List.mem_of_getElem? (i := 77) rfl) rfl), (tb_1 (List.mem_of_getElem? (i := 1) rfl) rfl), by decide +kernel, by decide⟩, (tb_3 (List.mem_of_getElem? (i := 76) rfl) rfl), (tb_0 (List.mem_of_getElem? (i := 14) rfl) rfl)⟩
abbrev c_X_ranks : ByteArray := prog_1_method_23_code
def y_X_ranks : MethodName := ⟨"SortingNets", "ranks", "(II)I"⟩
theorem mi_X_ranks : MV y_X_ranks c_X_ranks 3 (some .int) 2 := ⟨⟨by decide, (tb_3 (List.mem_of_getElem? (i := 63) rfl) rfl), (tb_1 (List.mem_of_getElem? (i := 1) rfl) rfl), by decide +kernel, by decide⟩, (tb_3 (List.mem_of_getElem? (i := 61) rfl) rfl), (tb_3 (List.mem_of_getElem? (i := 62) rfl) rfl)⟩
abbrev c_X_leaves : ByteArray := prog_1_method_24_code
def y_X_leaves : MethodName := ⟨"SortingNets", "leaves", "(II)I"⟩
theorem mi_X_leaves : MV y_X_leaves c_X_leaves 5 (some .int) 2 := ⟨⟨by decide, (tb_3 (List.mem_of_getElem? (i := 81) rfl) rfl), (tb_1 (List.mem_of_getElem? (i := 1) rfl) rfl), by decide +kernel, by decide⟩, (tb_3 (List.mem_of_getElem? (i := 79) rfl) rfl), (tb_3 (List.mem_of_getElem? (i := 80) rfl) rfl)⟩
abbrev c_X_leavesUnsorted : ByteArray := prog_1_method_68_code
def y_X_leavesUnsorted : MethodName := ⟨"SortingNets", "leavesUnsorted", "(I)Z"⟩
theorem mi_X_leavesUnsorted : MV y_X_leavesUnsorted c_X_leavesUnsorted 4 (some .boolean) 1 := ⟨⟨by decide, (tb_3 (List.mem_of_getElem? (i := 89) rfl) rfl), (tb_1 (List.mem_of_getElem? (i := 1) rfl) rfl), by decide +kernel, by decide⟩, (tb_3 (List.mem_of_getElem? (i := 88) rfl) rfl), (tb_0 (List.mem_of_getElem? (i := 15) rfl) rfl)⟩
abbrev c_X_exchangeValues : ByteArray := prog_1_method_70_code
def y_X_exchangeValues : MethodName := ⟨"SortingNets", "exchangeValues", "(II)V"⟩
theorem mi_X_exchangeValues : MV y_X_exchangeValues c_X_exchangeValues 4 none 2 := ⟨⟨by decide, (tb_3 (List.mem_of_getElem? (i := 97) rfl) rfl), (tb_1 (List.mem_of_getElem? (i := 1) rfl) rfl), by decide +kernel, by decide⟩, (tb_3 (List.mem_of_getElem? (i := 96) rfl) rfl), (tb_0 (List.mem_of_getElem? (i := 17) rfl) rfl)⟩
abbrev c_X_nextOrder : ByteArray := prog_1_method_69_code
def y_X_nextOrder : MethodName := ⟨"SortingNets", "nextOrder", "(I)Z"⟩
theorem mi_X_nextOrder : MV y_X_nextOrder c_X_nextOrder 6 (some .boolean) 1 := ⟨⟨by decide, (tb_3 (List.mem_of_getElem? (i := 93) rfl) rfl), (tb_1 (List.mem_of_getElem? (i := 1) rfl) rfl), by decide +kernel, by decide⟩, (tb_3 (List.mem_of_getElem? (i := 92) rfl) rfl), (tb_0 (List.mem_of_getElem? (i := 16) rfl) rfl)⟩
abbrev c_X_orders : ByteArray := prog_1_method_25_code
def y_X_orders : MethodName := ⟨"SortingNets", "orders", "(I)I"⟩
theorem mi_X_orders : MV y_X_orders c_X_orders 5 (some .int) 1 := ⟨⟨by decide, (tb_3 (List.mem_of_getElem? (i := 85) rfl) rfl), (tb_1 (List.mem_of_getElem? (i := 1) rfl) rfl), by decide +kernel, by decide⟩, (tb_3 (List.mem_of_getElem? (i := 83) rfl) rfl), (tb_3 (List.mem_of_getElem? (i := 84) rfl) rfl)⟩
abbrev c_X_merges : ByteArray := prog_1_method_26_code
def y_X_merges : MethodName := ⟨"SortingNets", "merges", "(II)I"⟩
theorem mi_X_merges : MV y_X_merges c_X_merges 8 (some .int) 2 := ⟨⟨by decide, (tb_3 (List.mem_of_getElem? (i := 101) rfl) rfl), (tb_1 (List.mem_of_getElem? (i := 1) rfl) rfl), by decide +kernel, by decide⟩, (tb_3 (List.mem_of_getElem? (i := 99) rfl) rfl), (tb_3 (List.mem_of_getElem? (i := 100) rfl) rfl)⟩
abbrev c_Trial_isBusy : ByteArray := prog_10_method_8_code
def y_Trial_isBusy : MethodName := ⟨"SortingNets$Trial", "isBusy", "(II)Z"⟩
theorem mi_Trial_isBusy : MV y_Trial_isBusy c_Trial_isBusy 6 (some .boolean) 2 := ⟨⟨by decide, (tb_3 (List.mem_of_getElem? (i := 110) rfl) rfl), (tb_1 (List.mem_of_getElem? (i := 7) rfl) rfl), by decide +kernel, by decide⟩, (tb_3 (List.mem_of_getElem? (i := 108) rfl) rfl), (tb_3 (List.mem_of_getElem? (i := 109) rfl) rfl)⟩
abbrev c_X_idle : ByteArray := prog_1_method_27_code
def y_X_idle : MethodName := ⟨"SortingNets", "idle", "(I)J"⟩
theorem mi_X_idle : MV y_X_idle c_X_idle 6 (some .long) 1 := ⟨⟨by decide, (tb_3 (List.mem_of_getElem? (i := 105) rfl) rfl), (tb_1 (List.mem_of_getElem? (i := 1) rfl) rfl), by decide +kernel, by decide⟩, (tb_3 (List.mem_of_getElem? (i := 103) rfl) rfl), (tb_3 (List.mem_of_getElem? (i := 104) rfl) rfl)⟩
abbrev c_X_isSorting : ByteArray := prog_1_method_63_code
def y_X_isSorting : MethodName := ⟨"SortingNets", "isSorting", "(LSortingNets$Net;I)Z"⟩
theorem mi_X_isSorting : MV y_X_isSorting c_X_isSorting 3 (some .boolean) 2 := ⟨⟨by decide, (tb_3 (List.mem_of_getElem? (i := 120) rfl) rfl), (tb_1 (List.mem_of_getElem? (i := 1) rfl) rfl), by decide +kernel, by decide⟩, (tb_3 (List.mem_of_getElem? (i := 119) rfl) rfl), (tb_0 (List.mem_of_getElem? (i := 18) rfl) rfl)⟩
abbrev c_X_spare : ByteArray := prog_1_method_28_code
def y_X_spare : MethodName := ⟨"SortingNets", "spare", "(I)J"⟩
theorem mi_X_spare : MV y_X_spare c_X_spare 5 (some .long) 1 := ⟨⟨by decide, (tb_3 (List.mem_of_getElem? (i := 116) rfl) rfl), (tb_1 (List.mem_of_getElem? (i := 1) rfl) rfl), by decide +kernel, by decide⟩, (tb_3 (List.mem_of_getElem? (i := 114) rfl) rfl), (tb_3 (List.mem_of_getElem? (i := 115) rfl) rfl)⟩
abbrev c_X_thins : ByteArray := prog_1_method_29_code
def y_X_thins : MethodName := ⟨"SortingNets", "thins", "(I)I"⟩
theorem mi_X_thins : MV y_X_thins c_X_thins 5 (some .int) 1 := ⟨⟨by decide, (tb_3 (List.mem_of_getElem? (i := 125) rfl) rfl), (tb_1 (List.mem_of_getElem? (i := 1) rfl) rfl), by decide +kernel, by decide⟩, (tb_3 (List.mem_of_getElem? (i := 123) rfl) rfl), (tb_3 (List.mem_of_getElem? (i := 124) rfl) rfl)⟩
abbrev c_Trial_exchange : ByteArray := prog_10_method_7_code
def y_Trial_exchange : MethodName := ⟨"SortingNets$Trial", "exchange", "(II)V"⟩
theorem mi_Trial_exchange : MV y_Trial_exchange c_Trial_exchange 6 none 2 := ⟨⟨by decide, (tb_3 (List.mem_of_getElem? (i := 133) rfl) rfl), (tb_1 (List.mem_of_getElem? (i := 7) rfl) rfl), by decide +kernel, by decide⟩, (tb_3 (List.mem_of_getElem? (i := 131) rfl) rfl), (tb_3 (List.mem_of_getElem? (i := 132) rfl) rfl)⟩
abbrev c_X_broken : ByteArray := prog_1_method_30_code
def y_X_broken : MethodName := ⟨"SortingNets", "broken", "(III)I"⟩
theorem mi_X_broken : MV y_X_broken c_X_broken 5 (some .int) 3 := ⟨⟨by decide, (tb_3 (List.mem_of_getElem? (i := 129) rfl) rfl), (tb_1 (List.mem_of_getElem? (i := 1) rfl) rfl), by decide +kernel, by decide⟩, (tb_3 (List.mem_of_getElem? (i := 127) rfl) rfl), (tb_3 (List.mem_of_getElem? (i := 128) rfl) rfl)⟩
abbrev c_X_findNotices : ByteArray := prog_1_method_71_code
def y_X_findNotices : MethodName := ⟨"SortingNets", "findNotices", "(LSortingNets$Net;)J"⟩
theorem mi_X_findNotices : MV y_X_findNotices c_X_findNotices 7 (some .long) 1 := ⟨⟨by decide, (tb_3 (List.mem_of_getElem? (i := 141) rfl) rfl), (tb_1 (List.mem_of_getElem? (i := 1) rfl) rfl), by decide +kernel, by decide⟩, (tb_3 (List.mem_of_getElem? (i := 140) rfl) rfl), (tb_0 (List.mem_of_getElem? (i := 19) rfl) rfl)⟩
abbrev c_X_tests : ByteArray := prog_1_method_31_code
def y_X_tests : MethodName := ⟨"SortingNets", "tests", "(I)I"⟩
theorem mi_X_tests : MV y_X_tests c_X_tests 8 (some .int) 1 := ⟨⟨by decide, (tb_3 (List.mem_of_getElem? (i := 137) rfl) rfl), (tb_1 (List.mem_of_getElem? (i := 1) rfl) rfl), by decide +kernel, by decide⟩, (tb_3 (List.mem_of_getElem? (i := 135) rfl) rfl), (tb_3 (List.mem_of_getElem? (i := 136) rfl) rfl)⟩
abbrev c_Trial_take : ByteArray := prog_10_method_4_code
def y_Trial_take : MethodName := ⟨"SortingNets$Trial", "take", "(LSortingNets$Trial;)V"⟩
theorem mi_Trial_take : MV y_Trial_take c_Trial_take 3 none 1 := ⟨⟨by decide, (tb_3 (List.mem_of_getElem? (i := 149) rfl) rfl), (tb_1 (List.mem_of_getElem? (i := 7) rfl) rfl), by decide +kernel, by decide⟩, (tb_3 (List.mem_of_getElem? (i := 147) rfl) rfl), (tb_3 (List.mem_of_getElem? (i := 148) rfl) rfl)⟩
abbrev c_X_helps : ByteArray := prog_1_method_32_code
def y_X_helps : MethodName := ⟨"SortingNets", "helps", "(I)I"⟩
theorem mi_X_helps : MV y_X_helps c_X_helps 8 (some .int) 1 := ⟨⟨by decide, (tb_3 (List.mem_of_getElem? (i := 145) rfl) rfl), (tb_1 (List.mem_of_getElem? (i := 1) rfl) rfl), by decide +kernel, by decide⟩, (tb_3 (List.mem_of_getElem? (i := 143) rfl) rfl), (tb_3 (List.mem_of_getElem? (i := 144) rfl) rfl)⟩
abbrev c_Trial_findUnlike : ByteArray := prog_10_method_10_code
def y_Trial_findUnlike : MethodName := ⟨"SortingNets$Trial", "findUnlike", "(LSortingNets$Trial;LSortingNets$PatternSet;)V"⟩
theorem mi_Trial_findUnlike : MV y_Trial_findUnlike c_Trial_findUnlike 5 none 2 := ⟨⟨by decide, (tb_3 (List.mem_of_getElem? (i := 157) rfl) rfl), (tb_1 (List.mem_of_getElem? (i := 7) rfl) rfl), by decide +kernel, by decide⟩, (tb_3 (List.mem_of_getElem? (i := 155) rfl) rfl), (tb_3 (List.mem_of_getElem? (i := 156) rfl) rfl)⟩
abbrev c_X_same : ByteArray := prog_1_method_33_code
def y_X_same : MethodName := ⟨"SortingNets", "same", "(II)I"⟩
theorem mi_X_same : MV y_X_same c_X_same 3 (some .int) 2 := ⟨⟨by decide, (tb_3 (List.mem_of_getElem? (i := 153) rfl) rfl), (tb_1 (List.mem_of_getElem? (i := 1) rfl) rfl), by decide +kernel, by decide⟩, (tb_3 (List.mem_of_getElem? (i := 151) rfl) rfl), (tb_3 (List.mem_of_getElem? (i := 152) rfl) rfl)⟩
abbrev c_X_smallImage : ByteArray := prog_1_method_66_code
def y_X_smallImage : MethodName := ⟨"SortingNets", "smallImage", "(LSortingNets$Net;)J"⟩
theorem mi_X_smallImage : MV y_X_smallImage c_X_smallImage 2 (some .long) 1 := ⟨⟨by decide, (tb_3 (List.mem_of_getElem? (i := 165) rfl) rfl), (tb_1 (List.mem_of_getElem? (i := 1) rfl) rfl), by decide +kernel, by decide⟩, (tb_3 (List.mem_of_getElem? (i := 164) rfl) rfl), (tb_0 (List.mem_of_getElem? (i := 20) rfl) rfl)⟩
abbrev c_Sets_exchanged : ByteArray := prog_7_method_4_code
def y_Sets_exchanged : MethodName := ⟨"SortingNets$Sets", "exchanged", "(JII)J"⟩
theorem mi_Sets_exchanged : MS y_Sets_exchanged c_Sets_exchanged 9 (some .long) 3 := ⟨⟨by decide, (tb_3 (List.mem_of_getElem? (i := 172) rfl) rfl), (tb_1 (List.mem_of_getElem? (i := 14) rfl) rfl), by decide +kernel, by decide⟩, (tb_3 (List.mem_of_getElem? (i := 171) rfl) rfl)⟩
abbrev c_Sets_mayFit : ByteArray := prog_7_method_6_code
def y_Sets_mayFit : MethodName := ⟨"SortingNets$Sets", "mayFit", "(JJJ)Z"⟩
theorem mi_Sets_mayFit : MS y_Sets_mayFit c_Sets_mayFit 6 (some .boolean) 3 := ⟨⟨by decide, (tb_3 (List.mem_of_getElem? (i := 176) rfl) rfl), (tb_1 (List.mem_of_getElem? (i := 14) rfl) rfl), by decide +kernel, by decide⟩, (tb_3 (List.mem_of_getElem? (i := 175) rfl) rfl)⟩
abbrev c_Sets_waysWithin : ByteArray := prog_7_method_5_code
def y_Sets_waysWithin : MethodName := yWays
theorem mi_Sets_waysWithin : MS y_Sets_waysWithin c_Sets_waysWithin 11 (some .int) 5 := ⟨⟨by decide, (tb_3 (List.mem_of_getElem? (i := 168) rfl) rfl), (tb_1 (List.mem_of_getElem? (i := 14) rfl) rfl), by decide +kernel, by decide⟩, (tb_3 (List.mem_of_getElem? (i := 167) rfl) rfl)⟩
abbrev c_X_within : ByteArray := prog_1_method_34_code
def y_X_within : MethodName := ⟨"SortingNets", "within", "(II)I"⟩
theorem mi_X_within : MV y_X_within c_X_within 5 (some .int) 2 := ⟨⟨by decide, (tb_3 (List.mem_of_getElem? (i := 161) rfl) rfl), (tb_1 (List.mem_of_getElem? (i := 1) rfl) rfl), by decide +kernel, by decide⟩, (tb_3 (List.mem_of_getElem? (i := 159) rfl) rfl), (tb_3 (List.mem_of_getElem? (i := 160) rfl) rfl)⟩
abbrev c_Search_listPairs : ByteArray := prog_6_method_3_code
def y_Search_listPairs : MethodName := ⟨"SortingNets$Search", "listPairs", "()V"⟩
theorem mi_Search_listPairs : MV y_Search_listPairs c_Search_listPairs 3 none 0 := ⟨⟨by decide, (tb_3 (List.mem_of_getElem? (i := 190) rfl) rfl), (tb_1 (List.mem_of_getElem? (i := 9) rfl) rfl), by decide +kernel, by decide⟩, (tb_3 (List.mem_of_getElem? (i := 189) rfl) rfl), (tb_0 (List.mem_of_getElem? (i := 21) rfl) rfl)⟩
abbrev c_Search_isLayer : ByteArray := prog_6_method_5_code
def y_Search_isLayer : MethodName := ⟨"SortingNets$Search", "isLayer", "(I)Z"⟩
theorem mi_Search_isLayer : MV y_Search_isLayer c_Search_isLayer 5 (some .boolean) 1 := ⟨⟨by decide, (tb_3 (List.mem_of_getElem? (i := 199) rfl) rfl), (tb_1 (List.mem_of_getElem? (i := 9) rfl) rfl), by decide +kernel, by decide⟩, (tb_3 (List.mem_of_getElem? (i := 198) rfl) rfl), (tb_0 (List.mem_of_getElem? (i := 23) rfl) rfl)⟩
abbrev c_Search_listMoves : ByteArray := prog_6_method_4_code
def y_Search_listMoves : MethodName := ⟨"SortingNets$Search", "listMoves", "(Z)V"⟩
theorem mi_Search_listMoves : MV y_Search_listMoves c_Search_listMoves 3 none 1 := ⟨⟨by decide, (tb_3 (List.mem_of_getElem? (i := 194) rfl) rfl), (tb_1 (List.mem_of_getElem? (i := 9) rfl) rfl), by decide +kernel, by decide⟩, (tb_3 (List.mem_of_getElem? (i := 193) rfl) rfl), (tb_0 (List.mem_of_getElem? (i := 22) rfl) rfl)⟩
abbrev c_Sets_all : ByteArray := prog_7_method_2_code
def y_Sets_all : MethodName := ⟨"SortingNets$Sets", "all", "(I)J"⟩
theorem mi_Sets_all : MS y_Sets_all c_Sets_all 1 (some .long) 1 := ⟨⟨by decide, (tb_3 (List.mem_of_getElem? (i := 202) rfl) rfl), (tb_1 (List.mem_of_getElem? (i := 14) rfl) rfl), by decide +kernel, by decide⟩, (tb_3 (List.mem_of_getElem? (i := 201) rfl) rfl)⟩
abbrev c_Search_isOver : ByteArray := prog_6_method_6_code
def y_Search_isOver : MethodName := ⟨"SortingNets$Search", "isOver", "()Z"⟩
theorem mi_Search_isOver : MV y_Search_isOver c_Search_isOver 2 (some .boolean) 0 := ⟨⟨by decide, (tb_3 (List.mem_of_getElem? (i := 207) rfl) rfl), (tb_1 (List.mem_of_getElem? (i := 9) rfl) rfl), by decide +kernel, by decide⟩, (tb_3 (List.mem_of_getElem? (i := 206) rfl) rfl), (tb_0 (List.mem_of_getElem? (i := 24) rfl) rfl)⟩
abbrev c_Sets_compared : ByteArray := prog_7_method_3_code
def y_Sets_compared : MethodName := ⟨"SortingNets$Sets", "compared", "(JII)J"⟩
theorem mi_Sets_compared : MS y_Sets_compared c_Sets_compared 6 (some .long) 3 := ⟨⟨by decide, (tb_3 (List.mem_of_getElem? (i := 219) rfl) rfl), (tb_1 (List.mem_of_getElem? (i := 14) rfl) rfl), by decide +kernel, by decide⟩, (tb_3 (List.mem_of_getElem? (i := 218) rfl) rfl)⟩
abbrev c_Search_moved : ByteArray := prog_6_method_8_code
def y_Search_moved : MethodName := ⟨"SortingNets$Search", "moved", "(JI)J"⟩
theorem mi_Search_moved : MV y_Search_moved c_Search_moved 7 (some .long) 2 := ⟨⟨by decide, (tb_3 (List.mem_of_getElem? (i := 216) rfl) rfl), (tb_1 (List.mem_of_getElem? (i := 9) rfl) rfl), by decide +kernel, by decide⟩, (tb_3 (List.mem_of_getElem? (i := 215) rfl) rfl), (tb_0 (List.mem_of_getElem? (i := 26) rfl) rfl)⟩
abbrev c_Sets_isWithin : ByteArray := prog_7_method_7_code
def y_Sets_isWithin : MethodName := ⟨"SortingNets$Sets", "isWithin", "(JJI)Z"⟩
theorem mi_Sets_isWithin : MS y_Sets_isWithin c_Sets_isWithin 5 (some .boolean) 3 := ⟨⟨by decide, (tb_3 (List.mem_of_getElem? (i := 226) rfl) rfl), (tb_1 (List.mem_of_getElem? (i := 14) rfl) rfl), by decide +kernel, by decide⟩, (tb_3 (List.mem_of_getElem? (i := 225) rfl) rfl)⟩
abbrev c_Search_consider : ByteArray := prog_6_method_9_code
def y_Search_consider : MethodName := ⟨"SortingNets$Search", "consider", "(J)V"⟩
theorem mi_Search_consider : MV y_Search_consider c_Search_consider 5 none 1 := ⟨⟨by decide, (tb_3 (List.mem_of_getElem? (i := 223) rfl) rfl), (tb_1 (List.mem_of_getElem? (i := 9) rfl) rfl), by decide +kernel, by decide⟩, (tb_3 (List.mem_of_getElem? (i := 222) rfl) rfl), (tb_0 (List.mem_of_getElem? (i := 27) rfl) rfl)⟩
abbrev c_Search_makeStep : ByteArray := prog_6_method_7_code
def y_Search_makeStep : MethodName := ⟨"SortingNets$Search", "makeStep", "()V"⟩
theorem mi_Search_makeStep : MV y_Search_makeStep c_Search_makeStep 3 none 0 := ⟨⟨by decide, (tb_3 (List.mem_of_getElem? (i := 212) rfl) rfl), (tb_1 (List.mem_of_getElem? (i := 9) rfl) rfl), by decide +kernel, by decide⟩, (tb_3 (List.mem_of_getElem? (i := 211) rfl) rfl), (tb_0 (List.mem_of_getElem? (i := 25) rfl) rfl)⟩
abbrev c_Search_tellSteps : ByteArray := prog_6_method_2_code
def y_Search_tellSteps : MethodName := ⟨"SortingNets$Search", "tellSteps", "(IZLSortingNets$Numbers;)I"⟩
theorem mi_Search_tellSteps : MV y_Search_tellSteps c_Search_tellSteps 5 (some .int) 3 := ⟨⟨by decide, (tb_3 (List.mem_of_getElem? (i := 186) rfl) rfl), (tb_1 (List.mem_of_getElem? (i := 9) rfl) rfl), by decide +kernel, by decide⟩, (tb_3 (List.mem_of_getElem? (i := 184) rfl) rfl), (tb_3 (List.mem_of_getElem? (i := 185) rfl) rfl)⟩
abbrev c_X_least : ByteArray := prog_1_method_35_code
def y_X_least : MethodName := ⟨"SortingNets", "least", "(I)I"⟩
theorem mi_X_least : MV y_X_least c_X_least 2 (some .int) 1 := ⟨⟨by decide, (tb_3 (List.mem_of_getElem? (i := 182) rfl) rfl), (tb_1 (List.mem_of_getElem? (i := 1) rfl) rfl), by decide +kernel, by decide⟩, (tb_3 (List.mem_of_getElem? (i := 180) rfl) rfl), (tb_3 (List.mem_of_getElem? (i := 181) rfl) rfl)⟩
abbrev c_X_shallow : ByteArray := prog_1_method_36_code
def y_X_shallow : MethodName := ⟨"SortingNets", "shallow", "(I)I"⟩
theorem mi_X_shallow : MV y_X_shallow c_X_shallow 2 (some .int) 1 := ⟨⟨by decide, (tb_3 (List.mem_of_getElem? (i := 231) rfl) rfl), (tb_1 (List.mem_of_getElem? (i := 1) rfl) rfl), by decide +kernel, by decide⟩, (tb_3 (List.mem_of_getElem? (i := 229) rfl) rfl), (tb_3 (List.mem_of_getElem? (i := 230) rfl) rfl)⟩
abbrev c_X_isFinishedBy : ByteArray := prog_1_method_72_code
def y_X_isFinishedBy : MethodName := ⟨"SortingNets", "isFinishedBy", "(JIII[I)Z"⟩
theorem mi_X_isFinishedBy : MS y_X_isFinishedBy c_X_isFinishedBy 8 (some .boolean) 5 := ⟨⟨by decide, (tb_3 (List.mem_of_getElem? (i := 238) rfl) rfl), (tb_1 (List.mem_of_getElem? (i := 1) rfl) rfl), by decide +kernel, by decide⟩, (tb_3 (List.mem_of_getElem? (i := 237) rfl) rfl)⟩
abbrev c_X_rest : ByteArray := prog_1_method_37_code
def y_X_rest : MethodName := ⟨"SortingNets", "rest", "(I)I"⟩
theorem mi_X_rest : MV y_X_rest c_X_rest 6 (some .int) 1 := ⟨⟨by decide, (tb_3 (List.mem_of_getElem? (i := 235) rfl) rfl), (tb_1 (List.mem_of_getElem? (i := 1) rfl) rfl), by decide +kernel, by decide⟩, (tb_3 (List.mem_of_getElem? (i := 233) rfl) rfl), (tb_3 (List.mem_of_getElem? (i := 234) rfl) rfl)⟩
abbrev c_X_has : ByteArray := prog_1_method_38_code
def y_X_has : MethodName := ⟨"SortingNets", "has", "(II)I"⟩
theorem mi_X_has : MV y_X_has c_X_has 3 (some .int) 2 := ⟨⟨by decide, (tb_4 (List.mem_of_getElem? (i := 3) rfl) rfl), (tb_1 (List.mem_of_getElem? (i := 1) rfl) rfl), by decide +kernel, by decide⟩, (tb_4 (List.mem_of_getElem? (i := 1) rfl) rfl), (tb_4 (List.mem_of_getElem? (i := 2) rfl) rfl)⟩
abbrev c_X_allComparers : ByteArray := prog_1_method_45_code
def y_X_allComparers : MethodName := ⟨"SortingNets", "allComparers", "()I"⟩
theorem mi_X_allComparers : MV y_X_allComparers c_X_allComparers 3 (some .int) 0 := ⟨⟨by decide, (tb_4 (List.mem_of_getElem? (i := 11) rfl) rfl), (tb_1 (List.mem_of_getElem? (i := 1) rfl) rfl), by decide +kernel, by decide⟩, (tb_4 (List.mem_of_getElem? (i := 10) rfl) rfl), (tb_0 (List.mem_of_getElem? (i := 28) rfl) rfl)⟩
abbrev c_X_count : ByteArray := prog_1_method_39_code
def y_X_count : MethodName := ⟨"SortingNets", "count", "(I)I"⟩
theorem mi_X_count : MV y_X_count c_X_count 2 (some .int) 1 := ⟨⟨by decide, (tb_4 (List.mem_of_getElem? (i := 7) rfl) rfl), (tb_1 (List.mem_of_getElem? (i := 1) rfl) rfl), by decide +kernel, by decide⟩, (tb_4 (List.mem_of_getElem? (i := 5) rfl) rfl), (tb_4 (List.mem_of_getElem? (i := 6) rfl) rfl)⟩
abbrev c_M_thrown : ByteArray := prog_12_method_2_code
def y_M_thrown : MethodName := ⟨"SortingNetsModel", "thrown", "()I"⟩
theorem mi_M_thrown : MV y_M_thrown c_M_thrown 1 (some .int) 0 := ⟨⟨by decide, (tb_4 (List.mem_of_getElem? (i := 188) rfl) rfl), (tb_1 (List.mem_of_getElem? (i := 10) rfl) rfl), by decide +kernel, by decide⟩, (tb_4 (List.mem_of_getElem? (i := 186) rfl) rfl), (tb_4 (List.mem_of_getElem? (i := 187) rfl) rfl)⟩
abbrev c_M_sign : ByteArray := prog_12_method_17_code
def y_M_sign : MethodName := ⟨"SortingNetsModel", "sign", "(I)I"⟩
theorem mi_M_sign : MV y_M_sign c_M_sign 3 (some .int) 1 := ⟨⟨by decide, (tb_4 (List.mem_of_getElem? (i := 192) rfl) rfl), (tb_1 (List.mem_of_getElem? (i := 10) rfl) rfl), by decide +kernel, by decide⟩, (tb_4 (List.mem_of_getElem? (i := 190) rfl) rfl), (tb_4 (List.mem_of_getElem? (i := 191) rfl) rfl)⟩
abbrev c_M_in : ByteArray := prog_12_method_3_code
def y_M_in : MethodName := ⟨"SortingNetsModel", "in", "(JJJ)Z"⟩
theorem mi_M_in : MS y_M_in c_M_in 6 (some .boolean) 3 := ⟨⟨by decide, (tb_4 (List.mem_of_getElem? (i := 199) rfl) rfl), (tb_1 (List.mem_of_getElem? (i := 10) rfl) rfl), by decide +kernel, by decide⟩, (tb_4 (List.mem_of_getElem? (i := 198) rfl) rfl)⟩
abbrev c_M_end : ByteArray := prog_12_method_18_code
def y_M_end : MethodName := ⟨"SortingNetsModel", "end", "(I)Z"⟩
theorem mi_M_end : MV y_M_end c_M_end 2 (some .boolean) 1 := ⟨⟨by decide, (tb_4 (List.mem_of_getElem? (i := 196) rfl) rfl), (tb_1 (List.mem_of_getElem? (i := 10) rfl) rfl), by decide +kernel, by decide⟩, (tb_4 (List.mem_of_getElem? (i := 194) rfl) rfl), (tb_4 (List.mem_of_getElem? (i := 195) rfl) rfl)⟩
abbrev c_M_reads : ByteArray := prog_12_method_19_code
def y_M_reads : MethodName := ⟨"SortingNetsModel", "reads", "()V"⟩
theorem mi_M_reads : MV y_M_reads c_M_reads 1 none 0 := ⟨⟨by decide, (tb_4 (List.mem_of_getElem? (i := 207) rfl) rfl), (tb_1 (List.mem_of_getElem? (i := 10) rfl) rfl), by decide +kernel, by decide⟩, (tb_4 (List.mem_of_getElem? (i := 206) rfl) rfl), (tb_0 (List.mem_of_getElem? (i := 30) rfl) rfl)⟩
abbrev c_M_takesDigit : ByteArray := prog_12_method_22_code
def y_M_takesDigit : MethodName := ⟨"SortingNetsModel", "takesDigit", "(II)Z"⟩
theorem mi_M_takesDigit : MV y_M_takesDigit c_M_takesDigit 3 (some .boolean) 2 := ⟨⟨by decide, (tb_4 (List.mem_of_getElem? (i := 215) rfl) rfl), (tb_1 (List.mem_of_getElem? (i := 10) rfl) rfl), by decide +kernel, by decide⟩, (tb_4 (List.mem_of_getElem? (i := 214) rfl) rfl), (tb_0 (List.mem_of_getElem? (i := 32) rfl) rfl)⟩
abbrev c_M_takes : ByteArray := prog_12_method_20_code
def y_M_takes : MethodName := ⟨"SortingNetsModel", "takes", "(I)Z"⟩
theorem mi_M_takes : MV y_M_takes c_M_takes 2 (some .boolean) 1 := ⟨⟨by decide, (tb_4 (List.mem_of_getElem? (i := 219) rfl) rfl), (tb_1 (List.mem_of_getElem? (i := 10) rfl) rfl), by decide +kernel, by decide⟩, (tb_4 (List.mem_of_getElem? (i := 218) rfl) rfl), (tb_0 (List.mem_of_getElem? (i := 33) rfl) rfl)⟩
abbrev c_M_takesPair : ByteArray := prog_12_method_23_code
def y_M_takesPair : MethodName := ⟨"SortingNetsModel", "takesPair", "()Z"⟩
theorem mi_M_takesPair : MV y_M_takesPair c_M_takesPair 1 (some .boolean) 0 := ⟨⟨by decide, (tb_4 (List.mem_of_getElem? (i := 223) rfl) rfl), (tb_1 (List.mem_of_getElem? (i := 10) rfl) rfl), by decide +kernel, by decide⟩, (tb_4 (List.mem_of_getElem? (i := 222) rfl) rfl), (tb_0 (List.mem_of_getElem? (i := 34) rfl) rfl)⟩
abbrev c_M_takesNet : ByteArray := prog_12_method_24_code
def y_M_takesNet : MethodName := ⟨"SortingNetsModel", "takesNet", "()Z"⟩
theorem mi_M_takesNet : MV y_M_takesNet c_M_takesNet 2 (some .boolean) 0 := ⟨⟨by decide, (tb_4 (List.mem_of_getElem? (i := 211) rfl) rfl), (tb_1 (List.mem_of_getElem? (i := 10) rfl) rfl), by decide +kernel, by decide⟩, (tb_4 (List.mem_of_getElem? (i := 210) rfl) rfl), (tb_0 (List.mem_of_getElem? (i := 31) rfl) rfl)⟩
abbrev c_M_isNet : ByteArray := prog_12_method_7_code
def y_M_isNet : MethodName := ⟨"SortingNetsModel", "isNet", "(I)Z"⟩
theorem mi_M_isNet : MS y_M_isNet c_M_isNet 1 (some .boolean) 1 := ⟨⟨by decide, (tb_4 (List.mem_of_getElem? (i := 226) rfl) rfl), (tb_1 (List.mem_of_getElem? (i := 10) rfl) rfl), by decide +kernel, by decide⟩, (tb_4 (List.mem_of_getElem? (i := 225) rfl) rfl)⟩
abbrev c_M_begins : ByteArray := prog_12_method_16_code
def y_M_begins : MethodName := ⟨"SortingNetsModel", "begins", "(II)V"⟩
theorem mi_M_begins : MV y_M_begins c_M_begins 3 none 2 := ⟨⟨by decide, (tb_4 (List.mem_of_getElem? (i := 235) rfl) rfl), (tb_1 (List.mem_of_getElem? (i := 10) rfl) rfl), by decide +kernel, by decide⟩, (tb_4 (List.mem_of_getElem? (i := 234) rfl) rfl), (tb_0 (List.mem_of_getElem? (i := 36) rfl) rfl)⟩
abbrev c_M_sets : ByteArray := prog_12_method_14_code
def y_M_sets : MethodName := ⟨"SortingNetsModel", "sets", "(IIII)V"⟩
theorem mi_M_sets : MV y_M_sets c_M_sets 5 none 4 := ⟨⟨by decide, (tb_5 (List.mem_of_getElem? (i := 5) rfl) rfl), (tb_1 (List.mem_of_getElem? (i := 10) rfl) rfl), by decide +kernel, by decide⟩, (tb_5 (List.mem_of_getElem? (i := 4) rfl) rfl), (tb_0 (List.mem_of_getElem? (i := 38) rfl) rfl)⟩
abbrev c_M_comes3 : ByteArray := prog_12_method_15_code
def y_M_comes3 : MethodName := ⟨"SortingNetsModel", "comes", "(III)V"⟩
theorem mi_M_comes3 : MV y_M_comes3 c_M_comes3 4 none 3 := ⟨⟨by decide, (tb_5 (List.mem_of_getElem? (i := 1) rfl) rfl), (tb_1 (List.mem_of_getElem? (i := 10) rfl) rfl), by decide +kernel, by decide⟩, (tb_5 (List.mem_of_getElem? (i := 0) rfl) rfl), (tb_0 (List.mem_of_getElem? (i := 37) rfl) rfl)⟩
abbrev c_M_untangles : ByteArray := prog_12_method_25_code
def y_M_untangles : MethodName := ⟨"SortingNetsModel", "untangles", "(II)V"⟩
theorem mi_M_untangles : MV y_M_untangles c_M_untangles 6 none 2 := ⟨⟨by decide, (tb_4 (List.mem_of_getElem? (i := 231) rfl) rfl), (tb_1 (List.mem_of_getElem? (i := 10) rfl) rfl), by decide +kernel, by decide⟩, (tb_4 (List.mem_of_getElem? (i := 230) rfl) rfl), (tb_0 (List.mem_of_getElem? (i := 35) rfl) rfl)⟩
abbrev c_M_enters : ByteArray := prog_12_method_5_code
def y_M_enters : MethodName := ⟨"SortingNetsModel", "enters", "(J)V"⟩
theorem mi_M_enters : MV y_M_enters c_M_enters 3 none 1 := ⟨⟨by decide, (tb_5 (List.mem_of_getElem? (i := 9) rfl) rfl), (tb_1 (List.mem_of_getElem? (i := 10) rfl) rfl), by decide +kernel, by decide⟩, (tb_5 (List.mem_of_getElem? (i := 8) rfl) rfl), (tb_0 (List.mem_of_getElem? (i := 39) rfl) rfl)⟩
abbrev c_M_net : ByteArray := prog_12_method_26_code
def y_M_net : MethodName := ⟨"SortingNetsModel", "net", "(I)I"⟩
theorem mi_M_net : MV y_M_net c_M_net 3 (some .int) 1 := ⟨⟨by decide, (tb_4 (List.mem_of_getElem? (i := 203) rfl) rfl), (tb_1 (List.mem_of_getElem? (i := 10) rfl) rfl), by decide +kernel, by decide⟩, (tb_4 (List.mem_of_getElem? (i := 201) rfl) rfl), (tb_4 (List.mem_of_getElem? (i := 202) rfl) rfl)⟩
abbrev c_M_sinks : ByteArray := prog_12_method_27_code
def y_M_sinks : MethodName := ⟨"SortingNetsModel", "sinks", "(II)V"⟩
theorem mi_M_sinks : MV y_M_sinks c_M_sinks 5 none 2 := ⟨⟨by decide, (tb_5 (List.mem_of_getElem? (i := 20) rfl) rfl), (tb_1 (List.mem_of_getElem? (i := 10) rfl) rfl), by decide +kernel, by decide⟩, (tb_5 (List.mem_of_getElem? (i := 19) rfl) rfl), (tb_0 (List.mem_of_getElem? (i := 40) rfl) rfl)⟩
abbrev c_M_inserts : ByteArray := prog_12_method_28_code
def y_M_inserts : MethodName := ⟨"SortingNetsModel", "inserts", "(II)V"⟩
theorem mi_M_inserts : MV y_M_inserts c_M_inserts 5 none 2 := ⟨⟨by decide, (tb_5 (List.mem_of_getElem? (i := 24) rfl) rfl), (tb_1 (List.mem_of_getElem? (i := 10) rfl) rfl), by decide +kernel, by decide⟩, (tb_5 (List.mem_of_getElem? (i := 23) rfl) rfl), (tb_0 (List.mem_of_getElem? (i := 41) rfl) rfl)⟩
abbrev c_M_alternates : ByteArray := prog_12_method_29_code
def y_M_alternates : MethodName := ⟨"SortingNetsModel", "alternates", "(II)V"⟩
theorem mi_M_alternates : MV y_M_alternates c_M_alternates 5 none 2 := ⟨⟨by decide, (tb_5 (List.mem_of_getElem? (i := 28) rfl) rfl), (tb_1 (List.mem_of_getElem? (i := 10) rfl) rfl), by decide +kernel, by decide⟩, (tb_5 (List.mem_of_getElem? (i := 27) rfl) rfl), (tb_0 (List.mem_of_getElem? (i := 42) rfl) rfl)⟩
abbrev c_M_exchanges5 : ByteArray := prog_12_method_30_code
def y_M_exchanges5 : MethodName := ⟨"SortingNetsModel", "exchanges", "(IIIII)V"⟩
theorem mi_M_exchanges5 : MV y_M_exchanges5 c_M_exchanges5 7 none 5 := ⟨⟨by decide, (tb_5 (List.mem_of_getElem? (i := 36) rfl) rfl), (tb_1 (List.mem_of_getElem? (i := 10) rfl) rfl), by decide +kernel, by decide⟩, (tb_5 (List.mem_of_getElem? (i := 35) rfl) rfl), (tb_0 (List.mem_of_getElem? (i := 44) rfl) rfl)⟩
abbrev c_M_mergesAll : ByteArray := prog_12_method_31_code
def y_M_mergesAll : MethodName := ⟨"SortingNetsModel", "mergesAll", "(II)V"⟩
theorem mi_M_mergesAll : MV y_M_mergesAll c_M_mergesAll 6 none 2 := ⟨⟨by decide, (tb_5 (List.mem_of_getElem? (i := 32) rfl) rfl), (tb_1 (List.mem_of_getElem? (i := 10) rfl) rfl), by decide +kernel, by decide⟩, (tb_5 (List.mem_of_getElem? (i := 31) rfl) rfl), (tb_0 (List.mem_of_getElem? (i := 43) rfl) rfl)⟩
abbrev c_M_makes : ByteArray := prog_12_method_32_code
def y_M_makes : MethodName := ⟨"SortingNetsModel", "makes", "(III)I"⟩
theorem mi_M_makes : MV y_M_makes c_M_makes 4 (some .int) 3 := ⟨⟨by decide, (tb_5 (List.mem_of_getElem? (i := 13) rfl) rfl), (tb_1 (List.mem_of_getElem? (i := 10) rfl) rfl), by decide +kernel, by decide⟩, (tb_5 (List.mem_of_getElem? (i := 11) rfl) rfl), (tb_5 (List.mem_of_getElem? (i := 12) rfl) rfl)⟩
abbrev c_M_draw : ByteArray := prog_12_method_33_code
def y_M_draw : MethodName := ⟨"SortingNetsModel", "draw", "(I)I"⟩
theorem mi_M_draw : MV y_M_draw c_M_draw 2 (some .int) 1 := ⟨⟨by decide, (tb_5 (List.mem_of_getElem? (i := 45) rfl) rfl), (tb_1 (List.mem_of_getElem? (i := 10) rfl) rfl), by decide +kernel, by decide⟩, (tb_5 (List.mem_of_getElem? (i := 44) rfl) rfl), (tb_0 (List.mem_of_getElem? (i := 45) rfl) rfl)⟩
abbrev c_M_flag : ByteArray := prog_12_method_4_code
def y_M_flag : MethodName := ⟨"SortingNetsModel", "flag", "(Z)I"⟩
theorem mi_M_flag : MS y_M_flag c_M_flag 1 (some .int) 1 := ⟨⟨by decide, (tb_5 (List.mem_of_getElem? (i := 49) rfl) rfl), (tb_1 (List.mem_of_getElem? (i := 10) rfl) rfl), by decide +kernel, by decide⟩, (tb_5 (List.mem_of_getElem? (i := 48) rfl) rfl)⟩
abbrev c_M_all : ByteArray := prog_12_method_11_code
def y_M_all : MethodName := ⟨"SortingNetsModel", "all", "(I)I"⟩
theorem mi_M_all : MV y_M_all c_M_all 2 (some .int) 1 := ⟨⟨by decide, (tb_5 (List.mem_of_getElem? (i := 57) rfl) rfl), (tb_1 (List.mem_of_getElem? (i := 10) rfl) rfl), by decide +kernel, by decide⟩, (tb_5 (List.mem_of_getElem? (i := 56) rfl) rfl), (tb_0 (List.mem_of_getElem? (i := 47) rfl) rfl)⟩
abbrev c_M_lowOf : ByteArray := prog_12_method_12_code
def y_M_lowOf : MethodName := ⟨"SortingNetsModel", "lowOf", "(II)I"⟩
theorem mi_M_lowOf : MV y_M_lowOf c_M_lowOf 3 (some .int) 2 := ⟨⟨by decide, (tb_5 (List.mem_of_getElem? (i := 69) rfl) rfl), (tb_1 (List.mem_of_getElem? (i := 10) rfl) rfl), by decide +kernel, by decide⟩, (tb_5 (List.mem_of_getElem? (i := 68) rfl) rfl), (tb_0 (List.mem_of_getElem? (i := 50) rfl) rfl)⟩
abbrev c_M_highOf : ByteArray := prog_12_method_13_code
def y_M_highOf : MethodName := ⟨"SortingNetsModel", "highOf", "(II)I"⟩
theorem mi_M_highOf : MV y_M_highOf c_M_highOf 3 (some .int) 2 := ⟨⟨by decide, (tb_5 (List.mem_of_getElem? (i := 73) rfl) rfl), (tb_1 (List.mem_of_getElem? (i := 10) rfl) rfl), by decide +kernel, by decide⟩, (tb_5 (List.mem_of_getElem? (i := 72) rfl) rfl), (tb_0 (List.mem_of_getElem? (i := 51) rfl) rfl)⟩
abbrev c_M_result : ByteArray := prog_12_method_50_code
def y_M_result : MethodName := ⟨"SortingNetsModel", "result", "(IIII)I"⟩
theorem mi_M_result : MV y_M_result c_M_result 12 (some .int) 4 := ⟨⟨by decide, (tb_5 (List.mem_of_getElem? (i := 65) rfl) rfl), (tb_1 (List.mem_of_getElem? (i := 10) rfl) rfl), by decide +kernel, by decide⟩, (tb_5 (List.mem_of_getElem? (i := 64) rfl) rfl), (tb_0 (List.mem_of_getElem? (i := 49) rfl) rfl)⟩
abbrev c_M_isSorted : ByteArray := prog_12_method_51_code
def y_M_isSorted : MethodName := ⟨"SortingNetsModel", "isSorted", "(II)Z"⟩
theorem mi_M_isSorted : MS y_M_isSorted c_M_isSorted 4 (some .boolean) 2 := ⟨⟨by decide, (tb_5 (List.mem_of_getElem? (i := 76) rfl) rfl), (tb_1 (List.mem_of_getElem? (i := 10) rfl) rfl), by decide +kernel, by decide⟩, (tb_5 (List.mem_of_getElem? (i := 75) rfl) rfl)⟩
abbrev c_M_isWrong : ByteArray := prog_12_method_52_code
def y_M_isWrong : MethodName := ⟨"SortingNetsModel", "isWrong", "(IIII)Z"⟩
theorem mi_M_isWrong : MV y_M_isWrong c_M_isWrong 5 (some .boolean) 4 := ⟨⟨by decide, (tb_5 (List.mem_of_getElem? (i := 61) rfl) rfl), (tb_1 (List.mem_of_getElem? (i := 10) rfl) rfl), by decide +kernel, by decide⟩, (tb_5 (List.mem_of_getElem? (i := 60) rfl) rfl), (tb_0 (List.mem_of_getElem? (i := 48) rfl) rfl)⟩
abbrev c_M_wrongs : ByteArray := prog_12_method_53_code
def y_M_wrongs : MethodName := ⟨"SortingNetsModel", "wrongs", "(III)I"⟩
theorem mi_M_wrongs : MV y_M_wrongs c_M_wrongs 6 (some .int) 3 := ⟨⟨by decide, (tb_5 (List.mem_of_getElem? (i := 53) rfl) rfl), (tb_1 (List.mem_of_getElem? (i := 10) rfl) rfl), by decide +kernel, by decide⟩, (tb_5 (List.mem_of_getElem? (i := 52) rfl) rfl), (tb_0 (List.mem_of_getElem? (i := 46) rfl) rfl)⟩
abbrev c_M_draws : ByteArray := prog_12_method_34_code
def y_M_draws : MethodName := ⟨"SortingNetsModel", "draws", "(IIII)I"⟩
theorem mi_M_draws : MV y_M_draws c_M_draws 8 (some .int) 4 := ⟨⟨by decide, (tb_5 (List.mem_of_getElem? (i := 40) rfl) rfl), (tb_1 (List.mem_of_getElem? (i := 10) rfl) rfl), by decide +kernel, by decide⟩, (tb_5 (List.mem_of_getElem? (i := 38) rfl) rfl), (tb_5 (List.mem_of_getElem? (i := 39) rfl) rfl)⟩
abbrev c_M_isWire : ByteArray := prog_12_method_8_code
def y_M_isWire : MethodName := ⟨"SortingNetsModel", "isWire", "(II)Z"⟩
theorem mi_M_isWire : MV y_M_isWire c_M_isWire 3 (some .boolean) 2 := ⟨⟨by decide, (tb_5 (List.mem_of_getElem? (i := 84) rfl) rfl), (tb_1 (List.mem_of_getElem? (i := 10) rfl) rfl), by decide +kernel, by decide⟩, (tb_5 (List.mem_of_getElem? (i := 83) rfl) rfl), (tb_0 (List.mem_of_getElem? (i := 52) rfl) rfl)⟩
abbrev c_M_adds : ByteArray := prog_12_method_35_code
def y_M_adds : MethodName := ⟨"SortingNetsModel", "adds", "(III)I"⟩
theorem mi_M_adds : MV y_M_adds c_M_adds 4 (some .int) 3 := ⟨⟨by decide, (tb_5 (List.mem_of_getElem? (i := 80) rfl) rfl), (tb_1 (List.mem_of_getElem? (i := 10) rfl) rfl), by decide +kernel, by decide⟩, (tb_5 (List.mem_of_getElem? (i := 78) rfl) rfl), (tb_5 (List.mem_of_getElem? (i := 79) rfl) rfl)⟩
abbrev c_M_isComparer : ByteArray := prog_12_method_9_code
def y_M_isComparer : MethodName := ⟨"SortingNetsModel", "isComparer", "(II)Z"⟩
theorem mi_M_isComparer : MV y_M_isComparer c_M_isComparer 3 (some .boolean) 2 := ⟨⟨by decide, (tb_5 (List.mem_of_getElem? (i := 92) rfl) rfl), (tb_1 (List.mem_of_getElem? (i := 10) rfl) rfl), by decide +kernel, by decide⟩, (tb_5 (List.mem_of_getElem? (i := 91) rfl) rfl), (tb_0 (List.mem_of_getElem? (i := 53) rfl) rfl)⟩
abbrev c_M_goes : ByteArray := prog_12_method_36_code
def y_M_goes : MethodName := ⟨"SortingNetsModel", "goes", "(II)V"⟩
theorem mi_M_goes : MV y_M_goes c_M_goes 4 none 2 := ⟨⟨by decide, (tb_5 (List.mem_of_getElem? (i := 96) rfl) rfl), (tb_1 (List.mem_of_getElem? (i := 10) rfl) rfl), by decide +kernel, by decide⟩, (tb_5 (List.mem_of_getElem? (i := 95) rfl) rfl), (tb_0 (List.mem_of_getElem? (i := 54) rfl) rfl)⟩
abbrev c_M_drops : ByteArray := prog_12_method_37_code
def y_M_drops : MethodName := ⟨"SortingNetsModel", "drops", "(II)I"⟩
theorem mi_M_drops : MV y_M_drops c_M_drops 3 (some .int) 2 := ⟨⟨by decide, (tb_5 (List.mem_of_getElem? (i := 88) rfl) rfl), (tb_1 (List.mem_of_getElem? (i := 10) rfl) rfl), by decide +kernel, by decide⟩, (tb_5 (List.mem_of_getElem? (i := 86) rfl) rfl), (tb_5 (List.mem_of_getElem? (i := 87) rfl) rfl)⟩
abbrev c_M_touch : ByteArray := prog_12_method_38_code
def y_M_touch : MethodName := ⟨"SortingNetsModel", "touch", "(III)Z"⟩
theorem mi_M_touch : MV y_M_touch c_M_touch 4 (some .boolean) 3 := ⟨⟨by decide, (tb_5 (List.mem_of_getElem? (i := 104) rfl) rfl), (tb_1 (List.mem_of_getElem? (i := 10) rfl) rfl), by decide +kernel, by decide⟩, (tb_5 (List.mem_of_getElem? (i := 103) rfl) rfl), (tb_0 (List.mem_of_getElem? (i := 55) rfl) rfl)⟩
abbrev c_M_changes : ByteArray := prog_12_method_39_code
def y_M_changes : MethodName := ⟨"SortingNetsModel", "changes", "(III)V"⟩
theorem mi_M_changes : MV y_M_changes c_M_changes 6 none 3 := ⟨⟨by decide, (tb_5 (List.mem_of_getElem? (i := 108) rfl) rfl), (tb_1 (List.mem_of_getElem? (i := 10) rfl) rfl), by decide +kernel, by decide⟩, (tb_5 (List.mem_of_getElem? (i := 107) rfl) rfl), (tb_0 (List.mem_of_getElem? (i := 56) rfl) rfl)⟩
abbrev c_M_swaps : ByteArray := prog_12_method_40_code
def y_M_swaps : MethodName := ⟨"SortingNetsModel", "swaps", "(II)I"⟩
theorem mi_M_swaps : MV y_M_swaps c_M_swaps 4 (some .int) 2 := ⟨⟨by decide, (tb_5 (List.mem_of_getElem? (i := 100) rfl) rfl), (tb_1 (List.mem_of_getElem? (i := 10) rfl) rfl), by decide +kernel, by decide⟩, (tb_5 (List.mem_of_getElem? (i := 98) rfl) rfl), (tb_5 (List.mem_of_getElem? (i := 99) rfl) rfl)⟩
abbrev c_M_copies : ByteArray := prog_12_method_41_code
def y_M_copies : MethodName := ⟨"SortingNetsModel", "copies", "(II)I"⟩
theorem mi_M_copies : MV y_M_copies c_M_copies 4 (some .int) 2 := ⟨⟨by decide, (tb_5 (List.mem_of_getElem? (i := 112) rfl) rfl), (tb_1 (List.mem_of_getElem? (i := 10) rfl) rfl), by decide +kernel, by decide⟩, (tb_5 (List.mem_of_getElem? (i := 110) rfl) rfl), (tb_5 (List.mem_of_getElem? (i := 111) rfl) rfl)⟩
abbrev c_M_joins : ByteArray := prog_12_method_42_code
def y_M_joins : MethodName := ⟨"SortingNetsModel", "joins", "(II)I"⟩
theorem mi_M_joins : MV y_M_joins c_M_joins 5 (some .int) 2 := ⟨⟨by decide, (tb_5 (List.mem_of_getElem? (i := 116) rfl) rfl), (tb_1 (List.mem_of_getElem? (i := 10) rfl) rfl), by decide +kernel, by decide⟩, (tb_5 (List.mem_of_getElem? (i := 114) rfl) rfl), (tb_5 (List.mem_of_getElem? (i := 115) rfl) rfl)⟩
abbrev c_M_flips : ByteArray := prog_12_method_43_code
def y_M_flips : MethodName := ⟨"SortingNetsModel", "flips", "(I)I"⟩
theorem mi_M_flips : MV y_M_flips c_M_flips 3 (some .int) 1 := ⟨⟨by decide, (tb_5 (List.mem_of_getElem? (i := 120) rfl) rfl), (tb_1 (List.mem_of_getElem? (i := 10) rfl) rfl), by decide +kernel, by decide⟩, (tb_5 (List.mem_of_getElem? (i := 118) rfl) rfl), (tb_5 (List.mem_of_getElem? (i := 119) rfl) rfl)⟩
abbrev c_M_mirrors : ByteArray := prog_12_method_44_code
def y_M_mirrors : MethodName := ⟨"SortingNetsModel", "mirrors", "(I)I"⟩
theorem mi_M_mirrors : MV y_M_mirrors c_M_mirrors 3 (some .int) 1 := ⟨⟨by decide, (tb_5 (List.mem_of_getElem? (i := 124) rfl) rfl), (tb_1 (List.mem_of_getElem? (i := 10) rfl) rfl), by decide +kernel, by decide⟩, (tb_5 (List.mem_of_getElem? (i := 122) rfl) rfl), (tb_5 (List.mem_of_getElem? (i := 123) rfl) rfl)⟩
abbrev c_M_laysLayers : ByteArray := prog_12_method_45_code
def y_M_laysLayers : MethodName := ⟨"SortingNetsModel", "laysLayers", "(I)I"⟩
theorem mi_M_laysLayers : MV y_M_laysLayers c_M_laysLayers 6 (some .int) 1 := ⟨⟨by decide, (tb_5 (List.mem_of_getElem? (i := 132) rfl) rfl), (tb_1 (List.mem_of_getElem? (i := 10) rfl) rfl), by decide +kernel, by decide⟩, (tb_5 (List.mem_of_getElem? (i := 131) rfl) rfl), (tb_0 (List.mem_of_getElem? (i := 57) rfl) rfl)⟩
abbrev c_M_lays : ByteArray := prog_12_method_46_code
def y_M_lays : MethodName := ⟨"SortingNetsModel", "lays", "(I)I"⟩
theorem mi_M_lays : MV y_M_lays c_M_lays 7 (some .int) 1 := ⟨⟨by decide, (tb_5 (List.mem_of_getElem? (i := 128) rfl) rfl), (tb_1 (List.mem_of_getElem? (i := 10) rfl) rfl), by decide +kernel, by decide⟩, (tb_5 (List.mem_of_getElem? (i := 126) rfl) rfl), (tb_5 (List.mem_of_getElem? (i := 127) rfl) rfl)⟩
abbrev c_M_tellsOne : ByteArray := prog_12_method_6_code
def y_M_tellsOne : MethodName := ⟨"SortingNetsModel", "tellsOne", "(J)V"⟩
theorem mi_M_tellsOne : MV y_M_tellsOne c_M_tellsOne 3 none 1 := ⟨⟨by decide, (tb_5 (List.mem_of_getElem? (i := 140) rfl) rfl), (tb_1 (List.mem_of_getElem? (i := 10) rfl) rfl), by decide +kernel, by decide⟩, (tb_5 (List.mem_of_getElem? (i := 139) rfl) rfl), (tb_0 (List.mem_of_getElem? (i := 58) rfl) rfl)⟩
abbrev c_M_comparer : ByteArray := prog_12_method_47_code
def y_M_comparer : MethodName := ⟨"SortingNetsModel", "comparer", "(II)I"⟩
theorem mi_M_comparer : MV y_M_comparer c_M_comparer 3 (some .int) 2 := ⟨⟨by decide, (tb_5 (List.mem_of_getElem? (i := 136) rfl) rfl), (tb_1 (List.mem_of_getElem? (i := 10) rfl) rfl), by decide +kernel, by decide⟩, (tb_5 (List.mem_of_getElem? (i := 134) rfl) rfl), (tb_5 (List.mem_of_getElem? (i := 135) rfl) rfl)⟩
abbrev c_M_depth : ByteArray := prog_12_method_48_code
def y_M_depth : MethodName := ⟨"SortingNetsModel", "depth", "(I)I"⟩
theorem mi_M_depth : MV y_M_depth c_M_depth 6 (some .int) 1 := ⟨⟨by decide, (tb_5 (List.mem_of_getElem? (i := 144) rfl) rfl), (tb_1 (List.mem_of_getElem? (i := 10) rfl) rfl), by decide +kernel, by decide⟩, (tb_5 (List.mem_of_getElem? (i := 142) rfl) rfl), (tb_5 (List.mem_of_getElem? (i := 143) rfl) rfl)⟩
abbrev c_M_cuts : ByteArray := prog_12_method_49_code
def y_M_cuts : MethodName := ⟨"SortingNetsModel", "cuts", "(IIZI)I"⟩
theorem mi_M_cuts : MV y_M_cuts c_M_cuts 11 (some .int) 4 := ⟨⟨by decide, (tb_5 (List.mem_of_getElem? (i := 148) rfl) rfl), (tb_1 (List.mem_of_getElem? (i := 10) rfl) rfl), by decide +kernel, by decide⟩, (tb_5 (List.mem_of_getElem? (i := 146) rfl) rfl), (tb_5 (List.mem_of_getElem? (i := 147) rfl) rfl)⟩
abbrev c_M_isPattern : ByteArray := prog_12_method_10_code
def y_M_isPattern : MethodName := ⟨"SortingNetsModel", "isPattern", "(II)Z"⟩
theorem mi_M_isPattern : MV y_M_isPattern c_M_isPattern 3 (some .boolean) 2 := ⟨⟨by decide, (tb_5 (List.mem_of_getElem? (i := 156) rfl) rfl), (tb_1 (List.mem_of_getElem? (i := 10) rfl) rfl), by decide +kernel, by decide⟩, (tb_5 (List.mem_of_getElem? (i := 155) rfl) rfl), (tb_0 (List.mem_of_getElem? (i := 59) rfl) rfl)⟩
abbrev c_M_runs : ByteArray := prog_12_method_55_code
def y_M_runs : MethodName := ⟨"SortingNetsModel", "runs", "(II)I"⟩
theorem mi_M_runs : MV y_M_runs c_M_runs 4 (some .int) 2 := ⟨⟨by decide, (tb_5 (List.mem_of_getElem? (i := 152) rfl) rfl), (tb_1 (List.mem_of_getElem? (i := 10) rfl) rfl), by decide +kernel, by decide⟩, (tb_5 (List.mem_of_getElem? (i := 150) rfl) rfl), (tb_5 (List.mem_of_getElem? (i := 151) rfl) rfl)⟩
abbrev c_M_isDigit : ByteArray := prog_12_method_21_code
def y_M_isDigit : MethodName := ⟨"SortingNetsModel", "isDigit", "()Z"⟩
theorem mi_M_isDigit : MV y_M_isDigit c_M_isDigit 1 (some .boolean) 0 := ⟨⟨by decide, (tb_5 (List.mem_of_getElem? (i := 168) rfl) rfl), (tb_1 (List.mem_of_getElem? (i := 10) rfl) rfl), by decide +kernel, by decide⟩, (tb_5 (List.mem_of_getElem? (i := 167) rfl) rfl), (tb_0 (List.mem_of_getElem? (i := 61) rfl) rfl)⟩
abbrev c_M_takesNumbers : ByteArray := prog_12_method_56_code
def y_M_takesNumbers : MethodName := ⟨"SortingNetsModel", "takesNumbers", "(I)Z"⟩
theorem mi_M_takesNumbers : MV y_M_takesNumbers c_M_takesNumbers 5 (some .boolean) 1 := ⟨⟨by decide, (tb_5 (List.mem_of_getElem? (i := 164) rfl) rfl), (tb_1 (List.mem_of_getElem? (i := 10) rfl) rfl), by decide +kernel, by decide⟩, (tb_5 (List.mem_of_getElem? (i := 163) rfl) rfl), (tb_0 (List.mem_of_getElem? (i := 60) rfl) rfl)⟩
abbrev c_M_tells : ByteArray := prog_12_method_57_code
def y_M_tells : MethodName := ⟨"SortingNetsModel", "tells", "(I)I"⟩
theorem mi_M_tells : MV y_M_tells c_M_tells 6 (some .int) 1 := ⟨⟨by decide, (tb_5 (List.mem_of_getElem? (i := 160) rfl) rfl), (tb_1 (List.mem_of_getElem? (i := 10) rfl) rfl), by decide +kernel, by decide⟩, (tb_5 (List.mem_of_getElem? (i := 158) rfl) rfl), (tb_5 (List.mem_of_getElem? (i := 159) rfl) rfl)⟩
abbrev c_M_sorts : ByteArray := prog_12_method_58_code
def y_M_sorts : MethodName := ⟨"SortingNetsModel", "sorts", "(I)I"⟩
theorem mi_M_sorts : MV y_M_sorts c_M_sorts 3 (some .int) 1 := ⟨⟨by decide, (tb_5 (List.mem_of_getElem? (i := 174) rfl) rfl), (tb_1 (List.mem_of_getElem? (i := 10) rfl) rfl), by decide +kernel, by decide⟩, (tb_5 (List.mem_of_getElem? (i := 172) rfl) rfl), (tb_5 (List.mem_of_getElem? (i := 173) rfl) rfl)⟩
abbrev c_M_laysImage : ByteArray := prog_12_method_59_code
def y_M_laysImage : MethodName := ⟨"SortingNetsModel", "laysImage", "(I)V"⟩
theorem mi_M_laysImage : MV y_M_laysImage c_M_laysImage 3 none 1 := ⟨⟨by decide, (tb_5 (List.mem_of_getElem? (i := 182) rfl) rfl), (tb_1 (List.mem_of_getElem? (i := 10) rfl) rfl), by decide +kernel, by decide⟩, (tb_5 (List.mem_of_getElem? (i := 181) rfl) rfl), (tb_0 (List.mem_of_getElem? (i := 62) rfl) rfl)⟩
abbrev c_M_image : ByteArray := prog_12_method_60_code
def y_M_image : MethodName := ⟨"SortingNetsModel", "image", "(I)I"⟩
theorem mi_M_image : MV y_M_image c_M_image 5 (some .int) 1 := ⟨⟨by decide, (tb_5 (List.mem_of_getElem? (i := 178) rfl) rfl), (tb_1 (List.mem_of_getElem? (i := 10) rfl) rfl), by decide +kernel, by decide⟩, (tb_5 (List.mem_of_getElem? (i := 176) rfl) rfl), (tb_5 (List.mem_of_getElem? (i := 177) rfl) rfl)⟩
abbrev c_M_comes2 : ByteArray := prog_12_method_61_code
def y_M_comes2 : MethodName := ⟨"SortingNetsModel", "comes", "(II)I"⟩
theorem mi_M_comes2 : MV y_M_comes2 c_M_comes2 6 (some .int) 2 := ⟨⟨by decide, (tb_5 (List.mem_of_getElem? (i := 186) rfl) rfl), (tb_1 (List.mem_of_getElem? (i := 10) rfl) rfl), by decide +kernel, by decide⟩, (tb_5 (List.mem_of_getElem? (i := 184) rfl) rfl), (tb_5 (List.mem_of_getElem? (i := 185) rfl) rfl)⟩
abbrev c_M_wiresOf : ByteArray := prog_12_method_62_code
def y_M_wiresOf : MethodName := ⟨"SortingNetsModel", "wiresOf", "(II)I"⟩
theorem mi_M_wiresOf : MV y_M_wiresOf c_M_wiresOf 7 (some .int) 2 := ⟨⟨by decide, (tb_5 (List.mem_of_getElem? (i := 194) rfl) rfl), (tb_1 (List.mem_of_getElem? (i := 10) rfl) rfl), by decide +kernel, by decide⟩, (tb_5 (List.mem_of_getElem? (i := 193) rfl) rfl), (tb_0 (List.mem_of_getElem? (i := 63) rfl) rfl)⟩
abbrev c_M_ranks : ByteArray := prog_12_method_63_code
def y_M_ranks : MethodName := ⟨"SortingNetsModel", "ranks", "(II)I"⟩
theorem mi_M_ranks : MV y_M_ranks c_M_ranks 4 (some .int) 2 := ⟨⟨by decide, (tb_5 (List.mem_of_getElem? (i := 190) rfl) rfl), (tb_1 (List.mem_of_getElem? (i := 10) rfl) rfl), by decide +kernel, by decide⟩, (tb_5 (List.mem_of_getElem? (i := 188) rfl) rfl), (tb_5 (List.mem_of_getElem? (i := 189) rfl) rfl)⟩
abbrev c_M_leaves : ByteArray := prog_12_method_64_code
def y_M_leaves : MethodName := ⟨"SortingNetsModel", "leaves", "(II)I"⟩
theorem mi_M_leaves : MV y_M_leaves c_M_leaves 5 (some .int) 2 := ⟨⟨by decide, (tb_5 (List.mem_of_getElem? (i := 199) rfl) rfl), (tb_1 (List.mem_of_getElem? (i := 10) rfl) rfl), by decide +kernel, by decide⟩, (tb_5 (List.mem_of_getElem? (i := 197) rfl) rfl), (tb_5 (List.mem_of_getElem? (i := 198) rfl) rfl)⟩
abbrev c_M_firstOrder : ByteArray := prog_12_method_65_code
def y_M_firstOrder : MethodName := ⟨"SortingNetsModel", "firstOrder", "(I)V"⟩
theorem mi_M_firstOrder : MV y_M_firstOrder c_M_firstOrder 3 none 1 := ⟨⟨by decide, (tb_5 (List.mem_of_getElem? (i := 207) rfl) rfl), (tb_1 (List.mem_of_getElem? (i := 10) rfl) rfl), by decide +kernel, by decide⟩, (tb_5 (List.mem_of_getElem? (i := 206) rfl) rfl), (tb_0 (List.mem_of_getElem? (i := 64) rfl) rfl)⟩
abbrev c_M_leavesSorted : ByteArray := prog_12_method_68_code
def y_M_leavesSorted : MethodName := ⟨"SortingNetsModel", "leavesSorted", "(I)Z"⟩
theorem mi_M_leavesSorted : MV y_M_leavesSorted c_M_leavesSorted 5 (some .boolean) 1 := ⟨⟨by decide, (tb_5 (List.mem_of_getElem? (i := 211) rfl) rfl), (tb_1 (List.mem_of_getElem? (i := 10) rfl) rfl), by decide +kernel, by decide⟩, (tb_5 (List.mem_of_getElem? (i := 210) rfl) rfl), (tb_0 (List.mem_of_getElem? (i := 65) rfl) rfl)⟩
abbrev c_M_exchanges2 : ByteArray := prog_12_method_67_code
def y_M_exchanges2 : MethodName := ⟨"SortingNetsModel", "exchanges", "(II)V"⟩
theorem mi_M_exchanges2 : MV y_M_exchanges2 c_M_exchanges2 4 none 2 := ⟨⟨by decide, (tb_5 (List.mem_of_getElem? (i := 219) rfl) rfl), (tb_1 (List.mem_of_getElem? (i := 10) rfl) rfl), by decide +kernel, by decide⟩, (tb_5 (List.mem_of_getElem? (i := 218) rfl) rfl), (tb_0 (List.mem_of_getElem? (i := 67) rfl) rfl)⟩
abbrev c_M_nextOrder : ByteArray := prog_12_method_66_code
def y_M_nextOrder : MethodName := ⟨"SortingNetsModel", "nextOrder", "(I)Z"⟩
theorem mi_M_nextOrder : MV y_M_nextOrder c_M_nextOrder 6 (some .boolean) 1 := ⟨⟨by decide, (tb_5 (List.mem_of_getElem? (i := 215) rfl) rfl), (tb_1 (List.mem_of_getElem? (i := 10) rfl) rfl), by decide +kernel, by decide⟩, (tb_5 (List.mem_of_getElem? (i := 214) rfl) rfl), (tb_0 (List.mem_of_getElem? (i := 66) rfl) rfl)⟩
abbrev c_M_orders : ByteArray := prog_12_method_69_code
def y_M_orders : MethodName := ⟨"SortingNetsModel", "orders", "(I)I"⟩
theorem mi_M_orders : MV y_M_orders c_M_orders 5 (some .int) 1 := ⟨⟨by decide, (tb_5 (List.mem_of_getElem? (i := 203) rfl) rfl), (tb_1 (List.mem_of_getElem? (i := 10) rfl) rfl), by decide +kernel, by decide⟩, (tb_5 (List.mem_of_getElem? (i := 201) rfl) rfl), (tb_5 (List.mem_of_getElem? (i := 202) rfl) rfl)⟩
abbrev c_M_merges : ByteArray := prog_12_method_70_code
def y_M_merges : MethodName := ⟨"SortingNetsModel", "merges", "(II)I"⟩
theorem mi_M_merges : MV y_M_merges c_M_merges 6 (some .int) 2 := ⟨⟨by decide, (tb_5 (List.mem_of_getElem? (i := 223) rfl) rfl), (tb_1 (List.mem_of_getElem? (i := 10) rfl) rfl), by decide +kernel, by decide⟩, (tb_5 (List.mem_of_getElem? (i := 221) rfl) rfl), (tb_5 (List.mem_of_getElem? (i := 222) rfl) rfl)⟩
abbrev c_M_bits : ByteArray := prog_12_method_71_code
def y_M_bits : MethodName := ⟨"SortingNetsModel", "bits", "(J)I"⟩
theorem mi_M_bits : MS y_M_bits c_M_bits 2 (some .int) 1 := ⟨⟨by decide, (tb_5 (List.mem_of_getElem? (i := 231) rfl) rfl), (tb_1 (List.mem_of_getElem? (i := 10) rfl) rfl), by decide +kernel, by decide⟩, (tb_5 (List.mem_of_getElem? (i := 230) rfl) rfl)⟩
abbrev c_M_idle : ByteArray := prog_12_method_72_code
def y_M_idle : MethodName := ⟨"SortingNetsModel", "idle", "(I)J"⟩
theorem mi_M_idle : MV y_M_idle c_M_idle 6 (some .long) 1 := ⟨⟨by decide, (tb_5 (List.mem_of_getElem? (i := 227) rfl) rfl), (tb_1 (List.mem_of_getElem? (i := 10) rfl) rfl), by decide +kernel, by decide⟩, (tb_5 (List.mem_of_getElem? (i := 225) rfl) rfl), (tb_5 (List.mem_of_getElem? (i := 226) rfl) rfl)⟩
abbrev c_M_doesSort : ByteArray := prog_12_method_54_code
def y_M_doesSort : MethodName := ⟨"SortingNetsModel", "doesSort", "(I)Z"⟩
theorem mi_M_doesSort : MV y_M_doesSort c_M_doesSort 2 (some .boolean) 1 := ⟨⟨by decide, (tb_6 (List.mem_of_getElem? (i := 0) rfl) rfl), (tb_1 (List.mem_of_getElem? (i := 10) rfl) rfl), by decide +kernel, by decide⟩, (tb_5 (List.mem_of_getElem? (i := 239) rfl) rfl), (tb_0 (List.mem_of_getElem? (i := 68) rfl) rfl)⟩
abbrev c_M_spares : ByteArray := prog_12_method_73_code
def y_M_spares : MethodName := ⟨"SortingNetsModel", "spares", "(I)J"⟩
theorem mi_M_spares : MV y_M_spares c_M_spares 5 (some .long) 1 := ⟨⟨by decide, (tb_6 (List.mem_of_getElem? (i := 5) rfl) rfl), (tb_1 (List.mem_of_getElem? (i := 10) rfl) rfl), by decide +kernel, by decide⟩, (tb_6 (List.mem_of_getElem? (i := 4) rfl) rfl), (tb_0 (List.mem_of_getElem? (i := 69) rfl) rfl)⟩
abbrev c_M_spare : ByteArray := prog_12_method_74_code
def y_M_spare : MethodName := ⟨"SortingNetsModel", "spare", "(I)J"⟩
theorem mi_M_spare : MV y_M_spare c_M_spare 4 (some .long) 1 := ⟨⟨by decide, (tb_5 (List.mem_of_getElem? (i := 236) rfl) rfl), (tb_1 (List.mem_of_getElem? (i := 10) rfl) rfl), by decide +kernel, by decide⟩, (tb_5 (List.mem_of_getElem? (i := 234) rfl) rfl), (tb_5 (List.mem_of_getElem? (i := 235) rfl) rfl)⟩
abbrev c_M_thins : ByteArray := prog_12_method_75_code
def y_M_thins : MethodName := ⟨"SortingNetsModel", "thins", "(I)I"⟩
theorem mi_M_thins : MV y_M_thins c_M_thins 4 (some .int) 1 := ⟨⟨by decide, (tb_6 (List.mem_of_getElem? (i := 9) rfl) rfl), (tb_1 (List.mem_of_getElem? (i := 10) rfl) rfl), by decide +kernel, by decide⟩, (tb_6 (List.mem_of_getElem? (i := 7) rfl) rfl), (tb_6 (List.mem_of_getElem? (i := 8) rfl) rfl)⟩
abbrev c_M_broken : ByteArray := prog_12_method_76_code
def y_M_broken : MethodName := ⟨"SortingNetsModel", "broken", "(III)I"⟩
theorem mi_M_broken : MV y_M_broken c_M_broken 5 (some .int) 3 := ⟨⟨by decide, (tb_6 (List.mem_of_getElem? (i := 13) rfl) rfl), (tb_1 (List.mem_of_getElem? (i := 10) rfl) rfl), by decide +kernel, by decide⟩, (tb_6 (List.mem_of_getElem? (i := 11) rfl) rfl), (tb_6 (List.mem_of_getElem? (i := 12) rfl) rfl)⟩
abbrev c_M_tests : ByteArray := prog_12_method_77_code
def y_M_tests : MethodName := ⟨"SortingNetsModel", "tests", "(I)I"⟩
theorem mi_M_tests : MV y_M_tests c_M_tests 6 (some .int) 1 := ⟨⟨by decide, (tb_6 (List.mem_of_getElem? (i := 17) rfl) rfl), (tb_1 (List.mem_of_getElem? (i := 10) rfl) rfl), by decide +kernel, by decide⟩, (tb_6 (List.mem_of_getElem? (i := 15) rfl) rfl), (tb_6 (List.mem_of_getElem? (i := 16) rfl) rfl)⟩
abbrev c_M_compared : ByteArray := prog_12_method_78_code
def y_M_compared : MethodName := ⟨"SortingNetsModel", "compared", "(III)I"⟩
theorem mi_M_compared : MS y_M_compared c_M_compared 3 (some .int) 3 := ⟨⟨by decide, (tb_6 (List.mem_of_getElem? (i := 24) rfl) rfl), (tb_1 (List.mem_of_getElem? (i := 10) rfl) rfl), by decide +kernel, by decide⟩, (tb_6 (List.mem_of_getElem? (i := 23) rfl) rfl)⟩
abbrev c_M_helps : ByteArray := prog_12_method_79_code
def y_M_helps : MethodName := ⟨"SortingNetsModel", "helps", "(I)I"⟩
theorem mi_M_helps : MV y_M_helps c_M_helps 8 (some .int) 1 := ⟨⟨by decide, (tb_6 (List.mem_of_getElem? (i := 21) rfl) rfl), (tb_1 (List.mem_of_getElem? (i := 10) rfl) rfl), by decide +kernel, by decide⟩, (tb_6 (List.mem_of_getElem? (i := 19) rfl) rfl), (tb_6 (List.mem_of_getElem? (i := 20) rfl) rfl)⟩
abbrev c_M_same : ByteArray := prog_12_method_80_code
def y_M_same : MethodName := ⟨"SortingNetsModel", "same", "(II)I"⟩
theorem mi_M_same : MV y_M_same c_M_same 6 (some .int) 2 := ⟨⟨by decide, (tb_6 (List.mem_of_getElem? (i := 28) rfl) rfl), (tb_1 (List.mem_of_getElem? (i := 10) rfl) rfl), by decide +kernel, by decide⟩, (tb_6 (List.mem_of_getElem? (i := 26) rfl) rfl), (tb_6 (List.mem_of_getElem? (i := 27) rfl) rfl)⟩
abbrev c_M_imageOf : ByteArray := prog_12_method_81_code
def y_M_imageOf : MethodName := ⟨"SortingNetsModel", "imageOf", "(I)J"⟩
theorem mi_M_imageOf : MV y_M_imageOf c_M_imageOf 5 (some .long) 1 := ⟨⟨by decide, (tb_6 (List.mem_of_getElem? (i := 36) rfl) rfl), (tb_1 (List.mem_of_getElem? (i := 10) rfl) rfl), by decide +kernel, by decide⟩, (tb_6 (List.mem_of_getElem? (i := 35) rfl) rfl), (tb_0 (List.mem_of_getElem? (i := 70) rfl) rfl)⟩
abbrev c_M_isTurnedIn : ByteArray := prog_12_method_82_code
def y_M_isTurnedIn : MethodName := ⟨"SortingNetsModel", "isTurnedIn", "(IJJ)Z"⟩
theorem mi_M_isTurnedIn : MV y_M_isTurnedIn c_M_isTurnedIn 9 (some .boolean) 3 := ⟨⟨by decide, (tb_6 (List.mem_of_getElem? (i := 44) rfl) rfl), (tb_1 (List.mem_of_getElem? (i := 10) rfl) rfl), by decide +kernel, by decide⟩, (tb_6 (List.mem_of_getElem? (i := 43) rfl) rfl), (tb_0 (List.mem_of_getElem? (i := 72) rfl) rfl)⟩
abbrev c_M_turns : ByteArray := prog_12_method_83_code
def y_M_turns : MethodName := ⟨"SortingNetsModel", "turns", "(IJJZ)I"⟩
theorem mi_M_turns : MV y_M_turns c_M_turns 9 (some .int) 4 := ⟨⟨by decide, (tb_6 (List.mem_of_getElem? (i := 40) rfl) rfl), (tb_1 (List.mem_of_getElem? (i := 10) rfl) rfl), by decide +kernel, by decide⟩, (tb_6 (List.mem_of_getElem? (i := 39) rfl) rfl), (tb_0 (List.mem_of_getElem? (i := 71) rfl) rfl)⟩
abbrev c_M_within : ByteArray := prog_12_method_84_code
def y_M_within : MethodName := ⟨"SortingNetsModel", "within", "(II)I"⟩
theorem mi_M_within : MV y_M_within c_M_within 4 (some .int) 2 := ⟨⟨by decide, (tb_6 (List.mem_of_getElem? (i := 32) rfl) rfl), (tb_1 (List.mem_of_getElem? (i := 10) rfl) rfl), by decide +kernel, by decide⟩, (tb_6 (List.mem_of_getElem? (i := 30) rfl) rfl), (tb_6 (List.mem_of_getElem? (i := 31) rfl) rfl)⟩
abbrev c_M_isDone : ByteArray := prog_12_method_90_code
def y_M_isDone : MethodName := ⟨"SortingNetsModel", "isDone", "(I)Z"⟩
theorem mi_M_isDone : MV y_M_isDone c_M_isDone 4 (some .boolean) 1 := ⟨⟨by decide, (tb_6 (List.mem_of_getElem? (i := 57) rfl) rfl), (tb_1 (List.mem_of_getElem? (i := 10) rfl) rfl), by decide +kernel, by decide⟩, (tb_6 (List.mem_of_getElem? (i := 56) rfl) rfl), (tb_0 (List.mem_of_getElem? (i := 74) rfl) rfl)⟩
abbrev c_M_comparedAll : ByteArray := prog_12_method_85_code
def y_M_comparedAll : MethodName := ⟨"SortingNetsModel", "comparedAll", "(IJII)J"⟩
theorem mi_M_comparedAll : MS y_M_comparedAll c_M_comparedAll 8 (some .long) 4 := ⟨⟨by decide, (tb_6 (List.mem_of_getElem? (i := 67) rfl) rfl), (tb_1 (List.mem_of_getElem? (i := 10) rfl) rfl), by decide +kernel, by decide⟩, (tb_6 (List.mem_of_getElem? (i := 66) rfl) rfl)⟩
abbrev c_M_layered : ByteArray := prog_12_method_88_code
def y_M_layered : MethodName := ⟨"SortingNetsModel", "layered", "(IJI)J"⟩
theorem mi_M_layered : MS y_M_layered c_M_layered 10 (some .long) 3 := ⟨⟨by decide, (tb_6 (List.mem_of_getElem? (i := 64) rfl) rfl), (tb_1 (List.mem_of_getElem? (i := 10) rfl) rfl), by decide +kernel, by decide⟩, (tb_6 (List.mem_of_getElem? (i := 63) rfl) rfl)⟩
abbrev c_M_offers : ByteArray := prog_12_method_86_code
def y_M_offers : MethodName := ⟨"SortingNetsModel", "offers", "(IJ)V"⟩
theorem mi_M_offers : MV y_M_offers c_M_offers 6 none 2 := ⟨⟨by decide, (tb_6 (List.mem_of_getElem? (i := 71) rfl) rfl), (tb_1 (List.mem_of_getElem? (i := 10) rfl) rfl), by decide +kernel, by decide⟩, (tb_6 (List.mem_of_getElem? (i := 70) rfl) rfl), (tb_0 (List.mem_of_getElem? (i := 76) rfl) rfl)⟩
abbrev c_M_offersLayers : ByteArray := prog_12_method_89_code
def y_M_offersLayers : MethodName := ⟨"SortingNetsModel", "offersLayers", "(IJ)V"⟩
theorem mi_M_offersLayers : MV y_M_offersLayers c_M_offersLayers 7 none 2 := ⟨⟨by decide, (tb_6 (List.mem_of_getElem? (i := 61) rfl) rfl), (tb_1 (List.mem_of_getElem? (i := 10) rfl) rfl), by decide +kernel, by decide⟩, (tb_6 (List.mem_of_getElem? (i := 60) rfl) rfl), (tb_0 (List.mem_of_getElem? (i := 75) rfl) rfl)⟩
abbrev c_M_offersEach : ByteArray := prog_12_method_87_code
def y_M_offersEach : MethodName := ⟨"SortingNetsModel", "offersEach", "(IJ)V"⟩
theorem mi_M_offersEach : MV y_M_offersEach c_M_offersEach 6 none 2 := ⟨⟨by decide, (tb_6 (List.mem_of_getElem? (i := 75) rfl) rfl), (tb_1 (List.mem_of_getElem? (i := 10) rfl) rfl), by decide +kernel, by decide⟩, (tb_6 (List.mem_of_getElem? (i := 74) rfl) rfl), (tb_0 (List.mem_of_getElem? (i := 77) rfl) rfl)⟩
abbrev c_M_fewest : ByteArray := prog_12_method_91_code
def y_M_fewest : MethodName := ⟨"SortingNetsModel", "fewest", "(IZ)I"⟩
theorem mi_M_fewest : MV y_M_fewest c_M_fewest 4 (some .int) 2 := ⟨⟨by decide, (tb_6 (List.mem_of_getElem? (i := 53) rfl) rfl), (tb_1 (List.mem_of_getElem? (i := 10) rfl) rfl), by decide +kernel, by decide⟩, (tb_6 (List.mem_of_getElem? (i := 52) rfl) rfl), (tb_0 (List.mem_of_getElem? (i := 73) rfl) rfl)⟩
abbrev c_M_least : ByteArray := prog_12_method_92_code
def y_M_least : MethodName := ⟨"SortingNetsModel", "least", "(I)I"⟩
theorem mi_M_least : MV y_M_least c_M_least 2 (some .int) 1 := ⟨⟨by decide, (tb_6 (List.mem_of_getElem? (i := 48) rfl) rfl), (tb_1 (List.mem_of_getElem? (i := 10) rfl) rfl), by decide +kernel, by decide⟩, (tb_6 (List.mem_of_getElem? (i := 46) rfl) rfl), (tb_6 (List.mem_of_getElem? (i := 47) rfl) rfl)⟩
abbrev c_M_shallow : ByteArray := prog_12_method_93_code
def y_M_shallow : MethodName := ⟨"SortingNetsModel", "shallow", "(I)I"⟩
theorem mi_M_shallow : MV y_M_shallow c_M_shallow 2 (some .int) 1 := ⟨⟨by decide, (tb_6 (List.mem_of_getElem? (i := 79) rfl) rfl), (tb_1 (List.mem_of_getElem? (i := 10) rfl) rfl), by decide +kernel, by decide⟩, (tb_6 (List.mem_of_getElem? (i := 77) rfl) rfl), (tb_6 (List.mem_of_getElem? (i := 78) rfl) rfl)⟩
abbrev c_M_canBe : ByteArray := prog_12_method_94_code
def y_M_canBe : MethodName := ⟨"SortingNetsModel", "canBe", "(IJII)Z"⟩
theorem mi_M_canBe : MV y_M_canBe c_M_canBe 8 (some .boolean) 4 := ⟨⟨by decide, (tb_6 (List.mem_of_getElem? (i := 87) rfl) rfl), (tb_1 (List.mem_of_getElem? (i := 10) rfl) rfl), by decide +kernel, by decide⟩, (tb_6 (List.mem_of_getElem? (i := 86) rfl) rfl), (tb_0 (List.mem_of_getElem? (i := 78) rfl) rfl)⟩
abbrev c_M_rest : ByteArray := prog_12_method_95_code
def y_M_rest : MethodName := ⟨"SortingNetsModel", "rest", "(I)I"⟩
theorem mi_M_rest : MV y_M_rest c_M_rest 6 (some .int) 1 := ⟨⟨by decide, (tb_6 (List.mem_of_getElem? (i := 83) rfl) rfl), (tb_1 (List.mem_of_getElem? (i := 10) rfl) rfl), by decide +kernel, by decide⟩, (tb_6 (List.mem_of_getElem? (i := 81) rfl) rfl), (tb_6 (List.mem_of_getElem? (i := 82) rfl) rfl)⟩
abbrev c_M_has : ByteArray := prog_12_method_96_code
def y_M_has : MethodName := ⟨"SortingNetsModel", "has", "(II)I"⟩
theorem mi_M_has : MV y_M_has c_M_has 3 (some .int) 2 := ⟨⟨by decide, (tb_6 (List.mem_of_getElem? (i := 91) rfl) rfl), (tb_1 (List.mem_of_getElem? (i := 10) rfl) rfl), by decide +kernel, by decide⟩, (tb_6 (List.mem_of_getElem? (i := 89) rfl) rfl), (tb_6 (List.mem_of_getElem? (i := 90) rfl) rfl)⟩
abbrev c_M_count : ByteArray := prog_12_method_97_code
def y_M_count : MethodName := ⟨"SortingNetsModel", "count", "(I)I"⟩
theorem mi_M_count : MV y_M_count c_M_count 2 (some .int) 1 := ⟨⟨by decide, (tb_6 (List.mem_of_getElem? (i := 95) rfl) rfl), (tb_1 (List.mem_of_getElem? (i := 10) rfl) rfl), by decide +kernel, by decide⟩, (tb_6 (List.mem_of_getElem? (i := 93) rfl) rfl), (tb_6 (List.mem_of_getElem? (i := 94) rfl) rfl)⟩
abbrev c_M_row : ByteArray := prog_12_method_98_code
def y_M_row : MethodName := ⟨"SortingNetsModel", "row", "(I)J"⟩
theorem mi_M_row : MV y_M_row c_M_row 2 (some .long) 1 := ⟨⟨by decide, (tb_6 (List.mem_of_getElem? (i := 99) rfl) rfl), (tb_1 (List.mem_of_getElem? (i := 10) rfl) rfl), by decide +kernel, by decide⟩, (tb_6 (List.mem_of_getElem? (i := 97) rfl) rfl), (tb_6 (List.mem_of_getElem? (i := 98) rfl) rfl)⟩

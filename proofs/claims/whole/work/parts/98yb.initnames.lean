/-! constructors: names, decode rows, words (written by gen_init.py) -/
theorem oi_i : Cond.instanceMethod objectInit ∈ TB := (tb_1 (List.mem_of_getElem? (i := 25) rfl) rfl)
theorem oi_c : Cond.code objectInit ⟨#[0xb1]⟩ 1 none ∈ TB := (tb_1 (List.mem_of_getElem? (i := 26) rfl) rfl)
theorem ac_int : Cond.arrayClass .int ∈ TB := (tb_1 (List.mem_of_getElem? (i := 56) rfl) rfl)
theorem ac_char : Cond.arrayClass .char ∈ TB := (tb_1 (List.mem_of_getElem? (i := 81) rfl) rfl)
theorem ac_long : Cond.arrayClass .long ∈ TB := (tb_1 (List.mem_of_getElem? (i := 97) rfl) rfl)
theorem ac_boolean : Cond.arrayClass .boolean ∈ TB := (tb_4 (List.mem_of_getElem? (i := 184) rfl) rfl)
abbrev c_X_init : ByteArray := prog_1_method_1_code
def y_X_init : MethodName := ⟨R_X, "<init>", "()V"⟩
theorem d_X_init_0 : decode c_X_init 0 = .ok (.aload_n 0, 1) := by decide +kernel
theorem d_X_init_1 : decode c_X_init 1 = .ok (.invokespecial 1, 3) := by decide +kernel
theorem d_X_init_4 : decode c_X_init 4 = .ok (.aload_n 0, 1) := by decide +kernel
theorem d_X_init_5 : decode c_X_init 5 = .ok (.iconst 4, 1) := by decide +kernel
theorem d_X_init_6 : decode c_X_init 6 = .ok (.anewarray 9, 3) := by decide +kernel
theorem d_X_init_9 : decode c_X_init 9 = .ok (.putfield 11, 3) := by decide +kernel
theorem d_X_init_12 : decode c_X_init 12 = .ok (.iconst 0, 1) := by decide +kernel
theorem d_X_init_13 : decode c_X_init 13 = .ok (.istore_n 1, 1) := by decide +kernel
theorem d_X_init_14 : decode c_X_init 14 = .ok (.iload_n 1, 1) := by decide +kernel
theorem d_X_init_15 : decode c_X_init 15 = .ok (.iconst 4, 1) := by decide +kernel
theorem d_X_init_16 : decode c_X_init 16 = .ok (.if_icmp .ge 22, 3) := by decide +kernel
theorem d_X_init_19 : decode c_X_init 19 = .ok (.aload_n 0, 1) := by decide +kernel
theorem d_X_init_20 : decode c_X_init 20 = .ok (.getfield 11, 3) := by decide +kernel
theorem d_X_init_23 : decode c_X_init 23 = .ok (.iload_n 1, 1) := by decide +kernel
theorem d_X_init_24 : decode c_X_init 24 = .ok (.new 9, 3) := by decide +kernel
theorem d_X_init_27 : decode c_X_init 27 = .ok (.dup, 1) := by decide +kernel
theorem d_X_init_28 : decode c_X_init 28 = .ok (.invokespecial 15, 3) := by decide +kernel
theorem d_X_init_31 : decode c_X_init 31 = .ok (.aastore, 1) := by decide +kernel
theorem d_X_init_32 : decode c_X_init 32 = .ok (.iinc 1 1, 3) := by decide +kernel
theorem d_X_init_35 : decode c_X_init 35 = .ok (.goto (-21), 3) := by decide +kernel
theorem d_X_init_38 : decode c_X_init 38 = .ok (.aload_n 0, 1) := by decide +kernel
theorem d_X_init_39 : decode c_X_init 39 = .ok (.new 9, 3) := by decide +kernel
theorem d_X_init_42 : decode c_X_init 42 = .ok (.dup, 1) := by decide +kernel
theorem d_X_init_43 : decode c_X_init 43 = .ok (.invokespecial 15, 3) := by decide +kernel
theorem d_X_init_46 : decode c_X_init 46 = .ok (.putfield 16, 3) := by decide +kernel
theorem d_X_init_49 : decode c_X_init 49 = .ok (.aload_n 0, 1) := by decide +kernel
theorem d_X_init_50 : decode c_X_init 50 = .ok (.new 20, 3) := by decide +kernel
theorem d_X_init_53 : decode c_X_init 53 = .ok (.dup, 1) := by decide +kernel
theorem d_X_init_54 : decode c_X_init 54 = .ok (.invokespecial 22, 3) := by decide +kernel
theorem d_X_init_57 : decode c_X_init 57 = .ok (.putfield 23, 3) := by decide +kernel
theorem d_X_init_60 : decode c_X_init 60 = .ok (.aload_n 0, 1) := by decide +kernel
theorem d_X_init_61 : decode c_X_init 61 = .ok (.new 27, 3) := by decide +kernel
theorem d_X_init_64 : decode c_X_init 64 = .ok (.dup, 1) := by decide +kernel
theorem d_X_init_65 : decode c_X_init 65 = .ok (.invokespecial 29, 3) := by decide +kernel
theorem d_X_init_68 : decode c_X_init 68 = .ok (.putfield 30, 3) := by decide +kernel
theorem d_X_init_71 : decode c_X_init 71 = .ok (.aload_n 0, 1) := by decide +kernel
theorem d_X_init_72 : decode c_X_init 72 = .ok (.new 34, 3) := by decide +kernel
theorem d_X_init_75 : decode c_X_init 75 = .ok (.dup, 1) := by decide +kernel
theorem d_X_init_76 : decode c_X_init 76 = .ok (.invokespecial 36, 3) := by decide +kernel
theorem d_X_init_79 : decode c_X_init 79 = .ok (.putfield 37, 3) := by decide +kernel
theorem d_X_init_82 : decode c_X_init 82 = .ok (.aload_n 0, 1) := by decide +kernel
theorem d_X_init_83 : decode c_X_init 83 = .ok (.new 41, 3) := by decide +kernel
theorem d_X_init_86 : decode c_X_init 86 = .ok (.dup, 1) := by decide +kernel
theorem d_X_init_87 : decode c_X_init 87 = .ok (.invokespecial 43, 3) := by decide +kernel
theorem d_X_init_90 : decode c_X_init 90 = .ok (.putfield 44, 3) := by decide +kernel
theorem d_X_init_93 : decode c_X_init 93 = .ok (.aload_n 0, 1) := by decide +kernel
theorem d_X_init_94 : decode c_X_init 94 = .ok (.new 48, 3) := by decide +kernel
theorem d_X_init_97 : decode c_X_init 97 = .ok (.dup, 1) := by decide +kernel
theorem d_X_init_98 : decode c_X_init 98 = .ok (.invokespecial 50, 3) := by decide +kernel
theorem d_X_init_101 : decode c_X_init 101 = .ok (.putfield 51, 3) := by decide +kernel
theorem d_X_init_104 : decode c_X_init 104 = .ok (.aload_n 0, 1) := by decide +kernel
theorem d_X_init_105 : decode c_X_init 105 = .ok (.new 48, 3) := by decide +kernel
theorem d_X_init_108 : decode c_X_init 108 = .ok (.dup, 1) := by decide +kernel
theorem d_X_init_109 : decode c_X_init 109 = .ok (.invokespecial 50, 3) := by decide +kernel
theorem d_X_init_112 : decode c_X_init 112 = .ok (.putfield 55, 3) := by decide +kernel
theorem d_X_init_115 : decode c_X_init 115 = .ok (.aload_n 0, 1) := by decide +kernel
theorem d_X_init_116 : decode c_X_init 116 = .ok (.new 58, 3) := by decide +kernel
theorem d_X_init_119 : decode c_X_init 119 = .ok (.dup, 1) := by decide +kernel
theorem d_X_init_120 : decode c_X_init 120 = .ok (.invokespecial 60, 3) := by decide +kernel
theorem d_X_init_123 : decode c_X_init 123 = .ok (.putfield 61, 3) := by decide +kernel
theorem d_X_init_126 : decode c_X_init 126 = .ok (.aload_n 0, 1) := by decide +kernel
theorem d_X_init_127 : decode c_X_init 127 = .ok (.sipush 256, 3) := by decide +kernel
theorem d_X_init_130 : decode c_X_init 130 = .ok (.newarray .int, 2) := by decide +kernel
theorem d_X_init_132 : decode c_X_init 132 = .ok (.putfield 65, 3) := by decide +kernel
theorem d_X_init_135 : decode c_X_init 135 = .ok (.aload_n 0, 1) := by decide +kernel
theorem d_X_init_136 : decode c_X_init 136 = .ok (.sipush 256, 3) := by decide +kernel
theorem d_X_init_139 : decode c_X_init 139 = .ok (.newarray .long, 2) := by decide +kernel
theorem d_X_init_141 : decode c_X_init 141 = .ok (.putfield 69, 3) := by decide +kernel
theorem d_X_init_144 : decode c_X_init 144 = .ok (.aload_n 0, 1) := by decide +kernel
theorem d_X_init_145 : decode c_X_init 145 = .ok (.bipush 8, 2) := by decide +kernel
theorem d_X_init_147 : decode c_X_init 147 = .ok (.newarray .int, 2) := by decide +kernel
theorem d_X_init_149 : decode c_X_init 149 = .ok (.putfield 73, 3) := by decide +kernel
theorem d_X_init_152 : decode c_X_init 152 = .ok (.aload_n 0, 1) := by decide +kernel
theorem d_X_init_153 : decode c_X_init 153 = .ok (.bipush 8, 2) := by decide +kernel
theorem d_X_init_155 : decode c_X_init 155 = .ok (.newarray .int, 2) := by decide +kernel
theorem d_X_init_157 : decode c_X_init 157 = .ok (.putfield 76, 3) := by decide +kernel
theorem d_X_init_160 : decode c_X_init 160 = .ok (.aload_n 0, 1) := by decide +kernel
theorem d_X_init_161 : decode c_X_init 161 = .ok (.bipush 6, 2) := by decide +kernel
theorem d_X_init_163 : decode c_X_init 163 = .ok (.newarray .int, 2) := by decide +kernel
theorem d_X_init_165 : decode c_X_init 165 = .ok (.putfield 79, 3) := by decide +kernel
theorem d_X_init_168 : decode c_X_init 168 = .ok (.aload_n 0, 1) := by decide +kernel
theorem d_X_init_169 : decode c_X_init 169 = .ok (.new 82, 3) := by decide +kernel
theorem d_X_init_172 : decode c_X_init 172 = .ok (.dup, 1) := by decide +kernel
theorem d_X_init_173 : decode c_X_init 173 = .ok (.invokespecial 84, 3) := by decide +kernel
theorem d_X_init_176 : decode c_X_init 176 = .ok (.putfield 85, 3) := by decide +kernel
theorem d_X_init_179 : decode c_X_init 179 = .ok (.return_, 1) := by decide +kernel
theorem oi_X : Cond.methodLink R_X 1 objectInit ∈ TB := (tb_1 (List.mem_of_getElem? (i := 24) rfl) rfl)
theorem co_X : Cond.code y_X_init c_X_init 2 none ∈ TB := (tb_1 (List.mem_of_getElem? (i := 23) rfl) rfl)
theorem im_X : Cond.instanceMethod y_X_init ∈ TB := (tb_1 (List.mem_of_getElem? (i := 22) rfl) rfl)
theorem in_X : Cond.initialized R_X ∈ TB := (tb_1 (List.mem_of_getElem? (i := 1) rfl) rfl)
theorem ib_X : Cond.instantiable R_X 15 ∈ TB := (tb_1 (List.mem_of_getElem? (i := 20) rfl) rfl)
theorem fk_X_11 : Cond.fieldLink R_X 11 "SortingNets" "nets" "[LSortingNets$Net;" ∈ TB := (tb_1 (List.mem_of_getElem? (i := 184) rfl) rfl)
theorem fk_X_16 : Cond.fieldLink R_X 16 "SortingNets" "draft" "LSortingNets$Net;" ∈ TB := (tb_1 (List.mem_of_getElem? (i := 185) rfl) rfl)
theorem fk_X_23 : Cond.fieldLink R_X 23 "SortingNets" "tangle" "LSortingNets$Tangle;" ∈ TB := (tb_1 (List.mem_of_getElem? (i := 186) rfl) rfl)
theorem fk_X_30 : Cond.fieldLink R_X 30 "SortingNets" "text" "LSortingNets$Text;" ∈ TB := (tb_1 (List.mem_of_getElem? (i := 187) rfl) rfl)
theorem fk_X_37 : Cond.fieldLink R_X 37 "SortingNets" "told" "LSortingNets$Numbers;" ∈ TB := (tb_1 (List.mem_of_getElem? (i := 188) rfl) rfl)
theorem fk_X_44 : Cond.fieldLink R_X 44 "SortingNets" "layers" "LSortingNets$Layers;" ∈ TB := (tb_1 (List.mem_of_getElem? (i := 189) rfl) rfl)
theorem fk_X_51 : Cond.fieldLink R_X 51 "SortingNets" "trial" "LSortingNets$Trial;" ∈ TB := (tb_1 (List.mem_of_getElem? (i := 190) rfl) rfl)
theorem fk_X_55 : Cond.fieldLink R_X 55 "SortingNets" "second" "LSortingNets$Trial;" ∈ TB := (tb_1 (List.mem_of_getElem? (i := 191) rfl) rfl)
theorem fk_X_61 : Cond.fieldLink R_X 61 "SortingNets" "found" "LSortingNets$PatternSet;" ∈ TB := (tb_1 (List.mem_of_getElem? (i := 192) rfl) rfl)
theorem fk_X_65 : Cond.fieldLink R_X 65 "SortingNets" "results" "[I" ∈ TB := (tb_1 (List.mem_of_getElem? (i := 193) rfl) rfl)
theorem fk_X_69 : Cond.fieldLink R_X 69 "SortingNets" "notices" "[J" ∈ TB := (tb_1 (List.mem_of_getElem? (i := 194) rfl) rfl)
theorem fk_X_73 : Cond.fieldLink R_X 73 "SortingNets" "values" "[I" ∈ TB := (tb_1 (List.mem_of_getElem? (i := 195) rfl) rfl)
theorem fk_X_76 : Cond.fieldLink R_X 76 "SortingNets" "places" "[I" ∈ TB := (tb_1 (List.mem_of_getElem? (i := 196) rfl) rfl)
theorem fk_X_79 : Cond.fieldLink R_X 79 "SortingNets" "path" "[I" ∈ TB := (tb_1 (List.mem_of_getElem? (i := 197) rfl) rfl)
theorem fk_X_85 : Cond.fieldLink R_X 85 "SortingNets" "search" "LSortingNets$Search;" ∈ TB := (tb_1 (List.mem_of_getElem? (i := 198) rfl) rfl)
theorem cl_X_9 : Cond.classLink R_X 9 R_Net ∈ TB := (tb_1 (List.mem_of_getElem? (i := 27) rfl) rfl)
theorem cl_X_20 : Cond.classLink R_X 20 R_Tangle ∈ TB := (tb_1 (List.mem_of_getElem? (i := 57) rfl) rfl)
theorem cl_X_27 : Cond.classLink R_X 27 R_Text ∈ TB := (tb_1 (List.mem_of_getElem? (i := 67) rfl) rfl)
theorem cl_X_34 : Cond.classLink R_X 34 R_Numbers ∈ TB := (tb_1 (List.mem_of_getElem? (i := 82) rfl) rfl)
theorem cl_X_41 : Cond.classLink R_X 41 R_Layers ∈ TB := (tb_1 (List.mem_of_getElem? (i := 98) rfl) rfl)
theorem cl_X_48 : Cond.classLink R_X 48 R_Trial ∈ TB := (tb_1 (List.mem_of_getElem? (i := 119) rfl) rfl)
theorem cl_X_58 : Cond.classLink R_X 58 R_PatternSet ∈ TB := (tb_1 (List.mem_of_getElem? (i := 135) rfl) rfl)
theorem cl_X_82 : Cond.classLink R_X 82 R_Search ∈ TB := (tb_1 (List.mem_of_getElem? (i := 147) rfl) rfl)
abbrev c_Net_init : ByteArray := prog_3_method_1_code
def y_Net_init : MethodName := ⟨R_Net, "<init>", "()V"⟩
theorem d_Net_init_0 : decode c_Net_init 0 = .ok (.aload_n 0, 1) := by decide +kernel
theorem d_Net_init_1 : decode c_Net_init 1 = .ok (.invokespecial 3, 3) := by decide +kernel
theorem d_Net_init_4 : decode c_Net_init 4 = .ok (.aload_n 0, 1) := by decide +kernel
theorem d_Net_init_5 : decode c_Net_init 5 = .ok (.iconst 4, 1) := by decide +kernel
theorem d_Net_init_6 : decode c_Net_init 6 = .ok (.putfield 9, 3) := by decide +kernel
theorem d_Net_init_9 : decode c_Net_init 9 = .ok (.aload_n 0, 1) := by decide +kernel
theorem d_Net_init_10 : decode c_Net_init 10 = .ok (.iconst 0, 1) := by decide +kernel
theorem d_Net_init_11 : decode c_Net_init 11 = .ok (.putfield 15, 3) := by decide +kernel
theorem d_Net_init_14 : decode c_Net_init 14 = .ok (.aload_n 0, 1) := by decide +kernel
theorem d_Net_init_15 : decode c_Net_init 15 = .ok (.bipush 60, 2) := by decide +kernel
theorem d_Net_init_17 : decode c_Net_init 17 = .ok (.newarray .int, 2) := by decide +kernel
theorem d_Net_init_19 : decode c_Net_init 19 = .ok (.putfield 18, 3) := by decide +kernel
theorem d_Net_init_22 : decode c_Net_init 22 = .ok (.aload_n 0, 1) := by decide +kernel
theorem d_Net_init_23 : decode c_Net_init 23 = .ok (.bipush 60, 2) := by decide +kernel
theorem d_Net_init_25 : decode c_Net_init 25 = .ok (.newarray .int, 2) := by decide +kernel
theorem d_Net_init_27 : decode c_Net_init 27 = .ok (.putfield 22, 3) := by decide +kernel
theorem d_Net_init_30 : decode c_Net_init 30 = .ok (.return_, 1) := by decide +kernel
theorem oi_Net : Cond.methodLink R_Net 3 objectInit ∈ TB := (tb_1 (List.mem_of_getElem? (i := 33) rfl) rfl)
theorem co_Net : Cond.code y_Net_init c_Net_init 1 none ∈ TB := (tb_1 (List.mem_of_getElem? (i := 32) rfl) rfl)
theorem im_Net : Cond.instanceMethod y_Net_init ∈ TB := (tb_1 (List.mem_of_getElem? (i := 31) rfl) rfl)
theorem in_Net : Cond.initialized R_Net ∈ TB := (tb_1 (List.mem_of_getElem? (i := 2) rfl) rfl)
theorem ib_Net : Cond.instantiable R_Net 4 ∈ TB := (tb_1 (List.mem_of_getElem? (i := 29) rfl) rfl)
theorem fk_Net_9 : Cond.fieldLink R_Net 9 "SortingNets$Net" "wires" "I" ∈ TB := (tb_1 (List.mem_of_getElem? (i := 34) rfl) rfl)
theorem fk_Net_15 : Cond.fieldLink R_Net 15 "SortingNets$Net" "size" "I" ∈ TB := (tb_1 (List.mem_of_getElem? (i := 36) rfl) rfl)
theorem fk_Net_18 : Cond.fieldLink R_Net 18 "SortingNets$Net" "low" "[I" ∈ TB := (tb_1 (List.mem_of_getElem? (i := 39) rfl) rfl)
theorem fk_Net_22 : Cond.fieldLink R_Net 22 "SortingNets$Net" "high" "[I" ∈ TB := (tb_1 (List.mem_of_getElem? (i := 43) rfl) rfl)
abbrev c_Tangle_init : ByteArray := prog_8_method_1_code
def y_Tangle_init : MethodName := ⟨R_Tangle, "<init>", "()V"⟩
theorem d_Tangle_init_0 : decode c_Tangle_init 0 = .ok (.aload_n 0, 1) := by decide +kernel
theorem d_Tangle_init_1 : decode c_Tangle_init 1 = .ok (.invokespecial 3, 3) := by decide +kernel
theorem d_Tangle_init_4 : decode c_Tangle_init 4 = .ok (.aload_n 0, 1) := by decide +kernel
theorem d_Tangle_init_5 : decode c_Tangle_init 5 = .ok (.bipush 8, 2) := by decide +kernel
theorem d_Tangle_init_7 : decode c_Tangle_init 7 = .ok (.newarray .int, 2) := by decide +kernel
theorem d_Tangle_init_9 : decode c_Tangle_init 9 = .ok (.putfield 9, 3) := by decide +kernel
theorem d_Tangle_init_12 : decode c_Tangle_init 12 = .ok (.return_, 1) := by decide +kernel
theorem oi_Tangle : Cond.methodLink R_Tangle 3 objectInit ∈ TB := (tb_1 (List.mem_of_getElem? (i := 62) rfl) rfl)
theorem co_Tangle : Cond.code y_Tangle_init c_Tangle_init 1 none ∈ TB := (tb_1 (List.mem_of_getElem? (i := 61) rfl) rfl)
theorem im_Tangle : Cond.instanceMethod y_Tangle_init ∈ TB := (tb_1 (List.mem_of_getElem? (i := 60) rfl) rfl)
theorem in_Tangle : Cond.initialized R_Tangle ∈ TB := (tb_1 (List.mem_of_getElem? (i := 3) rfl) rfl)
theorem ib_Tangle : Cond.instantiable R_Tangle 1 ∈ TB := (tb_1 (List.mem_of_getElem? (i := 58) rfl) rfl)
theorem fk_Tangle_9 : Cond.fieldLink R_Tangle 9 "SortingNets$Tangle" "at" "[I" ∈ TB := (tb_1 (List.mem_of_getElem? (i := 63) rfl) rfl)
abbrev c_Text_init : ByteArray := prog_9_method_1_code
def y_Text_init : MethodName := ⟨R_Text, "<init>", "()V"⟩
theorem d_Text_init_0 : decode c_Text_init 0 = .ok (.aload_n 0, 1) := by decide +kernel
theorem d_Text_init_1 : decode c_Text_init 1 = .ok (.invokespecial 3, 3) := by decide +kernel
theorem d_Text_init_4 : decode c_Text_init 4 = .ok (.aload_n 0, 1) := by decide +kernel
theorem d_Text_init_5 : decode c_Text_init 5 = .ok (.sipush 200, 3) := by decide +kernel
theorem d_Text_init_8 : decode c_Text_init 8 = .ok (.newarray .char, 2) := by decide +kernel
theorem d_Text_init_10 : decode c_Text_init 10 = .ok (.putfield 9, 3) := by decide +kernel
theorem d_Text_init_13 : decode c_Text_init 13 = .ok (.aload_n 0, 1) := by decide +kernel
theorem d_Text_init_14 : decode c_Text_init 14 = .ok (.iconst 0, 1) := by decide +kernel
theorem d_Text_init_15 : decode c_Text_init 15 = .ok (.putfield 15, 3) := by decide +kernel
theorem d_Text_init_18 : decode c_Text_init 18 = .ok (.return_, 1) := by decide +kernel
theorem oi_Text : Cond.methodLink R_Text 3 objectInit ∈ TB := (tb_1 (List.mem_of_getElem? (i := 72) rfl) rfl)
theorem co_Text : Cond.code y_Text_init c_Text_init 1 none ∈ TB := (tb_1 (List.mem_of_getElem? (i := 71) rfl) rfl)
theorem im_Text : Cond.instanceMethod y_Text_init ∈ TB := (tb_1 (List.mem_of_getElem? (i := 70) rfl) rfl)
theorem in_Text : Cond.initialized R_Text ∈ TB := (tb_1 (List.mem_of_getElem? (i := 4) rfl) rfl)
theorem ib_Text : Cond.instantiable R_Text 2 ∈ TB := (tb_1 (List.mem_of_getElem? (i := 68) rfl) rfl)
theorem fk_Text_9 : Cond.fieldLink R_Text 9 "SortingNets$Text" "signs" "[C" ∈ TB := (tb_1 (List.mem_of_getElem? (i := 73) rfl) rfl)
theorem fk_Text_15 : Cond.fieldLink R_Text 15 "SortingNets$Text" "length" "I" ∈ TB := (tb_1 (List.mem_of_getElem? (i := 74) rfl) rfl)
abbrev c_Numbers_init : ByteArray := prog_4_method_1_code
def y_Numbers_init : MethodName := ⟨R_Numbers, "<init>", "()V"⟩
theorem d_Numbers_init_0 : decode c_Numbers_init 0 = .ok (.aload_n 0, 1) := by decide +kernel
theorem d_Numbers_init_1 : decode c_Numbers_init 1 = .ok (.invokespecial 1, 3) := by decide +kernel
theorem d_Numbers_init_4 : decode c_Numbers_init 4 = .ok (.aload_n 0, 1) := by decide +kernel
theorem d_Numbers_init_5 : decode c_Numbers_init 5 = .ok (.bipush 64, 2) := by decide +kernel
theorem d_Numbers_init_7 : decode c_Numbers_init 7 = .ok (.newarray .long, 2) := by decide +kernel
theorem d_Numbers_init_9 : decode c_Numbers_init 9 = .ok (.putfield 9, 3) := by decide +kernel
theorem d_Numbers_init_12 : decode c_Numbers_init 12 = .ok (.aload_n 0, 1) := by decide +kernel
theorem d_Numbers_init_13 : decode c_Numbers_init 13 = .ok (.iconst 0, 1) := by decide +kernel
theorem d_Numbers_init_14 : decode c_Numbers_init 14 = .ok (.putfield 13, 3) := by decide +kernel
theorem d_Numbers_init_17 : decode c_Numbers_init 17 = .ok (.return_, 1) := by decide +kernel
theorem oi_Numbers : Cond.methodLink R_Numbers 1 objectInit ∈ TB := (tb_1 (List.mem_of_getElem? (i := 87) rfl) rfl)
theorem co_Numbers : Cond.code y_Numbers_init c_Numbers_init 1 none ∈ TB := (tb_1 (List.mem_of_getElem? (i := 86) rfl) rfl)
theorem im_Numbers : Cond.instanceMethod y_Numbers_init ∈ TB := (tb_1 (List.mem_of_getElem? (i := 85) rfl) rfl)
theorem in_Numbers : Cond.initialized R_Numbers ∈ TB := (tb_1 (List.mem_of_getElem? (i := 5) rfl) rfl)
theorem ib_Numbers : Cond.instantiable R_Numbers 2 ∈ TB := (tb_1 (List.mem_of_getElem? (i := 83) rfl) rfl)
theorem fk_Numbers_9 : Cond.fieldLink R_Numbers 9 "SortingNets$Numbers" "numbers" "[J" ∈ TB := (tb_1 (List.mem_of_getElem? (i := 88) rfl) rfl)
theorem fk_Numbers_13 : Cond.fieldLink R_Numbers 13 "SortingNets$Numbers" "size" "I" ∈ TB := (tb_1 (List.mem_of_getElem? (i := 90) rfl) rfl)
abbrev c_Layers_init : ByteArray := prog_2_method_1_code
def y_Layers_init : MethodName := ⟨R_Layers, "<init>", "()V"⟩
theorem d_Layers_init_0 : decode c_Layers_init 0 = .ok (.aload_n 0, 1) := by decide +kernel
theorem d_Layers_init_1 : decode c_Layers_init 1 = .ok (.invokespecial 3, 3) := by decide +kernel
theorem d_Layers_init_4 : decode c_Layers_init 4 = .ok (.aload_n 0, 1) := by decide +kernel
theorem d_Layers_init_5 : decode c_Layers_init 5 = .ok (.bipush 60, 2) := by decide +kernel
theorem d_Layers_init_7 : decode c_Layers_init 7 = .ok (.newarray .int, 2) := by decide +kernel
theorem d_Layers_init_9 : decode c_Layers_init 9 = .ok (.putfield 9, 3) := by decide +kernel
theorem d_Layers_init_12 : decode c_Layers_init 12 = .ok (.aload_n 0, 1) := by decide +kernel
theorem d_Layers_init_13 : decode c_Layers_init 13 = .ok (.iconst 0, 1) := by decide +kernel
theorem d_Layers_init_14 : decode c_Layers_init 14 = .ok (.putfield 15, 3) := by decide +kernel
theorem d_Layers_init_17 : decode c_Layers_init 17 = .ok (.aload_n 0, 1) := by decide +kernel
theorem d_Layers_init_18 : decode c_Layers_init 18 = .ok (.bipush 61, 2) := by decide +kernel
theorem d_Layers_init_20 : decode c_Layers_init 20 = .ok (.newarray .int, 2) := by decide +kernel
theorem d_Layers_init_22 : decode c_Layers_init 22 = .ok (.putfield 19, 3) := by decide +kernel
theorem d_Layers_init_25 : decode c_Layers_init 25 = .ok (.aload_n 0, 1) := by decide +kernel
theorem d_Layers_init_26 : decode c_Layers_init 26 = .ok (.bipush 8, 2) := by decide +kernel
theorem d_Layers_init_28 : decode c_Layers_init 28 = .ok (.newarray .int, 2) := by decide +kernel
theorem d_Layers_init_30 : decode c_Layers_init 30 = .ok (.putfield 22, 3) := by decide +kernel
theorem d_Layers_init_33 : decode c_Layers_init 33 = .ok (.return_, 1) := by decide +kernel
theorem oi_Layers : Cond.methodLink R_Layers 3 objectInit ∈ TB := (tb_1 (List.mem_of_getElem? (i := 103) rfl) rfl)
theorem co_Layers : Cond.code y_Layers_init c_Layers_init 1 none ∈ TB := (tb_1 (List.mem_of_getElem? (i := 102) rfl) rfl)
theorem im_Layers : Cond.instanceMethod y_Layers_init ∈ TB := (tb_1 (List.mem_of_getElem? (i := 101) rfl) rfl)
theorem in_Layers : Cond.initialized R_Layers ∈ TB := (tb_1 (List.mem_of_getElem? (i := 6) rfl) rfl)
theorem ib_Layers : Cond.instantiable R_Layers 4 ∈ TB := (tb_1 (List.mem_of_getElem? (i := 99) rfl) rfl)
theorem fk_Layers_9 : Cond.fieldLink R_Layers 9 "SortingNets$Layers" "of" "[I" ∈ TB := (tb_1 (List.mem_of_getElem? (i := 104) rfl) rfl)
theorem fk_Layers_15 : Cond.fieldLink R_Layers 15 "SortingNets$Layers" "deepest" "I" ∈ TB := (tb_1 (List.mem_of_getElem? (i := 106) rfl) rfl)
theorem fk_Layers_19 : Cond.fieldLink R_Layers 19 "SortingNets$Layers" "sizes" "[I" ∈ TB := (tb_1 (List.mem_of_getElem? (i := 108) rfl) rfl)
theorem fk_Layers_22 : Cond.fieldLink R_Layers 22 "SortingNets$Layers" "last" "[I" ∈ TB := (tb_1 (List.mem_of_getElem? (i := 109) rfl) rfl)
abbrev c_Trial_init : ByteArray := prog_10_method_1_code
def y_Trial_init : MethodName := ⟨R_Trial, "<init>", "()V"⟩
theorem d_Trial_init_0 : decode c_Trial_init 0 = .ok (.aload_n 0, 1) := by decide +kernel
theorem d_Trial_init_1 : decode c_Trial_init 1 = .ok (.invokespecial 5, 3) := by decide +kernel
theorem d_Trial_init_4 : decode c_Trial_init 4 = .ok (.aload_n 0, 1) := by decide +kernel
theorem d_Trial_init_5 : decode c_Trial_init 5 = .ok (.bipush 32, 2) := by decide +kernel
theorem d_Trial_init_7 : decode c_Trial_init 7 = .ok (.newarray .long, 2) := by decide +kernel
theorem d_Trial_init_9 : decode c_Trial_init 9 = .ok (.putfield 13, 3) := by decide +kernel
theorem d_Trial_init_12 : decode c_Trial_init 12 = .ok (.aload_n 0, 1) := by decide +kernel
theorem d_Trial_init_13 : decode c_Trial_init 13 = .ok (.iconst 2, 1) := by decide +kernel
theorem d_Trial_init_14 : decode c_Trial_init 14 = .ok (.putfield 17, 3) := by decide +kernel
theorem d_Trial_init_17 : decode c_Trial_init 17 = .ok (.aload_n 0, 1) := by decide +kernel
theorem d_Trial_init_18 : decode c_Trial_init 18 = .ok (.iconst 1, 1) := by decide +kernel
theorem d_Trial_init_19 : decode c_Trial_init 19 = .ok (.putfield 21, 3) := by decide +kernel
theorem d_Trial_init_22 : decode c_Trial_init 22 = .ok (.return_, 1) := by decide +kernel
theorem oi_Trial : Cond.methodLink R_Trial 5 objectInit ∈ TB := (tb_1 (List.mem_of_getElem? (i := 124) rfl) rfl)
theorem co_Trial : Cond.code y_Trial_init c_Trial_init 1 none ∈ TB := (tb_1 (List.mem_of_getElem? (i := 123) rfl) rfl)
theorem im_Trial : Cond.instanceMethod y_Trial_init ∈ TB := (tb_1 (List.mem_of_getElem? (i := 122) rfl) rfl)
theorem in_Trial : Cond.initialized R_Trial ∈ TB := (tb_1 (List.mem_of_getElem? (i := 7) rfl) rfl)
theorem ib_Trial : Cond.instantiable R_Trial 3 ∈ TB := (tb_1 (List.mem_of_getElem? (i := 120) rfl) rfl)
theorem fk_Trial_13 : Cond.fieldLink R_Trial 13 "SortingNets$Trial" "words" "[J" ∈ TB := (tb_1 (List.mem_of_getElem? (i := 125) rfl) rfl)
theorem fk_Trial_17 : Cond.fieldLink R_Trial 17 "SortingNets$Trial" "wires" "I" ∈ TB := (tb_1 (List.mem_of_getElem? (i := 126) rfl) rfl)
theorem fk_Trial_21 : Cond.fieldLink R_Trial 21 "SortingNets$Trial" "blocks" "I" ∈ TB := (tb_1 (List.mem_of_getElem? (i := 127) rfl) rfl)
abbrev c_PatternSet_init : ByteArray := prog_5_method_1_code
def y_PatternSet_init : MethodName := ⟨R_PatternSet, "<init>", "()V"⟩
theorem d_PatternSet_init_0 : decode c_PatternSet_init 0 = .ok (.aload_n 0, 1) := by decide +kernel
theorem d_PatternSet_init_1 : decode c_PatternSet_init 1 = .ok (.invokespecial 3, 3) := by decide +kernel
theorem d_PatternSet_init_4 : decode c_PatternSet_init 4 = .ok (.aload_n 0, 1) := by decide +kernel
theorem d_PatternSet_init_5 : decode c_PatternSet_init 5 = .ok (.iconst 4, 1) := by decide +kernel
theorem d_PatternSet_init_6 : decode c_PatternSet_init 6 = .ok (.newarray .long, 2) := by decide +kernel
theorem d_PatternSet_init_8 : decode c_PatternSet_init 8 = .ok (.putfield 11, 3) := by decide +kernel
theorem d_PatternSet_init_11 : decode c_PatternSet_init 11 = .ok (.return_, 1) := by decide +kernel
theorem oi_PatternSet : Cond.methodLink R_PatternSet 3 objectInit ∈ TB := (tb_1 (List.mem_of_getElem? (i := 140) rfl) rfl)
theorem co_PatternSet : Cond.code y_PatternSet_init c_PatternSet_init 1 none ∈ TB := (tb_1 (List.mem_of_getElem? (i := 139) rfl) rfl)
theorem im_PatternSet : Cond.instanceMethod y_PatternSet_init ∈ TB := (tb_1 (List.mem_of_getElem? (i := 138) rfl) rfl)
theorem in_PatternSet : Cond.initialized R_PatternSet ∈ TB := (tb_1 (List.mem_of_getElem? (i := 8) rfl) rfl)
theorem ib_PatternSet : Cond.instantiable R_PatternSet 1 ∈ TB := (tb_1 (List.mem_of_getElem? (i := 136) rfl) rfl)
theorem fk_PatternSet_11 : Cond.fieldLink R_PatternSet 11 "SortingNets$PatternSet" "words" "[J" ∈ TB := (tb_1 (List.mem_of_getElem? (i := 141) rfl) rfl)
abbrev c_Search_init : ByteArray := prog_6_method_1_code
def y_Search_init : MethodName := ⟨R_Search, "<init>", "()V"⟩
theorem d_Search_init_0 : decode c_Search_init 0 = .ok (.aload_n 0, 1) := by decide +kernel
theorem d_Search_init_1 : decode c_Search_init 1 = .ok (.invokespecial 1, 3) := by decide +kernel
theorem d_Search_init_4 : decode c_Search_init 4 = .ok (.aload_n 0, 1) := by decide +kernel
theorem d_Search_init_5 : decode c_Search_init 5 = .ok (.bipush 10, 2) := by decide +kernel
theorem d_Search_init_7 : decode c_Search_init 7 = .ok (.newarray .int, 2) := by decide +kernel
theorem d_Search_init_9 : decode c_Search_init 9 = .ok (.putfield 9, 3) := by decide +kernel
theorem d_Search_init_12 : decode c_Search_init 12 = .ok (.aload_n 0, 1) := by decide +kernel
theorem d_Search_init_13 : decode c_Search_init 13 = .ok (.bipush 10, 2) := by decide +kernel
theorem d_Search_init_15 : decode c_Search_init 15 = .ok (.newarray .int, 2) := by decide +kernel
theorem d_Search_init_17 : decode c_Search_init 17 = .ok (.putfield 13, 3) := by decide +kernel
theorem d_Search_init_20 : decode c_Search_init 20 = .ok (.aload_n 0, 1) := by decide +kernel
theorem d_Search_init_21 : decode c_Search_init 21 = .ok (.bipush 26, 2) := by decide +kernel
theorem d_Search_init_23 : decode c_Search_init 23 = .ok (.newarray .int, 2) := by decide +kernel
theorem d_Search_init_25 : decode c_Search_init 25 = .ok (.putfield 16, 3) := by decide +kernel
theorem d_Search_init_28 : decode c_Search_init 28 = .ok (.aload_n 0, 1) := by decide +kernel
theorem d_Search_init_29 : decode c_Search_init 29 = .ok (.bipush 64, 2) := by decide +kernel
theorem d_Search_init_31 : decode c_Search_init 31 = .ok (.newarray .long, 2) := by decide +kernel
theorem d_Search_init_33 : decode c_Search_init 33 = .ok (.putfield 19, 3) := by decide +kernel
theorem d_Search_init_36 : decode c_Search_init 36 = .ok (.aload_n 0, 1) := by decide +kernel
theorem d_Search_init_37 : decode c_Search_init 37 = .ok (.bipush 64, 2) := by decide +kernel
theorem d_Search_init_39 : decode c_Search_init 39 = .ok (.newarray .long, 2) := by decide +kernel
theorem d_Search_init_41 : decode c_Search_init 41 = .ok (.putfield 23, 3) := by decide +kernel
theorem d_Search_init_44 : decode c_Search_init 44 = .ok (.aload_n 0, 1) := by decide +kernel
theorem d_Search_init_45 : decode c_Search_init 45 = .ok (.iconst 1, 1) := by decide +kernel
theorem d_Search_init_46 : decode c_Search_init 46 = .ok (.putfield 26, 3) := by decide +kernel
theorem d_Search_init_49 : decode c_Search_init 49 = .ok (.aload_n 0, 1) := by decide +kernel
theorem d_Search_init_50 : decode c_Search_init 50 = .ok (.iconst 0, 1) := by decide +kernel
theorem d_Search_init_51 : decode c_Search_init 51 = .ok (.putfield 30, 3) := by decide +kernel
theorem d_Search_init_54 : decode c_Search_init 54 = .ok (.aload_n 0, 1) := by decide +kernel
theorem d_Search_init_55 : decode c_Search_init 55 = .ok (.iconst 0, 1) := by decide +kernel
theorem d_Search_init_56 : decode c_Search_init 56 = .ok (.putfield 33, 3) := by decide +kernel
theorem d_Search_init_59 : decode c_Search_init 59 = .ok (.aload_n 0, 1) := by decide +kernel
theorem d_Search_init_60 : decode c_Search_init 60 = .ok (.iconst 0, 1) := by decide +kernel
theorem d_Search_init_61 : decode c_Search_init 61 = .ok (.putfield 36, 3) := by decide +kernel
theorem d_Search_init_64 : decode c_Search_init 64 = .ok (.aload_n 0, 1) := by decide +kernel
theorem d_Search_init_65 : decode c_Search_init 65 = .ok (.iconst 0, 1) := by decide +kernel
theorem d_Search_init_66 : decode c_Search_init 66 = .ok (.putfield 39, 3) := by decide +kernel
theorem d_Search_init_69 : decode c_Search_init 69 = .ok (.return_, 1) := by decide +kernel
theorem oi_Search : Cond.methodLink R_Search 1 objectInit ∈ TB := (tb_1 (List.mem_of_getElem? (i := 152) rfl) rfl)
theorem co_Search : Cond.code y_Search_init c_Search_init 1 none ∈ TB := (tb_1 (List.mem_of_getElem? (i := 151) rfl) rfl)
theorem im_Search : Cond.instanceMethod y_Search_init ∈ TB := (tb_1 (List.mem_of_getElem? (i := 150) rfl) rfl)
theorem in_Search : Cond.initialized R_Search ∈ TB := (tb_1 (List.mem_of_getElem? (i := 9) rfl) rfl)
theorem ib_Search : Cond.instantiable R_Search 10 ∈ TB := (tb_1 (List.mem_of_getElem? (i := 148) rfl) rfl)
theorem fk_Search_9 : Cond.fieldLink R_Search 9 "SortingNets$Search" "low" "[I" ∈ TB := (tb_1 (List.mem_of_getElem? (i := 153) rfl) rfl)
theorem fk_Search_13 : Cond.fieldLink R_Search 13 "SortingNets$Search" "high" "[I" ∈ TB := (tb_1 (List.mem_of_getElem? (i := 154) rfl) rfl)
theorem fk_Search_16 : Cond.fieldLink R_Search 16 "SortingNets$Search" "moves" "[I" ∈ TB := (tb_1 (List.mem_of_getElem? (i := 155) rfl) rfl)
theorem fk_Search_19 : Cond.fieldLink R_Search 19 "SortingNets$Search" "kept" "[J" ∈ TB := (tb_1 (List.mem_of_getElem? (i := 156) rfl) rfl)
theorem fk_Search_23 : Cond.fieldLink R_Search 23 "SortingNets$Search" "fresh" "[J" ∈ TB := (tb_1 (List.mem_of_getElem? (i := 157) rfl) rfl)
theorem fk_Search_26 : Cond.fieldLink R_Search 26 "SortingNets$Search" "wires" "I" ∈ TB := (tb_1 (List.mem_of_getElem? (i := 158) rfl) rfl)
theorem fk_Search_30 : Cond.fieldLink R_Search 30 "SortingNets$Search" "pairs" "I" ∈ TB := (tb_1 (List.mem_of_getElem? (i := 159) rfl) rfl)
theorem fk_Search_33 : Cond.fieldLink R_Search 33 "SortingNets$Search" "moveSize" "I" ∈ TB := (tb_1 (List.mem_of_getElem? (i := 160) rfl) rfl)
theorem fk_Search_36 : Cond.fieldLink R_Search 36 "SortingNets$Search" "keptSize" "I" ∈ TB := (tb_1 (List.mem_of_getElem? (i := 161) rfl) rfl)
theorem fk_Search_39 : Cond.fieldLink R_Search 39 "SortingNets$Search" "freshSize" "I" ∈ TB := (tb_1 (List.mem_of_getElem? (i := 162) rfl) rfl)
abbrev c_M_init : ByteArray := prog_12_method_1_code
def y_M_init : MethodName := ⟨R_M, "<init>", "()V"⟩
theorem d_M_init_0 : decode c_M_init 0 = .ok (.aload_n 0, 1) := by decide +kernel
theorem d_M_init_1 : decode c_M_init 1 = .ok (.invokespecial 1, 3) := by decide +kernel
theorem d_M_init_4 : decode c_M_init 4 = .ok (.aload_n 0, 1) := by decide +kernel
theorem d_M_init_5 : decode c_M_init 5 = .ok (.bipush 64, 2) := by decide +kernel
theorem d_M_init_7 : decode c_M_init 7 = .ok (.newarray .long, 2) := by decide +kernel
theorem d_M_init_9 : decode c_M_init 9 = .ok (.putfield 7, 3) := by decide +kernel
theorem d_M_init_12 : decode c_M_init 12 = .ok (.aload_n 0, 1) := by decide +kernel
theorem d_M_init_13 : decode c_M_init 13 = .ok (.iconst 4, 1) := by decide +kernel
theorem d_M_init_14 : decode c_M_init 14 = .ok (.newarray .int, 2) := by decide +kernel
theorem d_M_init_16 : decode c_M_init 16 = .ok (.dup, 1) := by decide +kernel
theorem d_M_init_17 : decode c_M_init 17 = .ok (.iconst 0, 1) := by decide +kernel
theorem d_M_init_18 : decode c_M_init 18 = .ok (.iconst 4, 1) := by decide +kernel
theorem d_M_init_19 : decode c_M_init 19 = .ok (.iastore, 1) := by decide +kernel
theorem d_M_init_20 : decode c_M_init 20 = .ok (.dup, 1) := by decide +kernel
theorem d_M_init_21 : decode c_M_init 21 = .ok (.iconst 1, 1) := by decide +kernel
theorem d_M_init_22 : decode c_M_init 22 = .ok (.iconst 4, 1) := by decide +kernel
theorem d_M_init_23 : decode c_M_init 23 = .ok (.iastore, 1) := by decide +kernel
theorem d_M_init_24 : decode c_M_init 24 = .ok (.dup, 1) := by decide +kernel
theorem d_M_init_25 : decode c_M_init 25 = .ok (.iconst 2, 1) := by decide +kernel
theorem d_M_init_26 : decode c_M_init 26 = .ok (.iconst 4, 1) := by decide +kernel
theorem d_M_init_27 : decode c_M_init 27 = .ok (.iastore, 1) := by decide +kernel
theorem d_M_init_28 : decode c_M_init 28 = .ok (.dup, 1) := by decide +kernel
theorem d_M_init_29 : decode c_M_init 29 = .ok (.iconst 3, 1) := by decide +kernel
theorem d_M_init_30 : decode c_M_init 30 = .ok (.iconst 4, 1) := by decide +kernel
theorem d_M_init_31 : decode c_M_init 31 = .ok (.iastore, 1) := by decide +kernel
theorem d_M_init_32 : decode c_M_init 32 = .ok (.putfield 13, 3) := by decide +kernel
theorem d_M_init_35 : decode c_M_init 35 = .ok (.aload_n 0, 1) := by decide +kernel
theorem d_M_init_36 : decode c_M_init 36 = .ok (.iconst 4, 1) := by decide +kernel
theorem d_M_init_37 : decode c_M_init 37 = .ok (.newarray .int, 2) := by decide +kernel
theorem d_M_init_39 : decode c_M_init 39 = .ok (.putfield 17, 3) := by decide +kernel
theorem d_M_init_42 : decode c_M_init 42 = .ok (.aload_n 0, 1) := by decide +kernel
theorem d_M_init_43 : decode c_M_init 43 = .ok (.sipush 240, 3) := by decide +kernel
theorem d_M_init_46 : decode c_M_init 46 = .ok (.newarray .int, 2) := by decide +kernel
theorem d_M_init_48 : decode c_M_init 48 = .ok (.putfield 20, 3) := by decide +kernel
theorem d_M_init_51 : decode c_M_init 51 = .ok (.aload_n 0, 1) := by decide +kernel
theorem d_M_init_52 : decode c_M_init 52 = .ok (.sipush 240, 3) := by decide +kernel
theorem d_M_init_55 : decode c_M_init 55 = .ok (.newarray .int, 2) := by decide +kernel
theorem d_M_init_57 : decode c_M_init 57 = .ok (.putfield 23, 3) := by decide +kernel
theorem d_M_init_60 : decode c_M_init 60 = .ok (.aload_n 0, 1) := by decide +kernel
theorem d_M_init_61 : decode c_M_init 61 = .ok (.sipush 200, 3) := by decide +kernel
theorem d_M_init_64 : decode c_M_init 64 = .ok (.newarray .int, 2) := by decide +kernel
theorem d_M_init_66 : decode c_M_init 66 = .ok (.putfield 26, 3) := by decide +kernel
theorem d_M_init_69 : decode c_M_init 69 = .ok (.aload_n 0, 1) := by decide +kernel
theorem d_M_init_70 : decode c_M_init 70 = .ok (.bipush 60, 2) := by decide +kernel
theorem d_M_init_72 : decode c_M_init 72 = .ok (.newarray .int, 2) := by decide +kernel
theorem d_M_init_74 : decode c_M_init 74 = .ok (.putfield 29, 3) := by decide +kernel
theorem d_M_init_77 : decode c_M_init 77 = .ok (.aload_n 0, 1) := by decide +kernel
theorem d_M_init_78 : decode c_M_init 78 = .ok (.bipush 60, 2) := by decide +kernel
theorem d_M_init_80 : decode c_M_init 80 = .ok (.newarray .int, 2) := by decide +kernel
theorem d_M_init_82 : decode c_M_init 82 = .ok (.putfield 32, 3) := by decide +kernel
theorem d_M_init_85 : decode c_M_init 85 = .ok (.aload_n 0, 1) := by decide +kernel
theorem d_M_init_86 : decode c_M_init 86 = .ok (.bipush 8, 2) := by decide +kernel
theorem d_M_init_88 : decode c_M_init 88 = .ok (.newarray .int, 2) := by decide +kernel
theorem d_M_init_90 : decode c_M_init 90 = .ok (.putfield 35, 3) := by decide +kernel
theorem d_M_init_93 : decode c_M_init 93 = .ok (.aload_n 0, 1) := by decide +kernel
theorem d_M_init_94 : decode c_M_init 94 = .ok (.bipush 60, 2) := by decide +kernel
theorem d_M_init_96 : decode c_M_init 96 = .ok (.newarray .int, 2) := by decide +kernel
theorem d_M_init_98 : decode c_M_init 98 = .ok (.putfield 38, 3) := by decide +kernel
theorem d_M_init_101 : decode c_M_init 101 = .ok (.aload_n 0, 1) := by decide +kernel
theorem d_M_init_102 : decode c_M_init 102 = .ok (.bipush 8, 2) := by decide +kernel
theorem d_M_init_104 : decode c_M_init 104 = .ok (.newarray .int, 2) := by decide +kernel
theorem d_M_init_106 : decode c_M_init 106 = .ok (.putfield 41, 3) := by decide +kernel
theorem d_M_init_109 : decode c_M_init 109 = .ok (.aload_n 0, 1) := by decide +kernel
theorem d_M_init_110 : decode c_M_init 110 = .ok (.bipush 8, 2) := by decide +kernel
theorem d_M_init_112 : decode c_M_init 112 = .ok (.newarray .int, 2) := by decide +kernel
theorem d_M_init_114 : decode c_M_init 114 = .ok (.putfield 44, 3) := by decide +kernel
theorem d_M_init_117 : decode c_M_init 117 = .ok (.aload_n 0, 1) := by decide +kernel
theorem d_M_init_118 : decode c_M_init 118 = .ok (.bipush 8, 2) := by decide +kernel
theorem d_M_init_120 : decode c_M_init 120 = .ok (.newarray .int, 2) := by decide +kernel
theorem d_M_init_122 : decode c_M_init 122 = .ok (.putfield 47, 3) := by decide +kernel
theorem d_M_init_125 : decode c_M_init 125 = .ok (.aload_n 0, 1) := by decide +kernel
theorem d_M_init_126 : decode c_M_init 126 = .ok (.sipush 256, 3) := by decide +kernel
theorem d_M_init_129 : decode c_M_init 129 = .ok (.newarray .boolean, 2) := by decide +kernel
theorem d_M_init_131 : decode c_M_init 131 = .ok (.putfield 50, 3) := by decide +kernel
theorem d_M_init_134 : decode c_M_init 134 = .ok (.aload_n 0, 1) := by decide +kernel
theorem d_M_init_135 : decode c_M_init 135 = .ok (.bipush 8, 2) := by decide +kernel
theorem d_M_init_137 : decode c_M_init 137 = .ok (.newarray .int, 2) := by decide +kernel
theorem d_M_init_139 : decode c_M_init 139 = .ok (.putfield 54, 3) := by decide +kernel
theorem d_M_init_142 : decode c_M_init 142 = .ok (.aload_n 0, 1) := by decide +kernel
theorem d_M_init_143 : decode c_M_init 143 = .ok (.sipush 256, 3) := by decide +kernel
theorem d_M_init_146 : decode c_M_init 146 = .ok (.newarray .long, 2) := by decide +kernel
theorem d_M_init_148 : decode c_M_init 148 = .ok (.putfield 57, 3) := by decide +kernel
theorem d_M_init_151 : decode c_M_init 151 = .ok (.aload_n 0, 1) := by decide +kernel
theorem d_M_init_152 : decode c_M_init 152 = .ok (.sipush 2000, 3) := by decide +kernel
theorem d_M_init_155 : decode c_M_init 155 = .ok (.newarray .long, 2) := by decide +kernel
theorem d_M_init_157 : decode c_M_init 157 = .ok (.putfield 60, 3) := by decide +kernel
theorem d_M_init_160 : decode c_M_init 160 = .ok (.aload_n 0, 1) := by decide +kernel
theorem d_M_init_161 : decode c_M_init 161 = .ok (.sipush 2000, 3) := by decide +kernel
theorem d_M_init_164 : decode c_M_init 164 = .ok (.newarray .long, 2) := by decide +kernel
theorem d_M_init_166 : decode c_M_init 166 = .ok (.putfield 63, 3) := by decide +kernel
theorem d_M_init_169 : decode c_M_init 169 = .ok (.aload_n 0, 1) := by decide +kernel
theorem d_M_init_170 : decode c_M_init 170 = .ok (.bipush 8, 2) := by decide +kernel
theorem d_M_init_172 : decode c_M_init 172 = .ok (.newarray .int, 2) := by decide +kernel
theorem d_M_init_174 : decode c_M_init 174 = .ok (.putfield 66, 3) := by decide +kernel
theorem d_M_init_177 : decode c_M_init 177 = .ok (.return_, 1) := by decide +kernel
theorem oi_M : Cond.methodLink R_M 1 objectInit ∈ TB := (tb_4 (List.mem_of_getElem? (i := 86) rfl) rfl)
theorem co_M : Cond.code y_M_init c_M_init 1 none ∈ TB := (tb_4 (List.mem_of_getElem? (i := 85) rfl) rfl)
theorem im_M : Cond.instanceMethod y_M_init ∈ TB := (tb_4 (List.mem_of_getElem? (i := 84) rfl) rfl)
theorem in_M : Cond.initialized R_M ∈ TB := (tb_1 (List.mem_of_getElem? (i := 10) rfl) rfl)
theorem ib_M : Cond.instantiable R_M 32 ∈ TB := (tb_4 (List.mem_of_getElem? (i := 82) rfl) rfl)
theorem fk_M_7 : Cond.fieldLink R_M 7 "SortingNetsModel" "row" "[J" ∈ TB := (tb_4 (List.mem_of_getElem? (i := 89) rfl) rfl)
theorem fk_M_13 : Cond.fieldLink R_M 13 "SortingNetsModel" "wires" "[I" ∈ TB := (tb_4 (List.mem_of_getElem? (i := 90) rfl) rfl)
theorem fk_M_17 : Cond.fieldLink R_M 17 "SortingNetsModel" "many" "[I" ∈ TB := (tb_4 (List.mem_of_getElem? (i := 91) rfl) rfl)
theorem fk_M_20 : Cond.fieldLink R_M 20 "SortingNetsModel" "low" "[I" ∈ TB := (tb_4 (List.mem_of_getElem? (i := 92) rfl) rfl)
theorem fk_M_23 : Cond.fieldLink R_M 23 "SortingNetsModel" "high" "[I" ∈ TB := (tb_4 (List.mem_of_getElem? (i := 93) rfl) rfl)
theorem fk_M_26 : Cond.fieldLink R_M 26 "SortingNetsModel" "tape" "[I" ∈ TB := (tb_4 (List.mem_of_getElem? (i := 94) rfl) rfl)
theorem fk_M_29 : Cond.fieldLink R_M 29 "SortingNetsModel" "one" "[I" ∈ TB := (tb_4 (List.mem_of_getElem? (i := 99) rfl) rfl)
theorem fk_M_32 : Cond.fieldLink R_M 32 "SortingNetsModel" "other" "[I" ∈ TB := (tb_4 (List.mem_of_getElem? (i := 100) rfl) rfl)
theorem fk_M_35 : Cond.fieldLink R_M 35 "SortingNetsModel" "where" "[I" ∈ TB := (tb_4 (List.mem_of_getElem? (i := 103) rfl) rfl)
theorem fk_M_38 : Cond.fieldLink R_M 38 "SortingNetsModel" "layer" "[I" ∈ TB := (tb_4 (List.mem_of_getElem? (i := 105) rfl) rfl)
theorem fk_M_41 : Cond.fieldLink R_M 41 "SortingNetsModel" "reached" "[I" ∈ TB := (tb_4 (List.mem_of_getElem? (i := 106) rfl) rfl)
theorem fk_M_44 : Cond.fieldLink R_M 44 "SortingNetsModel" "line" "[I" ∈ TB := (tb_4 (List.mem_of_getElem? (i := 107) rfl) rfl)
theorem fk_M_47 : Cond.fieldLink R_M 47 "SortingNetsModel" "numbers" "[I" ∈ TB := (tb_4 (List.mem_of_getElem? (i := 110) rfl) rfl)
theorem fk_M_50 : Cond.fieldLink R_M 50 "SortingNetsModel" "isThere" "[Z" ∈ TB := (tb_4 (List.mem_of_getElem? (i := 111) rfl) rfl)
theorem fk_M_54 : Cond.fieldLink R_M 54 "SortingNetsModel" "order" "[I" ∈ TB := (tb_4 (List.mem_of_getElem? (i := 112) rfl) rfl)
theorem fk_M_57 : Cond.fieldLink R_M 57 "SortingNetsModel" "noticed" "[J" ∈ TB := (tb_4 (List.mem_of_getElem? (i := 113) rfl) rfl)
theorem fk_M_60 : Cond.fieldLink R_M 60 "SortingNetsModel" "kept" "[J" ∈ TB := (tb_4 (List.mem_of_getElem? (i := 114) rfl) rfl)
theorem fk_M_63 : Cond.fieldLink R_M 63 "SortingNetsModel" "keptNew" "[J" ∈ TB := (tb_4 (List.mem_of_getElem? (i := 115) rfl) rfl)
theorem fk_M_66 : Cond.fieldLink R_M 66 "SortingNetsModel" "rest" "[I" ∈ TB := (tb_4 (List.mem_of_getElem? (i := 118) rfl) rfl)

theorem d_PatternSet_holds_0 : decode c_PatternSet_holds 0 = .ok (.aload_n 0, 1) := by decide +kernel
theorem d_PatternSet_holds_1 : decode c_PatternSet_holds 1 = .ok (.getfield 11, 3) := by decide +kernel
theorem d_PatternSet_holds_4 : decode c_PatternSet_holds 4 = .ok (.iload_n 1, 1) := by decide +kernel
theorem d_PatternSet_holds_5 : decode c_PatternSet_holds 5 = .ok (.bipush 6, 2) := by decide +kernel
theorem d_PatternSet_holds_7 : decode c_PatternSet_holds 7 = .ok (.ishr, 1) := by decide +kernel
theorem d_PatternSet_holds_8 : decode c_PatternSet_holds 8 = .ok (.iconst 3, 1) := by decide +kernel
theorem d_PatternSet_holds_9 : decode c_PatternSet_holds 9 = .ok (.iand, 1) := by decide +kernel
theorem d_PatternSet_holds_10 : decode c_PatternSet_holds 10 = .ok (.laload, 1) := by decide +kernel
theorem d_PatternSet_holds_11 : decode c_PatternSet_holds 11 = .ok (.iload_n 1, 1) := by decide +kernel
theorem d_PatternSet_holds_12 : decode c_PatternSet_holds 12 = .ok (.bipush 63, 2) := by decide +kernel
theorem d_PatternSet_holds_14 : decode c_PatternSet_holds 14 = .ok (.iand, 1) := by decide +kernel
theorem d_PatternSet_holds_15 : decode c_PatternSet_holds 15 = .ok (.lushr, 1) := by decide +kernel
theorem d_PatternSet_holds_16 : decode c_PatternSet_holds 16 = .ok (.lconst 1, 1) := by decide +kernel
theorem d_PatternSet_holds_17 : decode c_PatternSet_holds 17 = .ok (.land, 1) := by decide +kernel
theorem d_PatternSet_holds_18 : decode c_PatternSet_holds 18 = .ok (.lconst 1, 1) := by decide +kernel
theorem d_PatternSet_holds_19 : decode c_PatternSet_holds 19 = .ok (.lcmp, 1) := by decide +kernel
theorem d_PatternSet_holds_20 : decode c_PatternSet_holds 20 = .ok (.ifCond .ne 7, 3) := by decide +kernel
theorem d_PatternSet_holds_23 : decode c_PatternSet_holds 23 = .ok (.iconst 1, 1) := by decide +kernel
theorem d_PatternSet_holds_24 : decode c_PatternSet_holds 24 = .ok (.goto 4, 3) := by decide +kernel
theorem d_PatternSet_holds_27 : decode c_PatternSet_holds 27 = .ok (.iconst 0, 1) := by decide +kernel
theorem d_PatternSet_holds_28 : decode c_PatternSet_holds 28 = .ok (.ireturn, 1) := by decide +kernel
theorem d_JInt_bitCount_0 : decode c_JInt_bitCount 0 = .ok (.iload_n 0, 1) := by decide +kernel
theorem d_JInt_bitCount_1 : decode c_JInt_bitCount 1 = .ok (.iload_n 0, 1) := by decide +kernel
theorem d_JInt_bitCount_2 : decode c_JInt_bitCount 2 = .ok (.iconst 1, 1) := by decide +kernel
theorem d_JInt_bitCount_3 : decode c_JInt_bitCount 3 = .ok (.iushr, 1) := by decide +kernel
theorem d_JInt_bitCount_4 : decode c_JInt_bitCount 4 = .ok (.ldc_w 265, 3) := by decide +kernel
theorem d_JInt_bitCount_7 : decode c_JInt_bitCount 7 = .ok (.iand, 1) := by decide +kernel
theorem d_JInt_bitCount_8 : decode c_JInt_bitCount 8 = .ok (.isub, 1) := by decide +kernel
theorem d_JInt_bitCount_9 : decode c_JInt_bitCount 9 = .ok (.istore_n 0, 1) := by decide +kernel
theorem d_JInt_bitCount_10 : decode c_JInt_bitCount 10 = .ok (.iload_n 0, 1) := by decide +kernel
theorem d_JInt_bitCount_11 : decode c_JInt_bitCount 11 = .ok (.ldc_w 266, 3) := by decide +kernel
theorem d_JInt_bitCount_14 : decode c_JInt_bitCount 14 = .ok (.iand, 1) := by decide +kernel
theorem d_JInt_bitCount_15 : decode c_JInt_bitCount 15 = .ok (.iload_n 0, 1) := by decide +kernel
theorem d_JInt_bitCount_16 : decode c_JInt_bitCount 16 = .ok (.iconst 2, 1) := by decide +kernel
theorem d_JInt_bitCount_17 : decode c_JInt_bitCount 17 = .ok (.iushr, 1) := by decide +kernel
theorem d_JInt_bitCount_18 : decode c_JInt_bitCount 18 = .ok (.ldc_w 266, 3) := by decide +kernel
theorem d_JInt_bitCount_21 : decode c_JInt_bitCount 21 = .ok (.iand, 1) := by decide +kernel
theorem d_JInt_bitCount_22 : decode c_JInt_bitCount 22 = .ok (.iadd, 1) := by decide +kernel
theorem d_JInt_bitCount_23 : decode c_JInt_bitCount 23 = .ok (.istore_n 0, 1) := by decide +kernel
theorem d_JInt_bitCount_24 : decode c_JInt_bitCount 24 = .ok (.iload_n 0, 1) := by decide +kernel
theorem d_JInt_bitCount_25 : decode c_JInt_bitCount 25 = .ok (.iload_n 0, 1) := by decide +kernel
theorem d_JInt_bitCount_26 : decode c_JInt_bitCount 26 = .ok (.iconst 4, 1) := by decide +kernel
theorem d_JInt_bitCount_27 : decode c_JInt_bitCount 27 = .ok (.iushr, 1) := by decide +kernel
theorem d_JInt_bitCount_28 : decode c_JInt_bitCount 28 = .ok (.iadd, 1) := by decide +kernel
theorem d_JInt_bitCount_29 : decode c_JInt_bitCount 29 = .ok (.ldc_w 267, 3) := by decide +kernel
theorem d_JInt_bitCount_32 : decode c_JInt_bitCount 32 = .ok (.iand, 1) := by decide +kernel
theorem d_JInt_bitCount_33 : decode c_JInt_bitCount 33 = .ok (.istore_n 0, 1) := by decide +kernel
theorem d_JInt_bitCount_34 : decode c_JInt_bitCount 34 = .ok (.iload_n 0, 1) := by decide +kernel
theorem d_JInt_bitCount_35 : decode c_JInt_bitCount 35 = .ok (.iload_n 0, 1) := by decide +kernel
theorem d_JInt_bitCount_36 : decode c_JInt_bitCount 36 = .ok (.bipush 8, 2) := by decide +kernel
theorem d_JInt_bitCount_38 : decode c_JInt_bitCount 38 = .ok (.iushr, 1) := by decide +kernel
theorem d_JInt_bitCount_39 : decode c_JInt_bitCount 39 = .ok (.iadd, 1) := by decide +kernel
theorem d_JInt_bitCount_40 : decode c_JInt_bitCount 40 = .ok (.istore_n 0, 1) := by decide +kernel
theorem d_JInt_bitCount_41 : decode c_JInt_bitCount 41 = .ok (.iload_n 0, 1) := by decide +kernel
theorem d_JInt_bitCount_42 : decode c_JInt_bitCount 42 = .ok (.iload_n 0, 1) := by decide +kernel
theorem d_JInt_bitCount_43 : decode c_JInt_bitCount 43 = .ok (.bipush 16, 2) := by decide +kernel
theorem d_JInt_bitCount_45 : decode c_JInt_bitCount 45 = .ok (.iushr, 1) := by decide +kernel
theorem d_JInt_bitCount_46 : decode c_JInt_bitCount 46 = .ok (.iadd, 1) := by decide +kernel
theorem d_JInt_bitCount_47 : decode c_JInt_bitCount 47 = .ok (.istore_n 0, 1) := by decide +kernel
theorem d_JInt_bitCount_48 : decode c_JInt_bitCount 48 = .ok (.iload_n 0, 1) := by decide +kernel
theorem d_JInt_bitCount_49 : decode c_JInt_bitCount 49 = .ok (.bipush 63, 2) := by decide +kernel
theorem d_JInt_bitCount_51 : decode c_JInt_bitCount 51 = .ok (.iand, 1) := by decide +kernel
theorem d_JInt_bitCount_52 : decode c_JInt_bitCount 52 = .ok (.ireturn, 1) := by decide +kernel
theorem d_Trial_isBusy_0 : decode c_Trial_isBusy 0 = .ok (.lconst 0, 1) := by decide +kernel
theorem d_Trial_isBusy_1 : decode c_Trial_isBusy 1 = .ok (.lstore_n 3, 1) := by decide +kernel
theorem d_Trial_isBusy_2 : decode c_Trial_isBusy 2 = .ok (.iconst 0, 1) := by decide +kernel
theorem d_Trial_isBusy_3 : decode c_Trial_isBusy 3 = .ok (.istore 5, 2) := by decide +kernel
theorem d_Trial_isBusy_5 : decode c_Trial_isBusy 5 = .ok (.iload 5, 2) := by decide +kernel
theorem d_Trial_isBusy_7 : decode c_Trial_isBusy 7 = .ok (.aload_n 0, 1) := by decide +kernel
theorem d_Trial_isBusy_8 : decode c_Trial_isBusy 8 = .ok (.getfield 21, 3) := by decide +kernel
theorem d_Trial_isBusy_11 : decode c_Trial_isBusy 11 = .ok (.if_icmp .ge 39, 3) := by decide +kernel
theorem d_Trial_isBusy_14 : decode c_Trial_isBusy 14 = .ok (.lload_n 3, 1) := by decide +kernel
theorem d_Trial_isBusy_15 : decode c_Trial_isBusy 15 = .ok (.aload_n 0, 1) := by decide +kernel
theorem d_Trial_isBusy_16 : decode c_Trial_isBusy 16 = .ok (.getfield 13, 3) := by decide +kernel
theorem d_Trial_isBusy_19 : decode c_Trial_isBusy 19 = .ok (.iconst 4, 1) := by decide +kernel
theorem d_Trial_isBusy_20 : decode c_Trial_isBusy 20 = .ok (.iload_n 1, 1) := by decide +kernel
theorem d_Trial_isBusy_21 : decode c_Trial_isBusy 21 = .ok (.imul, 1) := by decide +kernel
theorem d_Trial_isBusy_22 : decode c_Trial_isBusy 22 = .ok (.iload 5, 2) := by decide +kernel
theorem d_Trial_isBusy_24 : decode c_Trial_isBusy 24 = .ok (.iadd, 1) := by decide +kernel
theorem d_Trial_isBusy_25 : decode c_Trial_isBusy 25 = .ok (.laload, 1) := by decide +kernel
theorem d_Trial_isBusy_26 : decode c_Trial_isBusy 26 = .ok (.aload_n 0, 1) := by decide +kernel
theorem d_Trial_isBusy_27 : decode c_Trial_isBusy 27 = .ok (.getfield 13, 3) := by decide +kernel
theorem d_Trial_isBusy_30 : decode c_Trial_isBusy 30 = .ok (.iconst 4, 1) := by decide +kernel
theorem d_Trial_isBusy_31 : decode c_Trial_isBusy 31 = .ok (.iload_n 2, 1) := by decide +kernel
theorem d_Trial_isBusy_32 : decode c_Trial_isBusy 32 = .ok (.imul, 1) := by decide +kernel
theorem d_Trial_isBusy_33 : decode c_Trial_isBusy 33 = .ok (.iload 5, 2) := by decide +kernel
theorem d_Trial_isBusy_35 : decode c_Trial_isBusy 35 = .ok (.iadd, 1) := by decide +kernel
theorem d_Trial_isBusy_36 : decode c_Trial_isBusy 36 = .ok (.laload, 1) := by decide +kernel
theorem d_Trial_isBusy_37 : decode c_Trial_isBusy 37 = .ok (.ldc2_w 24, 3) := by decide +kernel
theorem d_Trial_isBusy_40 : decode c_Trial_isBusy 40 = .ok (.lxor, 1) := by decide +kernel
theorem d_Trial_isBusy_41 : decode c_Trial_isBusy 41 = .ok (.land, 1) := by decide +kernel
theorem d_Trial_isBusy_42 : decode c_Trial_isBusy 42 = .ok (.lor, 1) := by decide +kernel
theorem d_Trial_isBusy_43 : decode c_Trial_isBusy 43 = .ok (.lstore_n 3, 1) := by decide +kernel
theorem d_Trial_isBusy_44 : decode c_Trial_isBusy 44 = .ok (.iinc 5 1, 3) := by decide +kernel
theorem d_Trial_isBusy_47 : decode c_Trial_isBusy 47 = .ok (.goto (-42), 3) := by decide +kernel
theorem d_Trial_isBusy_50 : decode c_Trial_isBusy 50 = .ok (.lload_n 3, 1) := by decide +kernel
theorem d_Trial_isBusy_51 : decode c_Trial_isBusy 51 = .ok (.lconst 0, 1) := by decide +kernel
theorem d_Trial_isBusy_52 : decode c_Trial_isBusy 52 = .ok (.lcmp, 1) := by decide +kernel
theorem d_Trial_isBusy_53 : decode c_Trial_isBusy 53 = .ok (.ifCond .eq 7, 3) := by decide +kernel
theorem d_Trial_isBusy_56 : decode c_Trial_isBusy 56 = .ok (.iconst 1, 1) := by decide +kernel
theorem d_Trial_isBusy_57 : decode c_Trial_isBusy 57 = .ok (.goto 4, 3) := by decide +kernel
theorem d_Trial_isBusy_60 : decode c_Trial_isBusy 60 = .ok (.iconst 0, 1) := by decide +kernel
theorem d_Trial_isBusy_61 : decode c_Trial_isBusy 61 = .ok (.ireturn, 1) := by decide +kernel
theorem d_Trial_exchange_0 : decode c_Trial_exchange 0 = .ok (.iconst 0, 1) := by decide +kernel
theorem d_Trial_exchange_1 : decode c_Trial_exchange 1 = .ok (.istore_n 3, 1) := by decide +kernel
theorem d_Trial_exchange_2 : decode c_Trial_exchange 2 = .ok (.iload_n 3, 1) := by decide +kernel
theorem d_Trial_exchange_3 : decode c_Trial_exchange 3 = .ok (.aload_n 0, 1) := by decide +kernel
theorem d_Trial_exchange_4 : decode c_Trial_exchange 4 = .ok (.getfield 21, 3) := by decide +kernel
theorem d_Trial_exchange_7 : decode c_Trial_exchange 7 = .ok (.if_icmp .ge 53, 3) := by decide +kernel
theorem d_Trial_exchange_10 : decode c_Trial_exchange 10 = .ok (.aload_n 0, 1) := by decide +kernel
theorem d_Trial_exchange_11 : decode c_Trial_exchange 11 = .ok (.getfield 13, 3) := by decide +kernel
theorem d_Trial_exchange_14 : decode c_Trial_exchange 14 = .ok (.iconst 4, 1) := by decide +kernel
theorem d_Trial_exchange_15 : decode c_Trial_exchange 15 = .ok (.iload_n 1, 1) := by decide +kernel
theorem d_Trial_exchange_16 : decode c_Trial_exchange 16 = .ok (.imul, 1) := by decide +kernel
theorem d_Trial_exchange_17 : decode c_Trial_exchange 17 = .ok (.iload_n 3, 1) := by decide +kernel
theorem d_Trial_exchange_18 : decode c_Trial_exchange 18 = .ok (.iadd, 1) := by decide +kernel
theorem d_Trial_exchange_19 : decode c_Trial_exchange 19 = .ok (.laload, 1) := by decide +kernel
theorem d_Trial_exchange_20 : decode c_Trial_exchange 20 = .ok (.lstore 4, 2) := by decide +kernel
theorem d_Trial_exchange_22 : decode c_Trial_exchange 22 = .ok (.aload_n 0, 1) := by decide +kernel
theorem d_Trial_exchange_23 : decode c_Trial_exchange 23 = .ok (.getfield 13, 3) := by decide +kernel
theorem d_Trial_exchange_26 : decode c_Trial_exchange 26 = .ok (.iconst 4, 1) := by decide +kernel
theorem d_Trial_exchange_27 : decode c_Trial_exchange 27 = .ok (.iload_n 1, 1) := by decide +kernel
theorem d_Trial_exchange_28 : decode c_Trial_exchange 28 = .ok (.imul, 1) := by decide +kernel
theorem d_Trial_exchange_29 : decode c_Trial_exchange 29 = .ok (.iload_n 3, 1) := by decide +kernel
theorem d_Trial_exchange_30 : decode c_Trial_exchange 30 = .ok (.iadd, 1) := by decide +kernel
theorem d_Trial_exchange_31 : decode c_Trial_exchange 31 = .ok (.aload_n 0, 1) := by decide +kernel
theorem d_Trial_exchange_32 : decode c_Trial_exchange 32 = .ok (.getfield 13, 3) := by decide +kernel
theorem d_Trial_exchange_35 : decode c_Trial_exchange 35 = .ok (.iconst 4, 1) := by decide +kernel
theorem d_Trial_exchange_36 : decode c_Trial_exchange 36 = .ok (.iload_n 2, 1) := by decide +kernel
theorem d_Trial_exchange_37 : decode c_Trial_exchange 37 = .ok (.imul, 1) := by decide +kernel
theorem d_Trial_exchange_38 : decode c_Trial_exchange 38 = .ok (.iload_n 3, 1) := by decide +kernel
theorem d_Trial_exchange_39 : decode c_Trial_exchange 39 = .ok (.iadd, 1) := by decide +kernel
theorem d_Trial_exchange_40 : decode c_Trial_exchange 40 = .ok (.laload, 1) := by decide +kernel
theorem d_Trial_exchange_41 : decode c_Trial_exchange 41 = .ok (.lastore, 1) := by decide +kernel
theorem d_Trial_exchange_42 : decode c_Trial_exchange 42 = .ok (.aload_n 0, 1) := by decide +kernel
theorem d_Trial_exchange_43 : decode c_Trial_exchange 43 = .ok (.getfield 13, 3) := by decide +kernel
theorem d_Trial_exchange_46 : decode c_Trial_exchange 46 = .ok (.iconst 4, 1) := by decide +kernel
theorem d_Trial_exchange_47 : decode c_Trial_exchange 47 = .ok (.iload_n 2, 1) := by decide +kernel
theorem d_Trial_exchange_48 : decode c_Trial_exchange 48 = .ok (.imul, 1) := by decide +kernel
theorem d_Trial_exchange_49 : decode c_Trial_exchange 49 = .ok (.iload_n 3, 1) := by decide +kernel
theorem d_Trial_exchange_50 : decode c_Trial_exchange 50 = .ok (.iadd, 1) := by decide +kernel
theorem d_Trial_exchange_51 : decode c_Trial_exchange 51 = .ok (.lload 4, 2) := by decide +kernel
theorem d_Trial_exchange_53 : decode c_Trial_exchange 53 = .ok (.lastore, 1) := by decide +kernel
theorem d_Trial_exchange_54 : decode c_Trial_exchange 54 = .ok (.iinc 3 1, 3) := by decide +kernel
theorem d_Trial_exchange_57 : decode c_Trial_exchange 57 = .ok (.goto (-55), 3) := by decide +kernel
theorem d_Trial_exchange_60 : decode c_Trial_exchange 60 = .ok (.return_, 1) := by decide +kernel
theorem d_Trial_take_0 : decode c_Trial_take 0 = .ok (.aload_n 0, 1) := by decide +kernel
theorem d_Trial_take_1 : decode c_Trial_take 1 = .ok (.aload_n 1, 1) := by decide +kernel
theorem d_Trial_take_2 : decode c_Trial_take 2 = .ok (.getfield 17, 3) := by decide +kernel
theorem d_Trial_take_5 : decode c_Trial_take 5 = .ok (.putfield 17, 3) := by decide +kernel
theorem d_Trial_take_8 : decode c_Trial_take 8 = .ok (.aload_n 0, 1) := by decide +kernel
theorem d_Trial_take_9 : decode c_Trial_take 9 = .ok (.aload_n 1, 1) := by decide +kernel
theorem d_Trial_take_10 : decode c_Trial_take 10 = .ok (.getfield 21, 3) := by decide +kernel
theorem d_Trial_take_13 : decode c_Trial_take 13 = .ok (.putfield 21, 3) := by decide +kernel
theorem d_Trial_take_16 : decode c_Trial_take 16 = .ok (.iconst 0, 1) := by decide +kernel
theorem d_Trial_take_17 : decode c_Trial_take 17 = .ok (.istore_n 2, 1) := by decide +kernel
theorem d_Trial_take_18 : decode c_Trial_take 18 = .ok (.iload_n 2, 1) := by decide +kernel
theorem d_Trial_take_19 : decode c_Trial_take 19 = .ok (.aload_n 0, 1) := by decide +kernel
theorem d_Trial_take_20 : decode c_Trial_take 20 = .ok (.getfield 13, 3) := by decide +kernel
theorem d_Trial_take_23 : decode c_Trial_take 23 = .ok (.arraylength, 1) := by decide +kernel
theorem d_Trial_take_24 : decode c_Trial_take 24 = .ok (.if_icmp .ge 21, 3) := by decide +kernel
theorem d_Trial_take_27 : decode c_Trial_take 27 = .ok (.aload_n 0, 1) := by decide +kernel
theorem d_Trial_take_28 : decode c_Trial_take 28 = .ok (.getfield 13, 3) := by decide +kernel
theorem d_Trial_take_31 : decode c_Trial_take 31 = .ok (.iload_n 2, 1) := by decide +kernel
theorem d_Trial_take_32 : decode c_Trial_take 32 = .ok (.aload_n 1, 1) := by decide +kernel
theorem d_Trial_take_33 : decode c_Trial_take 33 = .ok (.getfield 13, 3) := by decide +kernel
theorem d_Trial_take_36 : decode c_Trial_take 36 = .ok (.iload_n 2, 1) := by decide +kernel
theorem d_Trial_take_37 : decode c_Trial_take 37 = .ok (.laload, 1) := by decide +kernel
theorem d_Trial_take_38 : decode c_Trial_take 38 = .ok (.lastore, 1) := by decide +kernel
theorem d_Trial_take_39 : decode c_Trial_take 39 = .ok (.iinc 2 1, 3) := by decide +kernel
theorem d_Trial_take_42 : decode c_Trial_take 42 = .ok (.goto (-24), 3) := by decide +kernel
theorem d_Trial_take_45 : decode c_Trial_take 45 = .ok (.return_, 1) := by decide +kernel
theorem d_Trial_findUnlike_0 : decode c_Trial_findUnlike 0 = .ok (.aload_n 2, 1) := by decide +kernel
theorem d_Trial_findUnlike_1 : decode c_Trial_findUnlike 1 = .ok (.invokevirtual 46, 3) := by decide +kernel
theorem d_Trial_findUnlike_4 : decode c_Trial_findUnlike 4 = .ok (.iconst 0, 1) := by decide +kernel
theorem d_Trial_findUnlike_5 : decode c_Trial_findUnlike 5 = .ok (.istore_n 3, 1) := by decide +kernel
theorem d_Trial_findUnlike_6 : decode c_Trial_findUnlike 6 = .ok (.iload_n 3, 1) := by decide +kernel
theorem d_Trial_findUnlike_7 : decode c_Trial_findUnlike 7 = .ok (.aload_n 0, 1) := by decide +kernel
theorem d_Trial_findUnlike_8 : decode c_Trial_findUnlike 8 = .ok (.getfield 17, 3) := by decide +kernel
theorem d_Trial_findUnlike_11 : decode c_Trial_findUnlike 11 = .ok (.if_icmp .ge 60, 3) := by decide +kernel
theorem d_Trial_findUnlike_14 : decode c_Trial_findUnlike 14 = .ok (.iconst 0, 1) := by decide +kernel
theorem d_Trial_findUnlike_15 : decode c_Trial_findUnlike 15 = .ok (.istore 4, 2) := by decide +kernel
theorem d_Trial_findUnlike_17 : decode c_Trial_findUnlike 17 = .ok (.iload 4, 2) := by decide +kernel
theorem d_Trial_findUnlike_19 : decode c_Trial_findUnlike 19 = .ok (.aload_n 0, 1) := by decide +kernel
theorem d_Trial_findUnlike_20 : decode c_Trial_findUnlike 20 = .ok (.getfield 21, 3) := by decide +kernel
theorem d_Trial_findUnlike_23 : decode c_Trial_findUnlike 23 = .ok (.if_icmp .ge 42, 3) := by decide +kernel
theorem d_Trial_findUnlike_26 : decode c_Trial_findUnlike 26 = .ok (.aload_n 2, 1) := by decide +kernel
theorem d_Trial_findUnlike_27 : decode c_Trial_findUnlike 27 = .ok (.getfield 49, 3) := by decide +kernel
theorem d_Trial_findUnlike_30 : decode c_Trial_findUnlike 30 = .ok (.iload 4, 2) := by decide +kernel
theorem d_Trial_findUnlike_32 : decode c_Trial_findUnlike 32 = .ok (.dup2, 1) := by decide +kernel
theorem d_Trial_findUnlike_33 : decode c_Trial_findUnlike 33 = .ok (.laload, 1) := by decide +kernel
theorem d_Trial_findUnlike_34 : decode c_Trial_findUnlike 34 = .ok (.aload_n 0, 1) := by decide +kernel
theorem d_Trial_findUnlike_35 : decode c_Trial_findUnlike 35 = .ok (.getfield 13, 3) := by decide +kernel
theorem d_Trial_findUnlike_38 : decode c_Trial_findUnlike 38 = .ok (.iconst 4, 1) := by decide +kernel
theorem d_Trial_findUnlike_39 : decode c_Trial_findUnlike 39 = .ok (.iload_n 3, 1) := by decide +kernel
theorem d_Trial_findUnlike_40 : decode c_Trial_findUnlike 40 = .ok (.imul, 1) := by decide +kernel
theorem d_Trial_findUnlike_41 : decode c_Trial_findUnlike 41 = .ok (.iload 4, 2) := by decide +kernel
theorem d_Trial_findUnlike_43 : decode c_Trial_findUnlike 43 = .ok (.iadd, 1) := by decide +kernel
theorem d_Trial_findUnlike_44 : decode c_Trial_findUnlike 44 = .ok (.laload, 1) := by decide +kernel
theorem d_Trial_findUnlike_45 : decode c_Trial_findUnlike 45 = .ok (.aload_n 1, 1) := by decide +kernel
theorem d_Trial_findUnlike_46 : decode c_Trial_findUnlike 46 = .ok (.getfield 13, 3) := by decide +kernel
theorem d_Trial_findUnlike_49 : decode c_Trial_findUnlike 49 = .ok (.iconst 4, 1) := by decide +kernel
theorem d_Trial_findUnlike_50 : decode c_Trial_findUnlike 50 = .ok (.iload_n 3, 1) := by decide +kernel
theorem d_Trial_findUnlike_51 : decode c_Trial_findUnlike 51 = .ok (.imul, 1) := by decide +kernel
theorem d_Trial_findUnlike_52 : decode c_Trial_findUnlike 52 = .ok (.iload 4, 2) := by decide +kernel
theorem d_Trial_findUnlike_54 : decode c_Trial_findUnlike 54 = .ok (.iadd, 1) := by decide +kernel
theorem d_Trial_findUnlike_55 : decode c_Trial_findUnlike 55 = .ok (.laload, 1) := by decide +kernel
theorem d_Trial_findUnlike_56 : decode c_Trial_findUnlike 56 = .ok (.lxor, 1) := by decide +kernel
theorem d_Trial_findUnlike_57 : decode c_Trial_findUnlike 57 = .ok (.lor, 1) := by decide +kernel
theorem d_Trial_findUnlike_58 : decode c_Trial_findUnlike 58 = .ok (.lastore, 1) := by decide +kernel
theorem d_Trial_findUnlike_59 : decode c_Trial_findUnlike 59 = .ok (.iinc 4 1, 3) := by decide +kernel
theorem d_Trial_findUnlike_62 : decode c_Trial_findUnlike 62 = .ok (.goto (-45), 3) := by decide +kernel
theorem d_Trial_findUnlike_65 : decode c_Trial_findUnlike 65 = .ok (.iinc 3 1, 3) := by decide +kernel
theorem d_Trial_findUnlike_68 : decode c_Trial_findUnlike 68 = .ok (.goto (-62), 3) := by decide +kernel
theorem d_Trial_findUnlike_71 : decode c_Trial_findUnlike 71 = .ok (.return_, 1) := by decide +kernel
theorem d_Sets_exchanged_0 : decode c_Sets_exchanged 0 = .ok (.iload_n 2, 1) := by decide +kernel
theorem d_Sets_exchanged_1 : decode c_Sets_exchanged 1 = .ok (.iload_n 3, 1) := by decide +kernel
theorem d_Sets_exchanged_2 : decode c_Sets_exchanged 2 = .ok (.if_icmp .ne 5, 3) := by decide +kernel
theorem d_Sets_exchanged_5 : decode c_Sets_exchanged 5 = .ok (.lload_n 0, 1) := by decide +kernel
theorem d_Sets_exchanged_6 : decode c_Sets_exchanged 6 = .ok (.lreturn, 1) := by decide +kernel
theorem d_Sets_exchanged_7 : decode c_Sets_exchanged 7 = .ok (.iconst 1, 1) := by decide +kernel
theorem d_Sets_exchanged_8 : decode c_Sets_exchanged 8 = .ok (.iload_n 3, 1) := by decide +kernel
theorem d_Sets_exchanged_9 : decode c_Sets_exchanged 9 = .ok (.ishl, 1) := by decide +kernel
theorem d_Sets_exchanged_10 : decode c_Sets_exchanged 10 = .ok (.iconst 1, 1) := by decide +kernel
theorem d_Sets_exchanged_11 : decode c_Sets_exchanged 11 = .ok (.iload_n 2, 1) := by decide +kernel
theorem d_Sets_exchanged_12 : decode c_Sets_exchanged 12 = .ok (.ishl, 1) := by decide +kernel
theorem d_Sets_exchanged_13 : decode c_Sets_exchanged 13 = .ok (.isub, 1) := by decide +kernel
theorem d_Sets_exchanged_14 : decode c_Sets_exchanged 14 = .ok (.istore 4, 2) := by decide +kernel
theorem d_Sets_exchanged_16 : decode c_Sets_exchanged 16 = .ok (.getstatic 11, 3) := by decide +kernel
theorem d_Sets_exchanged_19 : decode c_Sets_exchanged 19 = .ok (.iload_n 2, 1) := by decide +kernel
theorem d_Sets_exchanged_20 : decode c_Sets_exchanged 20 = .ok (.laload, 1) := by decide +kernel
theorem d_Sets_exchanged_21 : decode c_Sets_exchanged 21 = .ok (.getstatic 11, 3) := by decide +kernel
theorem d_Sets_exchanged_24 : decode c_Sets_exchanged 24 = .ok (.iload_n 3, 1) := by decide +kernel
theorem d_Sets_exchanged_25 : decode c_Sets_exchanged 25 = .ok (.laload, 1) := by decide +kernel
theorem d_Sets_exchanged_26 : decode c_Sets_exchanged 26 = .ok (.ldc2_w 9, 3) := by decide +kernel
theorem d_Sets_exchanged_29 : decode c_Sets_exchanged 29 = .ok (.lxor, 1) := by decide +kernel
theorem d_Sets_exchanged_30 : decode c_Sets_exchanged 30 = .ok (.land, 1) := by decide +kernel
theorem d_Sets_exchanged_31 : decode c_Sets_exchanged 31 = .ok (.lstore 5, 2) := by decide +kernel
theorem d_Sets_exchanged_33 : decode c_Sets_exchanged 33 = .ok (.getstatic 11, 3) := by decide +kernel
theorem d_Sets_exchanged_36 : decode c_Sets_exchanged 36 = .ok (.iload_n 3, 1) := by decide +kernel
theorem d_Sets_exchanged_37 : decode c_Sets_exchanged 37 = .ok (.laload, 1) := by decide +kernel
theorem d_Sets_exchanged_38 : decode c_Sets_exchanged 38 = .ok (.getstatic 11, 3) := by decide +kernel
theorem d_Sets_exchanged_41 : decode c_Sets_exchanged 41 = .ok (.iload_n 2, 1) := by decide +kernel
theorem d_Sets_exchanged_42 : decode c_Sets_exchanged 42 = .ok (.laload, 1) := by decide +kernel
theorem d_Sets_exchanged_43 : decode c_Sets_exchanged 43 = .ok (.ldc2_w 9, 3) := by decide +kernel
theorem d_Sets_exchanged_46 : decode c_Sets_exchanged 46 = .ok (.lxor, 1) := by decide +kernel
theorem d_Sets_exchanged_47 : decode c_Sets_exchanged 47 = .ok (.land, 1) := by decide +kernel
theorem d_Sets_exchanged_48 : decode c_Sets_exchanged 48 = .ok (.lstore 7, 2) := by decide +kernel
theorem d_Sets_exchanged_50 : decode c_Sets_exchanged 50 = .ok (.lload_n 0, 1) := by decide +kernel
theorem d_Sets_exchanged_51 : decode c_Sets_exchanged 51 = .ok (.lload 5, 2) := by decide +kernel
theorem d_Sets_exchanged_53 : decode c_Sets_exchanged 53 = .ok (.lload 7, 2) := by decide +kernel
theorem d_Sets_exchanged_55 : decode c_Sets_exchanged 55 = .ok (.lor, 1) := by decide +kernel
theorem d_Sets_exchanged_56 : decode c_Sets_exchanged 56 = .ok (.ldc2_w 9, 3) := by decide +kernel
theorem d_Sets_exchanged_59 : decode c_Sets_exchanged 59 = .ok (.lxor, 1) := by decide +kernel
theorem d_Sets_exchanged_60 : decode c_Sets_exchanged 60 = .ok (.land, 1) := by decide +kernel
theorem d_Sets_exchanged_61 : decode c_Sets_exchanged 61 = .ok (.lload_n 0, 1) := by decide +kernel
theorem d_Sets_exchanged_62 : decode c_Sets_exchanged 62 = .ok (.lload 5, 2) := by decide +kernel
theorem d_Sets_exchanged_64 : decode c_Sets_exchanged 64 = .ok (.land, 1) := by decide +kernel
theorem d_Sets_exchanged_65 : decode c_Sets_exchanged 65 = .ok (.iload 4, 2) := by decide +kernel
theorem d_Sets_exchanged_67 : decode c_Sets_exchanged 67 = .ok (.lshl, 1) := by decide +kernel
theorem d_Sets_exchanged_68 : decode c_Sets_exchanged 68 = .ok (.lor, 1) := by decide +kernel
theorem d_Sets_exchanged_69 : decode c_Sets_exchanged 69 = .ok (.lload_n 0, 1) := by decide +kernel
theorem d_Sets_exchanged_70 : decode c_Sets_exchanged 70 = .ok (.lload 7, 2) := by decide +kernel
theorem d_Sets_exchanged_72 : decode c_Sets_exchanged 72 = .ok (.land, 1) := by decide +kernel
theorem d_Sets_exchanged_73 : decode c_Sets_exchanged 73 = .ok (.iload 4, 2) := by decide +kernel
theorem d_Sets_exchanged_75 : decode c_Sets_exchanged 75 = .ok (.lushr, 1) := by decide +kernel
theorem d_Sets_exchanged_76 : decode c_Sets_exchanged 76 = .ok (.lor, 1) := by decide +kernel
theorem d_Sets_exchanged_77 : decode c_Sets_exchanged 77 = .ok (.lreturn, 1) := by decide +kernel
theorem d_Sets_mayFit_0 : decode c_Sets_mayFit 0 = .ok (.lload_n 0, 1) := by decide +kernel
theorem d_Sets_mayFit_1 : decode c_Sets_mayFit 1 = .ok (.lload 4, 2) := by decide +kernel
theorem d_Sets_mayFit_3 : decode c_Sets_mayFit 3 = .ok (.land, 1) := by decide +kernel
theorem d_Sets_mayFit_4 : decode c_Sets_mayFit 4 = .ok (.invokestatic 29, 3) := by decide +kernel
theorem d_Sets_mayFit_7 : decode c_Sets_mayFit 7 = .ok (.lload_n 2, 1) := by decide +kernel
theorem d_Sets_mayFit_8 : decode c_Sets_mayFit 8 = .ok (.lload 4, 2) := by decide +kernel
theorem d_Sets_mayFit_10 : decode c_Sets_mayFit 10 = .ok (.land, 1) := by decide +kernel
theorem d_Sets_mayFit_11 : decode c_Sets_mayFit 11 = .ok (.invokestatic 29, 3) := by decide +kernel
theorem d_Sets_mayFit_14 : decode c_Sets_mayFit 14 = .ok (.if_icmp .gt 32, 3) := by decide +kernel
theorem d_Sets_mayFit_17 : decode c_Sets_mayFit 17 = .ok (.lload_n 0, 1) := by decide +kernel
theorem d_Sets_mayFit_18 : decode c_Sets_mayFit 18 = .ok (.lload 4, 2) := by decide +kernel
theorem d_Sets_mayFit_20 : decode c_Sets_mayFit 20 = .ok (.ldc2_w 9, 3) := by decide +kernel
theorem d_Sets_mayFit_23 : decode c_Sets_mayFit 23 = .ok (.lxor, 1) := by decide +kernel
theorem d_Sets_mayFit_24 : decode c_Sets_mayFit 24 = .ok (.land, 1) := by decide +kernel
theorem d_Sets_mayFit_25 : decode c_Sets_mayFit 25 = .ok (.invokestatic 29, 3) := by decide +kernel
theorem d_Sets_mayFit_28 : decode c_Sets_mayFit 28 = .ok (.lload_n 2, 1) := by decide +kernel
theorem d_Sets_mayFit_29 : decode c_Sets_mayFit 29 = .ok (.lload 4, 2) := by decide +kernel
theorem d_Sets_mayFit_31 : decode c_Sets_mayFit 31 = .ok (.ldc2_w 9, 3) := by decide +kernel
theorem d_Sets_mayFit_34 : decode c_Sets_mayFit 34 = .ok (.lxor, 1) := by decide +kernel
theorem d_Sets_mayFit_35 : decode c_Sets_mayFit 35 = .ok (.land, 1) := by decide +kernel
theorem d_Sets_mayFit_36 : decode c_Sets_mayFit 36 = .ok (.invokestatic 29, 3) := by decide +kernel
theorem d_Sets_mayFit_39 : decode c_Sets_mayFit 39 = .ok (.if_icmp .gt 7, 3) := by decide +kernel
theorem d_Sets_mayFit_42 : decode c_Sets_mayFit 42 = .ok (.iconst 1, 1) := by decide +kernel
theorem d_Sets_mayFit_43 : decode c_Sets_mayFit 43 = .ok (.goto 4, 3) := by decide +kernel
theorem d_Sets_mayFit_46 : decode c_Sets_mayFit 46 = .ok (.iconst 0, 1) := by decide +kernel
theorem d_Sets_mayFit_47 : decode c_Sets_mayFit 47 = .ok (.ireturn, 1) := by decide +kernel
theorem d_Sets_waysWithin_0 : decode c_Sets_waysWithin 0 = .ok (.iload 5, 2) := by decide +kernel
theorem d_Sets_waysWithin_2 : decode c_Sets_waysWithin 2 = .ok (.iload 4, 2) := by decide +kernel
theorem d_Sets_waysWithin_4 : decode c_Sets_waysWithin 4 = .ok (.iconst 1, 1) := by decide +kernel
theorem d_Sets_waysWithin_5 : decode c_Sets_waysWithin 5 = .ok (.isub, 1) := by decide +kernel
theorem d_Sets_waysWithin_6 : decode c_Sets_waysWithin 6 = .ok (.if_icmp .ge 9, 3) := by decide +kernel
theorem d_Sets_waysWithin_9 : decode c_Sets_waysWithin 9 = .ok (.iload 5, 2) := by decide +kernel
theorem d_Sets_waysWithin_11 : decode c_Sets_waysWithin 11 = .ok (.iconst 5, 1) := by decide +kernel
theorem d_Sets_waysWithin_12 : decode c_Sets_waysWithin 12 = .ok (.if_icmp .lt 21, 3) := by decide +kernel
theorem d_Sets_waysWithin_15 : decode c_Sets_waysWithin 15 = .ok (.lload_n 0, 1) := by decide +kernel
theorem d_Sets_waysWithin_16 : decode c_Sets_waysWithin 16 = .ok (.lload_n 2, 1) := by decide +kernel
theorem d_Sets_waysWithin_17 : decode c_Sets_waysWithin 17 = .ok (.ldc2_w 9, 3) := by decide +kernel
theorem d_Sets_waysWithin_20 : decode c_Sets_waysWithin 20 = .ok (.lxor, 1) := by decide +kernel
theorem d_Sets_waysWithin_21 : decode c_Sets_waysWithin 21 = .ok (.land, 1) := by decide +kernel
theorem d_Sets_waysWithin_22 : decode c_Sets_waysWithin 22 = .ok (.lconst 0, 1) := by decide +kernel
theorem d_Sets_waysWithin_23 : decode c_Sets_waysWithin 23 = .ok (.lcmp, 1) := by decide +kernel
theorem d_Sets_waysWithin_24 : decode c_Sets_waysWithin 24 = .ok (.ifCond .ne 7, 3) := by decide +kernel
theorem d_Sets_waysWithin_27 : decode c_Sets_waysWithin 27 = .ok (.iconst 1, 1) := by decide +kernel
theorem d_Sets_waysWithin_28 : decode c_Sets_waysWithin 28 = .ok (.goto 4, 3) := by decide +kernel
theorem d_Sets_waysWithin_31 : decode c_Sets_waysWithin 31 = .ok (.iconst 0, 1) := by decide +kernel
theorem d_Sets_waysWithin_32 : decode c_Sets_waysWithin 32 = .ok (.ireturn, 1) := by decide +kernel
theorem d_Sets_waysWithin_33 : decode c_Sets_waysWithin 33 = .ok (.iconst 0, 1) := by decide +kernel
theorem d_Sets_waysWithin_34 : decode c_Sets_waysWithin 34 = .ok (.istore 7, 2) := by decide +kernel
theorem d_Sets_waysWithin_36 : decode c_Sets_waysWithin 36 = .ok (.iload 5, 2) := by decide +kernel
theorem d_Sets_waysWithin_38 : decode c_Sets_waysWithin 38 = .ok (.istore 8, 2) := by decide +kernel
theorem d_Sets_waysWithin_40 : decode c_Sets_waysWithin 40 = .ok (.iload 8, 2) := by decide +kernel
theorem d_Sets_waysWithin_42 : decode c_Sets_waysWithin 42 = .ok (.iload 4, 2) := by decide +kernel
theorem d_Sets_waysWithin_44 : decode c_Sets_waysWithin 44 = .ok (.if_icmp .ge 63, 3) := by decide +kernel
theorem d_Sets_waysWithin_47 : decode c_Sets_waysWithin 47 = .ok (.iload 7, 2) := by decide +kernel
theorem d_Sets_waysWithin_49 : decode c_Sets_waysWithin 49 = .ok (.iload 6, 2) := by decide +kernel
theorem d_Sets_waysWithin_51 : decode c_Sets_waysWithin 51 = .ok (.if_icmp .ge 56, 3) := by decide +kernel
theorem d_Sets_waysWithin_54 : decode c_Sets_waysWithin 54 = .ok (.lload_n 0, 1) := by decide +kernel
theorem d_Sets_waysWithin_55 : decode c_Sets_waysWithin 55 = .ok (.iload 5, 2) := by decide +kernel
theorem d_Sets_waysWithin_57 : decode c_Sets_waysWithin 57 = .ok (.iload 8, 2) := by decide +kernel
theorem d_Sets_waysWithin_59 : decode c_Sets_waysWithin 59 = .ok (.invokestatic 15, 3) := by decide +kernel
theorem d_Sets_waysWithin_62 : decode c_Sets_waysWithin 62 = .ok (.lstore 9, 2) := by decide +kernel
theorem d_Sets_waysWithin_64 : decode c_Sets_waysWithin 64 = .ok (.lload 9, 2) := by decide +kernel
theorem d_Sets_waysWithin_66 : decode c_Sets_waysWithin 66 = .ok (.lload_n 2, 1) := by decide +kernel
theorem d_Sets_waysWithin_67 : decode c_Sets_waysWithin 67 = .ok (.getstatic 11, 3) := by decide +kernel
theorem d_Sets_waysWithin_70 : decode c_Sets_waysWithin 70 = .ok (.iload 5, 2) := by decide +kernel
theorem d_Sets_waysWithin_72 : decode c_Sets_waysWithin 72 = .ok (.laload, 1) := by decide +kernel
theorem d_Sets_waysWithin_73 : decode c_Sets_waysWithin 73 = .ok (.invokestatic 21, 3) := by decide +kernel
theorem d_Sets_waysWithin_76 : decode c_Sets_waysWithin 76 = .ok (.ifCond .eq 25, 3) := by decide +kernel
theorem d_Sets_waysWithin_79 : decode c_Sets_waysWithin 79 = .ok (.iload 7, 2) := by decide +kernel
theorem d_Sets_waysWithin_81 : decode c_Sets_waysWithin 81 = .ok (.lload 9, 2) := by decide +kernel
theorem d_Sets_waysWithin_83 : decode c_Sets_waysWithin 83 = .ok (.lload_n 2, 1) := by decide +kernel
theorem d_Sets_waysWithin_84 : decode c_Sets_waysWithin 84 = .ok (.iload 4, 2) := by decide +kernel
theorem d_Sets_waysWithin_86 : decode c_Sets_waysWithin 86 = .ok (.iload 5, 2) := by decide +kernel
theorem d_Sets_waysWithin_88 : decode c_Sets_waysWithin 88 = .ok (.iconst 1, 1) := by decide +kernel
theorem d_Sets_waysWithin_89 : decode c_Sets_waysWithin 89 = .ok (.iadd, 1) := by decide +kernel
theorem d_Sets_waysWithin_90 : decode c_Sets_waysWithin 90 = .ok (.iload 6, 2) := by decide +kernel
theorem d_Sets_waysWithin_92 : decode c_Sets_waysWithin 92 = .ok (.iload 7, 2) := by decide +kernel
theorem d_Sets_waysWithin_94 : decode c_Sets_waysWithin 94 = .ok (.isub, 1) := by decide +kernel
theorem d_Sets_waysWithin_95 : decode c_Sets_waysWithin 95 = .ok (.invokestatic 25, 3) := by decide +kernel
theorem d_Sets_waysWithin_98 : decode c_Sets_waysWithin 98 = .ok (.iadd, 1) := by decide +kernel
theorem d_Sets_waysWithin_99 : decode c_Sets_waysWithin 99 = .ok (.istore 7, 2) := by decide +kernel
theorem d_Sets_waysWithin_101 : decode c_Sets_waysWithin 101 = .ok (.iinc 8 1, 3) := by decide +kernel
theorem d_Sets_waysWithin_104 : decode c_Sets_waysWithin 104 = .ok (.goto (-64), 3) := by decide +kernel
theorem d_Sets_waysWithin_107 : decode c_Sets_waysWithin 107 = .ok (.iload 7, 2) := by decide +kernel
theorem d_Sets_waysWithin_109 : decode c_Sets_waysWithin 109 = .ok (.ireturn, 1) := by decide +kernel
theorem d_Search_listPairs_0 : decode c_Search_listPairs 0 = .ok (.aload_n 0, 1) := by decide +kernel
theorem d_Search_listPairs_1 : decode c_Search_listPairs 1 = .ok (.iconst 0, 1) := by decide +kernel
theorem d_Search_listPairs_2 : decode c_Search_listPairs 2 = .ok (.putfield 30, 3) := by decide +kernel
theorem d_Search_listPairs_5 : decode c_Search_listPairs 5 = .ok (.iconst 0, 1) := by decide +kernel
theorem d_Search_listPairs_6 : decode c_Search_listPairs 6 = .ok (.istore_n 1, 1) := by decide +kernel
theorem d_Search_listPairs_7 : decode c_Search_listPairs 7 = .ok (.iload_n 1, 1) := by decide +kernel
theorem d_Search_listPairs_8 : decode c_Search_listPairs 8 = .ok (.aload_n 0, 1) := by decide +kernel
theorem d_Search_listPairs_9 : decode c_Search_listPairs 9 = .ok (.getfield 26, 3) := by decide +kernel
theorem d_Search_listPairs_12 : decode c_Search_listPairs 12 = .ok (.iconst 1, 1) := by decide +kernel
theorem d_Search_listPairs_13 : decode c_Search_listPairs 13 = .ok (.isub, 1) := by decide +kernel
theorem d_Search_listPairs_14 : decode c_Search_listPairs 14 = .ok (.if_icmp .ge 66, 3) := by decide +kernel
theorem d_Search_listPairs_17 : decode c_Search_listPairs 17 = .ok (.iload_n 1, 1) := by decide +kernel
theorem d_Search_listPairs_18 : decode c_Search_listPairs 18 = .ok (.iconst 1, 1) := by decide +kernel
theorem d_Search_listPairs_19 : decode c_Search_listPairs 19 = .ok (.iadd, 1) := by decide +kernel
theorem d_Search_listPairs_20 : decode c_Search_listPairs 20 = .ok (.istore_n 2, 1) := by decide +kernel
theorem d_Search_listPairs_21 : decode c_Search_listPairs 21 = .ok (.iload_n 2, 1) := by decide +kernel
theorem d_Search_listPairs_22 : decode c_Search_listPairs 22 = .ok (.aload_n 0, 1) := by decide +kernel
theorem d_Search_listPairs_23 : decode c_Search_listPairs 23 = .ok (.getfield 26, 3) := by decide +kernel
theorem d_Search_listPairs_26 : decode c_Search_listPairs 26 = .ok (.if_icmp .ge 48, 3) := by decide +kernel
theorem d_Search_listPairs_29 : decode c_Search_listPairs 29 = .ok (.aload_n 0, 1) := by decide +kernel
theorem d_Search_listPairs_30 : decode c_Search_listPairs 30 = .ok (.getfield 30, 3) := by decide +kernel
theorem d_Search_listPairs_33 : decode c_Search_listPairs 33 = .ok (.bipush 10, 2) := by decide +kernel
theorem d_Search_listPairs_35 : decode c_Search_listPairs 35 = .ok (.if_icmp .ge 39, 3) := by decide +kernel
theorem d_Search_listPairs_38 : decode c_Search_listPairs 38 = .ok (.aload_n 0, 1) := by decide +kernel
theorem d_Search_listPairs_39 : decode c_Search_listPairs 39 = .ok (.getfield 9, 3) := by decide +kernel
theorem d_Search_listPairs_42 : decode c_Search_listPairs 42 = .ok (.aload_n 0, 1) := by decide +kernel
theorem d_Search_listPairs_43 : decode c_Search_listPairs 43 = .ok (.getfield 30, 3) := by decide +kernel
theorem d_Search_listPairs_46 : decode c_Search_listPairs 46 = .ok (.iload_n 1, 1) := by decide +kernel
theorem d_Search_listPairs_47 : decode c_Search_listPairs 47 = .ok (.iastore, 1) := by decide +kernel
theorem d_Search_listPairs_48 : decode c_Search_listPairs 48 = .ok (.aload_n 0, 1) := by decide +kernel
theorem d_Search_listPairs_49 : decode c_Search_listPairs 49 = .ok (.getfield 13, 3) := by decide +kernel
theorem d_Search_listPairs_52 : decode c_Search_listPairs 52 = .ok (.aload_n 0, 1) := by decide +kernel
theorem d_Search_listPairs_53 : decode c_Search_listPairs 53 = .ok (.getfield 30, 3) := by decide +kernel
theorem d_Search_listPairs_56 : decode c_Search_listPairs 56 = .ok (.iload_n 2, 1) := by decide +kernel
theorem d_Search_listPairs_57 : decode c_Search_listPairs 57 = .ok (.iastore, 1) := by decide +kernel
theorem d_Search_listPairs_58 : decode c_Search_listPairs 58 = .ok (.aload_n 0, 1) := by decide +kernel
theorem d_Search_listPairs_59 : decode c_Search_listPairs 59 = .ok (.dup, 1) := by decide +kernel
theorem d_Search_listPairs_60 : decode c_Search_listPairs 60 = .ok (.getfield 30, 3) := by decide +kernel
theorem d_Search_listPairs_63 : decode c_Search_listPairs 63 = .ok (.iconst 1, 1) := by decide +kernel
theorem d_Search_listPairs_64 : decode c_Search_listPairs 64 = .ok (.iadd, 1) := by decide +kernel
theorem d_Search_listPairs_65 : decode c_Search_listPairs 65 = .ok (.putfield 30, 3) := by decide +kernel
theorem d_Search_listPairs_68 : decode c_Search_listPairs 68 = .ok (.iinc 2 1, 3) := by decide +kernel
theorem d_Search_listPairs_71 : decode c_Search_listPairs 71 = .ok (.goto (-50), 3) := by decide +kernel
theorem d_Search_listPairs_74 : decode c_Search_listPairs 74 = .ok (.iinc 1 1, 3) := by decide +kernel
theorem d_Search_listPairs_77 : decode c_Search_listPairs 77 = .ok (.goto (-70), 3) := by decide +kernel
theorem d_Search_listPairs_80 : decode c_Search_listPairs 80 = .ok (.return_, 1) := by decide +kernel
theorem d_Search_isLayer_0 : decode c_Search_isLayer 0 = .ok (.iconst 0, 1) := by decide +kernel
theorem d_Search_isLayer_1 : decode c_Search_isLayer 1 = .ok (.istore_n 2, 1) := by decide +kernel
theorem d_Search_isLayer_2 : decode c_Search_isLayer 2 = .ok (.iconst 0, 1) := by decide +kernel
theorem d_Search_isLayer_3 : decode c_Search_isLayer 3 = .ok (.istore_n 3, 1) := by decide +kernel
theorem d_Search_isLayer_4 : decode c_Search_isLayer 4 = .ok (.iload_n 3, 1) := by decide +kernel
theorem d_Search_isLayer_5 : decode c_Search_isLayer 5 = .ok (.aload_n 0, 1) := by decide +kernel
theorem d_Search_isLayer_6 : decode c_Search_isLayer 6 = .ok (.getfield 30, 3) := by decide +kernel
theorem d_Search_isLayer_9 : decode c_Search_isLayer 9 = .ok (.if_icmp .ge 51, 3) := by decide +kernel
theorem d_Search_isLayer_12 : decode c_Search_isLayer 12 = .ok (.iload_n 1, 1) := by decide +kernel
theorem d_Search_isLayer_13 : decode c_Search_isLayer 13 = .ok (.iload_n 3, 1) := by decide +kernel
theorem d_Search_isLayer_14 : decode c_Search_isLayer 14 = .ok (.ishr, 1) := by decide +kernel
theorem d_Search_isLayer_15 : decode c_Search_isLayer 15 = .ok (.iconst 1, 1) := by decide +kernel
theorem d_Search_isLayer_16 : decode c_Search_isLayer 16 = .ok (.iand, 1) := by decide +kernel
theorem d_Search_isLayer_17 : decode c_Search_isLayer 17 = .ok (.iconst 1, 1) := by decide +kernel
theorem d_Search_isLayer_18 : decode c_Search_isLayer 18 = .ok (.if_icmp .ne 36, 3) := by decide +kernel
theorem d_Search_isLayer_21 : decode c_Search_isLayer 21 = .ok (.iconst 1, 1) := by decide +kernel
theorem d_Search_isLayer_22 : decode c_Search_isLayer 22 = .ok (.aload_n 0, 1) := by decide +kernel
theorem d_Search_isLayer_23 : decode c_Search_isLayer 23 = .ok (.getfield 9, 3) := by decide +kernel
theorem d_Search_isLayer_26 : decode c_Search_isLayer 26 = .ok (.iload_n 3, 1) := by decide +kernel
theorem d_Search_isLayer_27 : decode c_Search_isLayer 27 = .ok (.iaload, 1) := by decide +kernel
theorem d_Search_isLayer_28 : decode c_Search_isLayer 28 = .ok (.ishl, 1) := by decide +kernel
theorem d_Search_isLayer_29 : decode c_Search_isLayer 29 = .ok (.iconst 1, 1) := by decide +kernel
theorem d_Search_isLayer_30 : decode c_Search_isLayer 30 = .ok (.aload_n 0, 1) := by decide +kernel
theorem d_Search_isLayer_31 : decode c_Search_isLayer 31 = .ok (.getfield 13, 3) := by decide +kernel
theorem d_Search_isLayer_34 : decode c_Search_isLayer 34 = .ok (.iload_n 3, 1) := by decide +kernel
theorem d_Search_isLayer_35 : decode c_Search_isLayer 35 = .ok (.iaload, 1) := by decide +kernel
theorem d_Search_isLayer_36 : decode c_Search_isLayer 36 = .ok (.ishl, 1) := by decide +kernel
theorem d_Search_isLayer_37 : decode c_Search_isLayer 37 = .ok (.ior, 1) := by decide +kernel
theorem d_Search_isLayer_38 : decode c_Search_isLayer 38 = .ok (.istore 4, 2) := by decide +kernel
theorem d_Search_isLayer_40 : decode c_Search_isLayer 40 = .ok (.iload_n 2, 1) := by decide +kernel
theorem d_Search_isLayer_41 : decode c_Search_isLayer 41 = .ok (.iload 4, 2) := by decide +kernel
theorem d_Search_isLayer_43 : decode c_Search_isLayer 43 = .ok (.iand, 1) := by decide +kernel
theorem d_Search_isLayer_44 : decode c_Search_isLayer 44 = .ok (.ifCond .eq 5, 3) := by decide +kernel
theorem d_Search_isLayer_47 : decode c_Search_isLayer 47 = .ok (.iconst 0, 1) := by decide +kernel
theorem d_Search_isLayer_48 : decode c_Search_isLayer 48 = .ok (.ireturn, 1) := by decide +kernel
theorem d_Search_isLayer_49 : decode c_Search_isLayer 49 = .ok (.iload_n 2, 1) := by decide +kernel
theorem d_Search_isLayer_50 : decode c_Search_isLayer 50 = .ok (.iload 4, 2) := by decide +kernel
theorem d_Search_isLayer_52 : decode c_Search_isLayer 52 = .ok (.ior, 1) := by decide +kernel
theorem d_Search_isLayer_53 : decode c_Search_isLayer 53 = .ok (.istore_n 2, 1) := by decide +kernel
theorem d_Search_isLayer_54 : decode c_Search_isLayer 54 = .ok (.iinc 3 1, 3) := by decide +kernel
theorem d_Search_isLayer_57 : decode c_Search_isLayer 57 = .ok (.goto (-53), 3) := by decide +kernel
theorem d_Search_isLayer_60 : decode c_Search_isLayer 60 = .ok (.iconst 1, 1) := by decide +kernel
theorem d_Search_isLayer_61 : decode c_Search_isLayer 61 = .ok (.ireturn, 1) := by decide +kernel
theorem d_Search_listMoves_0 : decode c_Search_listMoves 0 = .ok (.aload_n 0, 1) := by decide +kernel
theorem d_Search_listMoves_1 : decode c_Search_listMoves 1 = .ok (.iconst 0, 1) := by decide +kernel
theorem d_Search_listMoves_2 : decode c_Search_listMoves 2 = .ok (.putfield 33, 3) := by decide +kernel
theorem d_Search_listMoves_5 : decode c_Search_listMoves 5 = .ok (.iconst 1, 1) := by decide +kernel
theorem d_Search_listMoves_6 : decode c_Search_listMoves 6 = .ok (.istore_n 2, 1) := by decide +kernel
theorem d_Search_listMoves_7 : decode c_Search_listMoves 7 = .ok (.iload_n 2, 1) := by decide +kernel
theorem d_Search_listMoves_8 : decode c_Search_listMoves 8 = .ok (.iconst 1, 1) := by decide +kernel
theorem d_Search_listMoves_9 : decode c_Search_listMoves 9 = .ok (.aload_n 0, 1) := by decide +kernel
theorem d_Search_listMoves_10 : decode c_Search_listMoves 10 = .ok (.getfield 30, 3) := by decide +kernel
theorem d_Search_listMoves_13 : decode c_Search_listMoves 13 = .ok (.ishl, 1) := by decide +kernel
theorem d_Search_listMoves_14 : decode c_Search_listMoves 14 = .ok (.if_icmp .ge 58, 3) := by decide +kernel
theorem d_Search_listMoves_17 : decode c_Search_listMoves 17 = .ok (.aload_n 0, 1) := by decide +kernel
theorem d_Search_listMoves_18 : decode c_Search_listMoves 18 = .ok (.getfield 33, 3) := by decide +kernel
theorem d_Search_listMoves_21 : decode c_Search_listMoves 21 = .ok (.bipush 26, 2) := by decide +kernel
theorem d_Search_listMoves_23 : decode c_Search_listMoves 23 = .ok (.if_icmp .ge 49, 3) := by decide +kernel
theorem d_Search_listMoves_26 : decode c_Search_listMoves 26 = .ok (.iload_n 2, 1) := by decide +kernel
theorem d_Search_listMoves_27 : decode c_Search_listMoves 27 = .ok (.invokestatic 71, 3) := by decide +kernel
theorem d_Search_listMoves_30 : decode c_Search_listMoves 30 = .ok (.iconst 1, 1) := by decide +kernel
theorem d_Search_listMoves_31 : decode c_Search_listMoves 31 = .ok (.if_icmp .eq 15, 3) := by decide +kernel
theorem d_Search_listMoves_34 : decode c_Search_listMoves 34 = .ok (.iload_n 1, 1) := by decide +kernel
theorem d_Search_listMoves_35 : decode c_Search_listMoves 35 = .ok (.ifCond .eq 31, 3) := by decide +kernel
theorem d_Search_listMoves_38 : decode c_Search_listMoves 38 = .ok (.aload_n 0, 1) := by decide +kernel
theorem d_Search_listMoves_39 : decode c_Search_listMoves 39 = .ok (.iload_n 2, 1) := by decide +kernel
theorem d_Search_listMoves_40 : decode c_Search_listMoves 40 = .ok (.invokevirtual 77, 3) := by decide +kernel
theorem d_Search_listMoves_43 : decode c_Search_listMoves 43 = .ok (.ifCond .eq 23, 3) := by decide +kernel
theorem d_Search_listMoves_46 : decode c_Search_listMoves 46 = .ok (.aload_n 0, 1) := by decide +kernel
theorem d_Search_listMoves_47 : decode c_Search_listMoves 47 = .ok (.getfield 16, 3) := by decide +kernel
theorem d_Search_listMoves_50 : decode c_Search_listMoves 50 = .ok (.aload_n 0, 1) := by decide +kernel
theorem d_Search_listMoves_51 : decode c_Search_listMoves 51 = .ok (.getfield 33, 3) := by decide +kernel
theorem d_Search_listMoves_54 : decode c_Search_listMoves 54 = .ok (.iload_n 2, 1) := by decide +kernel
theorem d_Search_listMoves_55 : decode c_Search_listMoves 55 = .ok (.iastore, 1) := by decide +kernel
theorem d_Search_listMoves_56 : decode c_Search_listMoves 56 = .ok (.aload_n 0, 1) := by decide +kernel
theorem d_Search_listMoves_57 : decode c_Search_listMoves 57 = .ok (.dup, 1) := by decide +kernel
theorem d_Search_listMoves_58 : decode c_Search_listMoves 58 = .ok (.getfield 33, 3) := by decide +kernel
theorem d_Search_listMoves_61 : decode c_Search_listMoves 61 = .ok (.iconst 1, 1) := by decide +kernel
theorem d_Search_listMoves_62 : decode c_Search_listMoves 62 = .ok (.iadd, 1) := by decide +kernel
theorem d_Search_listMoves_63 : decode c_Search_listMoves 63 = .ok (.putfield 33, 3) := by decide +kernel
theorem d_Search_listMoves_66 : decode c_Search_listMoves 66 = .ok (.iinc 2 1, 3) := by decide +kernel
theorem d_Search_listMoves_69 : decode c_Search_listMoves 69 = .ok (.goto (-62), 3) := by decide +kernel
theorem d_Search_listMoves_72 : decode c_Search_listMoves 72 = .ok (.return_, 1) := by decide +kernel
theorem d_Sets_all_0 : decode c_Sets_all 0 = .ok (.iload_n 0, 1) := by decide +kernel
theorem d_Sets_all_1 : decode c_Sets_all 1 = .ok (.bipush 6, 2) := by decide +kernel
theorem d_Sets_all_3 : decode c_Sets_all 3 = .ok (.if_icmp .lt 9, 3) := by decide +kernel
theorem d_Sets_all_6 : decode c_Sets_all 6 = .ok (.ldc2_w 9, 3) := by decide +kernel
theorem d_Sets_all_9 : decode c_Sets_all 9 = .ok (.goto 10, 3) := by decide +kernel
theorem d_Sets_all_12 : decode c_Sets_all 12 = .ok (.lconst 1, 1) := by decide +kernel
theorem d_Sets_all_13 : decode c_Sets_all 13 = .ok (.iconst 1, 1) := by decide +kernel
theorem d_Sets_all_14 : decode c_Sets_all 14 = .ok (.iload_n 0, 1) := by decide +kernel
theorem d_Sets_all_15 : decode c_Sets_all 15 = .ok (.ishl, 1) := by decide +kernel
theorem d_Sets_all_16 : decode c_Sets_all 16 = .ok (.lshl, 1) := by decide +kernel
theorem d_Sets_all_17 : decode c_Sets_all 17 = .ok (.lconst 1, 1) := by decide +kernel
theorem d_Sets_all_18 : decode c_Sets_all 18 = .ok (.lsub, 1) := by decide +kernel
theorem d_Sets_all_19 : decode c_Sets_all 19 = .ok (.lreturn, 1) := by decide +kernel
theorem d_Search_isOver_0 : decode c_Search_isOver 0 = .ok (.iconst 0, 1) := by decide +kernel
theorem d_Search_isOver_1 : decode c_Search_isOver 1 = .ok (.istore_n 1, 1) := by decide +kernel
theorem d_Search_isOver_2 : decode c_Search_isOver 2 = .ok (.iload_n 1, 1) := by decide +kernel
theorem d_Search_isOver_3 : decode c_Search_isOver 3 = .ok (.aload_n 0, 1) := by decide +kernel
theorem d_Search_isOver_4 : decode c_Search_isOver 4 = .ok (.getfield 36, 3) := by decide +kernel
theorem d_Search_isOver_7 : decode c_Search_isOver 7 = .ok (.if_icmp .ge 29, 3) := by decide +kernel
theorem d_Search_isOver_10 : decode c_Search_isOver 10 = .ok (.aload_n 0, 1) := by decide +kernel
theorem d_Search_isOver_11 : decode c_Search_isOver 11 = .ok (.getfield 19, 3) := by decide +kernel
theorem d_Search_isOver_14 : decode c_Search_isOver 14 = .ok (.iload_n 1, 1) := by decide +kernel
theorem d_Search_isOver_15 : decode c_Search_isOver 15 = .ok (.laload, 1) := by decide +kernel
theorem d_Search_isOver_16 : decode c_Search_isOver 16 = .ok (.invokestatic 81, 3) := by decide +kernel
theorem d_Search_isOver_19 : decode c_Search_isOver 19 = .ok (.aload_n 0, 1) := by decide +kernel
theorem d_Search_isOver_20 : decode c_Search_isOver 20 = .ok (.getfield 26, 3) := by decide +kernel
theorem d_Search_isOver_23 : decode c_Search_isOver 23 = .ok (.iconst 1, 1) := by decide +kernel
theorem d_Search_isOver_24 : decode c_Search_isOver 24 = .ok (.iadd, 1) := by decide +kernel
theorem d_Search_isOver_25 : decode c_Search_isOver 25 = .ok (.if_icmp .ne 5, 3) := by decide +kernel
theorem d_Search_isOver_28 : decode c_Search_isOver 28 = .ok (.iconst 1, 1) := by decide +kernel
theorem d_Search_isOver_29 : decode c_Search_isOver 29 = .ok (.ireturn, 1) := by decide +kernel
theorem d_Search_isOver_30 : decode c_Search_isOver 30 = .ok (.iinc 1 1, 3) := by decide +kernel
theorem d_Search_isOver_33 : decode c_Search_isOver 33 = .ok (.goto (-31), 3) := by decide +kernel
theorem d_Search_isOver_36 : decode c_Search_isOver 36 = .ok (.iconst 0, 1) := by decide +kernel
theorem d_Search_isOver_37 : decode c_Search_isOver 37 = .ok (.ireturn, 1) := by decide +kernel
theorem d_Sets_compared_0 : decode c_Sets_compared 0 = .ok (.lload_n 0, 1) := by decide +kernel
theorem d_Sets_compared_1 : decode c_Sets_compared 1 = .ok (.getstatic 11, 3) := by decide +kernel
theorem d_Sets_compared_4 : decode c_Sets_compared 4 = .ok (.iload_n 2, 1) := by decide +kernel
theorem d_Sets_compared_5 : decode c_Sets_compared 5 = .ok (.laload, 1) := by decide +kernel
theorem d_Sets_compared_6 : decode c_Sets_compared 6 = .ok (.land, 1) := by decide +kernel
theorem d_Sets_compared_7 : decode c_Sets_compared 7 = .ok (.getstatic 11, 3) := by decide +kernel
theorem d_Sets_compared_10 : decode c_Sets_compared 10 = .ok (.iload_n 3, 1) := by decide +kernel
theorem d_Sets_compared_11 : decode c_Sets_compared 11 = .ok (.laload, 1) := by decide +kernel
theorem d_Sets_compared_12 : decode c_Sets_compared 12 = .ok (.ldc2_w 9, 3) := by decide +kernel
theorem d_Sets_compared_15 : decode c_Sets_compared 15 = .ok (.lxor, 1) := by decide +kernel
theorem d_Sets_compared_16 : decode c_Sets_compared 16 = .ok (.land, 1) := by decide +kernel
theorem d_Sets_compared_17 : decode c_Sets_compared 17 = .ok (.lstore 4, 2) := by decide +kernel
theorem d_Sets_compared_19 : decode c_Sets_compared 19 = .ok (.lload_n 0, 1) := by decide +kernel
theorem d_Sets_compared_20 : decode c_Sets_compared 20 = .ok (.lload 4, 2) := by decide +kernel
theorem d_Sets_compared_22 : decode c_Sets_compared 22 = .ok (.lxor, 1) := by decide +kernel
theorem d_Sets_compared_23 : decode c_Sets_compared 23 = .ok (.lload 4, 2) := by decide +kernel
theorem d_Sets_compared_25 : decode c_Sets_compared 25 = .ok (.iconst 1, 1) := by decide +kernel
theorem d_Sets_compared_26 : decode c_Sets_compared 26 = .ok (.iload_n 3, 1) := by decide +kernel
theorem d_Sets_compared_27 : decode c_Sets_compared 27 = .ok (.ishl, 1) := by decide +kernel
theorem d_Sets_compared_28 : decode c_Sets_compared 28 = .ok (.iconst 1, 1) := by decide +kernel
theorem d_Sets_compared_29 : decode c_Sets_compared 29 = .ok (.iload_n 2, 1) := by decide +kernel
theorem d_Sets_compared_30 : decode c_Sets_compared 30 = .ok (.ishl, 1) := by decide +kernel
theorem d_Sets_compared_31 : decode c_Sets_compared 31 = .ok (.isub, 1) := by decide +kernel
theorem d_Sets_compared_32 : decode c_Sets_compared 32 = .ok (.lshl, 1) := by decide +kernel
theorem d_Sets_compared_33 : decode c_Sets_compared 33 = .ok (.lor, 1) := by decide +kernel
theorem d_Sets_compared_34 : decode c_Sets_compared 34 = .ok (.lreturn, 1) := by decide +kernel
theorem d_Search_moved_0 : decode c_Search_moved 0 = .ok (.lload_n 1, 1) := by decide +kernel
theorem d_Search_moved_1 : decode c_Search_moved 1 = .ok (.lstore 4, 2) := by decide +kernel
theorem d_Search_moved_3 : decode c_Search_moved 3 = .ok (.iconst 0, 1) := by decide +kernel
theorem d_Search_moved_4 : decode c_Search_moved 4 = .ok (.istore 6, 2) := by decide +kernel
theorem d_Search_moved_6 : decode c_Search_moved 6 = .ok (.iload 6, 2) := by decide +kernel
theorem d_Search_moved_8 : decode c_Search_moved 8 = .ok (.aload_n 0, 1) := by decide +kernel
theorem d_Search_moved_9 : decode c_Search_moved 9 = .ok (.getfield 30, 3) := by decide +kernel
theorem d_Search_moved_12 : decode c_Search_moved 12 = .ok (.if_icmp .ge 40, 3) := by decide +kernel
theorem d_Search_moved_15 : decode c_Search_moved 15 = .ok (.iload_n 3, 1) := by decide +kernel
theorem d_Search_moved_16 : decode c_Search_moved 16 = .ok (.iload 6, 2) := by decide +kernel
theorem d_Search_moved_18 : decode c_Search_moved 18 = .ok (.ishr, 1) := by decide +kernel
theorem d_Search_moved_19 : decode c_Search_moved 19 = .ok (.iconst 1, 1) := by decide +kernel
theorem d_Search_moved_20 : decode c_Search_moved 20 = .ok (.iand, 1) := by decide +kernel
theorem d_Search_moved_21 : decode c_Search_moved 21 = .ok (.iconst 1, 1) := by decide +kernel
theorem d_Search_moved_22 : decode c_Search_moved 22 = .ok (.if_icmp .ne 24, 3) := by decide +kernel
theorem d_Search_moved_25 : decode c_Search_moved 25 = .ok (.lload 4, 2) := by decide +kernel
theorem d_Search_moved_27 : decode c_Search_moved 27 = .ok (.aload_n 0, 1) := by decide +kernel
theorem d_Search_moved_28 : decode c_Search_moved 28 = .ok (.getfield 9, 3) := by decide +kernel
theorem d_Search_moved_31 : decode c_Search_moved 31 = .ok (.iload 6, 2) := by decide +kernel
theorem d_Search_moved_33 : decode c_Search_moved 33 = .ok (.iaload, 1) := by decide +kernel
theorem d_Search_moved_34 : decode c_Search_moved 34 = .ok (.aload_n 0, 1) := by decide +kernel
theorem d_Search_moved_35 : decode c_Search_moved 35 = .ok (.getfield 13, 3) := by decide +kernel
theorem d_Search_moved_38 : decode c_Search_moved 38 = .ok (.iload 6, 2) := by decide +kernel
theorem d_Search_moved_40 : decode c_Search_moved 40 = .ok (.iaload, 1) := by decide +kernel
theorem d_Search_moved_41 : decode c_Search_moved 41 = .ok (.invokestatic 93, 3) := by decide +kernel
theorem d_Search_moved_44 : decode c_Search_moved 44 = .ok (.lstore 4, 2) := by decide +kernel
theorem d_Search_moved_46 : decode c_Search_moved 46 = .ok (.iinc 6 1, 3) := by decide +kernel
theorem d_Search_moved_49 : decode c_Search_moved 49 = .ok (.goto (-43), 3) := by decide +kernel
theorem d_Search_moved_52 : decode c_Search_moved 52 = .ok (.lload 4, 2) := by decide +kernel
theorem d_Search_moved_54 : decode c_Search_moved 54 = .ok (.lreturn, 1) := by decide +kernel
theorem d_Sets_isWithin_0 : decode c_Sets_isWithin 0 = .ok (.lload_n 0, 1) := by decide +kernel
theorem d_Sets_isWithin_1 : decode c_Sets_isWithin 1 = .ok (.invokestatic 29, 3) := by decide +kernel
theorem d_Sets_isWithin_4 : decode c_Sets_isWithin 4 = .ok (.lload_n 2, 1) := by decide +kernel
theorem d_Sets_isWithin_5 : decode c_Sets_isWithin 5 = .ok (.invokestatic 29, 3) := by decide +kernel
theorem d_Sets_isWithin_8 : decode c_Sets_isWithin 8 = .ok (.if_icmp .gt 19, 3) := by decide +kernel
theorem d_Sets_isWithin_11 : decode c_Sets_isWithin 11 = .ok (.lload_n 0, 1) := by decide +kernel
theorem d_Sets_isWithin_12 : decode c_Sets_isWithin 12 = .ok (.lload_n 2, 1) := by decide +kernel
theorem d_Sets_isWithin_13 : decode c_Sets_isWithin 13 = .ok (.iload 4, 2) := by decide +kernel
theorem d_Sets_isWithin_15 : decode c_Sets_isWithin 15 = .ok (.iconst 0, 1) := by decide +kernel
theorem d_Sets_isWithin_16 : decode c_Sets_isWithin 16 = .ok (.iconst 1, 1) := by decide +kernel
theorem d_Sets_isWithin_17 : decode c_Sets_isWithin 17 = .ok (.invokestatic 25, 3) := by decide +kernel
theorem d_Sets_isWithin_20 : decode c_Sets_isWithin 20 = .ok (.ifCond .le 7, 3) := by decide +kernel
theorem d_Sets_isWithin_23 : decode c_Sets_isWithin 23 = .ok (.iconst 1, 1) := by decide +kernel
theorem d_Sets_isWithin_24 : decode c_Sets_isWithin 24 = .ok (.goto 4, 3) := by decide +kernel
theorem d_Sets_isWithin_27 : decode c_Sets_isWithin 27 = .ok (.iconst 0, 1) := by decide +kernel
theorem d_Sets_isWithin_28 : decode c_Sets_isWithin 28 = .ok (.ireturn, 1) := by decide +kernel
theorem d_Search_consider_0 : decode c_Search_consider 0 = .ok (.iconst 0, 1) := by decide +kernel
theorem d_Search_consider_1 : decode c_Search_consider 1 = .ok (.istore_n 3, 1) := by decide +kernel
theorem d_Search_consider_2 : decode c_Search_consider 2 = .ok (.iload_n 3, 1) := by decide +kernel
theorem d_Search_consider_3 : decode c_Search_consider 3 = .ok (.aload_n 0, 1) := by decide +kernel
theorem d_Search_consider_4 : decode c_Search_consider 4 = .ok (.getfield 39, 3) := by decide +kernel
theorem d_Search_consider_7 : decode c_Search_consider 7 = .ok (.if_icmp .ge 27, 3) := by decide +kernel
theorem d_Search_consider_10 : decode c_Search_consider 10 = .ok (.aload_n 0, 1) := by decide +kernel
theorem d_Search_consider_11 : decode c_Search_consider 11 = .ok (.getfield 23, 3) := by decide +kernel
theorem d_Search_consider_14 : decode c_Search_consider 14 = .ok (.iload_n 3, 1) := by decide +kernel
theorem d_Search_consider_15 : decode c_Search_consider 15 = .ok (.laload, 1) := by decide +kernel
theorem d_Search_consider_16 : decode c_Search_consider 16 = .ok (.lload_n 1, 1) := by decide +kernel
theorem d_Search_consider_17 : decode c_Search_consider 17 = .ok (.aload_n 0, 1) := by decide +kernel
theorem d_Search_consider_18 : decode c_Search_consider 18 = .ok (.getfield 26, 3) := by decide +kernel
theorem d_Search_consider_21 : decode c_Search_consider 21 = .ok (.invokestatic 97, 3) := by decide +kernel
theorem d_Search_consider_24 : decode c_Search_consider 24 = .ok (.ifCond .eq 4, 3) := by decide +kernel
theorem d_Search_consider_27 : decode c_Search_consider 27 = .ok (.return_, 1) := by decide +kernel
theorem d_Search_consider_28 : decode c_Search_consider 28 = .ok (.iinc 3 1, 3) := by decide +kernel
theorem d_Search_consider_31 : decode c_Search_consider 31 = .ok (.goto (-29), 3) := by decide +kernel
theorem d_Search_consider_34 : decode c_Search_consider 34 = .ok (.iconst 0, 1) := by decide +kernel
theorem d_Search_consider_35 : decode c_Search_consider 35 = .ok (.istore_n 3, 1) := by decide +kernel
theorem d_Search_consider_36 : decode c_Search_consider 36 = .ok (.iconst 0, 1) := by decide +kernel
theorem d_Search_consider_37 : decode c_Search_consider 37 = .ok (.istore 4, 2) := by decide +kernel
theorem d_Search_consider_39 : decode c_Search_consider 39 = .ok (.iload 4, 2) := by decide +kernel
theorem d_Search_consider_41 : decode c_Search_consider 41 = .ok (.aload_n 0, 1) := by decide +kernel
theorem d_Search_consider_42 : decode c_Search_consider 42 = .ok (.getfield 39, 3) := by decide +kernel
theorem d_Search_consider_45 : decode c_Search_consider 45 = .ok (.if_icmp .ge 43, 3) := by decide +kernel
theorem d_Search_consider_48 : decode c_Search_consider 48 = .ok (.lload_n 1, 1) := by decide +kernel
theorem d_Search_consider_49 : decode c_Search_consider 49 = .ok (.aload_n 0, 1) := by decide +kernel
theorem d_Search_consider_50 : decode c_Search_consider 50 = .ok (.getfield 23, 3) := by decide +kernel
theorem d_Search_consider_53 : decode c_Search_consider 53 = .ok (.iload 4, 2) := by decide +kernel
theorem d_Search_consider_55 : decode c_Search_consider 55 = .ok (.laload, 1) := by decide +kernel
theorem d_Search_consider_56 : decode c_Search_consider 56 = .ok (.aload_n 0, 1) := by decide +kernel
theorem d_Search_consider_57 : decode c_Search_consider 57 = .ok (.getfield 26, 3) := by decide +kernel
theorem d_Search_consider_60 : decode c_Search_consider 60 = .ok (.invokestatic 97, 3) := by decide +kernel
theorem d_Search_consider_63 : decode c_Search_consider 63 = .ok (.ifCond .ne 19, 3) := by decide +kernel
theorem d_Search_consider_66 : decode c_Search_consider 66 = .ok (.aload_n 0, 1) := by decide +kernel
theorem d_Search_consider_67 : decode c_Search_consider 67 = .ok (.getfield 23, 3) := by decide +kernel
theorem d_Search_consider_70 : decode c_Search_consider 70 = .ok (.iload_n 3, 1) := by decide +kernel
theorem d_Search_consider_71 : decode c_Search_consider 71 = .ok (.aload_n 0, 1) := by decide +kernel
theorem d_Search_consider_72 : decode c_Search_consider 72 = .ok (.getfield 23, 3) := by decide +kernel
theorem d_Search_consider_75 : decode c_Search_consider 75 = .ok (.iload 4, 2) := by decide +kernel
theorem d_Search_consider_77 : decode c_Search_consider 77 = .ok (.laload, 1) := by decide +kernel
theorem d_Search_consider_78 : decode c_Search_consider 78 = .ok (.lastore, 1) := by decide +kernel
theorem d_Search_consider_79 : decode c_Search_consider 79 = .ok (.iinc 3 1, 3) := by decide +kernel
theorem d_Search_consider_82 : decode c_Search_consider 82 = .ok (.iinc 4 1, 3) := by decide +kernel
theorem d_Search_consider_85 : decode c_Search_consider 85 = .ok (.goto (-46), 3) := by decide +kernel
theorem d_Search_consider_88 : decode c_Search_consider 88 = .ok (.aload_n 0, 1) := by decide +kernel
theorem d_Search_consider_89 : decode c_Search_consider 89 = .ok (.iload_n 3, 1) := by decide +kernel
theorem d_Search_consider_90 : decode c_Search_consider 90 = .ok (.putfield 39, 3) := by decide +kernel
theorem d_Search_consider_93 : decode c_Search_consider 93 = .ok (.aload_n 0, 1) := by decide +kernel
theorem d_Search_consider_94 : decode c_Search_consider 94 = .ok (.getfield 39, 3) := by decide +kernel
theorem d_Search_consider_97 : decode c_Search_consider 97 = .ok (.bipush 64, 2) := by decide +kernel
theorem d_Search_consider_99 : decode c_Search_consider 99 = .ok (.if_icmp .ge 23, 3) := by decide +kernel
theorem d_Search_consider_102 : decode c_Search_consider 102 = .ok (.aload_n 0, 1) := by decide +kernel
theorem d_Search_consider_103 : decode c_Search_consider 103 = .ok (.getfield 23, 3) := by decide +kernel
theorem d_Search_consider_106 : decode c_Search_consider 106 = .ok (.aload_n 0, 1) := by decide +kernel
theorem d_Search_consider_107 : decode c_Search_consider 107 = .ok (.getfield 39, 3) := by decide +kernel
theorem d_Search_consider_110 : decode c_Search_consider 110 = .ok (.lload_n 1, 1) := by decide +kernel
theorem d_Search_consider_111 : decode c_Search_consider 111 = .ok (.lastore, 1) := by decide +kernel
theorem d_Search_consider_112 : decode c_Search_consider 112 = .ok (.aload_n 0, 1) := by decide +kernel
theorem d_Search_consider_113 : decode c_Search_consider 113 = .ok (.dup, 1) := by decide +kernel
theorem d_Search_consider_114 : decode c_Search_consider 114 = .ok (.getfield 39, 3) := by decide +kernel
theorem d_Search_consider_117 : decode c_Search_consider 117 = .ok (.iconst 1, 1) := by decide +kernel
theorem d_Search_consider_118 : decode c_Search_consider 118 = .ok (.iadd, 1) := by decide +kernel
theorem d_Search_consider_119 : decode c_Search_consider 119 = .ok (.putfield 39, 3) := by decide +kernel
theorem d_Search_consider_122 : decode c_Search_consider 122 = .ok (.return_, 1) := by decide +kernel
theorem d_Search_makeStep_0 : decode c_Search_makeStep 0 = .ok (.aload_n 0, 1) := by decide +kernel
theorem d_Search_makeStep_1 : decode c_Search_makeStep 1 = .ok (.iconst 0, 1) := by decide +kernel
theorem d_Search_makeStep_2 : decode c_Search_makeStep 2 = .ok (.putfield 39, 3) := by decide +kernel
theorem d_Search_makeStep_5 : decode c_Search_makeStep 5 = .ok (.iconst 0, 1) := by decide +kernel
theorem d_Search_makeStep_6 : decode c_Search_makeStep 6 = .ok (.istore_n 1, 1) := by decide +kernel
theorem d_Search_makeStep_7 : decode c_Search_makeStep 7 = .ok (.iload_n 1, 1) := by decide +kernel
theorem d_Search_makeStep_8 : decode c_Search_makeStep 8 = .ok (.aload_n 0, 1) := by decide +kernel
theorem d_Search_makeStep_9 : decode c_Search_makeStep 9 = .ok (.getfield 36, 3) := by decide +kernel
theorem d_Search_makeStep_12 : decode c_Search_makeStep 12 = .ok (.if_icmp .ge 45, 3) := by decide +kernel
theorem d_Search_makeStep_15 : decode c_Search_makeStep 15 = .ok (.iconst 0, 1) := by decide +kernel
theorem d_Search_makeStep_16 : decode c_Search_makeStep 16 = .ok (.istore_n 2, 1) := by decide +kernel
theorem d_Search_makeStep_17 : decode c_Search_makeStep 17 = .ok (.iload_n 2, 1) := by decide +kernel
theorem d_Search_makeStep_18 : decode c_Search_makeStep 18 = .ok (.aload_n 0, 1) := by decide +kernel
theorem d_Search_makeStep_19 : decode c_Search_makeStep 19 = .ok (.getfield 33, 3) := by decide +kernel
theorem d_Search_makeStep_22 : decode c_Search_makeStep 22 = .ok (.if_icmp .ge 29, 3) := by decide +kernel
theorem d_Search_makeStep_25 : decode c_Search_makeStep 25 = .ok (.aload_n 0, 1) := by decide +kernel
theorem d_Search_makeStep_26 : decode c_Search_makeStep 26 = .ok (.aload_n 0, 1) := by decide +kernel
theorem d_Search_makeStep_27 : decode c_Search_makeStep 27 = .ok (.aload_n 0, 1) := by decide +kernel
theorem d_Search_makeStep_28 : decode c_Search_makeStep 28 = .ok (.getfield 19, 3) := by decide +kernel
theorem d_Search_makeStep_31 : decode c_Search_makeStep 31 = .ok (.iload_n 1, 1) := by decide +kernel
theorem d_Search_makeStep_32 : decode c_Search_makeStep 32 = .ok (.laload, 1) := by decide +kernel
theorem d_Search_makeStep_33 : decode c_Search_makeStep 33 = .ok (.aload_n 0, 1) := by decide +kernel
theorem d_Search_makeStep_34 : decode c_Search_makeStep 34 = .ok (.getfield 16, 3) := by decide +kernel
theorem d_Search_makeStep_37 : decode c_Search_makeStep 37 = .ok (.iload_n 2, 1) := by decide +kernel
theorem d_Search_makeStep_38 : decode c_Search_makeStep 38 = .ok (.iaload, 1) := by decide +kernel
theorem d_Search_makeStep_39 : decode c_Search_makeStep 39 = .ok (.invokevirtual 86, 3) := by decide +kernel
theorem d_Search_makeStep_42 : decode c_Search_makeStep 42 = .ok (.invokevirtual 90, 3) := by decide +kernel
theorem d_Search_makeStep_45 : decode c_Search_makeStep 45 = .ok (.iinc 2 1, 3) := by decide +kernel
theorem d_Search_makeStep_48 : decode c_Search_makeStep 48 = .ok (.goto (-31), 3) := by decide +kernel
theorem d_Search_makeStep_51 : decode c_Search_makeStep 51 = .ok (.iinc 1 1, 3) := by decide +kernel
theorem d_Search_makeStep_54 : decode c_Search_makeStep 54 = .ok (.goto (-47), 3) := by decide +kernel
theorem d_Search_makeStep_57 : decode c_Search_makeStep 57 = .ok (.iconst 0, 1) := by decide +kernel
theorem d_Search_makeStep_58 : decode c_Search_makeStep 58 = .ok (.istore_n 1, 1) := by decide +kernel
theorem d_Search_makeStep_59 : decode c_Search_makeStep 59 = .ok (.iload_n 1, 1) := by decide +kernel
theorem d_Search_makeStep_60 : decode c_Search_makeStep 60 = .ok (.aload_n 0, 1) := by decide +kernel
theorem d_Search_makeStep_61 : decode c_Search_makeStep 61 = .ok (.getfield 39, 3) := by decide +kernel
theorem d_Search_makeStep_64 : decode c_Search_makeStep 64 = .ok (.if_icmp .ge 21, 3) := by decide +kernel
theorem d_Search_makeStep_67 : decode c_Search_makeStep 67 = .ok (.aload_n 0, 1) := by decide +kernel
theorem d_Search_makeStep_68 : decode c_Search_makeStep 68 = .ok (.getfield 19, 3) := by decide +kernel
theorem d_Search_makeStep_71 : decode c_Search_makeStep 71 = .ok (.iload_n 1, 1) := by decide +kernel
theorem d_Search_makeStep_72 : decode c_Search_makeStep 72 = .ok (.aload_n 0, 1) := by decide +kernel
theorem d_Search_makeStep_73 : decode c_Search_makeStep 73 = .ok (.getfield 23, 3) := by decide +kernel
theorem d_Search_makeStep_76 : decode c_Search_makeStep 76 = .ok (.iload_n 1, 1) := by decide +kernel
theorem d_Search_makeStep_77 : decode c_Search_makeStep 77 = .ok (.laload, 1) := by decide +kernel
theorem d_Search_makeStep_78 : decode c_Search_makeStep 78 = .ok (.lastore, 1) := by decide +kernel
theorem d_Search_makeStep_79 : decode c_Search_makeStep 79 = .ok (.iinc 1 1, 3) := by decide +kernel
theorem d_Search_makeStep_82 : decode c_Search_makeStep 82 = .ok (.goto (-23), 3) := by decide +kernel
theorem d_Search_makeStep_85 : decode c_Search_makeStep 85 = .ok (.aload_n 0, 1) := by decide +kernel
theorem d_Search_makeStep_86 : decode c_Search_makeStep 86 = .ok (.aload_n 0, 1) := by decide +kernel
theorem d_Search_makeStep_87 : decode c_Search_makeStep 87 = .ok (.getfield 39, 3) := by decide +kernel
theorem d_Search_makeStep_90 : decode c_Search_makeStep 90 = .ok (.putfield 36, 3) := by decide +kernel
theorem d_Search_makeStep_93 : decode c_Search_makeStep 93 = .ok (.return_, 1) := by decide +kernel
theorem d_Search_tellSteps_0 : decode c_Search_tellSteps 0 = .ok (.aload_n 0, 1) := by decide +kernel
theorem d_Search_tellSteps_1 : decode c_Search_tellSteps 1 = .ok (.iload_n 1, 1) := by decide +kernel
theorem d_Search_tellSteps_2 : decode c_Search_tellSteps 2 = .ok (.putfield 26, 3) := by decide +kernel
theorem d_Search_tellSteps_5 : decode c_Search_tellSteps 5 = .ok (.aload_n 0, 1) := by decide +kernel
theorem d_Search_tellSteps_6 : decode c_Search_tellSteps 6 = .ok (.invokevirtual 42, 3) := by decide +kernel
theorem d_Search_tellSteps_9 : decode c_Search_tellSteps 9 = .ok (.aload_n 0, 1) := by decide +kernel
theorem d_Search_tellSteps_10 : decode c_Search_tellSteps 10 = .ok (.iload_n 2, 1) := by decide +kernel
theorem d_Search_tellSteps_11 : decode c_Search_tellSteps 11 = .ok (.invokevirtual 45, 3) := by decide +kernel
theorem d_Search_tellSteps_14 : decode c_Search_tellSteps 14 = .ok (.aload_n 0, 1) := by decide +kernel
theorem d_Search_tellSteps_15 : decode c_Search_tellSteps 15 = .ok (.getfield 19, 3) := by decide +kernel
theorem d_Search_tellSteps_18 : decode c_Search_tellSteps 18 = .ok (.iconst 0, 1) := by decide +kernel
theorem d_Search_tellSteps_19 : decode c_Search_tellSteps 19 = .ok (.iload_n 1, 1) := by decide +kernel
theorem d_Search_tellSteps_20 : decode c_Search_tellSteps 20 = .ok (.invokestatic 49, 3) := by decide +kernel
theorem d_Search_tellSteps_23 : decode c_Search_tellSteps 23 = .ok (.lastore, 1) := by decide +kernel
theorem d_Search_tellSteps_24 : decode c_Search_tellSteps 24 = .ok (.aload_n 0, 1) := by decide +kernel
theorem d_Search_tellSteps_25 : decode c_Search_tellSteps 25 = .ok (.iconst 1, 1) := by decide +kernel
theorem d_Search_tellSteps_26 : decode c_Search_tellSteps 26 = .ok (.putfield 36, 3) := by decide +kernel
theorem d_Search_tellSteps_29 : decode c_Search_tellSteps 29 = .ok (.aload_n 3, 1) := by decide +kernel
theorem d_Search_tellSteps_30 : decode c_Search_tellSteps 30 = .ok (.invokevirtual 55, 3) := by decide +kernel
theorem d_Search_tellSteps_33 : decode c_Search_tellSteps 33 = .ok (.iconst 0, 1) := by decide +kernel
theorem d_Search_tellSteps_34 : decode c_Search_tellSteps 34 = .ok (.istore 4, 2) := by decide +kernel
theorem d_Search_tellSteps_36 : decode c_Search_tellSteps 36 = .ok (.aload_n 0, 1) := by decide +kernel
theorem d_Search_tellSteps_37 : decode c_Search_tellSteps 37 = .ok (.invokevirtual 60, 3) := by decide +kernel
theorem d_Search_tellSteps_40 : decode c_Search_tellSteps 40 = .ok (.ifCond .ne 29, 3) := by decide +kernel
theorem d_Search_tellSteps_43 : decode c_Search_tellSteps 43 = .ok (.iload 4, 2) := by decide +kernel
theorem d_Search_tellSteps_45 : decode c_Search_tellSteps 45 = .ok (.bipush 16, 2) := by decide +kernel
theorem d_Search_tellSteps_47 : decode c_Search_tellSteps 47 = .ok (.if_icmp .ge 22, 3) := by decide +kernel
theorem d_Search_tellSteps_50 : decode c_Search_tellSteps 50 = .ok (.aload_n 0, 1) := by decide +kernel
theorem d_Search_tellSteps_51 : decode c_Search_tellSteps 51 = .ok (.invokevirtual 64, 3) := by decide +kernel
theorem d_Search_tellSteps_54 : decode c_Search_tellSteps 54 = .ok (.aload_n 3, 1) := by decide +kernel
theorem d_Search_tellSteps_55 : decode c_Search_tellSteps 55 = .ok (.aload_n 0, 1) := by decide +kernel
theorem d_Search_tellSteps_56 : decode c_Search_tellSteps 56 = .ok (.getfield 36, 3) := by decide +kernel
theorem d_Search_tellSteps_59 : decode c_Search_tellSteps 59 = .ok (.i2l, 1) := by decide +kernel
theorem d_Search_tellSteps_60 : decode c_Search_tellSteps 60 = .ok (.invokevirtual 67, 3) := by decide +kernel
theorem d_Search_tellSteps_63 : decode c_Search_tellSteps 63 = .ok (.iinc 4 1, 3) := by decide +kernel
theorem d_Search_tellSteps_66 : decode c_Search_tellSteps 66 = .ok (.goto (-30), 3) := by decide +kernel
theorem d_Search_tellSteps_69 : decode c_Search_tellSteps 69 = .ok (.iload 4, 2) := by decide +kernel
theorem d_Search_tellSteps_71 : decode c_Search_tellSteps 71 = .ok (.ireturn, 1) := by decide +kernel

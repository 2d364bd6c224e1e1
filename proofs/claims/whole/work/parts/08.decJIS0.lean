theorem d_Text_append_0 : decode c_Text_append 0 = .ok (.aload_n 0, 1) := by decide +kernel
theorem d_Text_append_1 : decode c_Text_append 1 = .ok (.getfield 15, 3) := by decide +kernel
theorem d_Text_append_4 : decode c_Text_append 4 = .ok (.iconst 4, 1) := by decide +kernel
theorem d_Text_append_5 : decode c_Text_append 5 = .ok (.iadd, 1) := by decide +kernel
theorem d_Text_append_6 : decode c_Text_append 6 = .ok (.sipush 200, 3) := by decide +kernel
theorem d_Text_append_9 : decode c_Text_append 9 = .ok (.if_icmp .le 5, 3) := by decide +kernel
theorem d_Text_append_12 : decode c_Text_append 12 = .ok (.iconst 0, 1) := by decide +kernel
theorem d_Text_append_13 : decode c_Text_append 13 = .ok (.ireturn, 1) := by decide +kernel
theorem d_Text_append_14 : decode c_Text_append 14 = .ok (.bipush 24, 2) := by decide +kernel
theorem d_Text_append_16 : decode c_Text_append 16 = .ok (.istore_n 2, 1) := by decide +kernel
theorem d_Text_append_17 : decode c_Text_append 17 = .ok (.iload_n 2, 1) := by decide +kernel
theorem d_Text_append_18 : decode c_Text_append 18 = .ok (.ifCond .lt 36, 3) := by decide +kernel
theorem d_Text_append_21 : decode c_Text_append 21 = .ok (.aload_n 0, 1) := by decide +kernel
theorem d_Text_append_22 : decode c_Text_append 22 = .ok (.getfield 9, 3) := by decide +kernel
theorem d_Text_append_25 : decode c_Text_append 25 = .ok (.aload_n 0, 1) := by decide +kernel
theorem d_Text_append_26 : decode c_Text_append 26 = .ok (.getfield 15, 3) := by decide +kernel
theorem d_Text_append_29 : decode c_Text_append 29 = .ok (.iload_n 1, 1) := by decide +kernel
theorem d_Text_append_30 : decode c_Text_append 30 = .ok (.iload_n 2, 1) := by decide +kernel
theorem d_Text_append_31 : decode c_Text_append 31 = .ok (.iushr, 1) := by decide +kernel
theorem d_Text_append_32 : decode c_Text_append 32 = .ok (.sipush 255, 3) := by decide +kernel
theorem d_Text_append_35 : decode c_Text_append 35 = .ok (.iand, 1) := by decide +kernel
theorem d_Text_append_36 : decode c_Text_append 36 = .ok (.i2c, 1) := by decide +kernel
theorem d_Text_append_37 : decode c_Text_append 37 = .ok (.castore, 1) := by decide +kernel
theorem d_Text_append_38 : decode c_Text_append 38 = .ok (.aload_n 0, 1) := by decide +kernel
theorem d_Text_append_39 : decode c_Text_append 39 = .ok (.dup, 1) := by decide +kernel
theorem d_Text_append_40 : decode c_Text_append 40 = .ok (.getfield 15, 3) := by decide +kernel
theorem d_Text_append_43 : decode c_Text_append 43 = .ok (.iconst 1, 1) := by decide +kernel
theorem d_Text_append_44 : decode c_Text_append 44 = .ok (.iadd, 1) := by decide +kernel
theorem d_Text_append_45 : decode c_Text_append 45 = .ok (.putfield 15, 3) := by decide +kernel
theorem d_Text_append_48 : decode c_Text_append 48 = .ok (.iinc 2 (-8), 3) := by decide +kernel
theorem d_Text_append_51 : decode c_Text_append 51 = .ok (.goto (-34), 3) := by decide +kernel
theorem d_Text_append_54 : decode c_Text_append 54 = .ok (.iconst 1, 1) := by decide +kernel
theorem d_Text_append_55 : decode c_Text_append 55 = .ok (.ireturn, 1) := by decide +kernel
theorem d_Text_signAt_0 : decode c_Text_signAt 0 = .ok (.iload_n 1, 1) := by decide +kernel
theorem d_Text_signAt_1 : decode c_Text_signAt 1 = .ok (.ifCond .lt 20, 3) := by decide +kernel
theorem d_Text_signAt_4 : decode c_Text_signAt 4 = .ok (.iload_n 1, 1) := by decide +kernel
theorem d_Text_signAt_5 : decode c_Text_signAt 5 = .ok (.aload_n 0, 1) := by decide +kernel
theorem d_Text_signAt_6 : decode c_Text_signAt 6 = .ok (.getfield 15, 3) := by decide +kernel
theorem d_Text_signAt_9 : decode c_Text_signAt 9 = .ok (.if_icmp .ge 12, 3) := by decide +kernel
theorem d_Text_signAt_12 : decode c_Text_signAt 12 = .ok (.aload_n 0, 1) := by decide +kernel
theorem d_Text_signAt_13 : decode c_Text_signAt 13 = .ok (.getfield 9, 3) := by decide +kernel
theorem d_Text_signAt_16 : decode c_Text_signAt 16 = .ok (.iload_n 1, 1) := by decide +kernel
theorem d_Text_signAt_17 : decode c_Text_signAt 17 = .ok (.caload, 1) := by decide +kernel
theorem d_Text_signAt_18 : decode c_Text_signAt 18 = .ok (.goto 4, 3) := by decide +kernel
theorem d_Text_signAt_21 : decode c_Text_signAt 21 = .ok (.iconst (-1), 1) := by decide +kernel
theorem d_Text_signAt_22 : decode c_Text_signAt 22 = .ok (.ireturn, 1) := by decide +kernel
theorem d_Text_digitAt_0 : decode c_Text_digitAt 0 = .ok (.aload_n 0, 1) := by decide +kernel
theorem d_Text_digitAt_1 : decode c_Text_digitAt 1 = .ok (.iload_n 1, 1) := by decide +kernel
theorem d_Text_digitAt_2 : decode c_Text_digitAt 2 = .ok (.invokevirtual 19, 3) := by decide +kernel
theorem d_Text_digitAt_5 : decode c_Text_digitAt 5 = .ok (.istore_n 2, 1) := by decide +kernel
theorem d_Text_digitAt_6 : decode c_Text_digitAt 6 = .ok (.iload_n 2, 1) := by decide +kernel
theorem d_Text_digitAt_7 : decode c_Text_digitAt 7 = .ok (.bipush 48, 2) := by decide +kernel
theorem d_Text_digitAt_9 : decode c_Text_digitAt 9 = .ok (.if_icmp .lt 16, 3) := by decide +kernel
theorem d_Text_digitAt_12 : decode c_Text_digitAt 12 = .ok (.iload_n 2, 1) := by decide +kernel
theorem d_Text_digitAt_13 : decode c_Text_digitAt 13 = .ok (.bipush 57, 2) := by decide +kernel
theorem d_Text_digitAt_15 : decode c_Text_digitAt 15 = .ok (.if_icmp .gt 10, 3) := by decide +kernel
theorem d_Text_digitAt_18 : decode c_Text_digitAt 18 = .ok (.iload_n 2, 1) := by decide +kernel
theorem d_Text_digitAt_19 : decode c_Text_digitAt 19 = .ok (.bipush 48, 2) := by decide +kernel
theorem d_Text_digitAt_21 : decode c_Text_digitAt 21 = .ok (.isub, 1) := by decide +kernel
theorem d_Text_digitAt_22 : decode c_Text_digitAt 22 = .ok (.goto 4, 3) := by decide +kernel
theorem d_Text_digitAt_25 : decode c_Text_digitAt 25 = .ok (.iconst (-1), 1) := by decide +kernel
theorem d_Text_digitAt_26 : decode c_Text_digitAt 26 = .ok (.ireturn, 1) := by decide +kernel
theorem d_Net_clear_0 : decode c_Net_clear 0 = .ok (.aload_n 0, 1) := by decide +kernel
theorem d_Net_clear_1 : decode c_Net_clear 1 = .ok (.iload_n 1, 1) := by decide +kernel
theorem d_Net_clear_2 : decode c_Net_clear 2 = .ok (.putfield 9, 3) := by decide +kernel
theorem d_Net_clear_5 : decode c_Net_clear 5 = .ok (.aload_n 0, 1) := by decide +kernel
theorem d_Net_clear_6 : decode c_Net_clear 6 = .ok (.iconst 0, 1) := by decide +kernel
theorem d_Net_clear_7 : decode c_Net_clear 7 = .ok (.putfield 15, 3) := by decide +kernel
theorem d_Net_clear_10 : decode c_Net_clear 10 = .ok (.return_, 1) := by decide +kernel
theorem d_Tangle_start_0 : decode c_Tangle_start 0 = .ok (.iconst 0, 1) := by decide +kernel
theorem d_Tangle_start_1 : decode c_Tangle_start 1 = .ok (.istore_n 2, 1) := by decide +kernel
theorem d_Tangle_start_2 : decode c_Tangle_start 2 = .ok (.iload_n 2, 1) := by decide +kernel
theorem d_Tangle_start_3 : decode c_Tangle_start 3 = .ok (.iload_n 1, 1) := by decide +kernel
theorem d_Tangle_start_4 : decode c_Tangle_start 4 = .ok (.if_icmp .ge 22, 3) := by decide +kernel
theorem d_Tangle_start_7 : decode c_Tangle_start 7 = .ok (.iload_n 2, 1) := by decide +kernel
theorem d_Tangle_start_8 : decode c_Tangle_start 8 = .ok (.bipush 8, 2) := by decide +kernel
theorem d_Tangle_start_10 : decode c_Tangle_start 10 = .ok (.if_icmp .ge 16, 3) := by decide +kernel
theorem d_Tangle_start_13 : decode c_Tangle_start 13 = .ok (.aload_n 0, 1) := by decide +kernel
theorem d_Tangle_start_14 : decode c_Tangle_start 14 = .ok (.getfield 9, 3) := by decide +kernel
theorem d_Tangle_start_17 : decode c_Tangle_start 17 = .ok (.iload_n 2, 1) := by decide +kernel
theorem d_Tangle_start_18 : decode c_Tangle_start 18 = .ok (.iload_n 2, 1) := by decide +kernel
theorem d_Tangle_start_19 : decode c_Tangle_start 19 = .ok (.iastore, 1) := by decide +kernel
theorem d_Tangle_start_20 : decode c_Tangle_start 20 = .ok (.iinc 2 1, 3) := by decide +kernel
theorem d_Tangle_start_23 : decode c_Tangle_start 23 = .ok (.goto (-21), 3) := by decide +kernel
theorem d_Tangle_start_26 : decode c_Tangle_start 26 = .ok (.return_, 1) := by decide +kernel
theorem d_Net_isWire_0 : decode c_Net_isWire 0 = .ok (.iload_n 1, 1) := by decide +kernel
theorem d_Net_isWire_1 : decode c_Net_isWire 1 = .ok (.ifCond .lt 15, 3) := by decide +kernel
theorem d_Net_isWire_4 : decode c_Net_isWire 4 = .ok (.iload_n 1, 1) := by decide +kernel
theorem d_Net_isWire_5 : decode c_Net_isWire 5 = .ok (.aload_n 0, 1) := by decide +kernel
theorem d_Net_isWire_6 : decode c_Net_isWire 6 = .ok (.getfield 9, 3) := by decide +kernel
theorem d_Net_isWire_9 : decode c_Net_isWire 9 = .ok (.if_icmp .ge 7, 3) := by decide +kernel
theorem d_Net_isWire_12 : decode c_Net_isWire 12 = .ok (.iconst 1, 1) := by decide +kernel
theorem d_Net_isWire_13 : decode c_Net_isWire 13 = .ok (.goto 4, 3) := by decide +kernel
theorem d_Net_isWire_16 : decode c_Net_isWire 16 = .ok (.iconst 0, 1) := by decide +kernel
theorem d_Net_isWire_17 : decode c_Net_isWire 17 = .ok (.ireturn, 1) := by decide +kernel
theorem d_Net_append_0 : decode c_Net_append 0 = .ok (.aload_n 0, 1) := by decide +kernel
theorem d_Net_append_1 : decode c_Net_append 1 = .ok (.getfield 15, 3) := by decide +kernel
theorem d_Net_append_4 : decode c_Net_append 4 = .ok (.bipush 60, 2) := by decide +kernel
theorem d_Net_append_6 : decode c_Net_append 6 = .ok (.if_icmp .lt 5, 3) := by decide +kernel
theorem d_Net_append_9 : decode c_Net_append 9 = .ok (.iconst 0, 1) := by decide +kernel
theorem d_Net_append_10 : decode c_Net_append 10 = .ok (.ireturn, 1) := by decide +kernel
theorem d_Net_append_11 : decode c_Net_append 11 = .ok (.aload_n 0, 1) := by decide +kernel
theorem d_Net_append_12 : decode c_Net_append 12 = .ok (.getfield 18, 3) := by decide +kernel
theorem d_Net_append_15 : decode c_Net_append 15 = .ok (.aload_n 0, 1) := by decide +kernel
theorem d_Net_append_16 : decode c_Net_append 16 = .ok (.getfield 15, 3) := by decide +kernel
theorem d_Net_append_19 : decode c_Net_append 19 = .ok (.iload_n 1, 1) := by decide +kernel
theorem d_Net_append_20 : decode c_Net_append 20 = .ok (.iastore, 1) := by decide +kernel
theorem d_Net_append_21 : decode c_Net_append 21 = .ok (.aload_n 0, 1) := by decide +kernel
theorem d_Net_append_22 : decode c_Net_append 22 = .ok (.getfield 22, 3) := by decide +kernel
theorem d_Net_append_25 : decode c_Net_append 25 = .ok (.aload_n 0, 1) := by decide +kernel
theorem d_Net_append_26 : decode c_Net_append 26 = .ok (.getfield 15, 3) := by decide +kernel
theorem d_Net_append_29 : decode c_Net_append 29 = .ok (.iload_n 2, 1) := by decide +kernel
theorem d_Net_append_30 : decode c_Net_append 30 = .ok (.iastore, 1) := by decide +kernel
theorem d_Net_append_31 : decode c_Net_append 31 = .ok (.aload_n 0, 1) := by decide +kernel
theorem d_Net_append_32 : decode c_Net_append 32 = .ok (.dup, 1) := by decide +kernel
theorem d_Net_append_33 : decode c_Net_append 33 = .ok (.getfield 15, 3) := by decide +kernel
theorem d_Net_append_36 : decode c_Net_append 36 = .ok (.iconst 1, 1) := by decide +kernel
theorem d_Net_append_37 : decode c_Net_append 37 = .ok (.iadd, 1) := by decide +kernel
theorem d_Net_append_38 : decode c_Net_append 38 = .ok (.putfield 15, 3) := by decide +kernel
theorem d_Net_append_41 : decode c_Net_append 41 = .ok (.iconst 1, 1) := by decide +kernel
theorem d_Net_append_42 : decode c_Net_append 42 = .ok (.ireturn, 1) := by decide +kernel
theorem d_Tangle_untangle_0 : decode c_Tangle_untangle 0 = .ok (.aload_n 0, 1) := by decide +kernel
theorem d_Tangle_untangle_1 : decode c_Tangle_untangle 1 = .ok (.getfield 9, 3) := by decide +kernel
theorem d_Tangle_untangle_4 : decode c_Tangle_untangle 4 = .ok (.iload_n 1, 1) := by decide +kernel
theorem d_Tangle_untangle_5 : decode c_Tangle_untangle 5 = .ok (.iaload, 1) := by decide +kernel
theorem d_Tangle_untangle_6 : decode c_Tangle_untangle 6 = .ok (.istore 4, 2) := by decide +kernel
theorem d_Tangle_untangle_8 : decode c_Tangle_untangle 8 = .ok (.aload_n 0, 1) := by decide +kernel
theorem d_Tangle_untangle_9 : decode c_Tangle_untangle 9 = .ok (.getfield 9, 3) := by decide +kernel
theorem d_Tangle_untangle_12 : decode c_Tangle_untangle 12 = .ok (.iload_n 2, 1) := by decide +kernel
theorem d_Tangle_untangle_13 : decode c_Tangle_untangle 13 = .ok (.iaload, 1) := by decide +kernel
theorem d_Tangle_untangle_14 : decode c_Tangle_untangle 14 = .ok (.istore 5, 2) := by decide +kernel
theorem d_Tangle_untangle_16 : decode c_Tangle_untangle 16 = .ok (.iload 4, 2) := by decide +kernel
theorem d_Tangle_untangle_18 : decode c_Tangle_untangle 18 = .ok (.iload 5, 2) := by decide +kernel
theorem d_Tangle_untangle_20 : decode c_Tangle_untangle 20 = .ok (.if_icmp .ge 15, 3) := by decide +kernel
theorem d_Tangle_untangle_23 : decode c_Tangle_untangle 23 = .ok (.aload_n 3, 1) := by decide +kernel
theorem d_Tangle_untangle_24 : decode c_Tangle_untangle 24 = .ok (.iload 4, 2) := by decide +kernel
theorem d_Tangle_untangle_26 : decode c_Tangle_untangle 26 = .ok (.iload 5, 2) := by decide +kernel
theorem d_Tangle_untangle_28 : decode c_Tangle_untangle 28 = .ok (.invokevirtual 15, 3) := by decide +kernel
theorem d_Tangle_untangle_31 : decode c_Tangle_untangle 31 = .ok (.pop, 1) := by decide +kernel
theorem d_Tangle_untangle_32 : decode c_Tangle_untangle 32 = .ok (.goto 28, 3) := by decide +kernel
theorem d_Tangle_untangle_35 : decode c_Tangle_untangle 35 = .ok (.aload_n 3, 1) := by decide +kernel
theorem d_Tangle_untangle_36 : decode c_Tangle_untangle 36 = .ok (.iload 5, 2) := by decide +kernel
theorem d_Tangle_untangle_38 : decode c_Tangle_untangle 38 = .ok (.iload 4, 2) := by decide +kernel
theorem d_Tangle_untangle_40 : decode c_Tangle_untangle 40 = .ok (.invokevirtual 15, 3) := by decide +kernel
theorem d_Tangle_untangle_43 : decode c_Tangle_untangle 43 = .ok (.pop, 1) := by decide +kernel
theorem d_Tangle_untangle_44 : decode c_Tangle_untangle 44 = .ok (.aload_n 0, 1) := by decide +kernel
theorem d_Tangle_untangle_45 : decode c_Tangle_untangle 45 = .ok (.getfield 9, 3) := by decide +kernel
theorem d_Tangle_untangle_48 : decode c_Tangle_untangle 48 = .ok (.iload_n 1, 1) := by decide +kernel
theorem d_Tangle_untangle_49 : decode c_Tangle_untangle 49 = .ok (.iload 5, 2) := by decide +kernel
theorem d_Tangle_untangle_51 : decode c_Tangle_untangle 51 = .ok (.iastore, 1) := by decide +kernel
theorem d_Tangle_untangle_52 : decode c_Tangle_untangle 52 = .ok (.aload_n 0, 1) := by decide +kernel
theorem d_Tangle_untangle_53 : decode c_Tangle_untangle 53 = .ok (.getfield 9, 3) := by decide +kernel
theorem d_Tangle_untangle_56 : decode c_Tangle_untangle 56 = .ok (.iload_n 2, 1) := by decide +kernel
theorem d_Tangle_untangle_57 : decode c_Tangle_untangle 57 = .ok (.iload 4, 2) := by decide +kernel
theorem d_Tangle_untangle_59 : decode c_Tangle_untangle 59 = .ok (.iastore, 1) := by decide +kernel
theorem d_Tangle_untangle_60 : decode c_Tangle_untangle 60 = .ok (.return_, 1) := by decide +kernel
theorem d_Net_take_0 : decode c_Net_take 0 = .ok (.aload_n 0, 1) := by decide +kernel
theorem d_Net_take_1 : decode c_Net_take 1 = .ok (.aload_n 1, 1) := by decide +kernel
theorem d_Net_take_2 : decode c_Net_take 2 = .ok (.getfield 9, 3) := by decide +kernel
theorem d_Net_take_5 : decode c_Net_take 5 = .ok (.putfield 9, 3) := by decide +kernel
theorem d_Net_take_8 : decode c_Net_take 8 = .ok (.aload_n 0, 1) := by decide +kernel
theorem d_Net_take_9 : decode c_Net_take 9 = .ok (.aload_n 1, 1) := by decide +kernel
theorem d_Net_take_10 : decode c_Net_take 10 = .ok (.getfield 15, 3) := by decide +kernel
theorem d_Net_take_13 : decode c_Net_take 13 = .ok (.putfield 15, 3) := by decide +kernel
theorem d_Net_take_16 : decode c_Net_take 16 = .ok (.iconst 0, 1) := by decide +kernel
theorem d_Net_take_17 : decode c_Net_take 17 = .ok (.istore_n 2, 1) := by decide +kernel
theorem d_Net_take_18 : decode c_Net_take 18 = .ok (.iload_n 2, 1) := by decide +kernel
theorem d_Net_take_19 : decode c_Net_take 19 = .ok (.aload_n 0, 1) := by decide +kernel
theorem d_Net_take_20 : decode c_Net_take 20 = .ok (.getfield 15, 3) := by decide +kernel
theorem d_Net_take_23 : decode c_Net_take 23 = .ok (.if_icmp .ge 33, 3) := by decide +kernel
theorem d_Net_take_26 : decode c_Net_take 26 = .ok (.aload_n 0, 1) := by decide +kernel
theorem d_Net_take_27 : decode c_Net_take 27 = .ok (.getfield 18, 3) := by decide +kernel
theorem d_Net_take_30 : decode c_Net_take 30 = .ok (.iload_n 2, 1) := by decide +kernel
theorem d_Net_take_31 : decode c_Net_take 31 = .ok (.aload_n 1, 1) := by decide +kernel
theorem d_Net_take_32 : decode c_Net_take 32 = .ok (.getfield 18, 3) := by decide +kernel
theorem d_Net_take_35 : decode c_Net_take 35 = .ok (.iload_n 2, 1) := by decide +kernel
theorem d_Net_take_36 : decode c_Net_take 36 = .ok (.iaload, 1) := by decide +kernel
theorem d_Net_take_37 : decode c_Net_take 37 = .ok (.iastore, 1) := by decide +kernel
theorem d_Net_take_38 : decode c_Net_take 38 = .ok (.aload_n 0, 1) := by decide +kernel
theorem d_Net_take_39 : decode c_Net_take 39 = .ok (.getfield 22, 3) := by decide +kernel
theorem d_Net_take_42 : decode c_Net_take 42 = .ok (.iload_n 2, 1) := by decide +kernel
theorem d_Net_take_43 : decode c_Net_take 43 = .ok (.aload_n 1, 1) := by decide +kernel
theorem d_Net_take_44 : decode c_Net_take 44 = .ok (.getfield 22, 3) := by decide +kernel
theorem d_Net_take_47 : decode c_Net_take 47 = .ok (.iload_n 2, 1) := by decide +kernel
theorem d_Net_take_48 : decode c_Net_take 48 = .ok (.iaload, 1) := by decide +kernel
theorem d_Net_take_49 : decode c_Net_take 49 = .ok (.iastore, 1) := by decide +kernel
theorem d_Net_take_50 : decode c_Net_take 50 = .ok (.iinc 2 1, 3) := by decide +kernel
theorem d_Net_take_53 : decode c_Net_take 53 = .ok (.goto (-35), 3) := by decide +kernel
theorem d_Net_take_56 : decode c_Net_take 56 = .ok (.return_, 1) := by decide +kernel
theorem d_Numbers_clear_0 : decode c_Numbers_clear 0 = .ok (.aload_n 0, 1) := by decide +kernel
theorem d_Numbers_clear_1 : decode c_Numbers_clear 1 = .ok (.iconst 0, 1) := by decide +kernel
theorem d_Numbers_clear_2 : decode c_Numbers_clear 2 = .ok (.putfield 13, 3) := by decide +kernel
theorem d_Numbers_clear_5 : decode c_Numbers_clear 5 = .ok (.return_, 1) := by decide +kernel
theorem d_Tangle_placeOf_0 : decode c_Tangle_placeOf 0 = .ok (.aload_n 0, 1) := by decide +kernel
theorem d_Tangle_placeOf_1 : decode c_Tangle_placeOf 1 = .ok (.getfield 9, 3) := by decide +kernel
theorem d_Tangle_placeOf_4 : decode c_Tangle_placeOf 4 = .ok (.iload_n 1, 1) := by decide +kernel
theorem d_Tangle_placeOf_5 : decode c_Tangle_placeOf 5 = .ok (.iaload, 1) := by decide +kernel
theorem d_Tangle_placeOf_6 : decode c_Tangle_placeOf 6 = .ok (.ireturn, 1) := by decide +kernel
theorem d_Numbers_append_0 : decode c_Numbers_append 0 = .ok (.aload_n 0, 1) := by decide +kernel
theorem d_Numbers_append_1 : decode c_Numbers_append 1 = .ok (.getfield 13, 3) := by decide +kernel
theorem d_Numbers_append_4 : decode c_Numbers_append 4 = .ok (.bipush 64, 2) := by decide +kernel
theorem d_Numbers_append_6 : decode c_Numbers_append 6 = .ok (.if_icmp .ge 23, 3) := by decide +kernel
theorem d_Numbers_append_9 : decode c_Numbers_append 9 = .ok (.aload_n 0, 1) := by decide +kernel
theorem d_Numbers_append_10 : decode c_Numbers_append 10 = .ok (.getfield 9, 3) := by decide +kernel
theorem d_Numbers_append_13 : decode c_Numbers_append 13 = .ok (.aload_n 0, 1) := by decide +kernel
theorem d_Numbers_append_14 : decode c_Numbers_append 14 = .ok (.getfield 13, 3) := by decide +kernel
theorem d_Numbers_append_17 : decode c_Numbers_append 17 = .ok (.lload_n 1, 1) := by decide +kernel
theorem d_Numbers_append_18 : decode c_Numbers_append 18 = .ok (.lastore, 1) := by decide +kernel
theorem d_Numbers_append_19 : decode c_Numbers_append 19 = .ok (.aload_n 0, 1) := by decide +kernel
theorem d_Numbers_append_20 : decode c_Numbers_append 20 = .ok (.dup, 1) := by decide +kernel
theorem d_Numbers_append_21 : decode c_Numbers_append 21 = .ok (.getfield 13, 3) := by decide +kernel
theorem d_Numbers_append_24 : decode c_Numbers_append 24 = .ok (.iconst 1, 1) := by decide +kernel
theorem d_Numbers_append_25 : decode c_Numbers_append 25 = .ok (.iadd, 1) := by decide +kernel
theorem d_Numbers_append_26 : decode c_Numbers_append 26 = .ok (.putfield 13, 3) := by decide +kernel
theorem d_Numbers_append_29 : decode c_Numbers_append 29 = .ok (.return_, 1) := by decide +kernel
theorem d_Trial_column_0 : decode c_Trial_column 0 = .ok (.iload_n 0, 1) := by decide +kernel
theorem d_Trial_column_1 : decode c_Trial_column 1 = .ok (.getstatic 30, 3) := by decide +kernel
theorem d_Trial_column_4 : decode c_Trial_column 4 = .ok (.arraylength, 1) := by decide +kernel
theorem d_Trial_column_5 : decode c_Trial_column 5 = .ok (.if_icmp .ge 9, 3) := by decide +kernel
theorem d_Trial_column_8 : decode c_Trial_column 8 = .ok (.getstatic 30, 3) := by decide +kernel
theorem d_Trial_column_11 : decode c_Trial_column 11 = .ok (.iload_n 0, 1) := by decide +kernel
theorem d_Trial_column_12 : decode c_Trial_column 12 = .ok (.laload, 1) := by decide +kernel
theorem d_Trial_column_13 : decode c_Trial_column 13 = .ok (.lreturn, 1) := by decide +kernel
theorem d_Trial_column_14 : decode c_Trial_column 14 = .ok (.iload_n 1, 1) := by decide +kernel
theorem d_Trial_column_15 : decode c_Trial_column 15 = .ok (.iload_n 0, 1) := by decide +kernel
theorem d_Trial_column_16 : decode c_Trial_column 16 = .ok (.getstatic 30, 3) := by decide +kernel
theorem d_Trial_column_19 : decode c_Trial_column 19 = .ok (.arraylength, 1) := by decide +kernel
theorem d_Trial_column_20 : decode c_Trial_column 20 = .ok (.isub, 1) := by decide +kernel
theorem d_Trial_column_21 : decode c_Trial_column 21 = .ok (.ishr, 1) := by decide +kernel
theorem d_Trial_column_22 : decode c_Trial_column 22 = .ok (.iconst 1, 1) := by decide +kernel
theorem d_Trial_column_23 : decode c_Trial_column 23 = .ok (.iand, 1) := by decide +kernel
theorem d_Trial_column_24 : decode c_Trial_column 24 = .ok (.iconst 1, 1) := by decide +kernel
theorem d_Trial_column_25 : decode c_Trial_column 25 = .ok (.if_icmp .ne 9, 3) := by decide +kernel
theorem d_Trial_column_28 : decode c_Trial_column 28 = .ok (.ldc2_w 24, 3) := by decide +kernel
theorem d_Trial_column_31 : decode c_Trial_column 31 = .ok (.goto 4, 3) := by decide +kernel
theorem d_Trial_column_34 : decode c_Trial_column 34 = .ok (.lconst 0, 1) := by decide +kernel
theorem d_Trial_column_35 : decode c_Trial_column 35 = .ok (.lreturn, 1) := by decide +kernel
theorem d_Trial_start_0 : decode c_Trial_start 0 = .ok (.aload_n 0, 1) := by decide +kernel
theorem d_Trial_start_1 : decode c_Trial_start 1 = .ok (.iload_n 1, 1) := by decide +kernel
theorem d_Trial_start_2 : decode c_Trial_start 2 = .ok (.putfield 17, 3) := by decide +kernel
theorem d_Trial_start_5 : decode c_Trial_start 5 = .ok (.aload_n 0, 1) := by decide +kernel
theorem d_Trial_start_6 : decode c_Trial_start 6 = .ok (.iload_n 1, 1) := by decide +kernel
theorem d_Trial_start_7 : decode c_Trial_start 7 = .ok (.bipush 6, 2) := by decide +kernel
theorem d_Trial_start_9 : decode c_Trial_start 9 = .ok (.if_icmp .gt 7, 3) := by decide +kernel
theorem d_Trial_start_12 : decode c_Trial_start 12 = .ok (.iconst 1, 1) := by decide +kernel
theorem d_Trial_start_13 : decode c_Trial_start 13 = .ok (.goto 9, 3) := by decide +kernel
theorem d_Trial_start_16 : decode c_Trial_start 16 = .ok (.iconst 1, 1) := by decide +kernel
theorem d_Trial_start_17 : decode c_Trial_start 17 = .ok (.iload_n 1, 1) := by decide +kernel
theorem d_Trial_start_18 : decode c_Trial_start 18 = .ok (.bipush 6, 2) := by decide +kernel
theorem d_Trial_start_20 : decode c_Trial_start 20 = .ok (.isub, 1) := by decide +kernel
theorem d_Trial_start_21 : decode c_Trial_start 21 = .ok (.ishl, 1) := by decide +kernel
theorem d_Trial_start_22 : decode c_Trial_start 22 = .ok (.putfield 21, 3) := by decide +kernel
theorem d_Trial_start_25 : decode c_Trial_start 25 = .ok (.iload_n 1, 1) := by decide +kernel
theorem d_Trial_start_26 : decode c_Trial_start 26 = .ok (.bipush 6, 2) := by decide +kernel
theorem d_Trial_start_28 : decode c_Trial_start 28 = .ok (.if_icmp .lt 9, 3) := by decide +kernel
theorem d_Trial_start_31 : decode c_Trial_start 31 = .ok (.ldc2_w 24, 3) := by decide +kernel
theorem d_Trial_start_34 : decode c_Trial_start 34 = .ok (.goto 10, 3) := by decide +kernel
theorem d_Trial_start_37 : decode c_Trial_start 37 = .ok (.lconst 1, 1) := by decide +kernel
theorem d_Trial_start_38 : decode c_Trial_start 38 = .ok (.iconst 1, 1) := by decide +kernel
theorem d_Trial_start_39 : decode c_Trial_start 39 = .ok (.iload_n 1, 1) := by decide +kernel
theorem d_Trial_start_40 : decode c_Trial_start 40 = .ok (.ishl, 1) := by decide +kernel
theorem d_Trial_start_41 : decode c_Trial_start 41 = .ok (.lshl, 1) := by decide +kernel
theorem d_Trial_start_42 : decode c_Trial_start 42 = .ok (.lconst 1, 1) := by decide +kernel
theorem d_Trial_start_43 : decode c_Trial_start 43 = .ok (.lsub, 1) := by decide +kernel
theorem d_Trial_start_44 : decode c_Trial_start 44 = .ok (.lstore_n 2, 1) := by decide +kernel
theorem d_Trial_start_45 : decode c_Trial_start 45 = .ok (.iconst 0, 1) := by decide +kernel
theorem d_Trial_start_46 : decode c_Trial_start 46 = .ok (.istore 4, 2) := by decide +kernel
theorem d_Trial_start_48 : decode c_Trial_start 48 = .ok (.iload 4, 2) := by decide +kernel
theorem d_Trial_start_50 : decode c_Trial_start 50 = .ok (.iload_n 1, 1) := by decide +kernel
theorem d_Trial_start_51 : decode c_Trial_start 51 = .ok (.if_icmp .ge 48, 3) := by decide +kernel
theorem d_Trial_start_54 : decode c_Trial_start 54 = .ok (.iconst 0, 1) := by decide +kernel
theorem d_Trial_start_55 : decode c_Trial_start 55 = .ok (.istore 5, 2) := by decide +kernel
theorem d_Trial_start_57 : decode c_Trial_start 57 = .ok (.iload 5, 2) := by decide +kernel
theorem d_Trial_start_59 : decode c_Trial_start 59 = .ok (.aload_n 0, 1) := by decide +kernel
theorem d_Trial_start_60 : decode c_Trial_start 60 = .ok (.getfield 21, 3) := by decide +kernel
theorem d_Trial_start_63 : decode c_Trial_start 63 = .ok (.if_icmp .ge 30, 3) := by decide +kernel
theorem d_Trial_start_66 : decode c_Trial_start 66 = .ok (.aload_n 0, 1) := by decide +kernel
theorem d_Trial_start_67 : decode c_Trial_start 67 = .ok (.getfield 13, 3) := by decide +kernel
theorem d_Trial_start_70 : decode c_Trial_start 70 = .ok (.iconst 4, 1) := by decide +kernel
theorem d_Trial_start_71 : decode c_Trial_start 71 = .ok (.iload 4, 2) := by decide +kernel
theorem d_Trial_start_73 : decode c_Trial_start 73 = .ok (.imul, 1) := by decide +kernel
theorem d_Trial_start_74 : decode c_Trial_start 74 = .ok (.iload 5, 2) := by decide +kernel
theorem d_Trial_start_76 : decode c_Trial_start 76 = .ok (.iadd, 1) := by decide +kernel
theorem d_Trial_start_77 : decode c_Trial_start 77 = .ok (.iload 4, 2) := by decide +kernel
theorem d_Trial_start_79 : decode c_Trial_start 79 = .ok (.iload 5, 2) := by decide +kernel
theorem d_Trial_start_81 : decode c_Trial_start 81 = .ok (.invokestatic 26, 3) := by decide +kernel
theorem d_Trial_start_84 : decode c_Trial_start 84 = .ok (.lload_n 2, 1) := by decide +kernel
theorem d_Trial_start_85 : decode c_Trial_start 85 = .ok (.land, 1) := by decide +kernel
theorem d_Trial_start_86 : decode c_Trial_start 86 = .ok (.lastore, 1) := by decide +kernel
theorem d_Trial_start_87 : decode c_Trial_start 87 = .ok (.iinc 5 1, 3) := by decide +kernel
theorem d_Trial_start_90 : decode c_Trial_start 90 = .ok (.goto (-33), 3) := by decide +kernel
theorem d_Trial_start_93 : decode c_Trial_start 93 = .ok (.iinc 4 1, 3) := by decide +kernel
theorem d_Trial_start_96 : decode c_Trial_start 96 = .ok (.goto (-48), 3) := by decide +kernel
theorem d_Trial_start_99 : decode c_Trial_start 99 = .ok (.return_, 1) := by decide +kernel
theorem d_Trial_compare_0 : decode c_Trial_compare 0 = .ok (.iconst 0, 1) := by decide +kernel
theorem d_Trial_compare_1 : decode c_Trial_compare 1 = .ok (.istore_n 3, 1) := by decide +kernel
theorem d_Trial_compare_2 : decode c_Trial_compare 2 = .ok (.iload_n 3, 1) := by decide +kernel
theorem d_Trial_compare_3 : decode c_Trial_compare 3 = .ok (.aload_n 0, 1) := by decide +kernel
theorem d_Trial_compare_4 : decode c_Trial_compare 4 = .ok (.getfield 21, 3) := by decide +kernel
theorem d_Trial_compare_7 : decode c_Trial_compare 7 = .ok (.if_icmp .ge 63, 3) := by decide +kernel
theorem d_Trial_compare_10 : decode c_Trial_compare 10 = .ok (.aload_n 0, 1) := by decide +kernel
theorem d_Trial_compare_11 : decode c_Trial_compare 11 = .ok (.getfield 13, 3) := by decide +kernel
theorem d_Trial_compare_14 : decode c_Trial_compare 14 = .ok (.iconst 4, 1) := by decide +kernel
theorem d_Trial_compare_15 : decode c_Trial_compare 15 = .ok (.iload_n 1, 1) := by decide +kernel
theorem d_Trial_compare_16 : decode c_Trial_compare 16 = .ok (.imul, 1) := by decide +kernel
theorem d_Trial_compare_17 : decode c_Trial_compare 17 = .ok (.iload_n 3, 1) := by decide +kernel
theorem d_Trial_compare_18 : decode c_Trial_compare 18 = .ok (.iadd, 1) := by decide +kernel
theorem d_Trial_compare_19 : decode c_Trial_compare 19 = .ok (.laload, 1) := by decide +kernel
theorem d_Trial_compare_20 : decode c_Trial_compare 20 = .ok (.lstore 4, 2) := by decide +kernel
theorem d_Trial_compare_22 : decode c_Trial_compare 22 = .ok (.aload_n 0, 1) := by decide +kernel
theorem d_Trial_compare_23 : decode c_Trial_compare 23 = .ok (.getfield 13, 3) := by decide +kernel
theorem d_Trial_compare_26 : decode c_Trial_compare 26 = .ok (.iconst 4, 1) := by decide +kernel
theorem d_Trial_compare_27 : decode c_Trial_compare 27 = .ok (.iload_n 2, 1) := by decide +kernel
theorem d_Trial_compare_28 : decode c_Trial_compare 28 = .ok (.imul, 1) := by decide +kernel
theorem d_Trial_compare_29 : decode c_Trial_compare 29 = .ok (.iload_n 3, 1) := by decide +kernel
theorem d_Trial_compare_30 : decode c_Trial_compare 30 = .ok (.iadd, 1) := by decide +kernel
theorem d_Trial_compare_31 : decode c_Trial_compare 31 = .ok (.laload, 1) := by decide +kernel
theorem d_Trial_compare_32 : decode c_Trial_compare 32 = .ok (.lstore 6, 2) := by decide +kernel
theorem d_Trial_compare_34 : decode c_Trial_compare 34 = .ok (.aload_n 0, 1) := by decide +kernel
theorem d_Trial_compare_35 : decode c_Trial_compare 35 = .ok (.getfield 13, 3) := by decide +kernel
theorem d_Trial_compare_38 : decode c_Trial_compare 38 = .ok (.iconst 4, 1) := by decide +kernel
theorem d_Trial_compare_39 : decode c_Trial_compare 39 = .ok (.iload_n 1, 1) := by decide +kernel
theorem d_Trial_compare_40 : decode c_Trial_compare 40 = .ok (.imul, 1) := by decide +kernel
theorem d_Trial_compare_41 : decode c_Trial_compare 41 = .ok (.iload_n 3, 1) := by decide +kernel
theorem d_Trial_compare_42 : decode c_Trial_compare 42 = .ok (.iadd, 1) := by decide +kernel
theorem d_Trial_compare_43 : decode c_Trial_compare 43 = .ok (.lload 4, 2) := by decide +kernel
theorem d_Trial_compare_45 : decode c_Trial_compare 45 = .ok (.lload 6, 2) := by decide +kernel
theorem d_Trial_compare_47 : decode c_Trial_compare 47 = .ok (.land, 1) := by decide +kernel
theorem d_Trial_compare_48 : decode c_Trial_compare 48 = .ok (.lastore, 1) := by decide +kernel
theorem d_Trial_compare_49 : decode c_Trial_compare 49 = .ok (.aload_n 0, 1) := by decide +kernel
theorem d_Trial_compare_50 : decode c_Trial_compare 50 = .ok (.getfield 13, 3) := by decide +kernel
theorem d_Trial_compare_53 : decode c_Trial_compare 53 = .ok (.iconst 4, 1) := by decide +kernel
theorem d_Trial_compare_54 : decode c_Trial_compare 54 = .ok (.iload_n 2, 1) := by decide +kernel
theorem d_Trial_compare_55 : decode c_Trial_compare 55 = .ok (.imul, 1) := by decide +kernel
theorem d_Trial_compare_56 : decode c_Trial_compare 56 = .ok (.iload_n 3, 1) := by decide +kernel
theorem d_Trial_compare_57 : decode c_Trial_compare 57 = .ok (.iadd, 1) := by decide +kernel
theorem d_Trial_compare_58 : decode c_Trial_compare 58 = .ok (.lload 4, 2) := by decide +kernel
theorem d_Trial_compare_60 : decode c_Trial_compare 60 = .ok (.lload 6, 2) := by decide +kernel
theorem d_Trial_compare_62 : decode c_Trial_compare 62 = .ok (.lor, 1) := by decide +kernel
theorem d_Trial_compare_63 : decode c_Trial_compare 63 = .ok (.lastore, 1) := by decide +kernel
theorem d_Trial_compare_64 : decode c_Trial_compare 64 = .ok (.iinc 3 1, 3) := by decide +kernel
theorem d_Trial_compare_67 : decode c_Trial_compare 67 = .ok (.goto (-65), 3) := by decide +kernel
theorem d_Trial_compare_70 : decode c_Trial_compare 70 = .ok (.return_, 1) := by decide +kernel
theorem d_Trial_runPart_0 : decode c_Trial_runPart 0 = .ok (.iload_n 2, 1) := by decide +kernel
theorem d_Trial_runPart_1 : decode c_Trial_runPart 1 = .ok (.istore 4, 2) := by decide +kernel
theorem d_Trial_runPart_3 : decode c_Trial_runPart 3 = .ok (.iload 4, 2) := by decide +kernel
theorem d_Trial_runPart_5 : decode c_Trial_runPart 5 = .ok (.iload_n 3, 1) := by decide +kernel
theorem d_Trial_runPart_6 : decode c_Trial_runPart 6 = .ok (.if_icmp .ge 27, 3) := by decide +kernel
theorem d_Trial_runPart_9 : decode c_Trial_runPart 9 = .ok (.aload_n 0, 1) := by decide +kernel
theorem d_Trial_runPart_10 : decode c_Trial_runPart 10 = .ok (.aload_n 1, 1) := by decide +kernel
theorem d_Trial_runPart_11 : decode c_Trial_runPart 11 = .ok (.getfield 33, 3) := by decide +kernel
theorem d_Trial_runPart_14 : decode c_Trial_runPart 14 = .ok (.iload 4, 2) := by decide +kernel
theorem d_Trial_runPart_16 : decode c_Trial_runPart 16 = .ok (.iaload, 1) := by decide +kernel
theorem d_Trial_runPart_17 : decode c_Trial_runPart 17 = .ok (.aload_n 1, 1) := by decide +kernel
theorem d_Trial_runPart_18 : decode c_Trial_runPart 18 = .ok (.getfield 39, 3) := by decide +kernel
theorem d_Trial_runPart_21 : decode c_Trial_runPart 21 = .ok (.iload 4, 2) := by decide +kernel
theorem d_Trial_runPart_23 : decode c_Trial_runPart 23 = .ok (.iaload, 1) := by decide +kernel
theorem d_Trial_runPart_24 : decode c_Trial_runPart 24 = .ok (.invokevirtual 42, 3) := by decide +kernel
theorem d_Trial_runPart_27 : decode c_Trial_runPart 27 = .ok (.iinc 4 1, 3) := by decide +kernel
theorem d_Trial_runPart_30 : decode c_Trial_runPart 30 = .ok (.goto (-27), 3) := by decide +kernel
theorem d_Trial_runPart_33 : decode c_Trial_runPart 33 = .ok (.return_, 1) := by decide +kernel
theorem d_PatternSet_clear_0 : decode c_PatternSet_clear 0 = .ok (.iconst 0, 1) := by decide +kernel
theorem d_PatternSet_clear_1 : decode c_PatternSet_clear 1 = .ok (.istore_n 1, 1) := by decide +kernel
theorem d_PatternSet_clear_2 : decode c_PatternSet_clear 2 = .ok (.iload_n 1, 1) := by decide +kernel
theorem d_PatternSet_clear_3 : decode c_PatternSet_clear 3 = .ok (.iconst 4, 1) := by decide +kernel
theorem d_PatternSet_clear_4 : decode c_PatternSet_clear 4 = .ok (.if_icmp .ge 16, 3) := by decide +kernel
theorem d_PatternSet_clear_7 : decode c_PatternSet_clear 7 = .ok (.aload_n 0, 1) := by decide +kernel
theorem d_PatternSet_clear_8 : decode c_PatternSet_clear 8 = .ok (.getfield 11, 3) := by decide +kernel
theorem d_PatternSet_clear_11 : decode c_PatternSet_clear 11 = .ok (.iload_n 1, 1) := by decide +kernel
theorem d_PatternSet_clear_12 : decode c_PatternSet_clear 12 = .ok (.lconst 0, 1) := by decide +kernel
theorem d_PatternSet_clear_13 : decode c_PatternSet_clear 13 = .ok (.lastore, 1) := by decide +kernel
theorem d_PatternSet_clear_14 : decode c_PatternSet_clear 14 = .ok (.iinc 1 1, 3) := by decide +kernel
theorem d_PatternSet_clear_17 : decode c_PatternSet_clear 17 = .ok (.goto (-15), 3) := by decide +kernel
theorem d_PatternSet_clear_20 : decode c_PatternSet_clear 20 = .ok (.return_, 1) := by decide +kernel
theorem d_Trial_findUnsorted_0 : decode c_Trial_findUnsorted 0 = .ok (.aload_n 1, 1) := by decide +kernel
theorem d_Trial_findUnsorted_1 : decode c_Trial_findUnsorted 1 = .ok (.invokevirtual 46, 3) := by decide +kernel
theorem d_Trial_findUnsorted_4 : decode c_Trial_findUnsorted 4 = .ok (.iconst 0, 1) := by decide +kernel
theorem d_Trial_findUnsorted_5 : decode c_Trial_findUnsorted 5 = .ok (.istore_n 2, 1) := by decide +kernel
theorem d_Trial_findUnsorted_6 : decode c_Trial_findUnsorted 6 = .ok (.iload_n 2, 1) := by decide +kernel
theorem d_Trial_findUnsorted_7 : decode c_Trial_findUnsorted 7 = .ok (.aload_n 0, 1) := by decide +kernel
theorem d_Trial_findUnsorted_8 : decode c_Trial_findUnsorted 8 = .ok (.getfield 17, 3) := by decide +kernel
theorem d_Trial_findUnsorted_11 : decode c_Trial_findUnsorted 11 = .ok (.iconst 1, 1) := by decide +kernel
theorem d_Trial_findUnsorted_12 : decode c_Trial_findUnsorted 12 = .ok (.isub, 1) := by decide +kernel
theorem d_Trial_findUnsorted_13 : decode c_Trial_findUnsorted 13 = .ok (.if_icmp .ge 61, 3) := by decide +kernel
theorem d_Trial_findUnsorted_16 : decode c_Trial_findUnsorted 16 = .ok (.iconst 0, 1) := by decide +kernel
theorem d_Trial_findUnsorted_17 : decode c_Trial_findUnsorted 17 = .ok (.istore_n 3, 1) := by decide +kernel
theorem d_Trial_findUnsorted_18 : decode c_Trial_findUnsorted 18 = .ok (.iload_n 3, 1) := by decide +kernel
theorem d_Trial_findUnsorted_19 : decode c_Trial_findUnsorted 19 = .ok (.aload_n 0, 1) := by decide +kernel
theorem d_Trial_findUnsorted_20 : decode c_Trial_findUnsorted 20 = .ok (.getfield 21, 3) := by decide +kernel
theorem d_Trial_findUnsorted_23 : decode c_Trial_findUnsorted 23 = .ok (.if_icmp .ge 45, 3) := by decide +kernel
theorem d_Trial_findUnsorted_26 : decode c_Trial_findUnsorted 26 = .ok (.aload_n 1, 1) := by decide +kernel
theorem d_Trial_findUnsorted_27 : decode c_Trial_findUnsorted 27 = .ok (.getfield 49, 3) := by decide +kernel
theorem d_Trial_findUnsorted_30 : decode c_Trial_findUnsorted 30 = .ok (.iload_n 3, 1) := by decide +kernel
theorem d_Trial_findUnsorted_31 : decode c_Trial_findUnsorted 31 = .ok (.dup2, 1) := by decide +kernel
theorem d_Trial_findUnsorted_32 : decode c_Trial_findUnsorted 32 = .ok (.laload, 1) := by decide +kernel
theorem d_Trial_findUnsorted_33 : decode c_Trial_findUnsorted 33 = .ok (.aload_n 0, 1) := by decide +kernel
theorem d_Trial_findUnsorted_34 : decode c_Trial_findUnsorted 34 = .ok (.getfield 13, 3) := by decide +kernel
theorem d_Trial_findUnsorted_37 : decode c_Trial_findUnsorted 37 = .ok (.iconst 4, 1) := by decide +kernel
theorem d_Trial_findUnsorted_38 : decode c_Trial_findUnsorted 38 = .ok (.iload_n 2, 1) := by decide +kernel
theorem d_Trial_findUnsorted_39 : decode c_Trial_findUnsorted 39 = .ok (.imul, 1) := by decide +kernel
theorem d_Trial_findUnsorted_40 : decode c_Trial_findUnsorted 40 = .ok (.iload_n 3, 1) := by decide +kernel
theorem d_Trial_findUnsorted_41 : decode c_Trial_findUnsorted 41 = .ok (.iadd, 1) := by decide +kernel
theorem d_Trial_findUnsorted_42 : decode c_Trial_findUnsorted 42 = .ok (.laload, 1) := by decide +kernel
theorem d_Trial_findUnsorted_43 : decode c_Trial_findUnsorted 43 = .ok (.aload_n 0, 1) := by decide +kernel
theorem d_Trial_findUnsorted_44 : decode c_Trial_findUnsorted 44 = .ok (.getfield 13, 3) := by decide +kernel
theorem d_Trial_findUnsorted_47 : decode c_Trial_findUnsorted 47 = .ok (.iconst 4, 1) := by decide +kernel
theorem d_Trial_findUnsorted_48 : decode c_Trial_findUnsorted 48 = .ok (.iload_n 2, 1) := by decide +kernel
theorem d_Trial_findUnsorted_49 : decode c_Trial_findUnsorted 49 = .ok (.iconst 1, 1) := by decide +kernel
theorem d_Trial_findUnsorted_50 : decode c_Trial_findUnsorted 50 = .ok (.iadd, 1) := by decide +kernel
theorem d_Trial_findUnsorted_51 : decode c_Trial_findUnsorted 51 = .ok (.imul, 1) := by decide +kernel
theorem d_Trial_findUnsorted_52 : decode c_Trial_findUnsorted 52 = .ok (.iload_n 3, 1) := by decide +kernel
theorem d_Trial_findUnsorted_53 : decode c_Trial_findUnsorted 53 = .ok (.iadd, 1) := by decide +kernel
theorem d_Trial_findUnsorted_54 : decode c_Trial_findUnsorted 54 = .ok (.laload, 1) := by decide +kernel
theorem d_Trial_findUnsorted_55 : decode c_Trial_findUnsorted 55 = .ok (.ldc2_w 24, 3) := by decide +kernel
theorem d_Trial_findUnsorted_58 : decode c_Trial_findUnsorted 58 = .ok (.lxor, 1) := by decide +kernel
theorem d_Trial_findUnsorted_59 : decode c_Trial_findUnsorted 59 = .ok (.land, 1) := by decide +kernel
theorem d_Trial_findUnsorted_60 : decode c_Trial_findUnsorted 60 = .ok (.lor, 1) := by decide +kernel
theorem d_Trial_findUnsorted_61 : decode c_Trial_findUnsorted 61 = .ok (.lastore, 1) := by decide +kernel
theorem d_Trial_findUnsorted_62 : decode c_Trial_findUnsorted 62 = .ok (.iinc 3 1, 3) := by decide +kernel
theorem d_Trial_findUnsorted_65 : decode c_Trial_findUnsorted 65 = .ok (.goto (-47), 3) := by decide +kernel
theorem d_Trial_findUnsorted_68 : decode c_Trial_findUnsorted 68 = .ok (.iinc 2 1, 3) := by decide +kernel
theorem d_Trial_findUnsorted_71 : decode c_Trial_findUnsorted 71 = .ok (.goto (-65), 3) := by decide +kernel
theorem d_Trial_findUnsorted_74 : decode c_Trial_findUnsorted 74 = .ok (.return_, 1) := by decide +kernel
theorem d_JLong_bitCount_0 : decode c_JLong_bitCount 0 = .ok (.lload_n 0, 1) := by decide +kernel
theorem d_JLong_bitCount_1 : decode c_JLong_bitCount 1 = .ok (.lload_n 0, 1) := by decide +kernel
theorem d_JLong_bitCount_2 : decode c_JLong_bitCount 2 = .ok (.iconst 1, 1) := by decide +kernel
theorem d_JLong_bitCount_3 : decode c_JLong_bitCount 3 = .ok (.lushr, 1) := by decide +kernel
theorem d_JLong_bitCount_4 : decode c_JLong_bitCount 4 = .ok (.ldc2_w 314, 3) := by decide +kernel
theorem d_JLong_bitCount_7 : decode c_JLong_bitCount 7 = .ok (.land, 1) := by decide +kernel
theorem d_JLong_bitCount_8 : decode c_JLong_bitCount 8 = .ok (.lsub, 1) := by decide +kernel
theorem d_JLong_bitCount_9 : decode c_JLong_bitCount 9 = .ok (.lstore_n 0, 1) := by decide +kernel
theorem d_JLong_bitCount_10 : decode c_JLong_bitCount 10 = .ok (.lload_n 0, 1) := by decide +kernel
theorem d_JLong_bitCount_11 : decode c_JLong_bitCount 11 = .ok (.ldc2_w 316, 3) := by decide +kernel
theorem d_JLong_bitCount_14 : decode c_JLong_bitCount 14 = .ok (.land, 1) := by decide +kernel
theorem d_JLong_bitCount_15 : decode c_JLong_bitCount 15 = .ok (.lload_n 0, 1) := by decide +kernel
theorem d_JLong_bitCount_16 : decode c_JLong_bitCount 16 = .ok (.iconst 2, 1) := by decide +kernel
theorem d_JLong_bitCount_17 : decode c_JLong_bitCount 17 = .ok (.lushr, 1) := by decide +kernel
theorem d_JLong_bitCount_18 : decode c_JLong_bitCount 18 = .ok (.ldc2_w 316, 3) := by decide +kernel
theorem d_JLong_bitCount_21 : decode c_JLong_bitCount 21 = .ok (.land, 1) := by decide +kernel
theorem d_JLong_bitCount_22 : decode c_JLong_bitCount 22 = .ok (.ladd, 1) := by decide +kernel
theorem d_JLong_bitCount_23 : decode c_JLong_bitCount 23 = .ok (.lstore_n 0, 1) := by decide +kernel
theorem d_JLong_bitCount_24 : decode c_JLong_bitCount 24 = .ok (.lload_n 0, 1) := by decide +kernel
theorem d_JLong_bitCount_25 : decode c_JLong_bitCount 25 = .ok (.lload_n 0, 1) := by decide +kernel
theorem d_JLong_bitCount_26 : decode c_JLong_bitCount 26 = .ok (.iconst 4, 1) := by decide +kernel
theorem d_JLong_bitCount_27 : decode c_JLong_bitCount 27 = .ok (.lushr, 1) := by decide +kernel
theorem d_JLong_bitCount_28 : decode c_JLong_bitCount 28 = .ok (.ladd, 1) := by decide +kernel
theorem d_JLong_bitCount_29 : decode c_JLong_bitCount 29 = .ok (.ldc2_w 318, 3) := by decide +kernel
theorem d_JLong_bitCount_32 : decode c_JLong_bitCount 32 = .ok (.land, 1) := by decide +kernel
theorem d_JLong_bitCount_33 : decode c_JLong_bitCount 33 = .ok (.lstore_n 0, 1) := by decide +kernel
theorem d_JLong_bitCount_34 : decode c_JLong_bitCount 34 = .ok (.lload_n 0, 1) := by decide +kernel
theorem d_JLong_bitCount_35 : decode c_JLong_bitCount 35 = .ok (.lload_n 0, 1) := by decide +kernel
theorem d_JLong_bitCount_36 : decode c_JLong_bitCount 36 = .ok (.bipush 8, 2) := by decide +kernel
theorem d_JLong_bitCount_38 : decode c_JLong_bitCount 38 = .ok (.lushr, 1) := by decide +kernel
theorem d_JLong_bitCount_39 : decode c_JLong_bitCount 39 = .ok (.ladd, 1) := by decide +kernel
theorem d_JLong_bitCount_40 : decode c_JLong_bitCount 40 = .ok (.lstore_n 0, 1) := by decide +kernel
theorem d_JLong_bitCount_41 : decode c_JLong_bitCount 41 = .ok (.lload_n 0, 1) := by decide +kernel
theorem d_JLong_bitCount_42 : decode c_JLong_bitCount 42 = .ok (.lload_n 0, 1) := by decide +kernel
theorem d_JLong_bitCount_43 : decode c_JLong_bitCount 43 = .ok (.bipush 16, 2) := by decide +kernel
theorem d_JLong_bitCount_45 : decode c_JLong_bitCount 45 = .ok (.lushr, 1) := by decide +kernel
theorem d_JLong_bitCount_46 : decode c_JLong_bitCount 46 = .ok (.ladd, 1) := by decide +kernel
theorem d_JLong_bitCount_47 : decode c_JLong_bitCount 47 = .ok (.lstore_n 0, 1) := by decide +kernel
theorem d_JLong_bitCount_48 : decode c_JLong_bitCount 48 = .ok (.lload_n 0, 1) := by decide +kernel
theorem d_JLong_bitCount_49 : decode c_JLong_bitCount 49 = .ok (.lload_n 0, 1) := by decide +kernel
theorem d_JLong_bitCount_50 : decode c_JLong_bitCount 50 = .ok (.bipush 32, 2) := by decide +kernel
theorem d_JLong_bitCount_52 : decode c_JLong_bitCount 52 = .ok (.lushr, 1) := by decide +kernel
theorem d_JLong_bitCount_53 : decode c_JLong_bitCount 53 = .ok (.ladd, 1) := by decide +kernel
theorem d_JLong_bitCount_54 : decode c_JLong_bitCount 54 = .ok (.lstore_n 0, 1) := by decide +kernel
theorem d_JLong_bitCount_55 : decode c_JLong_bitCount 55 = .ok (.lload_n 0, 1) := by decide +kernel
theorem d_JLong_bitCount_56 : decode c_JLong_bitCount 56 = .ok (.l2i, 1) := by decide +kernel
theorem d_JLong_bitCount_57 : decode c_JLong_bitCount 57 = .ok (.bipush 127, 2) := by decide +kernel
theorem d_JLong_bitCount_59 : decode c_JLong_bitCount 59 = .ok (.iand, 1) := by decide +kernel
theorem d_JLong_bitCount_60 : decode c_JLong_bitCount 60 = .ok (.ireturn, 1) := by decide +kernel
theorem d_PatternSet_size_0 : decode c_PatternSet_size 0 = .ok (.iconst 0, 1) := by decide +kernel
theorem d_PatternSet_size_1 : decode c_PatternSet_size 1 = .ok (.istore_n 1, 1) := by decide +kernel
theorem d_PatternSet_size_2 : decode c_PatternSet_size 2 = .ok (.iconst 0, 1) := by decide +kernel
theorem d_PatternSet_size_3 : decode c_PatternSet_size 3 = .ok (.istore_n 2, 1) := by decide +kernel
theorem d_PatternSet_size_4 : decode c_PatternSet_size 4 = .ok (.iload_n 2, 1) := by decide +kernel
theorem d_PatternSet_size_5 : decode c_PatternSet_size 5 = .ok (.iconst 4, 1) := by decide +kernel
theorem d_PatternSet_size_6 : decode c_PatternSet_size 6 = .ok (.if_icmp .ge 21, 3) := by decide +kernel
theorem d_PatternSet_size_9 : decode c_PatternSet_size 9 = .ok (.iload_n 1, 1) := by decide +kernel
theorem d_PatternSet_size_10 : decode c_PatternSet_size 10 = .ok (.aload_n 0, 1) := by decide +kernel
theorem d_PatternSet_size_11 : decode c_PatternSet_size 11 = .ok (.getfield 11, 3) := by decide +kernel
theorem d_PatternSet_size_14 : decode c_PatternSet_size 14 = .ok (.iload_n 2, 1) := by decide +kernel
theorem d_PatternSet_size_15 : decode c_PatternSet_size 15 = .ok (.laload, 1) := by decide +kernel
theorem d_PatternSet_size_16 : decode c_PatternSet_size 16 = .ok (.invokestatic 15, 3) := by decide +kernel
theorem d_PatternSet_size_19 : decode c_PatternSet_size 19 = .ok (.iadd, 1) := by decide +kernel
theorem d_PatternSet_size_20 : decode c_PatternSet_size 20 = .ok (.istore_n 1, 1) := by decide +kernel
theorem d_PatternSet_size_21 : decode c_PatternSet_size 21 = .ok (.iinc 2 1, 3) := by decide +kernel
theorem d_PatternSet_size_24 : decode c_PatternSet_size 24 = .ok (.goto (-20), 3) := by decide +kernel
theorem d_PatternSet_size_27 : decode c_PatternSet_size 27 = .ok (.iload_n 1, 1) := by decide +kernel
theorem d_PatternSet_size_28 : decode c_PatternSet_size 28 = .ok (.ireturn, 1) := by decide +kernel
theorem d_Net_remove_0 : decode c_Net_remove 0 = .ok (.aload_n 0, 1) := by decide +kernel
theorem d_Net_remove_1 : decode c_Net_remove 1 = .ok (.dup, 1) := by decide +kernel
theorem d_Net_remove_2 : decode c_Net_remove 2 = .ok (.getfield 15, 3) := by decide +kernel
theorem d_Net_remove_5 : decode c_Net_remove 5 = .ok (.iconst 1, 1) := by decide +kernel
theorem d_Net_remove_6 : decode c_Net_remove 6 = .ok (.isub, 1) := by decide +kernel
theorem d_Net_remove_7 : decode c_Net_remove 7 = .ok (.putfield 15, 3) := by decide +kernel
theorem d_Net_remove_10 : decode c_Net_remove 10 = .ok (.iload_n 1, 1) := by decide +kernel
theorem d_Net_remove_11 : decode c_Net_remove 11 = .ok (.istore_n 2, 1) := by decide +kernel
theorem d_Net_remove_12 : decode c_Net_remove 12 = .ok (.iload_n 2, 1) := by decide +kernel
theorem d_Net_remove_13 : decode c_Net_remove 13 = .ok (.aload_n 0, 1) := by decide +kernel
theorem d_Net_remove_14 : decode c_Net_remove 14 = .ok (.getfield 15, 3) := by decide +kernel
theorem d_Net_remove_17 : decode c_Net_remove 17 = .ok (.if_icmp .ge 37, 3) := by decide +kernel
theorem d_Net_remove_20 : decode c_Net_remove 20 = .ok (.aload_n 0, 1) := by decide +kernel
theorem d_Net_remove_21 : decode c_Net_remove 21 = .ok (.getfield 18, 3) := by decide +kernel
theorem d_Net_remove_24 : decode c_Net_remove 24 = .ok (.iload_n 2, 1) := by decide +kernel
theorem d_Net_remove_25 : decode c_Net_remove 25 = .ok (.aload_n 0, 1) := by decide +kernel
theorem d_Net_remove_26 : decode c_Net_remove 26 = .ok (.getfield 18, 3) := by decide +kernel
theorem d_Net_remove_29 : decode c_Net_remove 29 = .ok (.iload_n 2, 1) := by decide +kernel
theorem d_Net_remove_30 : decode c_Net_remove 30 = .ok (.iconst 1, 1) := by decide +kernel
theorem d_Net_remove_31 : decode c_Net_remove 31 = .ok (.iadd, 1) := by decide +kernel
theorem d_Net_remove_32 : decode c_Net_remove 32 = .ok (.iaload, 1) := by decide +kernel
theorem d_Net_remove_33 : decode c_Net_remove 33 = .ok (.iastore, 1) := by decide +kernel
theorem d_Net_remove_34 : decode c_Net_remove 34 = .ok (.aload_n 0, 1) := by decide +kernel
theorem d_Net_remove_35 : decode c_Net_remove 35 = .ok (.getfield 22, 3) := by decide +kernel
theorem d_Net_remove_38 : decode c_Net_remove 38 = .ok (.iload_n 2, 1) := by decide +kernel
theorem d_Net_remove_39 : decode c_Net_remove 39 = .ok (.aload_n 0, 1) := by decide +kernel
theorem d_Net_remove_40 : decode c_Net_remove 40 = .ok (.getfield 22, 3) := by decide +kernel
theorem d_Net_remove_43 : decode c_Net_remove 43 = .ok (.iload_n 2, 1) := by decide +kernel
theorem d_Net_remove_44 : decode c_Net_remove 44 = .ok (.iconst 1, 1) := by decide +kernel
theorem d_Net_remove_45 : decode c_Net_remove 45 = .ok (.iadd, 1) := by decide +kernel
theorem d_Net_remove_46 : decode c_Net_remove 46 = .ok (.iaload, 1) := by decide +kernel
theorem d_Net_remove_47 : decode c_Net_remove 47 = .ok (.iastore, 1) := by decide +kernel
theorem d_Net_remove_48 : decode c_Net_remove 48 = .ok (.iinc 2 1, 3) := by decide +kernel
theorem d_Net_remove_51 : decode c_Net_remove 51 = .ok (.goto (-39), 3) := by decide +kernel
theorem d_Net_remove_54 : decode c_Net_remove 54 = .ok (.return_, 1) := by decide +kernel
theorem d_Net_exchangeAt_0 : decode c_Net_exchangeAt 0 = .ok (.aload_n 0, 1) := by decide +kernel
theorem d_Net_exchangeAt_1 : decode c_Net_exchangeAt 1 = .ok (.getfield 18, 3) := by decide +kernel
theorem d_Net_exchangeAt_4 : decode c_Net_exchangeAt 4 = .ok (.iload_n 1, 1) := by decide +kernel
theorem d_Net_exchangeAt_5 : decode c_Net_exchangeAt 5 = .ok (.iaload, 1) := by decide +kernel
theorem d_Net_exchangeAt_6 : decode c_Net_exchangeAt 6 = .ok (.istore_n 3, 1) := by decide +kernel
theorem d_Net_exchangeAt_7 : decode c_Net_exchangeAt 7 = .ok (.aload_n 0, 1) := by decide +kernel
theorem d_Net_exchangeAt_8 : decode c_Net_exchangeAt 8 = .ok (.getfield 22, 3) := by decide +kernel
theorem d_Net_exchangeAt_11 : decode c_Net_exchangeAt 11 = .ok (.iload_n 1, 1) := by decide +kernel
theorem d_Net_exchangeAt_12 : decode c_Net_exchangeAt 12 = .ok (.iaload, 1) := by decide +kernel
theorem d_Net_exchangeAt_13 : decode c_Net_exchangeAt 13 = .ok (.istore 4, 2) := by decide +kernel
theorem d_Net_exchangeAt_15 : decode c_Net_exchangeAt 15 = .ok (.aload_n 0, 1) := by decide +kernel
theorem d_Net_exchangeAt_16 : decode c_Net_exchangeAt 16 = .ok (.getfield 18, 3) := by decide +kernel
theorem d_Net_exchangeAt_19 : decode c_Net_exchangeAt 19 = .ok (.iload_n 1, 1) := by decide +kernel
theorem d_Net_exchangeAt_20 : decode c_Net_exchangeAt 20 = .ok (.aload_n 0, 1) := by decide +kernel
theorem d_Net_exchangeAt_21 : decode c_Net_exchangeAt 21 = .ok (.getfield 18, 3) := by decide +kernel
theorem d_Net_exchangeAt_24 : decode c_Net_exchangeAt 24 = .ok (.iload_n 2, 1) := by decide +kernel
theorem d_Net_exchangeAt_25 : decode c_Net_exchangeAt 25 = .ok (.iaload, 1) := by decide +kernel
theorem d_Net_exchangeAt_26 : decode c_Net_exchangeAt 26 = .ok (.iastore, 1) := by decide +kernel
theorem d_Net_exchangeAt_27 : decode c_Net_exchangeAt 27 = .ok (.aload_n 0, 1) := by decide +kernel
theorem d_Net_exchangeAt_28 : decode c_Net_exchangeAt 28 = .ok (.getfield 22, 3) := by decide +kernel
theorem d_Net_exchangeAt_31 : decode c_Net_exchangeAt 31 = .ok (.iload_n 1, 1) := by decide +kernel
theorem d_Net_exchangeAt_32 : decode c_Net_exchangeAt 32 = .ok (.aload_n 0, 1) := by decide +kernel
theorem d_Net_exchangeAt_33 : decode c_Net_exchangeAt 33 = .ok (.getfield 22, 3) := by decide +kernel
theorem d_Net_exchangeAt_36 : decode c_Net_exchangeAt 36 = .ok (.iload_n 2, 1) := by decide +kernel
theorem d_Net_exchangeAt_37 : decode c_Net_exchangeAt 37 = .ok (.iaload, 1) := by decide +kernel
theorem d_Net_exchangeAt_38 : decode c_Net_exchangeAt 38 = .ok (.iastore, 1) := by decide +kernel
theorem d_Net_exchangeAt_39 : decode c_Net_exchangeAt 39 = .ok (.aload_n 0, 1) := by decide +kernel
theorem d_Net_exchangeAt_40 : decode c_Net_exchangeAt 40 = .ok (.getfield 18, 3) := by decide +kernel
theorem d_Net_exchangeAt_43 : decode c_Net_exchangeAt 43 = .ok (.iload_n 2, 1) := by decide +kernel
theorem d_Net_exchangeAt_44 : decode c_Net_exchangeAt 44 = .ok (.iload_n 3, 1) := by decide +kernel
theorem d_Net_exchangeAt_45 : decode c_Net_exchangeAt 45 = .ok (.iastore, 1) := by decide +kernel
theorem d_Net_exchangeAt_46 : decode c_Net_exchangeAt 46 = .ok (.aload_n 0, 1) := by decide +kernel
theorem d_Net_exchangeAt_47 : decode c_Net_exchangeAt 47 = .ok (.getfield 22, 3) := by decide +kernel
theorem d_Net_exchangeAt_50 : decode c_Net_exchangeAt 50 = .ok (.iload_n 2, 1) := by decide +kernel
theorem d_Net_exchangeAt_51 : decode c_Net_exchangeAt 51 = .ok (.iload 4, 2) := by decide +kernel
theorem d_Net_exchangeAt_53 : decode c_Net_exchangeAt 53 = .ok (.iastore, 1) := by decide +kernel
theorem d_Net_exchangeAt_54 : decode c_Net_exchangeAt 54 = .ok (.return_, 1) := by decide +kernel
theorem d_Net_exchangeWithNext_0 : decode c_Net_exchangeWithNext 0 = .ok (.aload_n 0, 1) := by decide +kernel
theorem d_Net_exchangeWithNext_1 : decode c_Net_exchangeWithNext 1 = .ok (.iload_n 1, 1) := by decide +kernel
theorem d_Net_exchangeWithNext_2 : decode c_Net_exchangeWithNext 2 = .ok (.iload_n 1, 1) := by decide +kernel
theorem d_Net_exchangeWithNext_3 : decode c_Net_exchangeWithNext 3 = .ok (.iconst 1, 1) := by decide +kernel
theorem d_Net_exchangeWithNext_4 : decode c_Net_exchangeWithNext 4 = .ok (.iadd, 1) := by decide +kernel
theorem d_Net_exchangeWithNext_5 : decode c_Net_exchangeWithNext 5 = .ok (.invokevirtual 25, 3) := by decide +kernel
theorem d_Net_exchangeWithNext_8 : decode c_Net_exchangeWithNext 8 = .ok (.aload_n 0, 1) := by decide +kernel
theorem d_Net_exchangeWithNext_9 : decode c_Net_exchangeWithNext 9 = .ok (.getfield 18, 3) := by decide +kernel
theorem d_Net_exchangeWithNext_12 : decode c_Net_exchangeWithNext 12 = .ok (.iload_n 1, 1) := by decide +kernel
theorem d_Net_exchangeWithNext_13 : decode c_Net_exchangeWithNext 13 = .ok (.iaload, 1) := by decide +kernel
theorem d_Net_exchangeWithNext_14 : decode c_Net_exchangeWithNext 14 = .ok (.aload_n 0, 1) := by decide +kernel
theorem d_Net_exchangeWithNext_15 : decode c_Net_exchangeWithNext 15 = .ok (.getfield 18, 3) := by decide +kernel
theorem d_Net_exchangeWithNext_18 : decode c_Net_exchangeWithNext 18 = .ok (.iload_n 1, 1) := by decide +kernel
theorem d_Net_exchangeWithNext_19 : decode c_Net_exchangeWithNext 19 = .ok (.iconst 1, 1) := by decide +kernel
theorem d_Net_exchangeWithNext_20 : decode c_Net_exchangeWithNext 20 = .ok (.iadd, 1) := by decide +kernel
theorem d_Net_exchangeWithNext_21 : decode c_Net_exchangeWithNext 21 = .ok (.iaload, 1) := by decide +kernel
theorem d_Net_exchangeWithNext_22 : decode c_Net_exchangeWithNext 22 = .ok (.if_icmp .eq 58, 3) := by decide +kernel
theorem d_Net_exchangeWithNext_25 : decode c_Net_exchangeWithNext 25 = .ok (.aload_n 0, 1) := by decide +kernel
theorem d_Net_exchangeWithNext_26 : decode c_Net_exchangeWithNext 26 = .ok (.getfield 18, 3) := by decide +kernel
theorem d_Net_exchangeWithNext_29 : decode c_Net_exchangeWithNext 29 = .ok (.iload_n 1, 1) := by decide +kernel
theorem d_Net_exchangeWithNext_30 : decode c_Net_exchangeWithNext 30 = .ok (.iaload, 1) := by decide +kernel
theorem d_Net_exchangeWithNext_31 : decode c_Net_exchangeWithNext 31 = .ok (.aload_n 0, 1) := by decide +kernel
theorem d_Net_exchangeWithNext_32 : decode c_Net_exchangeWithNext 32 = .ok (.getfield 22, 3) := by decide +kernel
theorem d_Net_exchangeWithNext_35 : decode c_Net_exchangeWithNext 35 = .ok (.iload_n 1, 1) := by decide +kernel
theorem d_Net_exchangeWithNext_36 : decode c_Net_exchangeWithNext 36 = .ok (.iconst 1, 1) := by decide +kernel
theorem d_Net_exchangeWithNext_37 : decode c_Net_exchangeWithNext 37 = .ok (.iadd, 1) := by decide +kernel
theorem d_Net_exchangeWithNext_38 : decode c_Net_exchangeWithNext 38 = .ok (.iaload, 1) := by decide +kernel
theorem d_Net_exchangeWithNext_39 : decode c_Net_exchangeWithNext 39 = .ok (.if_icmp .eq 41, 3) := by decide +kernel
theorem d_Net_exchangeWithNext_42 : decode c_Net_exchangeWithNext 42 = .ok (.aload_n 0, 1) := by decide +kernel
theorem d_Net_exchangeWithNext_43 : decode c_Net_exchangeWithNext 43 = .ok (.getfield 22, 3) := by decide +kernel
theorem d_Net_exchangeWithNext_46 : decode c_Net_exchangeWithNext 46 = .ok (.iload_n 1, 1) := by decide +kernel
theorem d_Net_exchangeWithNext_47 : decode c_Net_exchangeWithNext 47 = .ok (.iaload, 1) := by decide +kernel
theorem d_Net_exchangeWithNext_48 : decode c_Net_exchangeWithNext 48 = .ok (.aload_n 0, 1) := by decide +kernel
theorem d_Net_exchangeWithNext_49 : decode c_Net_exchangeWithNext 49 = .ok (.getfield 18, 3) := by decide +kernel
theorem d_Net_exchangeWithNext_52 : decode c_Net_exchangeWithNext 52 = .ok (.iload_n 1, 1) := by decide +kernel
theorem d_Net_exchangeWithNext_53 : decode c_Net_exchangeWithNext 53 = .ok (.iconst 1, 1) := by decide +kernel
theorem d_Net_exchangeWithNext_54 : decode c_Net_exchangeWithNext 54 = .ok (.iadd, 1) := by decide +kernel
theorem d_Net_exchangeWithNext_55 : decode c_Net_exchangeWithNext 55 = .ok (.iaload, 1) := by decide +kernel
theorem d_Net_exchangeWithNext_56 : decode c_Net_exchangeWithNext 56 = .ok (.if_icmp .eq 24, 3) := by decide +kernel
theorem d_Net_exchangeWithNext_59 : decode c_Net_exchangeWithNext 59 = .ok (.aload_n 0, 1) := by decide +kernel
theorem d_Net_exchangeWithNext_60 : decode c_Net_exchangeWithNext 60 = .ok (.getfield 22, 3) := by decide +kernel
theorem d_Net_exchangeWithNext_63 : decode c_Net_exchangeWithNext 63 = .ok (.iload_n 1, 1) := by decide +kernel
theorem d_Net_exchangeWithNext_64 : decode c_Net_exchangeWithNext 64 = .ok (.iaload, 1) := by decide +kernel
theorem d_Net_exchangeWithNext_65 : decode c_Net_exchangeWithNext 65 = .ok (.aload_n 0, 1) := by decide +kernel
theorem d_Net_exchangeWithNext_66 : decode c_Net_exchangeWithNext 66 = .ok (.getfield 22, 3) := by decide +kernel
theorem d_Net_exchangeWithNext_69 : decode c_Net_exchangeWithNext 69 = .ok (.iload_n 1, 1) := by decide +kernel
theorem d_Net_exchangeWithNext_70 : decode c_Net_exchangeWithNext 70 = .ok (.iconst 1, 1) := by decide +kernel
theorem d_Net_exchangeWithNext_71 : decode c_Net_exchangeWithNext 71 = .ok (.iadd, 1) := by decide +kernel
theorem d_Net_exchangeWithNext_72 : decode c_Net_exchangeWithNext 72 = .ok (.iaload, 1) := by decide +kernel
theorem d_Net_exchangeWithNext_73 : decode c_Net_exchangeWithNext 73 = .ok (.if_icmp .eq 7, 3) := by decide +kernel
theorem d_Net_exchangeWithNext_76 : decode c_Net_exchangeWithNext 76 = .ok (.iconst 1, 1) := by decide +kernel
theorem d_Net_exchangeWithNext_77 : decode c_Net_exchangeWithNext 77 = .ok (.goto 4, 3) := by decide +kernel
theorem d_Net_exchangeWithNext_80 : decode c_Net_exchangeWithNext 80 = .ok (.iconst 0, 1) := by decide +kernel
theorem d_Net_exchangeWithNext_81 : decode c_Net_exchangeWithNext 81 = .ok (.ireturn, 1) := by decide +kernel
theorem d_Net_reverse_0 : decode c_Net_reverse 0 = .ok (.iconst 0, 1) := by decide +kernel
theorem d_Net_reverse_1 : decode c_Net_reverse 1 = .ok (.istore_n 1, 1) := by decide +kernel
theorem d_Net_reverse_2 : decode c_Net_reverse 2 = .ok (.aload_n 0, 1) := by decide +kernel
theorem d_Net_reverse_3 : decode c_Net_reverse 3 = .ok (.getfield 15, 3) := by decide +kernel
theorem d_Net_reverse_6 : decode c_Net_reverse 6 = .ok (.iconst 1, 1) := by decide +kernel
theorem d_Net_reverse_7 : decode c_Net_reverse 7 = .ok (.isub, 1) := by decide +kernel
theorem d_Net_reverse_8 : decode c_Net_reverse 8 = .ok (.istore_n 2, 1) := by decide +kernel
theorem d_Net_reverse_9 : decode c_Net_reverse 9 = .ok (.iload_n 1, 1) := by decide +kernel
theorem d_Net_reverse_10 : decode c_Net_reverse 10 = .ok (.iload_n 2, 1) := by decide +kernel
theorem d_Net_reverse_11 : decode c_Net_reverse 11 = .ok (.if_icmp .ge 18, 3) := by decide +kernel
theorem d_Net_reverse_14 : decode c_Net_reverse 14 = .ok (.aload_n 0, 1) := by decide +kernel
theorem d_Net_reverse_15 : decode c_Net_reverse 15 = .ok (.iload_n 1, 1) := by decide +kernel
theorem d_Net_reverse_16 : decode c_Net_reverse 16 = .ok (.iload_n 2, 1) := by decide +kernel
theorem d_Net_reverse_17 : decode c_Net_reverse 17 = .ok (.invokevirtual 25, 3) := by decide +kernel
theorem d_Net_reverse_20 : decode c_Net_reverse 20 = .ok (.iinc 1 1, 3) := by decide +kernel
theorem d_Net_reverse_23 : decode c_Net_reverse 23 = .ok (.iinc 2 (-1), 3) := by decide +kernel
theorem d_Net_reverse_26 : decode c_Net_reverse 26 = .ok (.goto (-17), 3) := by decide +kernel
theorem d_Net_reverse_29 : decode c_Net_reverse 29 = .ok (.return_, 1) := by decide +kernel
theorem d_Net_reflect_0 : decode c_Net_reflect 0 = .ok (.iconst 0, 1) := by decide +kernel
theorem d_Net_reflect_1 : decode c_Net_reflect 1 = .ok (.istore_n 1, 1) := by decide +kernel
theorem d_Net_reflect_2 : decode c_Net_reflect 2 = .ok (.iload_n 1, 1) := by decide +kernel
theorem d_Net_reflect_3 : decode c_Net_reflect 3 = .ok (.aload_n 0, 1) := by decide +kernel
theorem d_Net_reflect_4 : decode c_Net_reflect 4 = .ok (.getfield 15, 3) := by decide +kernel
theorem d_Net_reflect_7 : decode c_Net_reflect 7 = .ok (.if_icmp .ge 49, 3) := by decide +kernel
theorem d_Net_reflect_10 : decode c_Net_reflect 10 = .ok (.aload_n 0, 1) := by decide +kernel
theorem d_Net_reflect_11 : decode c_Net_reflect 11 = .ok (.getfield 18, 3) := by decide +kernel
theorem d_Net_reflect_14 : decode c_Net_reflect 14 = .ok (.iload_n 1, 1) := by decide +kernel
theorem d_Net_reflect_15 : decode c_Net_reflect 15 = .ok (.iaload, 1) := by decide +kernel
theorem d_Net_reflect_16 : decode c_Net_reflect 16 = .ok (.istore_n 2, 1) := by decide +kernel
theorem d_Net_reflect_17 : decode c_Net_reflect 17 = .ok (.aload_n 0, 1) := by decide +kernel
theorem d_Net_reflect_18 : decode c_Net_reflect 18 = .ok (.getfield 18, 3) := by decide +kernel
theorem d_Net_reflect_21 : decode c_Net_reflect 21 = .ok (.iload_n 1, 1) := by decide +kernel
theorem d_Net_reflect_22 : decode c_Net_reflect 22 = .ok (.aload_n 0, 1) := by decide +kernel
theorem d_Net_reflect_23 : decode c_Net_reflect 23 = .ok (.getfield 9, 3) := by decide +kernel
theorem d_Net_reflect_26 : decode c_Net_reflect 26 = .ok (.iconst 1, 1) := by decide +kernel
theorem d_Net_reflect_27 : decode c_Net_reflect 27 = .ok (.isub, 1) := by decide +kernel
theorem d_Net_reflect_28 : decode c_Net_reflect 28 = .ok (.aload_n 0, 1) := by decide +kernel
theorem d_Net_reflect_29 : decode c_Net_reflect 29 = .ok (.getfield 22, 3) := by decide +kernel
theorem d_Net_reflect_32 : decode c_Net_reflect 32 = .ok (.iload_n 1, 1) := by decide +kernel
theorem d_Net_reflect_33 : decode c_Net_reflect 33 = .ok (.iaload, 1) := by decide +kernel
theorem d_Net_reflect_34 : decode c_Net_reflect 34 = .ok (.isub, 1) := by decide +kernel
theorem d_Net_reflect_35 : decode c_Net_reflect 35 = .ok (.iastore, 1) := by decide +kernel
theorem d_Net_reflect_36 : decode c_Net_reflect 36 = .ok (.aload_n 0, 1) := by decide +kernel
theorem d_Net_reflect_37 : decode c_Net_reflect 37 = .ok (.getfield 22, 3) := by decide +kernel
theorem d_Net_reflect_40 : decode c_Net_reflect 40 = .ok (.iload_n 1, 1) := by decide +kernel
theorem d_Net_reflect_41 : decode c_Net_reflect 41 = .ok (.aload_n 0, 1) := by decide +kernel
theorem d_Net_reflect_42 : decode c_Net_reflect 42 = .ok (.getfield 9, 3) := by decide +kernel
theorem d_Net_reflect_45 : decode c_Net_reflect 45 = .ok (.iconst 1, 1) := by decide +kernel
theorem d_Net_reflect_46 : decode c_Net_reflect 46 = .ok (.isub, 1) := by decide +kernel
theorem d_Net_reflect_47 : decode c_Net_reflect 47 = .ok (.iload_n 2, 1) := by decide +kernel
theorem d_Net_reflect_48 : decode c_Net_reflect 48 = .ok (.isub, 1) := by decide +kernel
theorem d_Net_reflect_49 : decode c_Net_reflect 49 = .ok (.iastore, 1) := by decide +kernel
theorem d_Net_reflect_50 : decode c_Net_reflect 50 = .ok (.iinc 1 1, 3) := by decide +kernel
theorem d_Net_reflect_53 : decode c_Net_reflect 53 = .ok (.goto (-51), 3) := by decide +kernel
theorem d_Net_reflect_56 : decode c_Net_reflect 56 = .ok (.return_, 1) := by decide +kernel
theorem d_Layers_read_0 : decode c_Layers_read 0 = .ok (.aload_n 0, 1) := by decide +kernel
theorem d_Layers_read_1 : decode c_Layers_read 1 = .ok (.iconst 0, 1) := by decide +kernel
theorem d_Layers_read_2 : decode c_Layers_read 2 = .ok (.putfield 15, 3) := by decide +kernel
theorem d_Layers_read_5 : decode c_Layers_read 5 = .ok (.iconst 0, 1) := by decide +kernel
theorem d_Layers_read_6 : decode c_Layers_read 6 = .ok (.istore_n 2, 1) := by decide +kernel
theorem d_Layers_read_7 : decode c_Layers_read 7 = .ok (.iload_n 2, 1) := by decide +kernel
theorem d_Layers_read_8 : decode c_Layers_read 8 = .ok (.bipush 8, 2) := by decide +kernel
theorem d_Layers_read_10 : decode c_Layers_read 10 = .ok (.if_icmp .ge 16, 3) := by decide +kernel
theorem d_Layers_read_13 : decode c_Layers_read 13 = .ok (.aload_n 0, 1) := by decide +kernel
theorem d_Layers_read_14 : decode c_Layers_read 14 = .ok (.getfield 22, 3) := by decide +kernel
theorem d_Layers_read_17 : decode c_Layers_read 17 = .ok (.iload_n 2, 1) := by decide +kernel
theorem d_Layers_read_18 : decode c_Layers_read 18 = .ok (.iconst 0, 1) := by decide +kernel
theorem d_Layers_read_19 : decode c_Layers_read 19 = .ok (.iastore, 1) := by decide +kernel
theorem d_Layers_read_20 : decode c_Layers_read 20 = .ok (.iinc 2 1, 3) := by decide +kernel
theorem d_Layers_read_23 : decode c_Layers_read 23 = .ok (.goto (-16), 3) := by decide +kernel
theorem d_Layers_read_26 : decode c_Layers_read 26 = .ok (.iconst 0, 1) := by decide +kernel
theorem d_Layers_read_27 : decode c_Layers_read 27 = .ok (.istore_n 2, 1) := by decide +kernel
theorem d_Layers_read_28 : decode c_Layers_read 28 = .ok (.iload_n 2, 1) := by decide +kernel
theorem d_Layers_read_29 : decode c_Layers_read 29 = .ok (.bipush 60, 2) := by decide +kernel
theorem d_Layers_read_31 : decode c_Layers_read 31 = .ok (.if_icmp .gt 16, 3) := by decide +kernel
theorem d_Layers_read_34 : decode c_Layers_read 34 = .ok (.aload_n 0, 1) := by decide +kernel
theorem d_Layers_read_35 : decode c_Layers_read 35 = .ok (.getfield 19, 3) := by decide +kernel
theorem d_Layers_read_38 : decode c_Layers_read 38 = .ok (.iload_n 2, 1) := by decide +kernel
theorem d_Layers_read_39 : decode c_Layers_read 39 = .ok (.iconst 0, 1) := by decide +kernel
theorem d_Layers_read_40 : decode c_Layers_read 40 = .ok (.iastore, 1) := by decide +kernel
theorem d_Layers_read_41 : decode c_Layers_read 41 = .ok (.iinc 2 1, 3) := by decide +kernel
theorem d_Layers_read_44 : decode c_Layers_read 44 = .ok (.goto (-16), 3) := by decide +kernel
theorem d_Layers_read_47 : decode c_Layers_read 47 = .ok (.iconst 0, 1) := by decide +kernel
theorem d_Layers_read_48 : decode c_Layers_read 48 = .ok (.istore_n 2, 1) := by decide +kernel
theorem d_Layers_read_49 : decode c_Layers_read 49 = .ok (.iload_n 2, 1) := by decide +kernel
theorem d_Layers_read_50 : decode c_Layers_read 50 = .ok (.aload_n 1, 1) := by decide +kernel
theorem d_Layers_read_51 : decode c_Layers_read 51 = .ok (.getfield 25, 3) := by decide +kernel
theorem d_Layers_read_54 : decode c_Layers_read 54 = .ok (.if_icmp .ge 90, 3) := by decide +kernel
theorem d_Layers_read_57 : decode c_Layers_read 57 = .ok (.aload_n 0, 1) := by decide +kernel
theorem d_Layers_read_58 : decode c_Layers_read 58 = .ok (.getfield 22, 3) := by decide +kernel
theorem d_Layers_read_61 : decode c_Layers_read 61 = .ok (.aload_n 1, 1) := by decide +kernel
theorem d_Layers_read_62 : decode c_Layers_read 62 = .ok (.getfield 30, 3) := by decide +kernel
theorem d_Layers_read_65 : decode c_Layers_read 65 = .ok (.iload_n 2, 1) := by decide +kernel
theorem d_Layers_read_66 : decode c_Layers_read 66 = .ok (.iaload, 1) := by decide +kernel
theorem d_Layers_read_67 : decode c_Layers_read 67 = .ok (.iaload, 1) := by decide +kernel
theorem d_Layers_read_68 : decode c_Layers_read 68 = .ok (.aload_n 0, 1) := by decide +kernel
theorem d_Layers_read_69 : decode c_Layers_read 69 = .ok (.getfield 22, 3) := by decide +kernel
theorem d_Layers_read_72 : decode c_Layers_read 72 = .ok (.aload_n 1, 1) := by decide +kernel
theorem d_Layers_read_73 : decode c_Layers_read 73 = .ok (.getfield 33, 3) := by decide +kernel
theorem d_Layers_read_76 : decode c_Layers_read 76 = .ok (.iload_n 2, 1) := by decide +kernel
theorem d_Layers_read_77 : decode c_Layers_read 77 = .ok (.iaload, 1) := by decide +kernel
theorem d_Layers_read_78 : decode c_Layers_read 78 = .ok (.iaload, 1) := by decide +kernel
theorem d_Layers_read_79 : decode c_Layers_read 79 = .ok (.invokestatic 36, 3) := by decide +kernel
theorem d_Layers_read_82 : decode c_Layers_read 82 = .ok (.iconst 1, 1) := by decide +kernel
theorem d_Layers_read_83 : decode c_Layers_read 83 = .ok (.iadd, 1) := by decide +kernel
theorem d_Layers_read_84 : decode c_Layers_read 84 = .ok (.istore_n 3, 1) := by decide +kernel
theorem d_Layers_read_85 : decode c_Layers_read 85 = .ok (.aload_n 0, 1) := by decide +kernel
theorem d_Layers_read_86 : decode c_Layers_read 86 = .ok (.getfield 22, 3) := by decide +kernel
theorem d_Layers_read_89 : decode c_Layers_read 89 = .ok (.aload_n 1, 1) := by decide +kernel
theorem d_Layers_read_90 : decode c_Layers_read 90 = .ok (.getfield 30, 3) := by decide +kernel
theorem d_Layers_read_93 : decode c_Layers_read 93 = .ok (.iload_n 2, 1) := by decide +kernel
theorem d_Layers_read_94 : decode c_Layers_read 94 = .ok (.iaload, 1) := by decide +kernel
theorem d_Layers_read_95 : decode c_Layers_read 95 = .ok (.iload_n 3, 1) := by decide +kernel
theorem d_Layers_read_96 : decode c_Layers_read 96 = .ok (.iastore, 1) := by decide +kernel
theorem d_Layers_read_97 : decode c_Layers_read 97 = .ok (.aload_n 0, 1) := by decide +kernel
theorem d_Layers_read_98 : decode c_Layers_read 98 = .ok (.getfield 22, 3) := by decide +kernel
theorem d_Layers_read_101 : decode c_Layers_read 101 = .ok (.aload_n 1, 1) := by decide +kernel
theorem d_Layers_read_102 : decode c_Layers_read 102 = .ok (.getfield 33, 3) := by decide +kernel
theorem d_Layers_read_105 : decode c_Layers_read 105 = .ok (.iload_n 2, 1) := by decide +kernel
theorem d_Layers_read_106 : decode c_Layers_read 106 = .ok (.iaload, 1) := by decide +kernel
theorem d_Layers_read_107 : decode c_Layers_read 107 = .ok (.iload_n 3, 1) := by decide +kernel
theorem d_Layers_read_108 : decode c_Layers_read 108 = .ok (.iastore, 1) := by decide +kernel
theorem d_Layers_read_109 : decode c_Layers_read 109 = .ok (.aload_n 0, 1) := by decide +kernel
theorem d_Layers_read_110 : decode c_Layers_read 110 = .ok (.getfield 9, 3) := by decide +kernel
theorem d_Layers_read_113 : decode c_Layers_read 113 = .ok (.iload_n 2, 1) := by decide +kernel
theorem d_Layers_read_114 : decode c_Layers_read 114 = .ok (.iload_n 3, 1) := by decide +kernel
theorem d_Layers_read_115 : decode c_Layers_read 115 = .ok (.iastore, 1) := by decide +kernel
theorem d_Layers_read_116 : decode c_Layers_read 116 = .ok (.aload_n 0, 1) := by decide +kernel
theorem d_Layers_read_117 : decode c_Layers_read 117 = .ok (.getfield 19, 3) := by decide +kernel
theorem d_Layers_read_120 : decode c_Layers_read 120 = .ok (.iload_n 3, 1) := by decide +kernel
theorem d_Layers_read_121 : decode c_Layers_read 121 = .ok (.dup2, 1) := by decide +kernel
theorem d_Layers_read_122 : decode c_Layers_read 122 = .ok (.iaload, 1) := by decide +kernel
theorem d_Layers_read_123 : decode c_Layers_read 123 = .ok (.iconst 1, 1) := by decide +kernel
theorem d_Layers_read_124 : decode c_Layers_read 124 = .ok (.iadd, 1) := by decide +kernel
theorem d_Layers_read_125 : decode c_Layers_read 125 = .ok (.iastore, 1) := by decide +kernel
theorem d_Layers_read_126 : decode c_Layers_read 126 = .ok (.aload_n 0, 1) := by decide +kernel
theorem d_Layers_read_127 : decode c_Layers_read 127 = .ok (.aload_n 0, 1) := by decide +kernel
theorem d_Layers_read_128 : decode c_Layers_read 128 = .ok (.getfield 15, 3) := by decide +kernel
theorem d_Layers_read_131 : decode c_Layers_read 131 = .ok (.iload_n 3, 1) := by decide +kernel
theorem d_Layers_read_132 : decode c_Layers_read 132 = .ok (.invokestatic 36, 3) := by decide +kernel
theorem d_Layers_read_135 : decode c_Layers_read 135 = .ok (.putfield 15, 3) := by decide +kernel
theorem d_Layers_read_138 : decode c_Layers_read 138 = .ok (.iinc 2 1, 3) := by decide +kernel
theorem d_Layers_read_141 : decode c_Layers_read 141 = .ok (.goto (-92), 3) := by decide +kernel
theorem d_Layers_read_144 : decode c_Layers_read 144 = .ok (.return_, 1) := by decide +kernel
theorem d_Net_differences_0 : decode c_Net_differences 0 = .ok (.iconst 0, 1) := by decide +kernel
theorem d_Net_differences_1 : decode c_Net_differences 1 = .ok (.istore_n 2, 1) := by decide +kernel
theorem d_Net_differences_2 : decode c_Net_differences 2 = .ok (.iconst 0, 1) := by decide +kernel
theorem d_Net_differences_3 : decode c_Net_differences 3 = .ok (.istore_n 3, 1) := by decide +kernel
theorem d_Net_differences_4 : decode c_Net_differences 4 = .ok (.iload_n 3, 1) := by decide +kernel
theorem d_Net_differences_5 : decode c_Net_differences 5 = .ok (.aload_n 0, 1) := by decide +kernel
theorem d_Net_differences_6 : decode c_Net_differences 6 = .ok (.getfield 15, 3) := by decide +kernel
theorem d_Net_differences_9 : decode c_Net_differences 9 = .ok (.if_icmp .ge 50, 3) := by decide +kernel
theorem d_Net_differences_12 : decode c_Net_differences 12 = .ok (.iload_n 3, 1) := by decide +kernel
theorem d_Net_differences_13 : decode c_Net_differences 13 = .ok (.aload_n 1, 1) := by decide +kernel
theorem d_Net_differences_14 : decode c_Net_differences 14 = .ok (.getfield 15, 3) := by decide +kernel
theorem d_Net_differences_17 : decode c_Net_differences 17 = .ok (.if_icmp .ge 42, 3) := by decide +kernel
theorem d_Net_differences_20 : decode c_Net_differences 20 = .ok (.aload_n 0, 1) := by decide +kernel
theorem d_Net_differences_21 : decode c_Net_differences 21 = .ok (.getfield 18, 3) := by decide +kernel
theorem d_Net_differences_24 : decode c_Net_differences 24 = .ok (.iload_n 3, 1) := by decide +kernel
theorem d_Net_differences_25 : decode c_Net_differences 25 = .ok (.iaload, 1) := by decide +kernel
theorem d_Net_differences_26 : decode c_Net_differences 26 = .ok (.aload_n 1, 1) := by decide +kernel
theorem d_Net_differences_27 : decode c_Net_differences 27 = .ok (.getfield 18, 3) := by decide +kernel
theorem d_Net_differences_30 : decode c_Net_differences 30 = .ok (.iload_n 3, 1) := by decide +kernel
theorem d_Net_differences_31 : decode c_Net_differences 31 = .ok (.iaload, 1) := by decide +kernel
theorem d_Net_differences_32 : decode c_Net_differences 32 = .ok (.if_icmp .ne 18, 3) := by decide +kernel
theorem d_Net_differences_35 : decode c_Net_differences 35 = .ok (.aload_n 0, 1) := by decide +kernel
theorem d_Net_differences_36 : decode c_Net_differences 36 = .ok (.getfield 22, 3) := by decide +kernel
theorem d_Net_differences_39 : decode c_Net_differences 39 = .ok (.iload_n 3, 1) := by decide +kernel
theorem d_Net_differences_40 : decode c_Net_differences 40 = .ok (.iaload, 1) := by decide +kernel
theorem d_Net_differences_41 : decode c_Net_differences 41 = .ok (.aload_n 1, 1) := by decide +kernel
theorem d_Net_differences_42 : decode c_Net_differences 42 = .ok (.getfield 22, 3) := by decide +kernel
theorem d_Net_differences_45 : decode c_Net_differences 45 = .ok (.iload_n 3, 1) := by decide +kernel
theorem d_Net_differences_46 : decode c_Net_differences 46 = .ok (.iaload, 1) := by decide +kernel
theorem d_Net_differences_47 : decode c_Net_differences 47 = .ok (.if_icmp .eq 6, 3) := by decide +kernel
theorem d_Net_differences_50 : decode c_Net_differences 50 = .ok (.iinc 2 1, 3) := by decide +kernel
theorem d_Net_differences_53 : decode c_Net_differences 53 = .ok (.iinc 3 1, 3) := by decide +kernel
theorem d_Net_differences_56 : decode c_Net_differences 56 = .ok (.goto (-52), 3) := by decide +kernel
theorem d_Net_differences_59 : decode c_Net_differences 59 = .ok (.iload_n 2, 1) := by decide +kernel
theorem d_Net_differences_60 : decode c_Net_differences 60 = .ok (.ireturn, 1) := by decide +kernel
theorem d_Layers_sizeOf_0 : decode c_Layers_sizeOf 0 = .ok (.aload_n 0, 1) := by decide +kernel
theorem d_Layers_sizeOf_1 : decode c_Layers_sizeOf 1 = .ok (.getfield 19, 3) := by decide +kernel
theorem d_Layers_sizeOf_4 : decode c_Layers_sizeOf 4 = .ok (.iload_n 1, 1) := by decide +kernel
theorem d_Layers_sizeOf_5 : decode c_Layers_sizeOf 5 = .ok (.iaload, 1) := by decide +kernel
theorem d_Layers_sizeOf_6 : decode c_Layers_sizeOf 6 = .ok (.ireturn, 1) := by decide +kernel
theorem d_PatternSet_first_0 : decode c_PatternSet_first 0 = .ok (.iconst 0, 1) := by decide +kernel
theorem d_PatternSet_first_1 : decode c_PatternSet_first 1 = .ok (.istore_n 1, 1) := by decide +kernel
theorem d_PatternSet_first_2 : decode c_PatternSet_first 2 = .ok (.iload_n 1, 1) := by decide +kernel
theorem d_PatternSet_first_3 : decode c_PatternSet_first 3 = .ok (.iconst 4, 1) := by decide +kernel
theorem d_PatternSet_first_4 : decode c_PatternSet_first 4 = .ok (.if_icmp .ge 45, 3) := by decide +kernel
theorem d_PatternSet_first_7 : decode c_PatternSet_first 7 = .ok (.aload_n 0, 1) := by decide +kernel
theorem d_PatternSet_first_8 : decode c_PatternSet_first 8 = .ok (.getfield 11, 3) := by decide +kernel
theorem d_PatternSet_first_11 : decode c_PatternSet_first 11 = .ok (.iload_n 1, 1) := by decide +kernel
theorem d_PatternSet_first_12 : decode c_PatternSet_first 12 = .ok (.laload, 1) := by decide +kernel
theorem d_PatternSet_first_13 : decode c_PatternSet_first 13 = .ok (.lconst 0, 1) := by decide +kernel
theorem d_PatternSet_first_14 : decode c_PatternSet_first 14 = .ok (.lcmp, 1) := by decide +kernel
theorem d_PatternSet_first_15 : decode c_PatternSet_first 15 = .ok (.ifCond .eq 28, 3) := by decide +kernel
theorem d_PatternSet_first_18 : decode c_PatternSet_first 18 = .ok (.bipush 64, 2) := by decide +kernel
theorem d_PatternSet_first_20 : decode c_PatternSet_first 20 = .ok (.iload_n 1, 1) := by decide +kernel
theorem d_PatternSet_first_21 : decode c_PatternSet_first 21 = .ok (.imul, 1) := by decide +kernel
theorem d_PatternSet_first_22 : decode c_PatternSet_first 22 = .ok (.aload_n 0, 1) := by decide +kernel
theorem d_PatternSet_first_23 : decode c_PatternSet_first 23 = .ok (.getfield 11, 3) := by decide +kernel
theorem d_PatternSet_first_26 : decode c_PatternSet_first 26 = .ok (.iload_n 1, 1) := by decide +kernel
theorem d_PatternSet_first_27 : decode c_PatternSet_first 27 = .ok (.laload, 1) := by decide +kernel
theorem d_PatternSet_first_28 : decode c_PatternSet_first 28 = .ok (.aload_n 0, 1) := by decide +kernel
theorem d_PatternSet_first_29 : decode c_PatternSet_first 29 = .ok (.getfield 11, 3) := by decide +kernel
theorem d_PatternSet_first_32 : decode c_PatternSet_first 32 = .ok (.iload_n 1, 1) := by decide +kernel
theorem d_PatternSet_first_33 : decode c_PatternSet_first 33 = .ok (.laload, 1) := by decide +kernel
theorem d_PatternSet_first_34 : decode c_PatternSet_first 34 = .ok (.lneg, 1) := by decide +kernel
theorem d_PatternSet_first_35 : decode c_PatternSet_first 35 = .ok (.land, 1) := by decide +kernel
theorem d_PatternSet_first_36 : decode c_PatternSet_first 36 = .ok (.lconst 1, 1) := by decide +kernel
theorem d_PatternSet_first_37 : decode c_PatternSet_first 37 = .ok (.lsub, 1) := by decide +kernel
theorem d_PatternSet_first_38 : decode c_PatternSet_first 38 = .ok (.invokestatic 15, 3) := by decide +kernel
theorem d_PatternSet_first_41 : decode c_PatternSet_first 41 = .ok (.iadd, 1) := by decide +kernel
theorem d_PatternSet_first_42 : decode c_PatternSet_first 42 = .ok (.ireturn, 1) := by decide +kernel
theorem d_PatternSet_first_43 : decode c_PatternSet_first 43 = .ok (.iinc 1 1, 3) := by decide +kernel
theorem d_PatternSet_first_46 : decode c_PatternSet_first 46 = .ok (.goto (-44), 3) := by decide +kernel
theorem d_PatternSet_first_49 : decode c_PatternSet_first 49 = .ok (.iconst (-1), 1) := by decide +kernel
theorem d_PatternSet_first_50 : decode c_PatternSet_first 50 = .ok (.ireturn, 1) := by decide +kernel
theorem d_PatternSet_isEmpty_0 : decode c_PatternSet_isEmpty 0 = .ok (.aload_n 0, 1) := by decide +kernel
theorem d_PatternSet_isEmpty_1 : decode c_PatternSet_isEmpty 1 = .ok (.invokevirtual 21, 3) := by decide +kernel
theorem d_PatternSet_isEmpty_4 : decode c_PatternSet_isEmpty 4 = .ok (.iconst (-1), 1) := by decide +kernel
theorem d_PatternSet_isEmpty_5 : decode c_PatternSet_isEmpty 5 = .ok (.if_icmp .ne 7, 3) := by decide +kernel
theorem d_PatternSet_isEmpty_8 : decode c_PatternSet_isEmpty 8 = .ok (.iconst 1, 1) := by decide +kernel
theorem d_PatternSet_isEmpty_9 : decode c_PatternSet_isEmpty 9 = .ok (.goto 4, 3) := by decide +kernel
theorem d_PatternSet_isEmpty_12 : decode c_PatternSet_isEmpty 12 = .ok (.iconst 0, 1) := by decide +kernel
theorem d_PatternSet_isEmpty_13 : decode c_PatternSet_isEmpty 13 = .ok (.ireturn, 1) := by decide +kernel
theorem d_Trial_listResults_0 : decode c_Trial_listResults 0 = .ok (.iconst 0, 1) := by decide +kernel
theorem d_Trial_listResults_1 : decode c_Trial_listResults 1 = .ok (.istore_n 2, 1) := by decide +kernel
theorem d_Trial_listResults_2 : decode c_Trial_listResults 2 = .ok (.iload_n 2, 1) := by decide +kernel
theorem d_Trial_listResults_3 : decode c_Trial_listResults 3 = .ok (.iconst 1, 1) := by decide +kernel
theorem d_Trial_listResults_4 : decode c_Trial_listResults 4 = .ok (.aload_n 0, 1) := by decide +kernel
theorem d_Trial_listResults_5 : decode c_Trial_listResults 5 = .ok (.getfield 17, 3) := by decide +kernel
theorem d_Trial_listResults_8 : decode c_Trial_listResults 8 = .ok (.ishl, 1) := by decide +kernel
theorem d_Trial_listResults_9 : decode c_Trial_listResults 9 = .ok (.if_icmp .ge 71, 3) := by decide +kernel
theorem d_Trial_listResults_12 : decode c_Trial_listResults 12 = .ok (.iload_n 2, 1) := by decide +kernel
theorem d_Trial_listResults_13 : decode c_Trial_listResults 13 = .ok (.aload_n 1, 1) := by decide +kernel
theorem d_Trial_listResults_14 : decode c_Trial_listResults 14 = .ok (.arraylength, 1) := by decide +kernel
theorem d_Trial_listResults_15 : decode c_Trial_listResults 15 = .ok (.if_icmp .ge 65, 3) := by decide +kernel
theorem d_Trial_listResults_18 : decode c_Trial_listResults 18 = .ok (.iconst 0, 1) := by decide +kernel
theorem d_Trial_listResults_19 : decode c_Trial_listResults 19 = .ok (.istore_n 3, 1) := by decide +kernel
theorem d_Trial_listResults_20 : decode c_Trial_listResults 20 = .ok (.iconst 0, 1) := by decide +kernel
theorem d_Trial_listResults_21 : decode c_Trial_listResults 21 = .ok (.istore 4, 2) := by decide +kernel
theorem d_Trial_listResults_23 : decode c_Trial_listResults 23 = .ok (.iload 4, 2) := by decide +kernel
theorem d_Trial_listResults_25 : decode c_Trial_listResults 25 = .ok (.aload_n 0, 1) := by decide +kernel
theorem d_Trial_listResults_26 : decode c_Trial_listResults 26 = .ok (.getfield 17, 3) := by decide +kernel
theorem d_Trial_listResults_29 : decode c_Trial_listResults 29 = .ok (.if_icmp .ge 41, 3) := by decide +kernel
theorem d_Trial_listResults_32 : decode c_Trial_listResults 32 = .ok (.aload_n 0, 1) := by decide +kernel
theorem d_Trial_listResults_33 : decode c_Trial_listResults 33 = .ok (.getfield 13, 3) := by decide +kernel
theorem d_Trial_listResults_36 : decode c_Trial_listResults 36 = .ok (.iconst 4, 1) := by decide +kernel
theorem d_Trial_listResults_37 : decode c_Trial_listResults 37 = .ok (.iload 4, 2) := by decide +kernel
theorem d_Trial_listResults_39 : decode c_Trial_listResults 39 = .ok (.imul, 1) := by decide +kernel
theorem d_Trial_listResults_40 : decode c_Trial_listResults 40 = .ok (.iload_n 2, 1) := by decide +kernel
theorem d_Trial_listResults_41 : decode c_Trial_listResults 41 = .ok (.bipush 6, 2) := by decide +kernel
theorem d_Trial_listResults_43 : decode c_Trial_listResults 43 = .ok (.ishr, 1) := by decide +kernel
theorem d_Trial_listResults_44 : decode c_Trial_listResults 44 = .ok (.iadd, 1) := by decide +kernel
theorem d_Trial_listResults_45 : decode c_Trial_listResults 45 = .ok (.laload, 1) := by decide +kernel
theorem d_Trial_listResults_46 : decode c_Trial_listResults 46 = .ok (.iload_n 2, 1) := by decide +kernel
theorem d_Trial_listResults_47 : decode c_Trial_listResults 47 = .ok (.bipush 63, 2) := by decide +kernel
theorem d_Trial_listResults_49 : decode c_Trial_listResults 49 = .ok (.iand, 1) := by decide +kernel
theorem d_Trial_listResults_50 : decode c_Trial_listResults 50 = .ok (.lushr, 1) := by decide +kernel
theorem d_Trial_listResults_51 : decode c_Trial_listResults 51 = .ok (.lconst 1, 1) := by decide +kernel
theorem d_Trial_listResults_52 : decode c_Trial_listResults 52 = .ok (.land, 1) := by decide +kernel
theorem d_Trial_listResults_53 : decode c_Trial_listResults 53 = .ok (.lstore 5, 2) := by decide +kernel
theorem d_Trial_listResults_55 : decode c_Trial_listResults 55 = .ok (.iload_n 3, 1) := by decide +kernel
theorem d_Trial_listResults_56 : decode c_Trial_listResults 56 = .ok (.lload 5, 2) := by decide +kernel
theorem d_Trial_listResults_58 : decode c_Trial_listResults 58 = .ok (.l2i, 1) := by decide +kernel
theorem d_Trial_listResults_59 : decode c_Trial_listResults 59 = .ok (.iload 4, 2) := by decide +kernel
theorem d_Trial_listResults_61 : decode c_Trial_listResults 61 = .ok (.ishl, 1) := by decide +kernel
theorem d_Trial_listResults_62 : decode c_Trial_listResults 62 = .ok (.ior, 1) := by decide +kernel
theorem d_Trial_listResults_63 : decode c_Trial_listResults 63 = .ok (.istore_n 3, 1) := by decide +kernel
theorem d_Trial_listResults_64 : decode c_Trial_listResults 64 = .ok (.iinc 4 1, 3) := by decide +kernel
theorem d_Trial_listResults_67 : decode c_Trial_listResults 67 = .ok (.goto (-44), 3) := by decide +kernel
theorem d_Trial_listResults_70 : decode c_Trial_listResults 70 = .ok (.aload_n 1, 1) := by decide +kernel
theorem d_Trial_listResults_71 : decode c_Trial_listResults 71 = .ok (.iload_n 2, 1) := by decide +kernel
theorem d_Trial_listResults_72 : decode c_Trial_listResults 72 = .ok (.iload_n 3, 1) := by decide +kernel
theorem d_Trial_listResults_73 : decode c_Trial_listResults 73 = .ok (.iastore, 1) := by decide +kernel
theorem d_Trial_listResults_74 : decode c_Trial_listResults 74 = .ok (.iinc 2 1, 3) := by decide +kernel
theorem d_Trial_listResults_77 : decode c_Trial_listResults 77 = .ok (.goto (-75), 3) := by decide +kernel
theorem d_Trial_listResults_80 : decode c_Trial_listResults 80 = .ok (.return_, 1) := by decide +kernel
theorem d_PatternSet_put_0 : decode c_PatternSet_put 0 = .ok (.aload_n 0, 1) := by decide +kernel
theorem d_PatternSet_put_1 : decode c_PatternSet_put 1 = .ok (.getfield 11, 3) := by decide +kernel
theorem d_PatternSet_put_4 : decode c_PatternSet_put 4 = .ok (.iload_n 1, 1) := by decide +kernel
theorem d_PatternSet_put_5 : decode c_PatternSet_put 5 = .ok (.bipush 6, 2) := by decide +kernel
theorem d_PatternSet_put_7 : decode c_PatternSet_put 7 = .ok (.ishr, 1) := by decide +kernel
theorem d_PatternSet_put_8 : decode c_PatternSet_put 8 = .ok (.iconst 3, 1) := by decide +kernel
theorem d_PatternSet_put_9 : decode c_PatternSet_put 9 = .ok (.iand, 1) := by decide +kernel
theorem d_PatternSet_put_10 : decode c_PatternSet_put 10 = .ok (.dup2, 1) := by decide +kernel
theorem d_PatternSet_put_11 : decode c_PatternSet_put 11 = .ok (.laload, 1) := by decide +kernel
theorem d_PatternSet_put_12 : decode c_PatternSet_put 12 = .ok (.lconst 1, 1) := by decide +kernel
theorem d_PatternSet_put_13 : decode c_PatternSet_put 13 = .ok (.iload_n 1, 1) := by decide +kernel
theorem d_PatternSet_put_14 : decode c_PatternSet_put 14 = .ok (.bipush 63, 2) := by decide +kernel
theorem d_PatternSet_put_16 : decode c_PatternSet_put 16 = .ok (.iand, 1) := by decide +kernel
theorem d_PatternSet_put_17 : decode c_PatternSet_put 17 = .ok (.lshl, 1) := by decide +kernel
theorem d_PatternSet_put_18 : decode c_PatternSet_put 18 = .ok (.lor, 1) := by decide +kernel
theorem d_PatternSet_put_19 : decode c_PatternSet_put 19 = .ok (.lastore, 1) := by decide +kernel
theorem d_PatternSet_put_20 : decode c_PatternSet_put 20 = .ok (.return_, 1) := by decide +kernel

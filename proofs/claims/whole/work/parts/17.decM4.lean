theorem d_M_has_0 : decode c_M_has 0 = .ok (.aload_n 0, 1) := by decide +kernel
theorem d_M_has_1 : decode c_M_has 1 = .ok (.iconst 0, 1) := by decide +kernel
theorem d_M_has_2 : decode c_M_has 2 = .ok (.putfield 69, 3) := by decide +kernel
theorem d_M_has_5 : decode c_M_has 5 = .ok (.iload_n 1, 1) := by decide +kernel
theorem d_M_has_6 : decode c_M_has 6 = .ok (.invokestatic 151, 3) := by decide +kernel
theorem d_M_has_9 : decode c_M_has 9 = .ok (.ifCond .eq 13, 3) := by decide +kernel
theorem d_M_has_12 : decode c_M_has 12 = .ok (.iload_n 2, 1) := by decide +kernel
theorem d_M_has_13 : decode c_M_has 13 = .ok (.i2l, 1) := by decide +kernel
theorem d_M_has_14 : decode c_M_has 14 = .ok (.lconst 0, 1) := by decide +kernel
theorem d_M_has_15 : decode c_M_has 15 = .ok (.lconst 1, 1) := by decide +kernel
theorem d_M_has_16 : decode c_M_has 16 = .ok (.invokestatic 82, 3) := by decide +kernel
theorem d_M_has_19 : decode c_M_has 19 = .ok (.ifCond .ne 5, 3) := by decide +kernel
theorem d_M_has_22 : decode c_M_has 22 = .ok (.iconst (-1), 1) := by decide +kernel
theorem d_M_has_23 : decode c_M_has 23 = .ok (.ireturn, 1) := by decide +kernel
theorem d_M_has_24 : decode c_M_has 24 = .ok (.iload_n 2, 1) := by decide +kernel
theorem d_M_has_25 : decode c_M_has 25 = .ok (.ifCond .ne 12, 3) := by decide +kernel
theorem d_M_has_28 : decode c_M_has 28 = .ok (.aload_n 0, 1) := by decide +kernel
theorem d_M_has_29 : decode c_M_has 29 = .ok (.getfield 13, 3) := by decide +kernel
theorem d_M_has_32 : decode c_M_has 32 = .ok (.iload_n 1, 1) := by decide +kernel
theorem d_M_has_33 : decode c_M_has 33 = .ok (.iaload, 1) := by decide +kernel
theorem d_M_has_34 : decode c_M_has 34 = .ok (.goto 9, 3) := by decide +kernel
theorem d_M_has_37 : decode c_M_has 37 = .ok (.aload_n 0, 1) := by decide +kernel
theorem d_M_has_38 : decode c_M_has 38 = .ok (.getfield 17, 3) := by decide +kernel
theorem d_M_has_41 : decode c_M_has 41 = .ok (.iload_n 1, 1) := by decide +kernel
theorem d_M_has_42 : decode c_M_has 42 = .ok (.iaload, 1) := by decide +kernel
theorem d_M_has_43 : decode c_M_has 43 = .ok (.ireturn, 1) := by decide +kernel
theorem d_M_count_0 : decode c_M_count 0 = .ok (.aload_n 0, 1) := by decide +kernel
theorem d_M_count_1 : decode c_M_count 1 = .ok (.iconst 0, 1) := by decide +kernel
theorem d_M_count_2 : decode c_M_count 2 = .ok (.putfield 69, 3) := by decide +kernel
theorem d_M_count_5 : decode c_M_count 5 = .ok (.iload_n 1, 1) := by decide +kernel
theorem d_M_count_6 : decode c_M_count 6 = .ok (.tableswitch 64 0 2 #[26, 31, 36], 26) := by decide +kernel
theorem d_M_count_32 : decode c_M_count 32 = .ok (.aload_n 0, 1) := by decide +kernel
theorem d_M_count_33 : decode c_M_count 33 = .ok (.getfield 73, 3) := by decide +kernel
theorem d_M_count_36 : decode c_M_count 36 = .ok (.ireturn, 1) := by decide +kernel
theorem d_M_count_37 : decode c_M_count 37 = .ok (.aload_n 0, 1) := by decide +kernel
theorem d_M_count_38 : decode c_M_count 38 = .ok (.getfield 94, 3) := by decide +kernel
theorem d_M_count_41 : decode c_M_count 41 = .ok (.ireturn, 1) := by decide +kernel
theorem d_M_count_42 : decode c_M_count 42 = .ok (.aload_n 0, 1) := by decide +kernel
theorem d_M_count_43 : decode c_M_count 43 = .ok (.getfield 17, 3) := by decide +kernel
theorem d_M_count_46 : decode c_M_count 46 = .ok (.iconst 0, 1) := by decide +kernel
theorem d_M_count_47 : decode c_M_count 47 = .ok (.iaload, 1) := by decide +kernel
theorem d_M_count_48 : decode c_M_count 48 = .ok (.aload_n 0, 1) := by decide +kernel
theorem d_M_count_49 : decode c_M_count 49 = .ok (.getfield 17, 3) := by decide +kernel
theorem d_M_count_52 : decode c_M_count 52 = .ok (.iconst 1, 1) := by decide +kernel
theorem d_M_count_53 : decode c_M_count 53 = .ok (.iaload, 1) := by decide +kernel
theorem d_M_count_54 : decode c_M_count 54 = .ok (.iadd, 1) := by decide +kernel
theorem d_M_count_55 : decode c_M_count 55 = .ok (.aload_n 0, 1) := by decide +kernel
theorem d_M_count_56 : decode c_M_count 56 = .ok (.getfield 17, 3) := by decide +kernel
theorem d_M_count_59 : decode c_M_count 59 = .ok (.iconst 2, 1) := by decide +kernel
theorem d_M_count_60 : decode c_M_count 60 = .ok (.iaload, 1) := by decide +kernel
theorem d_M_count_61 : decode c_M_count 61 = .ok (.iadd, 1) := by decide +kernel
theorem d_M_count_62 : decode c_M_count 62 = .ok (.aload_n 0, 1) := by decide +kernel
theorem d_M_count_63 : decode c_M_count 63 = .ok (.getfield 17, 3) := by decide +kernel
theorem d_M_count_66 : decode c_M_count 66 = .ok (.iconst 3, 1) := by decide +kernel
theorem d_M_count_67 : decode c_M_count 67 = .ok (.iaload, 1) := by decide +kernel
theorem d_M_count_68 : decode c_M_count 68 = .ok (.iadd, 1) := by decide +kernel
theorem d_M_count_69 : decode c_M_count 69 = .ok (.ireturn, 1) := by decide +kernel
theorem d_M_count_70 : decode c_M_count 70 = .ok (.iconst (-1), 1) := by decide +kernel
theorem d_M_count_71 : decode c_M_count 71 = .ok (.ireturn, 1) := by decide +kernel
theorem d_M_row_0 : decode c_M_row 0 = .ok (.aload_n 0, 1) := by decide +kernel
theorem d_M_row_1 : decode c_M_row 1 = .ok (.iload_n 1, 1) := by decide +kernel
theorem d_M_row_2 : decode c_M_row 2 = .ok (.i2l, 1) := by decide +kernel
theorem d_M_row_3 : decode c_M_row 3 = .ok (.lconst 0, 1) := by decide +kernel
theorem d_M_row_4 : decode c_M_row 4 = .ok (.aload_n 0, 1) := by decide +kernel
theorem d_M_row_5 : decode c_M_row 5 = .ok (.getfield 73, 3) := by decide +kernel
theorem d_M_row_8 : decode c_M_row 8 = .ok (.iconst 1, 1) := by decide +kernel
theorem d_M_row_9 : decode c_M_row 9 = .ok (.isub, 1) := by decide +kernel
theorem d_M_row_10 : decode c_M_row 10 = .ok (.i2l, 1) := by decide +kernel
theorem d_M_row_11 : decode c_M_row 11 = .ok (.invokestatic 82, 3) := by decide +kernel
theorem d_M_row_14 : decode c_M_row 14 = .ok (.ifCond .ne 7, 3) := by decide +kernel
theorem d_M_row_17 : decode c_M_row 17 = .ok (.iconst 1, 1) := by decide +kernel
theorem d_M_row_18 : decode c_M_row 18 = .ok (.goto 4, 3) := by decide +kernel
theorem d_M_row_21 : decode c_M_row 21 = .ok (.iconst 0, 1) := by decide +kernel
theorem d_M_row_22 : decode c_M_row 22 = .ok (.invokestatic 188, 3) := by decide +kernel
theorem d_M_row_25 : decode c_M_row 25 = .ok (.putfield 69, 3) := by decide +kernel
theorem d_M_row_28 : decode c_M_row 28 = .ok (.aload_n 0, 1) := by decide +kernel
theorem d_M_row_29 : decode c_M_row 29 = .ok (.getfield 69, 3) := by decide +kernel
theorem d_M_row_32 : decode c_M_row 32 = .ok (.iconst 1, 1) := by decide +kernel
theorem d_M_row_33 : decode c_M_row 33 = .ok (.if_icmp .ne 7, 3) := by decide +kernel
theorem d_M_row_36 : decode c_M_row 36 = .ok (.lconst 0, 1) := by decide +kernel
theorem d_M_row_37 : decode c_M_row 37 = .ok (.goto 9, 3) := by decide +kernel
theorem d_M_row_40 : decode c_M_row 40 = .ok (.aload_n 0, 1) := by decide +kernel
theorem d_M_row_41 : decode c_M_row 41 = .ok (.getfield 7, 3) := by decide +kernel
theorem d_M_row_44 : decode c_M_row 44 = .ok (.iload_n 1, 1) := by decide +kernel
theorem d_M_row_45 : decode c_M_row 45 = .ok (.laload, 1) := by decide +kernel
theorem d_M_row_46 : decode c_M_row 46 = .ok (.lreturn, 1) := by decide +kernel

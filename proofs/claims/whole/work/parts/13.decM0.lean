theorem d_M_thrown_0 : decode c_M_thrown 0 = .ok (.aload_n 0, 1) := by decide +kernel
theorem d_M_thrown_1 : decode c_M_thrown 1 = .ok (.getfield 69, 3) := by decide +kernel
theorem d_M_thrown_4 : decode c_M_thrown 4 = .ok (.ireturn, 1) := by decide +kernel
theorem d_M_sign_0 : decode c_M_sign 0 = .ok (.aload_n 0, 1) := by decide +kernel
theorem d_M_sign_1 : decode c_M_sign 1 = .ok (.iconst 0, 1) := by decide +kernel
theorem d_M_sign_2 : decode c_M_sign 2 = .ok (.putfield 69, 3) := by decide +kernel
theorem d_M_sign_5 : decode c_M_sign 5 = .ok (.aload_n 0, 1) := by decide +kernel
theorem d_M_sign_6 : decode c_M_sign 6 = .ok (.getfield 94, 3) := by decide +kernel
theorem d_M_sign_9 : decode c_M_sign 9 = .ok (.sipush 196, 3) := by decide +kernel
theorem d_M_sign_12 : decode c_M_sign 12 = .ok (.if_icmp .le 5, 3) := by decide +kernel
theorem d_M_sign_15 : decode c_M_sign 15 = .ok (.iconst (-1), 1) := by decide +kernel
theorem d_M_sign_16 : decode c_M_sign 16 = .ok (.ireturn, 1) := by decide +kernel
theorem d_M_sign_17 : decode c_M_sign 17 = .ok (.iconst 0, 1) := by decide +kernel
theorem d_M_sign_18 : decode c_M_sign 18 = .ok (.istore_n 2, 1) := by decide +kernel
theorem d_M_sign_19 : decode c_M_sign 19 = .ok (.iload_n 2, 1) := by decide +kernel
theorem d_M_sign_20 : decode c_M_sign 20 = .ok (.iconst 4, 1) := by decide +kernel
theorem d_M_sign_21 : decode c_M_sign 21 = .ok (.if_icmp .ge 33, 3) := by decide +kernel
theorem d_M_sign_24 : decode c_M_sign 24 = .ok (.aload_n 0, 1) := by decide +kernel
theorem d_M_sign_25 : decode c_M_sign 25 = .ok (.getfield 26, 3) := by decide +kernel
theorem d_M_sign_28 : decode c_M_sign 28 = .ok (.aload_n 0, 1) := by decide +kernel
theorem d_M_sign_29 : decode c_M_sign 29 = .ok (.getfield 94, 3) := by decide +kernel
theorem d_M_sign_32 : decode c_M_sign 32 = .ok (.iload_n 2, 1) := by decide +kernel
theorem d_M_sign_33 : decode c_M_sign 33 = .ok (.iadd, 1) := by decide +kernel
theorem d_M_sign_34 : decode c_M_sign 34 = .ok (.iload_n 1, 1) := by decide +kernel
theorem d_M_sign_35 : decode c_M_sign 35 = .ok (.bipush 24, 2) := by decide +kernel
theorem d_M_sign_37 : decode c_M_sign 37 = .ok (.bipush 8, 2) := by decide +kernel
theorem d_M_sign_39 : decode c_M_sign 39 = .ok (.iload_n 2, 1) := by decide +kernel
theorem d_M_sign_40 : decode c_M_sign 40 = .ok (.imul, 1) := by decide +kernel
theorem d_M_sign_41 : decode c_M_sign 41 = .ok (.isub, 1) := by decide +kernel
theorem d_M_sign_42 : decode c_M_sign 42 = .ok (.ishr, 1) := by decide +kernel
theorem d_M_sign_43 : decode c_M_sign 43 = .ok (.sipush 255, 3) := by decide +kernel
theorem d_M_sign_46 : decode c_M_sign 46 = .ok (.iand, 1) := by decide +kernel
theorem d_M_sign_47 : decode c_M_sign 47 = .ok (.iastore, 1) := by decide +kernel
theorem d_M_sign_48 : decode c_M_sign 48 = .ok (.iinc 2 1, 3) := by decide +kernel
theorem d_M_sign_51 : decode c_M_sign 51 = .ok (.goto (-32), 3) := by decide +kernel
theorem d_M_sign_54 : decode c_M_sign 54 = .ok (.aload_n 0, 1) := by decide +kernel
theorem d_M_sign_55 : decode c_M_sign 55 = .ok (.dup, 1) := by decide +kernel
theorem d_M_sign_56 : decode c_M_sign 56 = .ok (.getfield 94, 3) := by decide +kernel
theorem d_M_sign_59 : decode c_M_sign 59 = .ok (.iconst 4, 1) := by decide +kernel
theorem d_M_sign_60 : decode c_M_sign 60 = .ok (.iadd, 1) := by decide +kernel
theorem d_M_sign_61 : decode c_M_sign 61 = .ok (.putfield 94, 3) := by decide +kernel
theorem d_M_sign_64 : decode c_M_sign 64 = .ok (.aload_n 0, 1) := by decide +kernel
theorem d_M_sign_65 : decode c_M_sign 65 = .ok (.getfield 94, 3) := by decide +kernel
theorem d_M_sign_68 : decode c_M_sign 68 = .ok (.ireturn, 1) := by decide +kernel
theorem d_M_in_0 : decode c_M_in 0 = .ok (.lload_n 0, 1) := by decide +kernel
theorem d_M_in_1 : decode c_M_in 1 = .ok (.lload_n 2, 1) := by decide +kernel
theorem d_M_in_2 : decode c_M_in 2 = .ok (.lcmp, 1) := by decide +kernel
theorem d_M_in_3 : decode c_M_in 3 = .ok (.ifCond .lt 14, 3) := by decide +kernel
theorem d_M_in_6 : decode c_M_in 6 = .ok (.lload_n 0, 1) := by decide +kernel
theorem d_M_in_7 : decode c_M_in 7 = .ok (.lload 4, 2) := by decide +kernel
theorem d_M_in_9 : decode c_M_in 9 = .ok (.lcmp, 1) := by decide +kernel
theorem d_M_in_10 : decode c_M_in 10 = .ok (.ifCond .gt 7, 3) := by decide +kernel
theorem d_M_in_13 : decode c_M_in 13 = .ok (.iconst 1, 1) := by decide +kernel
theorem d_M_in_14 : decode c_M_in 14 = .ok (.goto 4, 3) := by decide +kernel
theorem d_M_in_17 : decode c_M_in 17 = .ok (.iconst 0, 1) := by decide +kernel
theorem d_M_in_18 : decode c_M_in 18 = .ok (.ireturn, 1) := by decide +kernel
theorem d_M_end_0 : decode c_M_end 0 = .ok (.aload_n 0, 1) := by decide +kernel
theorem d_M_end_1 : decode c_M_end 1 = .ok (.iconst 0, 1) := by decide +kernel
theorem d_M_end_2 : decode c_M_end 2 = .ok (.putfield 69, 3) := by decide +kernel
theorem d_M_end_5 : decode c_M_end 5 = .ok (.iload_n 1, 1) := by decide +kernel
theorem d_M_end_6 : decode c_M_end 6 = .ok (.i2l, 1) := by decide +kernel
theorem d_M_end_7 : decode c_M_end 7 = .ok (.lconst 0, 1) := by decide +kernel
theorem d_M_end_8 : decode c_M_end 8 = .ok (.aload_n 0, 1) := by decide +kernel
theorem d_M_end_9 : decode c_M_end 9 = .ok (.getfield 94, 3) := by decide +kernel
theorem d_M_end_12 : decode c_M_end 12 = .ok (.i2l, 1) := by decide +kernel
theorem d_M_end_13 : decode c_M_end 13 = .ok (.invokestatic 82, 3) := by decide +kernel
theorem d_M_end_16 : decode c_M_end 16 = .ok (.ifCond .ne 5, 3) := by decide +kernel
theorem d_M_end_19 : decode c_M_end 19 = .ok (.iconst 0, 1) := by decide +kernel
theorem d_M_end_20 : decode c_M_end 20 = .ok (.ireturn, 1) := by decide +kernel
theorem d_M_end_21 : decode c_M_end 21 = .ok (.aload_n 0, 1) := by decide +kernel
theorem d_M_end_22 : decode c_M_end 22 = .ok (.iload_n 1, 1) := by decide +kernel
theorem d_M_end_23 : decode c_M_end 23 = .ok (.putfield 94, 3) := by decide +kernel
theorem d_M_end_26 : decode c_M_end 26 = .ok (.iconst 1, 1) := by decide +kernel
theorem d_M_end_27 : decode c_M_end 27 = .ok (.ireturn, 1) := by decide +kernel
theorem d_M_reads_0 : decode c_M_reads 0 = .ok (.aload_n 0, 1) := by decide +kernel
theorem d_M_reads_1 : decode c_M_reads 1 = .ok (.aload_n 0, 1) := by decide +kernel
theorem d_M_reads_2 : decode c_M_reads 2 = .ok (.getfield 94, 3) := by decide +kernel
theorem d_M_reads_5 : decode c_M_reads 5 = .ok (.putfield 97, 3) := by decide +kernel
theorem d_M_reads_8 : decode c_M_reads 8 = .ok (.aload_n 0, 1) := by decide +kernel
theorem d_M_reads_9 : decode c_M_reads 9 = .ok (.iconst 0, 1) := by decide +kernel
theorem d_M_reads_10 : decode c_M_reads 10 = .ok (.putfield 94, 3) := by decide +kernel
theorem d_M_reads_13 : decode c_M_reads 13 = .ok (.aload_n 0, 1) := by decide +kernel
theorem d_M_reads_14 : decode c_M_reads 14 = .ok (.iconst 0, 1) := by decide +kernel
theorem d_M_reads_15 : decode c_M_reads 15 = .ok (.putfield 100, 3) := by decide +kernel
theorem d_M_reads_18 : decode c_M_reads 18 = .ok (.return_, 1) := by decide +kernel
theorem d_M_takesDigit_0 : decode c_M_takesDigit 0 = .ok (.aload_n 0, 1) := by decide +kernel
theorem d_M_takesDigit_1 : decode c_M_takesDigit 1 = .ok (.getfield 100, 3) := by decide +kernel
theorem d_M_takesDigit_4 : decode c_M_takesDigit 4 = .ok (.aload_n 0, 1) := by decide +kernel
theorem d_M_takesDigit_5 : decode c_M_takesDigit 5 = .ok (.getfield 97, 3) := by decide +kernel
theorem d_M_takesDigit_8 : decode c_M_takesDigit 8 = .ok (.if_icmp .ge 26, 3) := by decide +kernel
theorem d_M_takesDigit_11 : decode c_M_takesDigit 11 = .ok (.aload_n 0, 1) := by decide +kernel
theorem d_M_takesDigit_12 : decode c_M_takesDigit 12 = .ok (.getfield 26, 3) := by decide +kernel
theorem d_M_takesDigit_15 : decode c_M_takesDigit 15 = .ok (.aload_n 0, 1) := by decide +kernel
theorem d_M_takesDigit_16 : decode c_M_takesDigit 16 = .ok (.getfield 100, 3) := by decide +kernel
theorem d_M_takesDigit_19 : decode c_M_takesDigit 19 = .ok (.iaload, 1) := by decide +kernel
theorem d_M_takesDigit_20 : decode c_M_takesDigit 20 = .ok (.bipush 48, 2) := by decide +kernel
theorem d_M_takesDigit_22 : decode c_M_takesDigit 22 = .ok (.isub, 1) := by decide +kernel
theorem d_M_takesDigit_23 : decode c_M_takesDigit 23 = .ok (.i2l, 1) := by decide +kernel
theorem d_M_takesDigit_24 : decode c_M_takesDigit 24 = .ok (.iload_n 1, 1) := by decide +kernel
theorem d_M_takesDigit_25 : decode c_M_takesDigit 25 = .ok (.i2l, 1) := by decide +kernel
theorem d_M_takesDigit_26 : decode c_M_takesDigit 26 = .ok (.iload_n 2, 1) := by decide +kernel
theorem d_M_takesDigit_27 : decode c_M_takesDigit 27 = .ok (.i2l, 1) := by decide +kernel
theorem d_M_takesDigit_28 : decode c_M_takesDigit 28 = .ok (.invokestatic 82, 3) := by decide +kernel
theorem d_M_takesDigit_31 : decode c_M_takesDigit 31 = .ok (.ifCond .ne 5, 3) := by decide +kernel
theorem d_M_takesDigit_34 : decode c_M_takesDigit 34 = .ok (.iconst 0, 1) := by decide +kernel
theorem d_M_takesDigit_35 : decode c_M_takesDigit 35 = .ok (.ireturn, 1) := by decide +kernel
theorem d_M_takesDigit_36 : decode c_M_takesDigit 36 = .ok (.aload_n 0, 1) := by decide +kernel
theorem d_M_takesDigit_37 : decode c_M_takesDigit 37 = .ok (.aload_n 0, 1) := by decide +kernel
theorem d_M_takesDigit_38 : decode c_M_takesDigit 38 = .ok (.getfield 26, 3) := by decide +kernel
theorem d_M_takesDigit_41 : decode c_M_takesDigit 41 = .ok (.aload_n 0, 1) := by decide +kernel
theorem d_M_takesDigit_42 : decode c_M_takesDigit 42 = .ok (.getfield 100, 3) := by decide +kernel
theorem d_M_takesDigit_45 : decode c_M_takesDigit 45 = .ok (.iaload, 1) := by decide +kernel
theorem d_M_takesDigit_46 : decode c_M_takesDigit 46 = .ok (.bipush 48, 2) := by decide +kernel
theorem d_M_takesDigit_48 : decode c_M_takesDigit 48 = .ok (.isub, 1) := by decide +kernel
theorem d_M_takesDigit_49 : decode c_M_takesDigit 49 = .ok (.putfield 107, 3) := by decide +kernel
theorem d_M_takesDigit_52 : decode c_M_takesDigit 52 = .ok (.aload_n 0, 1) := by decide +kernel
theorem d_M_takesDigit_53 : decode c_M_takesDigit 53 = .ok (.dup, 1) := by decide +kernel
theorem d_M_takesDigit_54 : decode c_M_takesDigit 54 = .ok (.getfield 100, 3) := by decide +kernel
theorem d_M_takesDigit_57 : decode c_M_takesDigit 57 = .ok (.iconst 1, 1) := by decide +kernel
theorem d_M_takesDigit_58 : decode c_M_takesDigit 58 = .ok (.iadd, 1) := by decide +kernel
theorem d_M_takesDigit_59 : decode c_M_takesDigit 59 = .ok (.putfield 100, 3) := by decide +kernel
theorem d_M_takesDigit_62 : decode c_M_takesDigit 62 = .ok (.iconst 1, 1) := by decide +kernel
theorem d_M_takesDigit_63 : decode c_M_takesDigit 63 = .ok (.ireturn, 1) := by decide +kernel
theorem d_M_takes_0 : decode c_M_takes 0 = .ok (.aload_n 0, 1) := by decide +kernel
theorem d_M_takes_1 : decode c_M_takes 1 = .ok (.getfield 100, 3) := by decide +kernel
theorem d_M_takes_4 : decode c_M_takes 4 = .ok (.aload_n 0, 1) := by decide +kernel
theorem d_M_takes_5 : decode c_M_takes 5 = .ok (.getfield 97, 3) := by decide +kernel
theorem d_M_takes_8 : decode c_M_takes 8 = .ok (.if_icmp .ge 16, 3) := by decide +kernel
theorem d_M_takes_11 : decode c_M_takes 11 = .ok (.aload_n 0, 1) := by decide +kernel
theorem d_M_takes_12 : decode c_M_takes 12 = .ok (.getfield 26, 3) := by decide +kernel
theorem d_M_takes_15 : decode c_M_takes 15 = .ok (.aload_n 0, 1) := by decide +kernel
theorem d_M_takes_16 : decode c_M_takes 16 = .ok (.getfield 100, 3) := by decide +kernel
theorem d_M_takes_19 : decode c_M_takes 19 = .ok (.iaload, 1) := by decide +kernel
theorem d_M_takes_20 : decode c_M_takes 20 = .ok (.iload_n 1, 1) := by decide +kernel
theorem d_M_takes_21 : decode c_M_takes 21 = .ok (.if_icmp .eq 5, 3) := by decide +kernel
theorem d_M_takes_24 : decode c_M_takes 24 = .ok (.iconst 0, 1) := by decide +kernel
theorem d_M_takes_25 : decode c_M_takes 25 = .ok (.ireturn, 1) := by decide +kernel
theorem d_M_takes_26 : decode c_M_takes 26 = .ok (.aload_n 0, 1) := by decide +kernel
theorem d_M_takes_27 : decode c_M_takes 27 = .ok (.dup, 1) := by decide +kernel
theorem d_M_takes_28 : decode c_M_takes 28 = .ok (.getfield 100, 3) := by decide +kernel
theorem d_M_takes_31 : decode c_M_takes 31 = .ok (.iconst 1, 1) := by decide +kernel
theorem d_M_takes_32 : decode c_M_takes 32 = .ok (.iadd, 1) := by decide +kernel
theorem d_M_takes_33 : decode c_M_takes 33 = .ok (.putfield 100, 3) := by decide +kernel
theorem d_M_takes_36 : decode c_M_takes 36 = .ok (.iconst 1, 1) := by decide +kernel
theorem d_M_takes_37 : decode c_M_takes 37 = .ok (.ireturn, 1) := by decide +kernel
theorem d_M_takesPair_0 : decode c_M_takesPair 0 = .ok (.aload_n 0, 1) := by decide +kernel
theorem d_M_takesPair_1 : decode c_M_takesPair 1 = .ok (.iconst 0, 1) := by decide +kernel
theorem d_M_takesPair_2 : decode c_M_takesPair 2 = .ok (.aload_n 0, 1) := by decide +kernel
theorem d_M_takesPair_3 : decode c_M_takesPair 3 = .ok (.getfield 110, 3) := by decide +kernel
theorem d_M_takesPair_6 : decode c_M_takesPair 6 = .ok (.iconst 1, 1) := by decide +kernel
theorem d_M_takesPair_7 : decode c_M_takesPair 7 = .ok (.isub, 1) := by decide +kernel
theorem d_M_takesPair_8 : decode c_M_takesPair 8 = .ok (.invokevirtual 113, 3) := by decide +kernel
theorem d_M_takesPair_11 : decode c_M_takesPair 11 = .ok (.ifCond .ne 5, 3) := by decide +kernel
theorem d_M_takesPair_14 : decode c_M_takesPair 14 = .ok (.iconst 0, 1) := by decide +kernel
theorem d_M_takesPair_15 : decode c_M_takesPair 15 = .ok (.ireturn, 1) := by decide +kernel
theorem d_M_takesPair_16 : decode c_M_takesPair 16 = .ok (.aload_n 0, 1) := by decide +kernel
theorem d_M_takesPair_17 : decode c_M_takesPair 17 = .ok (.getfield 29, 3) := by decide +kernel
theorem d_M_takesPair_20 : decode c_M_takesPair 20 = .ok (.aload_n 0, 1) := by decide +kernel
theorem d_M_takesPair_21 : decode c_M_takesPair 21 = .ok (.getfield 117, 3) := by decide +kernel
theorem d_M_takesPair_24 : decode c_M_takesPair 24 = .ok (.aload_n 0, 1) := by decide +kernel
theorem d_M_takesPair_25 : decode c_M_takesPair 25 = .ok (.getfield 107, 3) := by decide +kernel
theorem d_M_takesPair_28 : decode c_M_takesPair 28 = .ok (.iastore, 1) := by decide +kernel
theorem d_M_takesPair_29 : decode c_M_takesPair 29 = .ok (.aload_n 0, 1) := by decide +kernel
theorem d_M_takesPair_30 : decode c_M_takesPair 30 = .ok (.getfield 100, 3) := by decide +kernel
theorem d_M_takesPair_33 : decode c_M_takesPair 33 = .ok (.aload_n 0, 1) := by decide +kernel
theorem d_M_takesPair_34 : decode c_M_takesPair 34 = .ok (.getfield 97, 3) := by decide +kernel
theorem d_M_takesPair_37 : decode c_M_takesPair 37 = .ok (.if_icmp .ge 24, 3) := by decide +kernel
theorem d_M_takesPair_40 : decode c_M_takesPair 40 = .ok (.aload_n 0, 1) := by decide +kernel
theorem d_M_takesPair_41 : decode c_M_takesPair 41 = .ok (.getfield 26, 3) := by decide +kernel
theorem d_M_takesPair_44 : decode c_M_takesPair 44 = .ok (.aload_n 0, 1) := by decide +kernel
theorem d_M_takesPair_45 : decode c_M_takesPair 45 = .ok (.getfield 100, 3) := by decide +kernel
theorem d_M_takesPair_48 : decode c_M_takesPair 48 = .ok (.iaload, 1) := by decide +kernel
theorem d_M_takesPair_49 : decode c_M_takesPair 49 = .ok (.bipush 48, 2) := by decide +kernel
theorem d_M_takesPair_51 : decode c_M_takesPair 51 = .ok (.isub, 1) := by decide +kernel
theorem d_M_takesPair_52 : decode c_M_takesPair 52 = .ok (.aload_n 0, 1) := by decide +kernel
theorem d_M_takesPair_53 : decode c_M_takesPair 53 = .ok (.getfield 107, 3) := by decide +kernel
theorem d_M_takesPair_56 : decode c_M_takesPair 56 = .ok (.if_icmp .ne 5, 3) := by decide +kernel
theorem d_M_takesPair_59 : decode c_M_takesPair 59 = .ok (.iconst 0, 1) := by decide +kernel
theorem d_M_takesPair_60 : decode c_M_takesPair 60 = .ok (.ireturn, 1) := by decide +kernel
theorem d_M_takesPair_61 : decode c_M_takesPair 61 = .ok (.aload_n 0, 1) := by decide +kernel
theorem d_M_takesPair_62 : decode c_M_takesPair 62 = .ok (.iconst 0, 1) := by decide +kernel
theorem d_M_takesPair_63 : decode c_M_takesPair 63 = .ok (.aload_n 0, 1) := by decide +kernel
theorem d_M_takesPair_64 : decode c_M_takesPair 64 = .ok (.getfield 110, 3) := by decide +kernel
theorem d_M_takesPair_67 : decode c_M_takesPair 67 = .ok (.iconst 1, 1) := by decide +kernel
theorem d_M_takesPair_68 : decode c_M_takesPair 68 = .ok (.isub, 1) := by decide +kernel
theorem d_M_takesPair_69 : decode c_M_takesPair 69 = .ok (.invokevirtual 113, 3) := by decide +kernel
theorem d_M_takesPair_72 : decode c_M_takesPair 72 = .ok (.ifCond .ne 5, 3) := by decide +kernel
theorem d_M_takesPair_75 : decode c_M_takesPair 75 = .ok (.iconst 0, 1) := by decide +kernel
theorem d_M_takesPair_76 : decode c_M_takesPair 76 = .ok (.ireturn, 1) := by decide +kernel
theorem d_M_takesPair_77 : decode c_M_takesPair 77 = .ok (.aload_n 0, 1) := by decide +kernel
theorem d_M_takesPair_78 : decode c_M_takesPair 78 = .ok (.getfield 32, 3) := by decide +kernel
theorem d_M_takesPair_81 : decode c_M_takesPair 81 = .ok (.aload_n 0, 1) := by decide +kernel
theorem d_M_takesPair_82 : decode c_M_takesPair 82 = .ok (.getfield 117, 3) := by decide +kernel
theorem d_M_takesPair_85 : decode c_M_takesPair 85 = .ok (.aload_n 0, 1) := by decide +kernel
theorem d_M_takesPair_86 : decode c_M_takesPair 86 = .ok (.getfield 107, 3) := by decide +kernel
theorem d_M_takesPair_89 : decode c_M_takesPair 89 = .ok (.iastore, 1) := by decide +kernel
theorem d_M_takesPair_90 : decode c_M_takesPair 90 = .ok (.aload_n 0, 1) := by decide +kernel
theorem d_M_takesPair_91 : decode c_M_takesPair 91 = .ok (.dup, 1) := by decide +kernel
theorem d_M_takesPair_92 : decode c_M_takesPair 92 = .ok (.getfield 117, 3) := by decide +kernel
theorem d_M_takesPair_95 : decode c_M_takesPair 95 = .ok (.iconst 1, 1) := by decide +kernel
theorem d_M_takesPair_96 : decode c_M_takesPair 96 = .ok (.iadd, 1) := by decide +kernel
theorem d_M_takesPair_97 : decode c_M_takesPair 97 = .ok (.putfield 117, 3) := by decide +kernel
theorem d_M_takesPair_100 : decode c_M_takesPair 100 = .ok (.iconst 1, 1) := by decide +kernel
theorem d_M_takesPair_101 : decode c_M_takesPair 101 = .ok (.ireturn, 1) := by decide +kernel
theorem d_M_takesNet_0 : decode c_M_takesNet 0 = .ok (.aload_n 0, 1) := by decide +kernel
theorem d_M_takesNet_1 : decode c_M_takesNet 1 = .ok (.iconst 0, 1) := by decide +kernel
theorem d_M_takesNet_2 : decode c_M_takesNet 2 = .ok (.putfield 117, 3) := by decide +kernel
theorem d_M_takesNet_5 : decode c_M_takesNet 5 = .ok (.aload_n 0, 1) := by decide +kernel
theorem d_M_takesNet_6 : decode c_M_takesNet 6 = .ok (.iconst 2, 1) := by decide +kernel
theorem d_M_takesNet_7 : decode c_M_takesNet 7 = .ok (.bipush 8, 2) := by decide +kernel
theorem d_M_takesNet_9 : decode c_M_takesNet 9 = .ok (.invokevirtual 113, 3) := by decide +kernel
theorem d_M_takesNet_12 : decode c_M_takesNet 12 = .ok (.ifCond .ne 5, 3) := by decide +kernel
theorem d_M_takesNet_15 : decode c_M_takesNet 15 = .ok (.iconst 0, 1) := by decide +kernel
theorem d_M_takesNet_16 : decode c_M_takesNet 16 = .ok (.ireturn, 1) := by decide +kernel
theorem d_M_takesNet_17 : decode c_M_takesNet 17 = .ok (.aload_n 0, 1) := by decide +kernel
theorem d_M_takesNet_18 : decode c_M_takesNet 18 = .ok (.aload_n 0, 1) := by decide +kernel
theorem d_M_takesNet_19 : decode c_M_takesNet 19 = .ok (.getfield 107, 3) := by decide +kernel
theorem d_M_takesNet_22 : decode c_M_takesNet 22 = .ok (.putfield 110, 3) := by decide +kernel
theorem d_M_takesNet_25 : decode c_M_takesNet 25 = .ok (.aload_n 0, 1) := by decide +kernel
theorem d_M_takesNet_26 : decode c_M_takesNet 26 = .ok (.bipush 58, 2) := by decide +kernel
theorem d_M_takesNet_28 : decode c_M_takesNet 28 = .ok (.invokevirtual 120, 3) := by decide +kernel
theorem d_M_takesNet_31 : decode c_M_takesNet 31 = .ok (.ifCond .ne 5, 3) := by decide +kernel
theorem d_M_takesNet_34 : decode c_M_takesNet 34 = .ok (.iconst 0, 1) := by decide +kernel
theorem d_M_takesNet_35 : decode c_M_takesNet 35 = .ok (.ireturn, 1) := by decide +kernel
theorem d_M_takesNet_36 : decode c_M_takesNet 36 = .ok (.aload_n 0, 1) := by decide +kernel
theorem d_M_takesNet_37 : decode c_M_takesNet 37 = .ok (.getfield 100, 3) := by decide +kernel
theorem d_M_takesNet_40 : decode c_M_takesNet 40 = .ok (.aload_n 0, 1) := by decide +kernel
theorem d_M_takesNet_41 : decode c_M_takesNet 41 = .ok (.getfield 97, 3) := by decide +kernel
theorem d_M_takesNet_44 : decode c_M_takesNet 44 = .ok (.if_icmp .ne 5, 3) := by decide +kernel
theorem d_M_takesNet_47 : decode c_M_takesNet 47 = .ok (.iconst 1, 1) := by decide +kernel
theorem d_M_takesNet_48 : decode c_M_takesNet 48 = .ok (.ireturn, 1) := by decide +kernel
theorem d_M_takesNet_49 : decode c_M_takesNet 49 = .ok (.iconst 1, 1) := by decide +kernel
theorem d_M_takesNet_50 : decode c_M_takesNet 50 = .ok (.istore_n 1, 1) := by decide +kernel
theorem d_M_takesNet_51 : decode c_M_takesNet 51 = .ok (.iload_n 1, 1) := by decide +kernel
theorem d_M_takesNet_52 : decode c_M_takesNet 52 = .ok (.ifCond .eq 39, 3) := by decide +kernel
theorem d_M_takesNet_55 : decode c_M_takesNet 55 = .ok (.aload_n 0, 1) := by decide +kernel
theorem d_M_takesNet_56 : decode c_M_takesNet 56 = .ok (.invokevirtual 124, 3) := by decide +kernel
theorem d_M_takesNet_59 : decode c_M_takesNet 59 = .ok (.ifCond .ne 5, 3) := by decide +kernel
theorem d_M_takesNet_62 : decode c_M_takesNet 62 = .ok (.iconst 0, 1) := by decide +kernel
theorem d_M_takesNet_63 : decode c_M_takesNet 63 = .ok (.ireturn, 1) := by decide +kernel
theorem d_M_takesNet_64 : decode c_M_takesNet 64 = .ok (.aload_n 0, 1) := by decide +kernel
theorem d_M_takesNet_65 : decode c_M_takesNet 65 = .ok (.getfield 117, 3) := by decide +kernel
theorem d_M_takesNet_68 : decode c_M_takesNet 68 = .ok (.bipush 60, 2) := by decide +kernel
theorem d_M_takesNet_70 : decode c_M_takesNet 70 = .ok (.if_icmp .ge 16, 3) := by decide +kernel
theorem d_M_takesNet_73 : decode c_M_takesNet 73 = .ok (.aload_n 0, 1) := by decide +kernel
theorem d_M_takesNet_74 : decode c_M_takesNet 74 = .ok (.bipush 44, 2) := by decide +kernel
theorem d_M_takesNet_76 : decode c_M_takesNet 76 = .ok (.invokevirtual 120, 3) := by decide +kernel
theorem d_M_takesNet_79 : decode c_M_takesNet 79 = .ok (.ifCond .eq 7, 3) := by decide +kernel
theorem d_M_takesNet_82 : decode c_M_takesNet 82 = .ok (.iconst 1, 1) := by decide +kernel
theorem d_M_takesNet_83 : decode c_M_takesNet 83 = .ok (.goto 4, 3) := by decide +kernel
theorem d_M_takesNet_86 : decode c_M_takesNet 86 = .ok (.iconst 0, 1) := by decide +kernel
theorem d_M_takesNet_87 : decode c_M_takesNet 87 = .ok (.istore_n 1, 1) := by decide +kernel
theorem d_M_takesNet_88 : decode c_M_takesNet 88 = .ok (.goto (-37), 3) := by decide +kernel
theorem d_M_takesNet_91 : decode c_M_takesNet 91 = .ok (.aload_n 0, 1) := by decide +kernel
theorem d_M_takesNet_92 : decode c_M_takesNet 92 = .ok (.getfield 100, 3) := by decide +kernel
theorem d_M_takesNet_95 : decode c_M_takesNet 95 = .ok (.aload_n 0, 1) := by decide +kernel
theorem d_M_takesNet_96 : decode c_M_takesNet 96 = .ok (.getfield 97, 3) := by decide +kernel
theorem d_M_takesNet_99 : decode c_M_takesNet 99 = .ok (.if_icmp .ne 7, 3) := by decide +kernel
theorem d_M_takesNet_102 : decode c_M_takesNet 102 = .ok (.iconst 1, 1) := by decide +kernel
theorem d_M_takesNet_103 : decode c_M_takesNet 103 = .ok (.goto 4, 3) := by decide +kernel
theorem d_M_takesNet_106 : decode c_M_takesNet 106 = .ok (.iconst 0, 1) := by decide +kernel
theorem d_M_takesNet_107 : decode c_M_takesNet 107 = .ok (.ireturn, 1) := by decide +kernel
theorem d_M_isNet_0 : decode c_M_isNet 0 = .ok (.iload_n 0, 1) := by decide +kernel
theorem d_M_isNet_1 : decode c_M_isNet 1 = .ok (.i2l, 1) := by decide +kernel
theorem d_M_isNet_2 : decode c_M_isNet 2 = .ok (.lconst 0, 1) := by decide +kernel
theorem d_M_isNet_3 : decode c_M_isNet 3 = .ok (.ldc2_w 80, 3) := by decide +kernel
theorem d_M_isNet_6 : decode c_M_isNet 6 = .ok (.invokestatic 82, 3) := by decide +kernel
theorem d_M_isNet_9 : decode c_M_isNet 9 = .ok (.ireturn, 1) := by decide +kernel
theorem d_M_begins_0 : decode c_M_begins 0 = .ok (.aload_n 0, 1) := by decide +kernel
theorem d_M_begins_1 : decode c_M_begins 1 = .ok (.getfield 13, 3) := by decide +kernel
theorem d_M_begins_4 : decode c_M_begins 4 = .ok (.iload_n 1, 1) := by decide +kernel
theorem d_M_begins_5 : decode c_M_begins 5 = .ok (.iload_n 2, 1) := by decide +kernel
theorem d_M_begins_6 : decode c_M_begins 6 = .ok (.iastore, 1) := by decide +kernel
theorem d_M_begins_7 : decode c_M_begins 7 = .ok (.aload_n 0, 1) := by decide +kernel
theorem d_M_begins_8 : decode c_M_begins 8 = .ok (.getfield 17, 3) := by decide +kernel
theorem d_M_begins_11 : decode c_M_begins 11 = .ok (.iload_n 1, 1) := by decide +kernel
theorem d_M_begins_12 : decode c_M_begins 12 = .ok (.iconst 0, 1) := by decide +kernel
theorem d_M_begins_13 : decode c_M_begins 13 = .ok (.iastore, 1) := by decide +kernel
theorem d_M_begins_14 : decode c_M_begins 14 = .ok (.return_, 1) := by decide +kernel
theorem d_M_sets_0 : decode c_M_sets 0 = .ok (.aload_n 0, 1) := by decide +kernel
theorem d_M_sets_1 : decode c_M_sets 1 = .ok (.getfield 20, 3) := by decide +kernel
theorem d_M_sets_4 : decode c_M_sets 4 = .ok (.bipush 60, 2) := by decide +kernel
theorem d_M_sets_6 : decode c_M_sets 6 = .ok (.iload_n 1, 1) := by decide +kernel
theorem d_M_sets_7 : decode c_M_sets 7 = .ok (.imul, 1) := by decide +kernel
theorem d_M_sets_8 : decode c_M_sets 8 = .ok (.iload_n 2, 1) := by decide +kernel
theorem d_M_sets_9 : decode c_M_sets 9 = .ok (.iadd, 1) := by decide +kernel
theorem d_M_sets_10 : decode c_M_sets 10 = .ok (.iload_n 3, 1) := by decide +kernel
theorem d_M_sets_11 : decode c_M_sets 11 = .ok (.iastore, 1) := by decide +kernel
theorem d_M_sets_12 : decode c_M_sets 12 = .ok (.aload_n 0, 1) := by decide +kernel
theorem d_M_sets_13 : decode c_M_sets 13 = .ok (.getfield 23, 3) := by decide +kernel
theorem d_M_sets_16 : decode c_M_sets 16 = .ok (.bipush 60, 2) := by decide +kernel
theorem d_M_sets_18 : decode c_M_sets 18 = .ok (.iload_n 1, 1) := by decide +kernel
theorem d_M_sets_19 : decode c_M_sets 19 = .ok (.imul, 1) := by decide +kernel
theorem d_M_sets_20 : decode c_M_sets 20 = .ok (.iload_n 2, 1) := by decide +kernel
theorem d_M_sets_21 : decode c_M_sets 21 = .ok (.iadd, 1) := by decide +kernel
theorem d_M_sets_22 : decode c_M_sets 22 = .ok (.iload 4, 2) := by decide +kernel
theorem d_M_sets_24 : decode c_M_sets 24 = .ok (.iastore, 1) := by decide +kernel
theorem d_M_sets_25 : decode c_M_sets 25 = .ok (.return_, 1) := by decide +kernel
theorem d_M_comes3_0 : decode c_M_comes3 0 = .ok (.aload_n 0, 1) := by decide +kernel
theorem d_M_comes3_1 : decode c_M_comes3 1 = .ok (.iload_n 1, 1) := by decide +kernel
theorem d_M_comes3_2 : decode c_M_comes3 2 = .ok (.aload_n 0, 1) := by decide +kernel
theorem d_M_comes3_3 : decode c_M_comes3 3 = .ok (.getfield 17, 3) := by decide +kernel
theorem d_M_comes3_6 : decode c_M_comes3 6 = .ok (.iload_n 1, 1) := by decide +kernel
theorem d_M_comes3_7 : decode c_M_comes3 7 = .ok (.iaload, 1) := by decide +kernel
theorem d_M_comes3_8 : decode c_M_comes3 8 = .ok (.iload_n 2, 1) := by decide +kernel
theorem d_M_comes3_9 : decode c_M_comes3 9 = .ok (.iload_n 3, 1) := by decide +kernel
theorem d_M_comes3_10 : decode c_M_comes3 10 = .ok (.invokevirtual 90, 3) := by decide +kernel
theorem d_M_comes3_13 : decode c_M_comes3 13 = .ok (.aload_n 0, 1) := by decide +kernel
theorem d_M_comes3_14 : decode c_M_comes3 14 = .ok (.getfield 17, 3) := by decide +kernel
theorem d_M_comes3_17 : decode c_M_comes3 17 = .ok (.iload_n 1, 1) := by decide +kernel
theorem d_M_comes3_18 : decode c_M_comes3 18 = .ok (.dup2, 1) := by decide +kernel
theorem d_M_comes3_19 : decode c_M_comes3 19 = .ok (.iaload, 1) := by decide +kernel
theorem d_M_comes3_20 : decode c_M_comes3 20 = .ok (.iconst 1, 1) := by decide +kernel
theorem d_M_comes3_21 : decode c_M_comes3 21 = .ok (.iadd, 1) := by decide +kernel
theorem d_M_comes3_22 : decode c_M_comes3 22 = .ok (.iastore, 1) := by decide +kernel
theorem d_M_comes3_23 : decode c_M_comes3 23 = .ok (.return_, 1) := by decide +kernel
theorem d_M_untangles_0 : decode c_M_untangles 0 = .ok (.aload_n 0, 1) := by decide +kernel
theorem d_M_untangles_1 : decode c_M_untangles 1 = .ok (.iload_n 1, 1) := by decide +kernel
theorem d_M_untangles_2 : decode c_M_untangles 2 = .ok (.iload_n 2, 1) := by decide +kernel
theorem d_M_untangles_3 : decode c_M_untangles 3 = .ok (.invokevirtual 128, 3) := by decide +kernel
theorem d_M_untangles_6 : decode c_M_untangles 6 = .ok (.iconst 0, 1) := by decide +kernel
theorem d_M_untangles_7 : decode c_M_untangles 7 = .ok (.istore_n 3, 1) := by decide +kernel
theorem d_M_untangles_8 : decode c_M_untangles 8 = .ok (.iload_n 3, 1) := by decide +kernel
theorem d_M_untangles_9 : decode c_M_untangles 9 = .ok (.iload_n 2, 1) := by decide +kernel
theorem d_M_untangles_10 : decode c_M_untangles 10 = .ok (.if_icmp .ge 16, 3) := by decide +kernel
theorem d_M_untangles_13 : decode c_M_untangles 13 = .ok (.aload_n 0, 1) := by decide +kernel
theorem d_M_untangles_14 : decode c_M_untangles 14 = .ok (.getfield 35, 3) := by decide +kernel
theorem d_M_untangles_17 : decode c_M_untangles 17 = .ok (.iload_n 3, 1) := by decide +kernel
theorem d_M_untangles_18 : decode c_M_untangles 18 = .ok (.iload_n 3, 1) := by decide +kernel
theorem d_M_untangles_19 : decode c_M_untangles 19 = .ok (.iastore, 1) := by decide +kernel
theorem d_M_untangles_20 : decode c_M_untangles 20 = .ok (.iinc 3 1, 3) := by decide +kernel
theorem d_M_untangles_23 : decode c_M_untangles 23 = .ok (.goto (-15), 3) := by decide +kernel
theorem d_M_untangles_26 : decode c_M_untangles 26 = .ok (.iconst 0, 1) := by decide +kernel
theorem d_M_untangles_27 : decode c_M_untangles 27 = .ok (.istore_n 3, 1) := by decide +kernel
theorem d_M_untangles_28 : decode c_M_untangles 28 = .ok (.iload_n 3, 1) := by decide +kernel
theorem d_M_untangles_29 : decode c_M_untangles 29 = .ok (.aload_n 0, 1) := by decide +kernel
theorem d_M_untangles_30 : decode c_M_untangles 30 = .ok (.getfield 117, 3) := by decide +kernel
theorem d_M_untangles_33 : decode c_M_untangles 33 = .ok (.if_icmp .ge 87, 3) := by decide +kernel
theorem d_M_untangles_36 : decode c_M_untangles 36 = .ok (.aload_n 0, 1) := by decide +kernel
theorem d_M_untangles_37 : decode c_M_untangles 37 = .ok (.getfield 35, 3) := by decide +kernel
theorem d_M_untangles_40 : decode c_M_untangles 40 = .ok (.aload_n 0, 1) := by decide +kernel
theorem d_M_untangles_41 : decode c_M_untangles 41 = .ok (.getfield 29, 3) := by decide +kernel
theorem d_M_untangles_44 : decode c_M_untangles 44 = .ok (.iload_n 3, 1) := by decide +kernel
theorem d_M_untangles_45 : decode c_M_untangles 45 = .ok (.iaload, 1) := by decide +kernel
theorem d_M_untangles_46 : decode c_M_untangles 46 = .ok (.iaload, 1) := by decide +kernel
theorem d_M_untangles_47 : decode c_M_untangles 47 = .ok (.istore 4, 2) := by decide +kernel
theorem d_M_untangles_49 : decode c_M_untangles 49 = .ok (.aload_n 0, 1) := by decide +kernel
theorem d_M_untangles_50 : decode c_M_untangles 50 = .ok (.getfield 35, 3) := by decide +kernel
theorem d_M_untangles_53 : decode c_M_untangles 53 = .ok (.aload_n 0, 1) := by decide +kernel
theorem d_M_untangles_54 : decode c_M_untangles 54 = .ok (.getfield 32, 3) := by decide +kernel
theorem d_M_untangles_57 : decode c_M_untangles 57 = .ok (.iload_n 3, 1) := by decide +kernel
theorem d_M_untangles_58 : decode c_M_untangles 58 = .ok (.iaload, 1) := by decide +kernel
theorem d_M_untangles_59 : decode c_M_untangles 59 = .ok (.iaload, 1) := by decide +kernel
theorem d_M_untangles_60 : decode c_M_untangles 60 = .ok (.istore 5, 2) := by decide +kernel
theorem d_M_untangles_62 : decode c_M_untangles 62 = .ok (.aload_n 0, 1) := by decide +kernel
theorem d_M_untangles_63 : decode c_M_untangles 63 = .ok (.iload_n 1, 1) := by decide +kernel
theorem d_M_untangles_64 : decode c_M_untangles 64 = .ok (.iload 4, 2) := by decide +kernel
theorem d_M_untangles_66 : decode c_M_untangles 66 = .ok (.iload 5, 2) := by decide +kernel
theorem d_M_untangles_68 : decode c_M_untangles 68 = .ok (.invokestatic 132, 3) := by decide +kernel
theorem d_M_untangles_71 : decode c_M_untangles 71 = .ok (.iload 4, 2) := by decide +kernel
theorem d_M_untangles_73 : decode c_M_untangles 73 = .ok (.iload 5, 2) := by decide +kernel
theorem d_M_untangles_75 : decode c_M_untangles 75 = .ok (.invokestatic 138, 3) := by decide +kernel
theorem d_M_untangles_78 : decode c_M_untangles 78 = .ok (.invokevirtual 141, 3) := by decide +kernel
theorem d_M_untangles_81 : decode c_M_untangles 81 = .ok (.iload 4, 2) := by decide +kernel
theorem d_M_untangles_83 : decode c_M_untangles 83 = .ok (.iload 5, 2) := by decide +kernel
theorem d_M_untangles_85 : decode c_M_untangles 85 = .ok (.if_icmp .le 29, 3) := by decide +kernel
theorem d_M_untangles_88 : decode c_M_untangles 88 = .ok (.aload_n 0, 1) := by decide +kernel
theorem d_M_untangles_89 : decode c_M_untangles 89 = .ok (.getfield 35, 3) := by decide +kernel
theorem d_M_untangles_92 : decode c_M_untangles 92 = .ok (.aload_n 0, 1) := by decide +kernel
theorem d_M_untangles_93 : decode c_M_untangles 93 = .ok (.getfield 29, 3) := by decide +kernel
theorem d_M_untangles_96 : decode c_M_untangles 96 = .ok (.iload_n 3, 1) := by decide +kernel
theorem d_M_untangles_97 : decode c_M_untangles 97 = .ok (.iaload, 1) := by decide +kernel
theorem d_M_untangles_98 : decode c_M_untangles 98 = .ok (.iload 5, 2) := by decide +kernel
theorem d_M_untangles_100 : decode c_M_untangles 100 = .ok (.iastore, 1) := by decide +kernel
theorem d_M_untangles_101 : decode c_M_untangles 101 = .ok (.aload_n 0, 1) := by decide +kernel
theorem d_M_untangles_102 : decode c_M_untangles 102 = .ok (.getfield 35, 3) := by decide +kernel
theorem d_M_untangles_105 : decode c_M_untangles 105 = .ok (.aload_n 0, 1) := by decide +kernel
theorem d_M_untangles_106 : decode c_M_untangles 106 = .ok (.getfield 32, 3) := by decide +kernel
theorem d_M_untangles_109 : decode c_M_untangles 109 = .ok (.iload_n 3, 1) := by decide +kernel
theorem d_M_untangles_110 : decode c_M_untangles 110 = .ok (.iaload, 1) := by decide +kernel
theorem d_M_untangles_111 : decode c_M_untangles 111 = .ok (.iload 4, 2) := by decide +kernel
theorem d_M_untangles_113 : decode c_M_untangles 113 = .ok (.iastore, 1) := by decide +kernel
theorem d_M_untangles_114 : decode c_M_untangles 114 = .ok (.iinc 3 1, 3) := by decide +kernel
theorem d_M_untangles_117 : decode c_M_untangles 117 = .ok (.goto (-89), 3) := by decide +kernel
theorem d_M_untangles_120 : decode c_M_untangles 120 = .ok (.return_, 1) := by decide +kernel
theorem d_M_enters_0 : decode c_M_enters 0 = .ok (.aload_n 0, 1) := by decide +kernel
theorem d_M_enters_1 : decode c_M_enters 1 = .ok (.getfield 7, 3) := by decide +kernel
theorem d_M_enters_4 : decode c_M_enters 4 = .ok (.aload_n 0, 1) := by decide +kernel
theorem d_M_enters_5 : decode c_M_enters 5 = .ok (.getfield 73, 3) := by decide +kernel
theorem d_M_enters_8 : decode c_M_enters 8 = .ok (.lload_n 1, 1) := by decide +kernel
theorem d_M_enters_9 : decode c_M_enters 9 = .ok (.lastore, 1) := by decide +kernel
theorem d_M_enters_10 : decode c_M_enters 10 = .ok (.aload_n 0, 1) := by decide +kernel
theorem d_M_enters_11 : decode c_M_enters 11 = .ok (.dup, 1) := by decide +kernel
theorem d_M_enters_12 : decode c_M_enters 12 = .ok (.getfield 73, 3) := by decide +kernel
theorem d_M_enters_15 : decode c_M_enters 15 = .ok (.iconst 1, 1) := by decide +kernel
theorem d_M_enters_16 : decode c_M_enters 16 = .ok (.iadd, 1) := by decide +kernel
theorem d_M_enters_17 : decode c_M_enters 17 = .ok (.putfield 73, 3) := by decide +kernel
theorem d_M_enters_20 : decode c_M_enters 20 = .ok (.return_, 1) := by decide +kernel
theorem d_M_net_0 : decode c_M_net 0 = .ok (.aload_n 0, 1) := by decide +kernel
theorem d_M_net_1 : decode c_M_net 1 = .ok (.iconst 0, 1) := by decide +kernel
theorem d_M_net_2 : decode c_M_net 2 = .ok (.putfield 69, 3) := by decide +kernel
theorem d_M_net_5 : decode c_M_net 5 = .ok (.aload_n 0, 1) := by decide +kernel
theorem d_M_net_6 : decode c_M_net 6 = .ok (.invokevirtual 145, 3) := by decide +kernel
theorem d_M_net_9 : decode c_M_net 9 = .ok (.aload_n 0, 1) := by decide +kernel
theorem d_M_net_10 : decode c_M_net 10 = .ok (.invokevirtual 148, 3) := by decide +kernel
theorem d_M_net_13 : decode c_M_net 13 = .ok (.ifCond .ne 11, 3) := by decide +kernel
theorem d_M_net_16 : decode c_M_net 16 = .ok (.bipush (-21), 2) := by decide +kernel
theorem d_M_net_18 : decode c_M_net 18 = .ok (.aload_n 0, 1) := by decide +kernel
theorem d_M_net_19 : decode c_M_net 19 = .ok (.getfield 100, 3) := by decide +kernel
theorem d_M_net_22 : decode c_M_net 22 = .ok (.isub, 1) := by decide +kernel
theorem d_M_net_23 : decode c_M_net 23 = .ok (.ireturn, 1) := by decide +kernel
theorem d_M_net_24 : decode c_M_net 24 = .ok (.iload_n 1, 1) := by decide +kernel
theorem d_M_net_25 : decode c_M_net 25 = .ok (.invokestatic 151, 3) := by decide +kernel
theorem d_M_net_28 : decode c_M_net 28 = .ok (.ifCond .ne 5, 3) := by decide +kernel
theorem d_M_net_31 : decode c_M_net 31 = .ok (.iconst (-1), 1) := by decide +kernel
theorem d_M_net_32 : decode c_M_net 32 = .ok (.ireturn, 1) := by decide +kernel
theorem d_M_net_33 : decode c_M_net 33 = .ok (.aload_n 0, 1) := by decide +kernel
theorem d_M_net_34 : decode c_M_net 34 = .ok (.iload_n 1, 1) := by decide +kernel
theorem d_M_net_35 : decode c_M_net 35 = .ok (.aload_n 0, 1) := by decide +kernel
theorem d_M_net_36 : decode c_M_net 36 = .ok (.getfield 110, 3) := by decide +kernel
theorem d_M_net_39 : decode c_M_net 39 = .ok (.invokevirtual 154, 3) := by decide +kernel
theorem d_M_net_42 : decode c_M_net 42 = .ok (.aload_n 0, 1) := by decide +kernel
theorem d_M_net_43 : decode c_M_net 43 = .ok (.iconst 0, 1) := by decide +kernel
theorem d_M_net_44 : decode c_M_net 44 = .ok (.putfield 73, 3) := by decide +kernel
theorem d_M_net_47 : decode c_M_net 47 = .ok (.iconst 0, 1) := by decide +kernel
theorem d_M_net_48 : decode c_M_net 48 = .ok (.istore_n 2, 1) := by decide +kernel
theorem d_M_net_49 : decode c_M_net 49 = .ok (.iload_n 2, 1) := by decide +kernel
theorem d_M_net_50 : decode c_M_net 50 = .ok (.aload_n 0, 1) := by decide +kernel
theorem d_M_net_51 : decode c_M_net 51 = .ok (.getfield 110, 3) := by decide +kernel
theorem d_M_net_54 : decode c_M_net 54 = .ok (.if_icmp .ge 20, 3) := by decide +kernel
theorem d_M_net_57 : decode c_M_net 57 = .ok (.aload_n 0, 1) := by decide +kernel
theorem d_M_net_58 : decode c_M_net 58 = .ok (.aload_n 0, 1) := by decide +kernel
theorem d_M_net_59 : decode c_M_net 59 = .ok (.getfield 35, 3) := by decide +kernel
theorem d_M_net_62 : decode c_M_net 62 = .ok (.iload_n 2, 1) := by decide +kernel
theorem d_M_net_63 : decode c_M_net 63 = .ok (.iaload, 1) := by decide +kernel
theorem d_M_net_64 : decode c_M_net 64 = .ok (.i2l, 1) := by decide +kernel
theorem d_M_net_65 : decode c_M_net 65 = .ok (.invokevirtual 76, 3) := by decide +kernel
theorem d_M_net_68 : decode c_M_net 68 = .ok (.iinc 2 1, 3) := by decide +kernel
theorem d_M_net_71 : decode c_M_net 71 = .ok (.goto (-22), 3) := by decide +kernel
theorem d_M_net_74 : decode c_M_net 74 = .ok (.aload_n 0, 1) := by decide +kernel
theorem d_M_net_75 : decode c_M_net 75 = .ok (.getfield 17, 3) := by decide +kernel
theorem d_M_net_78 : decode c_M_net 78 = .ok (.iload_n 1, 1) := by decide +kernel
theorem d_M_net_79 : decode c_M_net 79 = .ok (.iaload, 1) := by decide +kernel
theorem d_M_net_80 : decode c_M_net 80 = .ok (.ireturn, 1) := by decide +kernel
theorem d_M_sinks_0 : decode c_M_sinks 0 = .ok (.iconst 0, 1) := by decide +kernel
theorem d_M_sinks_1 : decode c_M_sinks 1 = .ok (.istore_n 3, 1) := by decide +kernel
theorem d_M_sinks_2 : decode c_M_sinks 2 = .ok (.iload_n 3, 1) := by decide +kernel
theorem d_M_sinks_3 : decode c_M_sinks 3 = .ok (.iload_n 2, 1) := by decide +kernel
theorem d_M_sinks_4 : decode c_M_sinks 4 = .ok (.iconst 1, 1) := by decide +kernel
theorem d_M_sinks_5 : decode c_M_sinks 5 = .ok (.isub, 1) := by decide +kernel
theorem d_M_sinks_6 : decode c_M_sinks 6 = .ok (.if_icmp .ge 39, 3) := by decide +kernel
theorem d_M_sinks_9 : decode c_M_sinks 9 = .ok (.iconst 0, 1) := by decide +kernel
theorem d_M_sinks_10 : decode c_M_sinks 10 = .ok (.istore 4, 2) := by decide +kernel
theorem d_M_sinks_12 : decode c_M_sinks 12 = .ok (.iload 4, 2) := by decide +kernel
theorem d_M_sinks_14 : decode c_M_sinks 14 = .ok (.iload_n 2, 1) := by decide +kernel
theorem d_M_sinks_15 : decode c_M_sinks 15 = .ok (.iconst 1, 1) := by decide +kernel
theorem d_M_sinks_16 : decode c_M_sinks 16 = .ok (.isub, 1) := by decide +kernel
theorem d_M_sinks_17 : decode c_M_sinks 17 = .ok (.iload_n 3, 1) := by decide +kernel
theorem d_M_sinks_18 : decode c_M_sinks 18 = .ok (.isub, 1) := by decide +kernel
theorem d_M_sinks_19 : decode c_M_sinks 19 = .ok (.if_icmp .ge 20, 3) := by decide +kernel
theorem d_M_sinks_22 : decode c_M_sinks 22 = .ok (.aload_n 0, 1) := by decide +kernel
theorem d_M_sinks_23 : decode c_M_sinks 23 = .ok (.iload_n 1, 1) := by decide +kernel
theorem d_M_sinks_24 : decode c_M_sinks 24 = .ok (.iload 4, 2) := by decide +kernel
theorem d_M_sinks_26 : decode c_M_sinks 26 = .ok (.iload 4, 2) := by decide +kernel
theorem d_M_sinks_28 : decode c_M_sinks 28 = .ok (.iconst 1, 1) := by decide +kernel
theorem d_M_sinks_29 : decode c_M_sinks 29 = .ok (.iadd, 1) := by decide +kernel
theorem d_M_sinks_30 : decode c_M_sinks 30 = .ok (.invokevirtual 141, 3) := by decide +kernel
theorem d_M_sinks_33 : decode c_M_sinks 33 = .ok (.iinc 4 1, 3) := by decide +kernel
theorem d_M_sinks_36 : decode c_M_sinks 36 = .ok (.goto (-24), 3) := by decide +kernel
theorem d_M_sinks_39 : decode c_M_sinks 39 = .ok (.iinc 3 1, 3) := by decide +kernel
theorem d_M_sinks_42 : decode c_M_sinks 42 = .ok (.goto (-40), 3) := by decide +kernel
theorem d_M_sinks_45 : decode c_M_sinks 45 = .ok (.return_, 1) := by decide +kernel
theorem d_M_inserts_0 : decode c_M_inserts 0 = .ok (.iconst 1, 1) := by decide +kernel
theorem d_M_inserts_1 : decode c_M_inserts 1 = .ok (.istore_n 3, 1) := by decide +kernel
theorem d_M_inserts_2 : decode c_M_inserts 2 = .ok (.iload_n 3, 1) := by decide +kernel
theorem d_M_inserts_3 : decode c_M_inserts 3 = .ok (.iload_n 2, 1) := by decide +kernel
theorem d_M_inserts_4 : decode c_M_inserts 4 = .ok (.if_icmp .ge 36, 3) := by decide +kernel
theorem d_M_inserts_7 : decode c_M_inserts 7 = .ok (.iload_n 3, 1) := by decide +kernel
theorem d_M_inserts_8 : decode c_M_inserts 8 = .ok (.iconst 1, 1) := by decide +kernel
theorem d_M_inserts_9 : decode c_M_inserts 9 = .ok (.isub, 1) := by decide +kernel
theorem d_M_inserts_10 : decode c_M_inserts 10 = .ok (.istore 4, 2) := by decide +kernel
theorem d_M_inserts_12 : decode c_M_inserts 12 = .ok (.iload 4, 2) := by decide +kernel
theorem d_M_inserts_14 : decode c_M_inserts 14 = .ok (.ifCond .lt 20, 3) := by decide +kernel
theorem d_M_inserts_17 : decode c_M_inserts 17 = .ok (.aload_n 0, 1) := by decide +kernel
theorem d_M_inserts_18 : decode c_M_inserts 18 = .ok (.iload_n 1, 1) := by decide +kernel
theorem d_M_inserts_19 : decode c_M_inserts 19 = .ok (.iload 4, 2) := by decide +kernel
theorem d_M_inserts_21 : decode c_M_inserts 21 = .ok (.iload 4, 2) := by decide +kernel
theorem d_M_inserts_23 : decode c_M_inserts 23 = .ok (.iconst 1, 1) := by decide +kernel
theorem d_M_inserts_24 : decode c_M_inserts 24 = .ok (.iadd, 1) := by decide +kernel
theorem d_M_inserts_25 : decode c_M_inserts 25 = .ok (.invokevirtual 141, 3) := by decide +kernel
theorem d_M_inserts_28 : decode c_M_inserts 28 = .ok (.iinc 4 (-1), 3) := by decide +kernel
theorem d_M_inserts_31 : decode c_M_inserts 31 = .ok (.goto (-19), 3) := by decide +kernel
theorem d_M_inserts_34 : decode c_M_inserts 34 = .ok (.iinc 3 1, 3) := by decide +kernel
theorem d_M_inserts_37 : decode c_M_inserts 37 = .ok (.goto (-35), 3) := by decide +kernel
theorem d_M_inserts_40 : decode c_M_inserts 40 = .ok (.return_, 1) := by decide +kernel
theorem d_M_alternates_0 : decode c_M_alternates 0 = .ok (.iconst 0, 1) := by decide +kernel
theorem d_M_alternates_1 : decode c_M_alternates 1 = .ok (.istore_n 3, 1) := by decide +kernel
theorem d_M_alternates_2 : decode c_M_alternates 2 = .ok (.iload_n 3, 1) := by decide +kernel
theorem d_M_alternates_3 : decode c_M_alternates 3 = .ok (.iload_n 2, 1) := by decide +kernel
theorem d_M_alternates_4 : decode c_M_alternates 4 = .ok (.if_icmp .ge 39, 3) := by decide +kernel
theorem d_M_alternates_7 : decode c_M_alternates 7 = .ok (.iload_n 3, 1) := by decide +kernel
theorem d_M_alternates_8 : decode c_M_alternates 8 = .ok (.iconst 2, 1) := by decide +kernel
theorem d_M_alternates_9 : decode c_M_alternates 9 = .ok (.irem, 1) := by decide +kernel
theorem d_M_alternates_10 : decode c_M_alternates 10 = .ok (.istore 4, 2) := by decide +kernel
theorem d_M_alternates_12 : decode c_M_alternates 12 = .ok (.iload 4, 2) := by decide +kernel
theorem d_M_alternates_14 : decode c_M_alternates 14 = .ok (.iload_n 2, 1) := by decide +kernel
theorem d_M_alternates_15 : decode c_M_alternates 15 = .ok (.iconst 1, 1) := by decide +kernel
theorem d_M_alternates_16 : decode c_M_alternates 16 = .ok (.isub, 1) := by decide +kernel
theorem d_M_alternates_17 : decode c_M_alternates 17 = .ok (.if_icmp .ge 20, 3) := by decide +kernel
theorem d_M_alternates_20 : decode c_M_alternates 20 = .ok (.aload_n 0, 1) := by decide +kernel
theorem d_M_alternates_21 : decode c_M_alternates 21 = .ok (.iload_n 1, 1) := by decide +kernel
theorem d_M_alternates_22 : decode c_M_alternates 22 = .ok (.iload 4, 2) := by decide +kernel
theorem d_M_alternates_24 : decode c_M_alternates 24 = .ok (.iload 4, 2) := by decide +kernel
theorem d_M_alternates_26 : decode c_M_alternates 26 = .ok (.iconst 1, 1) := by decide +kernel
theorem d_M_alternates_27 : decode c_M_alternates 27 = .ok (.iadd, 1) := by decide +kernel
theorem d_M_alternates_28 : decode c_M_alternates 28 = .ok (.invokevirtual 141, 3) := by decide +kernel
theorem d_M_alternates_31 : decode c_M_alternates 31 = .ok (.iinc 4 2, 3) := by decide +kernel
theorem d_M_alternates_34 : decode c_M_alternates 34 = .ok (.goto (-22), 3) := by decide +kernel
theorem d_M_alternates_37 : decode c_M_alternates 37 = .ok (.iinc 3 1, 3) := by decide +kernel
theorem d_M_alternates_40 : decode c_M_alternates 40 = .ok (.goto (-38), 3) := by decide +kernel
theorem d_M_alternates_43 : decode c_M_alternates 43 = .ok (.return_, 1) := by decide +kernel
theorem d_M_exchanges5_0 : decode c_M_exchanges5 0 = .ok (.iconst 0, 1) := by decide +kernel
theorem d_M_exchanges5_1 : decode c_M_exchanges5 1 = .ok (.istore 6, 2) := by decide +kernel
theorem d_M_exchanges5_3 : decode c_M_exchanges5 3 = .ok (.iload 6, 2) := by decide +kernel
theorem d_M_exchanges5_5 : decode c_M_exchanges5 5 = .ok (.iload_n 2, 1) := by decide +kernel
theorem d_M_exchanges5_6 : decode c_M_exchanges5 6 = .ok (.iload 4, 2) := by decide +kernel
theorem d_M_exchanges5_8 : decode c_M_exchanges5 8 = .ok (.isub, 1) := by decide +kernel
theorem d_M_exchanges5_9 : decode c_M_exchanges5 9 = .ok (.if_icmp .ge 30, 3) := by decide +kernel
theorem d_M_exchanges5_12 : decode c_M_exchanges5 12 = .ok (.iload 6, 2) := by decide +kernel
theorem d_M_exchanges5_14 : decode c_M_exchanges5 14 = .ok (.iload_n 3, 1) := by decide +kernel
theorem d_M_exchanges5_15 : decode c_M_exchanges5 15 = .ok (.iand, 1) := by decide +kernel
theorem d_M_exchanges5_16 : decode c_M_exchanges5 16 = .ok (.iload 5, 2) := by decide +kernel
theorem d_M_exchanges5_18 : decode c_M_exchanges5 18 = .ok (.if_icmp .ne 15, 3) := by decide +kernel
theorem d_M_exchanges5_21 : decode c_M_exchanges5 21 = .ok (.aload_n 0, 1) := by decide +kernel
theorem d_M_exchanges5_22 : decode c_M_exchanges5 22 = .ok (.iload_n 1, 1) := by decide +kernel
theorem d_M_exchanges5_23 : decode c_M_exchanges5 23 = .ok (.iload 6, 2) := by decide +kernel
theorem d_M_exchanges5_25 : decode c_M_exchanges5 25 = .ok (.iload 6, 2) := by decide +kernel
theorem d_M_exchanges5_27 : decode c_M_exchanges5 27 = .ok (.iload 4, 2) := by decide +kernel
theorem d_M_exchanges5_29 : decode c_M_exchanges5 29 = .ok (.iadd, 1) := by decide +kernel
theorem d_M_exchanges5_30 : decode c_M_exchanges5 30 = .ok (.invokevirtual 141, 3) := by decide +kernel
theorem d_M_exchanges5_33 : decode c_M_exchanges5 33 = .ok (.iinc 6 1, 3) := by decide +kernel
theorem d_M_exchanges5_36 : decode c_M_exchanges5 36 = .ok (.goto (-33), 3) := by decide +kernel
theorem d_M_exchanges5_39 : decode c_M_exchanges5 39 = .ok (.return_, 1) := by decide +kernel
theorem d_M_mergesAll_0 : decode c_M_mergesAll 0 = .ok (.iconst 1, 1) := by decide +kernel
theorem d_M_mergesAll_1 : decode c_M_mergesAll 1 = .ok (.istore_n 3, 1) := by decide +kernel
theorem d_M_mergesAll_2 : decode c_M_mergesAll 2 = .ok (.iload_n 3, 1) := by decide +kernel
theorem d_M_mergesAll_3 : decode c_M_mergesAll 3 = .ok (.iload_n 2, 1) := by decide +kernel
theorem d_M_mergesAll_4 : decode c_M_mergesAll 4 = .ok (.if_icmp .ge 10, 3) := by decide +kernel
theorem d_M_mergesAll_7 : decode c_M_mergesAll 7 = .ok (.iload_n 3, 1) := by decide +kernel
theorem d_M_mergesAll_8 : decode c_M_mergesAll 8 = .ok (.iconst 2, 1) := by decide +kernel
theorem d_M_mergesAll_9 : decode c_M_mergesAll 9 = .ok (.imul, 1) := by decide +kernel
theorem d_M_mergesAll_10 : decode c_M_mergesAll 10 = .ok (.istore_n 3, 1) := by decide +kernel
theorem d_M_mergesAll_11 : decode c_M_mergesAll 11 = .ok (.goto (-9), 3) := by decide +kernel
theorem d_M_mergesAll_14 : decode c_M_mergesAll 14 = .ok (.iload_n 3, 1) := by decide +kernel
theorem d_M_mergesAll_15 : decode c_M_mergesAll 15 = .ok (.iconst 2, 1) := by decide +kernel
theorem d_M_mergesAll_16 : decode c_M_mergesAll 16 = .ok (.idiv, 1) := by decide +kernel
theorem d_M_mergesAll_17 : decode c_M_mergesAll 17 = .ok (.istore 4, 2) := by decide +kernel
theorem d_M_mergesAll_19 : decode c_M_mergesAll 19 = .ok (.iload 4, 2) := by decide +kernel
theorem d_M_mergesAll_21 : decode c_M_mergesAll 21 = .ok (.ifCond .le 59, 3) := by decide +kernel
theorem d_M_mergesAll_24 : decode c_M_mergesAll 24 = .ok (.aload_n 0, 1) := by decide +kernel
theorem d_M_mergesAll_25 : decode c_M_mergesAll 25 = .ok (.iload_n 1, 1) := by decide +kernel
theorem d_M_mergesAll_26 : decode c_M_mergesAll 26 = .ok (.iload_n 2, 1) := by decide +kernel
theorem d_M_mergesAll_27 : decode c_M_mergesAll 27 = .ok (.iload 4, 2) := by decide +kernel
theorem d_M_mergesAll_29 : decode c_M_mergesAll 29 = .ok (.iload 4, 2) := by decide +kernel
theorem d_M_mergesAll_31 : decode c_M_mergesAll 31 = .ok (.iconst 0, 1) := by decide +kernel
theorem d_M_mergesAll_32 : decode c_M_mergesAll 32 = .ok (.invokevirtual 157, 3) := by decide +kernel
theorem d_M_mergesAll_35 : decode c_M_mergesAll 35 = .ok (.iload_n 3, 1) := by decide +kernel
theorem d_M_mergesAll_36 : decode c_M_mergesAll 36 = .ok (.iconst 2, 1) := by decide +kernel
theorem d_M_mergesAll_37 : decode c_M_mergesAll 37 = .ok (.idiv, 1) := by decide +kernel
theorem d_M_mergesAll_38 : decode c_M_mergesAll 38 = .ok (.istore 5, 2) := by decide +kernel
theorem d_M_mergesAll_40 : decode c_M_mergesAll 40 = .ok (.iload 5, 2) := by decide +kernel
theorem d_M_mergesAll_42 : decode c_M_mergesAll 42 = .ok (.iload 4, 2) := by decide +kernel
theorem d_M_mergesAll_44 : decode c_M_mergesAll 44 = .ok (.if_icmp .eq 27, 3) := by decide +kernel
theorem d_M_mergesAll_47 : decode c_M_mergesAll 47 = .ok (.aload_n 0, 1) := by decide +kernel
theorem d_M_mergesAll_48 : decode c_M_mergesAll 48 = .ok (.iload_n 1, 1) := by decide +kernel
theorem d_M_mergesAll_49 : decode c_M_mergesAll 49 = .ok (.iload_n 2, 1) := by decide +kernel
theorem d_M_mergesAll_50 : decode c_M_mergesAll 50 = .ok (.iload 4, 2) := by decide +kernel
theorem d_M_mergesAll_52 : decode c_M_mergesAll 52 = .ok (.iload 5, 2) := by decide +kernel
theorem d_M_mergesAll_54 : decode c_M_mergesAll 54 = .ok (.iload 4, 2) := by decide +kernel
theorem d_M_mergesAll_56 : decode c_M_mergesAll 56 = .ok (.isub, 1) := by decide +kernel
theorem d_M_mergesAll_57 : decode c_M_mergesAll 57 = .ok (.iload 4, 2) := by decide +kernel
theorem d_M_mergesAll_59 : decode c_M_mergesAll 59 = .ok (.invokevirtual 157, 3) := by decide +kernel
theorem d_M_mergesAll_62 : decode c_M_mergesAll 62 = .ok (.iload 5, 2) := by decide +kernel
theorem d_M_mergesAll_64 : decode c_M_mergesAll 64 = .ok (.iconst 2, 1) := by decide +kernel
theorem d_M_mergesAll_65 : decode c_M_mergesAll 65 = .ok (.idiv, 1) := by decide +kernel
theorem d_M_mergesAll_66 : decode c_M_mergesAll 66 = .ok (.istore 5, 2) := by decide +kernel
theorem d_M_mergesAll_68 : decode c_M_mergesAll 68 = .ok (.goto (-28), 3) := by decide +kernel
theorem d_M_mergesAll_71 : decode c_M_mergesAll 71 = .ok (.iload 4, 2) := by decide +kernel
theorem d_M_mergesAll_73 : decode c_M_mergesAll 73 = .ok (.iconst 2, 1) := by decide +kernel
theorem d_M_mergesAll_74 : decode c_M_mergesAll 74 = .ok (.idiv, 1) := by decide +kernel
theorem d_M_mergesAll_75 : decode c_M_mergesAll 75 = .ok (.istore 4, 2) := by decide +kernel
theorem d_M_mergesAll_77 : decode c_M_mergesAll 77 = .ok (.goto (-58), 3) := by decide +kernel
theorem d_M_mergesAll_80 : decode c_M_mergesAll 80 = .ok (.return_, 1) := by decide +kernel
theorem d_M_makes_0 : decode c_M_makes 0 = .ok (.aload_n 0, 1) := by decide +kernel
theorem d_M_makes_1 : decode c_M_makes 1 = .ok (.iconst 0, 1) := by decide +kernel
theorem d_M_makes_2 : decode c_M_makes 2 = .ok (.putfield 69, 3) := by decide +kernel
theorem d_M_makes_5 : decode c_M_makes 5 = .ok (.iload_n 1, 1) := by decide +kernel
theorem d_M_makes_6 : decode c_M_makes 6 = .ok (.invokestatic 151, 3) := by decide +kernel
theorem d_M_makes_9 : decode c_M_makes 9 = .ok (.ifCond .eq 29, 3) := by decide +kernel
theorem d_M_makes_12 : decode c_M_makes 12 = .ok (.iload_n 2, 1) := by decide +kernel
theorem d_M_makes_13 : decode c_M_makes 13 = .ok (.i2l, 1) := by decide +kernel
theorem d_M_makes_14 : decode c_M_makes 14 = .ok (.ldc2_w 161, 3) := by decide +kernel
theorem d_M_makes_17 : decode c_M_makes 17 = .ok (.ldc2_w 163, 3) := by decide +kernel
theorem d_M_makes_20 : decode c_M_makes 20 = .ok (.invokestatic 82, 3) := by decide +kernel
theorem d_M_makes_23 : decode c_M_makes 23 = .ok (.ifCond .eq 15, 3) := by decide +kernel
theorem d_M_makes_26 : decode c_M_makes 26 = .ok (.iload_n 3, 1) := by decide +kernel
theorem d_M_makes_27 : decode c_M_makes 27 = .ok (.i2l, 1) := by decide +kernel
theorem d_M_makes_28 : decode c_M_makes 28 = .ok (.lconst 0, 1) := by decide +kernel
theorem d_M_makes_29 : decode c_M_makes 29 = .ok (.ldc2_w 165, 3) := by decide +kernel
theorem d_M_makes_32 : decode c_M_makes 32 = .ok (.invokestatic 82, 3) := by decide +kernel
theorem d_M_makes_35 : decode c_M_makes 35 = .ok (.ifCond .ne 5, 3) := by decide +kernel
theorem d_M_makes_38 : decode c_M_makes 38 = .ok (.iconst (-1), 1) := by decide +kernel
theorem d_M_makes_39 : decode c_M_makes 39 = .ok (.ireturn, 1) := by decide +kernel
theorem d_M_makes_40 : decode c_M_makes 40 = .ok (.aload_n 0, 1) := by decide +kernel
theorem d_M_makes_41 : decode c_M_makes 41 = .ok (.iload_n 1, 1) := by decide +kernel
theorem d_M_makes_42 : decode c_M_makes 42 = .ok (.iload_n 2, 1) := by decide +kernel
theorem d_M_makes_43 : decode c_M_makes 43 = .ok (.invokevirtual 128, 3) := by decide +kernel
theorem d_M_makes_46 : decode c_M_makes 46 = .ok (.iload_n 3, 1) := by decide +kernel
theorem d_M_makes_47 : decode c_M_makes 47 = .ok (.tableswitch 59 0 3 #[29, 32, 41, 50], 29) := by decide +kernel
theorem d_M_makes_76 : decode c_M_makes 76 = .ok (.goto 36, 3) := by decide +kernel
theorem d_M_makes_79 : decode c_M_makes 79 = .ok (.aload_n 0, 1) := by decide +kernel
theorem d_M_makes_80 : decode c_M_makes 80 = .ok (.iload_n 1, 1) := by decide +kernel
theorem d_M_makes_81 : decode c_M_makes 81 = .ok (.iload_n 2, 1) := by decide +kernel
theorem d_M_makes_82 : decode c_M_makes 82 = .ok (.invokevirtual 167, 3) := by decide +kernel
theorem d_M_makes_85 : decode c_M_makes 85 = .ok (.goto 27, 3) := by decide +kernel
theorem d_M_makes_88 : decode c_M_makes 88 = .ok (.aload_n 0, 1) := by decide +kernel
theorem d_M_makes_89 : decode c_M_makes 89 = .ok (.iload_n 1, 1) := by decide +kernel
theorem d_M_makes_90 : decode c_M_makes 90 = .ok (.iload_n 2, 1) := by decide +kernel
theorem d_M_makes_91 : decode c_M_makes 91 = .ok (.invokevirtual 170, 3) := by decide +kernel
theorem d_M_makes_94 : decode c_M_makes 94 = .ok (.goto 18, 3) := by decide +kernel
theorem d_M_makes_97 : decode c_M_makes 97 = .ok (.aload_n 0, 1) := by decide +kernel
theorem d_M_makes_98 : decode c_M_makes 98 = .ok (.iload_n 1, 1) := by decide +kernel
theorem d_M_makes_99 : decode c_M_makes 99 = .ok (.iload_n 2, 1) := by decide +kernel
theorem d_M_makes_100 : decode c_M_makes 100 = .ok (.invokevirtual 173, 3) := by decide +kernel
theorem d_M_makes_103 : decode c_M_makes 103 = .ok (.goto 9, 3) := by decide +kernel
theorem d_M_makes_106 : decode c_M_makes 106 = .ok (.aload_n 0, 1) := by decide +kernel
theorem d_M_makes_107 : decode c_M_makes 107 = .ok (.iload_n 1, 1) := by decide +kernel
theorem d_M_makes_108 : decode c_M_makes 108 = .ok (.iload_n 2, 1) := by decide +kernel
theorem d_M_makes_109 : decode c_M_makes 109 = .ok (.invokevirtual 176, 3) := by decide +kernel
theorem d_M_makes_112 : decode c_M_makes 112 = .ok (.aload_n 0, 1) := by decide +kernel
theorem d_M_makes_113 : decode c_M_makes 113 = .ok (.getfield 17, 3) := by decide +kernel
theorem d_M_makes_116 : decode c_M_makes 116 = .ok (.iload_n 1, 1) := by decide +kernel
theorem d_M_makes_117 : decode c_M_makes 117 = .ok (.iaload, 1) := by decide +kernel
theorem d_M_makes_118 : decode c_M_makes 118 = .ok (.ireturn, 1) := by decide +kernel
theorem d_M_draw_0 : decode c_M_draw 0 = .ok (.aload_n 0, 1) := by decide +kernel
theorem d_M_draw_1 : decode c_M_draw 1 = .ok (.aload_n 0, 1) := by decide +kernel
theorem d_M_draw_2 : decode c_M_draw 2 = .ok (.getfield 179, 3) := by decide +kernel
theorem d_M_draw_5 : decode c_M_draw 5 = .ok (.ldc 182, 2) := by decide +kernel
theorem d_M_draw_7 : decode c_M_draw 7 = .ok (.imul, 1) := by decide +kernel
theorem d_M_draw_8 : decode c_M_draw 8 = .ok (.sipush 12345, 3) := by decide +kernel
theorem d_M_draw_11 : decode c_M_draw 11 = .ok (.iadd, 1) := by decide +kernel
theorem d_M_draw_12 : decode c_M_draw 12 = .ok (.putfield 179, 3) := by decide +kernel
theorem d_M_draw_15 : decode c_M_draw 15 = .ok (.aload_n 0, 1) := by decide +kernel
theorem d_M_draw_16 : decode c_M_draw 16 = .ok (.getfield 179, 3) := by decide +kernel
theorem d_M_draw_19 : decode c_M_draw 19 = .ok (.bipush 16, 2) := by decide +kernel
theorem d_M_draw_21 : decode c_M_draw 21 = .ok (.iushr, 1) := by decide +kernel
theorem d_M_draw_22 : decode c_M_draw 22 = .ok (.iload_n 1, 1) := by decide +kernel
theorem d_M_draw_23 : decode c_M_draw 23 = .ok (.irem, 1) := by decide +kernel
theorem d_M_draw_24 : decode c_M_draw 24 = .ok (.ireturn, 1) := by decide +kernel
theorem d_M_flag_0 : decode c_M_flag 0 = .ok (.iload_n 0, 1) := by decide +kernel
theorem d_M_flag_1 : decode c_M_flag 1 = .ok (.ifCond .eq 7, 3) := by decide +kernel
theorem d_M_flag_4 : decode c_M_flag 4 = .ok (.iconst 1, 1) := by decide +kernel
theorem d_M_flag_5 : decode c_M_flag 5 = .ok (.goto 4, 3) := by decide +kernel
theorem d_M_flag_8 : decode c_M_flag 8 = .ok (.iconst 0, 1) := by decide +kernel
theorem d_M_flag_9 : decode c_M_flag 9 = .ok (.ireturn, 1) := by decide +kernel
theorem d_M_all_0 : decode c_M_all 0 = .ok (.iconst 1, 1) := by decide +kernel
theorem d_M_all_1 : decode c_M_all 1 = .ok (.aload_n 0, 1) := by decide +kernel
theorem d_M_all_2 : decode c_M_all 2 = .ok (.getfield 13, 3) := by decide +kernel
theorem d_M_all_5 : decode c_M_all 5 = .ok (.iload_n 1, 1) := by decide +kernel
theorem d_M_all_6 : decode c_M_all 6 = .ok (.iaload, 1) := by decide +kernel
theorem d_M_all_7 : decode c_M_all 7 = .ok (.ishl, 1) := by decide +kernel
theorem d_M_all_8 : decode c_M_all 8 = .ok (.ireturn, 1) := by decide +kernel
theorem d_M_lowOf_0 : decode c_M_lowOf 0 = .ok (.aload_n 0, 1) := by decide +kernel
theorem d_M_lowOf_1 : decode c_M_lowOf 1 = .ok (.getfield 20, 3) := by decide +kernel
theorem d_M_lowOf_4 : decode c_M_lowOf 4 = .ok (.bipush 60, 2) := by decide +kernel
theorem d_M_lowOf_6 : decode c_M_lowOf 6 = .ok (.iload_n 1, 1) := by decide +kernel
theorem d_M_lowOf_7 : decode c_M_lowOf 7 = .ok (.imul, 1) := by decide +kernel
theorem d_M_lowOf_8 : decode c_M_lowOf 8 = .ok (.iload_n 2, 1) := by decide +kernel
theorem d_M_lowOf_9 : decode c_M_lowOf 9 = .ok (.iadd, 1) := by decide +kernel
theorem d_M_lowOf_10 : decode c_M_lowOf 10 = .ok (.iaload, 1) := by decide +kernel
theorem d_M_lowOf_11 : decode c_M_lowOf 11 = .ok (.ireturn, 1) := by decide +kernel
theorem d_M_highOf_0 : decode c_M_highOf 0 = .ok (.aload_n 0, 1) := by decide +kernel
theorem d_M_highOf_1 : decode c_M_highOf 1 = .ok (.getfield 23, 3) := by decide +kernel
theorem d_M_highOf_4 : decode c_M_highOf 4 = .ok (.bipush 60, 2) := by decide +kernel
theorem d_M_highOf_6 : decode c_M_highOf 6 = .ok (.iload_n 1, 1) := by decide +kernel
theorem d_M_highOf_7 : decode c_M_highOf 7 = .ok (.imul, 1) := by decide +kernel
theorem d_M_highOf_8 : decode c_M_highOf 8 = .ok (.iload_n 2, 1) := by decide +kernel
theorem d_M_highOf_9 : decode c_M_highOf 9 = .ok (.iadd, 1) := by decide +kernel
theorem d_M_highOf_10 : decode c_M_highOf 10 = .ok (.iaload, 1) := by decide +kernel
theorem d_M_highOf_11 : decode c_M_highOf 11 = .ok (.ireturn, 1) := by decide +kernel
theorem d_M_result_0 : decode c_M_result 0 = .ok (.iload_n 2, 1) := by decide +kernel
theorem d_M_result_1 : decode c_M_result 1 = .ok (.istore 5, 2) := by decide +kernel
theorem d_M_result_3 : decode c_M_result 3 = .ok (.aload_n 0, 1) := by decide +kernel
theorem d_M_result_4 : decode c_M_result 4 = .ok (.lconst 0, 1) := by decide +kernel
theorem d_M_result_5 : decode c_M_result 5 = .ok (.putfield 224, 3) := by decide +kernel
theorem d_M_result_8 : decode c_M_result 8 = .ok (.iconst 0, 1) := by decide +kernel
theorem d_M_result_9 : decode c_M_result 9 = .ok (.istore 6, 2) := by decide +kernel
theorem d_M_result_11 : decode c_M_result 11 = .ok (.iload 6, 2) := by decide +kernel
theorem d_M_result_13 : decode c_M_result 13 = .ok (.aload_n 0, 1) := by decide +kernel
theorem d_M_result_14 : decode c_M_result 14 = .ok (.getfield 17, 3) := by decide +kernel
theorem d_M_result_17 : decode c_M_result 17 = .ok (.iload_n 1, 1) := by decide +kernel
theorem d_M_result_18 : decode c_M_result 18 = .ok (.iaload, 1) := by decide +kernel
theorem d_M_result_19 : decode c_M_result 19 = .ok (.if_icmp .ge 152, 3) := by decide +kernel
theorem d_M_result_22 : decode c_M_result 22 = .ok (.aload_n 0, 1) := by decide +kernel
theorem d_M_result_23 : decode c_M_result 23 = .ok (.iload_n 1, 1) := by decide +kernel
theorem d_M_result_24 : decode c_M_result 24 = .ok (.iload 6, 2) := by decide +kernel
theorem d_M_result_26 : decode c_M_result 26 = .ok (.invokevirtual 199, 3) := by decide +kernel
theorem d_M_result_29 : decode c_M_result 29 = .ok (.istore 7, 2) := by decide +kernel
theorem d_M_result_31 : decode c_M_result 31 = .ok (.aload_n 0, 1) := by decide +kernel
theorem d_M_result_32 : decode c_M_result 32 = .ok (.iload_n 1, 1) := by decide +kernel
theorem d_M_result_33 : decode c_M_result 33 = .ok (.iload 6, 2) := by decide +kernel
theorem d_M_result_35 : decode c_M_result 35 = .ok (.invokevirtual 202, 3) := by decide +kernel
theorem d_M_result_38 : decode c_M_result 38 = .ok (.istore 8, 2) := by decide +kernel
theorem d_M_result_40 : decode c_M_result 40 = .ok (.iload 5, 2) := by decide +kernel
theorem d_M_result_42 : decode c_M_result 42 = .ok (.iload 7, 2) := by decide +kernel
theorem d_M_result_44 : decode c_M_result 44 = .ok (.ishr, 1) := by decide +kernel
theorem d_M_result_45 : decode c_M_result 45 = .ok (.iconst 1, 1) := by decide +kernel
theorem d_M_result_46 : decode c_M_result 46 = .ok (.iand, 1) := by decide +kernel
theorem d_M_result_47 : decode c_M_result 47 = .ok (.istore 9, 2) := by decide +kernel
theorem d_M_result_49 : decode c_M_result 49 = .ok (.iload 5, 2) := by decide +kernel
theorem d_M_result_51 : decode c_M_result 51 = .ok (.iload 8, 2) := by decide +kernel
theorem d_M_result_53 : decode c_M_result 53 = .ok (.ishr, 1) := by decide +kernel
theorem d_M_result_54 : decode c_M_result 54 = .ok (.iconst 1, 1) := by decide +kernel
theorem d_M_result_55 : decode c_M_result 55 = .ok (.iand, 1) := by decide +kernel
theorem d_M_result_56 : decode c_M_result 56 = .ok (.istore 10, 2) := by decide +kernel
theorem d_M_result_58 : decode c_M_result 58 = .ok (.iload 9, 2) := by decide +kernel
theorem d_M_result_60 : decode c_M_result 60 = .ok (.iload 10, 2) := by decide +kernel
theorem d_M_result_62 : decode c_M_result 62 = .ok (.if_icmp .le 7, 3) := by decide +kernel
theorem d_M_result_65 : decode c_M_result 65 = .ok (.iconst 1, 1) := by decide +kernel
theorem d_M_result_66 : decode c_M_result 66 = .ok (.goto 4, 3) := by decide +kernel
theorem d_M_result_69 : decode c_M_result 69 = .ok (.iconst 0, 1) := by decide +kernel
theorem d_M_result_70 : decode c_M_result 70 = .ok (.istore 11, 2) := by decide +kernel
theorem d_M_result_72 : decode c_M_result 72 = .ok (.aload_n 0, 1) := by decide +kernel
theorem d_M_result_73 : decode c_M_result 73 = .ok (.dup, 1) := by decide +kernel
theorem d_M_result_74 : decode c_M_result 74 = .ok (.getfield 224, 3) := by decide +kernel
theorem d_M_result_77 : decode c_M_result 77 = .ok (.iload 11, 2) := by decide +kernel
theorem d_M_result_79 : decode c_M_result 79 = .ok (.ifCond .eq 10, 3) := by decide +kernel
theorem d_M_result_82 : decode c_M_result 82 = .ok (.lconst 1, 1) := by decide +kernel
theorem d_M_result_83 : decode c_M_result 83 = .ok (.iload 6, 2) := by decide +kernel
theorem d_M_result_85 : decode c_M_result 85 = .ok (.lshl, 1) := by decide +kernel
theorem d_M_result_86 : decode c_M_result 86 = .ok (.goto 4, 3) := by decide +kernel
theorem d_M_result_89 : decode c_M_result 89 = .ok (.lconst 0, 1) := by decide +kernel
theorem d_M_result_90 : decode c_M_result 90 = .ok (.lor, 1) := by decide +kernel
theorem d_M_result_91 : decode c_M_result 91 = .ok (.putfield 224, 3) := by decide +kernel
theorem d_M_result_94 : decode c_M_result 94 = .ok (.iload 6, 2) := by decide +kernel
theorem d_M_result_96 : decode c_M_result 96 = .ok (.iload_n 3, 1) := by decide +kernel
theorem d_M_result_97 : decode c_M_result 97 = .ok (.if_icmp .ne 44, 3) := by decide +kernel
theorem d_M_result_100 : decode c_M_result 100 = .ok (.iload 4, 2) := by decide +kernel
theorem d_M_result_102 : decode c_M_result 102 = .ok (.iconst 1, 1) := by decide +kernel
theorem d_M_result_103 : decode c_M_result 103 = .ok (.if_icmp .ne 18, 3) := by decide +kernel
theorem d_M_result_106 : decode c_M_result 106 = .ok (.iload 9, 2) := by decide +kernel
theorem d_M_result_108 : decode c_M_result 108 = .ok (.iload 10, 2) := by decide +kernel
theorem d_M_result_110 : decode c_M_result 110 = .ok (.if_icmp .eq 7, 3) := by decide +kernel
theorem d_M_result_113 : decode c_M_result 113 = .ok (.iconst 1, 1) := by decide +kernel
theorem d_M_result_114 : decode c_M_result 114 = .ok (.goto 25, 3) := by decide +kernel
theorem d_M_result_117 : decode c_M_result 117 = .ok (.iconst 0, 1) := by decide +kernel
theorem d_M_result_118 : decode c_M_result 118 = .ok (.goto 21, 3) := by decide +kernel
theorem d_M_result_121 : decode c_M_result 121 = .ok (.iload 4, 2) := by decide +kernel
theorem d_M_result_123 : decode c_M_result 123 = .ok (.iconst 2, 1) := by decide +kernel
theorem d_M_result_124 : decode c_M_result 124 = .ok (.if_icmp .ne 14, 3) := by decide +kernel
theorem d_M_result_127 : decode c_M_result 127 = .ok (.iload 9, 2) := by decide +kernel
theorem d_M_result_129 : decode c_M_result 129 = .ok (.iload 10, 2) := by decide +kernel
theorem d_M_result_131 : decode c_M_result 131 = .ok (.if_icmp .ge 7, 3) := by decide +kernel
theorem d_M_result_134 : decode c_M_result 134 = .ok (.iconst 1, 1) := by decide +kernel
theorem d_M_result_135 : decode c_M_result 135 = .ok (.goto 4, 3) := by decide +kernel
theorem d_M_result_138 : decode c_M_result 138 = .ok (.iconst 0, 1) := by decide +kernel
theorem d_M_result_139 : decode c_M_result 139 = .ok (.istore 11, 2) := by decide +kernel
theorem d_M_result_141 : decode c_M_result 141 = .ok (.iload 11, 2) := by decide +kernel
theorem d_M_result_143 : decode c_M_result 143 = .ok (.ifCond .eq 18, 3) := by decide +kernel
theorem d_M_result_146 : decode c_M_result 146 = .ok (.iload 5, 2) := by decide +kernel
theorem d_M_result_148 : decode c_M_result 148 = .ok (.iconst 1, 1) := by decide +kernel
theorem d_M_result_149 : decode c_M_result 149 = .ok (.iload 7, 2) := by decide +kernel
theorem d_M_result_151 : decode c_M_result 151 = .ok (.ishl, 1) := by decide +kernel
theorem d_M_result_152 : decode c_M_result 152 = .ok (.iconst 1, 1) := by decide +kernel
theorem d_M_result_153 : decode c_M_result 153 = .ok (.iload 8, 2) := by decide +kernel
theorem d_M_result_155 : decode c_M_result 155 = .ok (.ishl, 1) := by decide +kernel
theorem d_M_result_156 : decode c_M_result 156 = .ok (.ior, 1) := by decide +kernel
theorem d_M_result_157 : decode c_M_result 157 = .ok (.ixor, 1) := by decide +kernel
theorem d_M_result_158 : decode c_M_result 158 = .ok (.goto 5, 3) := by decide +kernel
theorem d_M_result_161 : decode c_M_result 161 = .ok (.iload 5, 2) := by decide +kernel
theorem d_M_result_163 : decode c_M_result 163 = .ok (.istore 5, 2) := by decide +kernel
theorem d_M_result_165 : decode c_M_result 165 = .ok (.iinc 6 1, 3) := by decide +kernel
theorem d_M_result_168 : decode c_M_result 168 = .ok (.goto (-157), 3) := by decide +kernel
theorem d_M_result_171 : decode c_M_result 171 = .ok (.iload 5, 2) := by decide +kernel
theorem d_M_result_173 : decode c_M_result 173 = .ok (.ireturn, 1) := by decide +kernel
theorem d_M_isSorted_0 : decode c_M_isSorted 0 = .ok (.iconst 1, 1) := by decide +kernel
theorem d_M_isSorted_1 : decode c_M_isSorted 1 = .ok (.istore_n 2, 1) := by decide +kernel
theorem d_M_isSorted_2 : decode c_M_isSorted 2 = .ok (.iconst 0, 1) := by decide +kernel
theorem d_M_isSorted_3 : decode c_M_isSorted 3 = .ok (.istore_n 3, 1) := by decide +kernel
theorem d_M_isSorted_4 : decode c_M_isSorted 4 = .ok (.iload_n 3, 1) := by decide +kernel
theorem d_M_isSorted_5 : decode c_M_isSorted 5 = .ok (.iconst 1, 1) := by decide +kernel
theorem d_M_isSorted_6 : decode c_M_isSorted 6 = .ok (.iadd, 1) := by decide +kernel
theorem d_M_isSorted_7 : decode c_M_isSorted 7 = .ok (.iload_n 0, 1) := by decide +kernel
theorem d_M_isSorted_8 : decode c_M_isSorted 8 = .ok (.if_icmp .ge 34, 3) := by decide +kernel
theorem d_M_isSorted_11 : decode c_M_isSorted 11 = .ok (.iload_n 2, 1) := by decide +kernel
theorem d_M_isSorted_12 : decode c_M_isSorted 12 = .ok (.ifCond .eq 22, 3) := by decide +kernel
theorem d_M_isSorted_15 : decode c_M_isSorted 15 = .ok (.iload_n 1, 1) := by decide +kernel
theorem d_M_isSorted_16 : decode c_M_isSorted 16 = .ok (.iload_n 3, 1) := by decide +kernel
theorem d_M_isSorted_17 : decode c_M_isSorted 17 = .ok (.ishr, 1) := by decide +kernel
theorem d_M_isSorted_18 : decode c_M_isSorted 18 = .ok (.iconst 1, 1) := by decide +kernel
theorem d_M_isSorted_19 : decode c_M_isSorted 19 = .ok (.iand, 1) := by decide +kernel
theorem d_M_isSorted_20 : decode c_M_isSorted 20 = .ok (.iload_n 1, 1) := by decide +kernel
theorem d_M_isSorted_21 : decode c_M_isSorted 21 = .ok (.iload_n 3, 1) := by decide +kernel
theorem d_M_isSorted_22 : decode c_M_isSorted 22 = .ok (.iconst 1, 1) := by decide +kernel
theorem d_M_isSorted_23 : decode c_M_isSorted 23 = .ok (.iadd, 1) := by decide +kernel
theorem d_M_isSorted_24 : decode c_M_isSorted 24 = .ok (.ishr, 1) := by decide +kernel
theorem d_M_isSorted_25 : decode c_M_isSorted 25 = .ok (.iconst 1, 1) := by decide +kernel
theorem d_M_isSorted_26 : decode c_M_isSorted 26 = .ok (.iand, 1) := by decide +kernel
theorem d_M_isSorted_27 : decode c_M_isSorted 27 = .ok (.if_icmp .gt 7, 3) := by decide +kernel
theorem d_M_isSorted_30 : decode c_M_isSorted 30 = .ok (.iconst 1, 1) := by decide +kernel
theorem d_M_isSorted_31 : decode c_M_isSorted 31 = .ok (.goto 4, 3) := by decide +kernel
theorem d_M_isSorted_34 : decode c_M_isSorted 34 = .ok (.iconst 0, 1) := by decide +kernel
theorem d_M_isSorted_35 : decode c_M_isSorted 35 = .ok (.istore_n 2, 1) := by decide +kernel
theorem d_M_isSorted_36 : decode c_M_isSorted 36 = .ok (.iinc 3 1, 3) := by decide +kernel
theorem d_M_isSorted_39 : decode c_M_isSorted 39 = .ok (.goto (-35), 3) := by decide +kernel
theorem d_M_isSorted_42 : decode c_M_isSorted 42 = .ok (.iload_n 2, 1) := by decide +kernel
theorem d_M_isSorted_43 : decode c_M_isSorted 43 = .ok (.ireturn, 1) := by decide +kernel
theorem d_M_isWrong_0 : decode c_M_isWrong 0 = .ok (.aload_n 0, 1) := by decide +kernel
theorem d_M_isWrong_1 : decode c_M_isWrong 1 = .ok (.getfield 13, 3) := by decide +kernel
theorem d_M_isWrong_4 : decode c_M_isWrong 4 = .ok (.iload_n 1, 1) := by decide +kernel
theorem d_M_isWrong_5 : decode c_M_isWrong 5 = .ok (.iaload, 1) := by decide +kernel
theorem d_M_isWrong_6 : decode c_M_isWrong 6 = .ok (.aload_n 0, 1) := by decide +kernel
theorem d_M_isWrong_7 : decode c_M_isWrong 7 = .ok (.iload_n 1, 1) := by decide +kernel
theorem d_M_isWrong_8 : decode c_M_isWrong 8 = .ok (.iload_n 2, 1) := by decide +kernel
theorem d_M_isWrong_9 : decode c_M_isWrong 9 = .ok (.iload_n 3, 1) := by decide +kernel
theorem d_M_isWrong_10 : decode c_M_isWrong 10 = .ok (.iload 4, 2) := by decide +kernel
theorem d_M_isWrong_12 : decode c_M_isWrong 12 = .ok (.invokevirtual 228, 3) := by decide +kernel
theorem d_M_isWrong_15 : decode c_M_isWrong 15 = .ok (.invokestatic 232, 3) := by decide +kernel
theorem d_M_isWrong_18 : decode c_M_isWrong 18 = .ok (.ifCond .ne 7, 3) := by decide +kernel
theorem d_M_isWrong_21 : decode c_M_isWrong 21 = .ok (.iconst 1, 1) := by decide +kernel
theorem d_M_isWrong_22 : decode c_M_isWrong 22 = .ok (.goto 4, 3) := by decide +kernel
theorem d_M_isWrong_25 : decode c_M_isWrong 25 = .ok (.iconst 0, 1) := by decide +kernel
theorem d_M_isWrong_26 : decode c_M_isWrong 26 = .ok (.ireturn, 1) := by decide +kernel
theorem d_M_wrongs_0 : decode c_M_wrongs 0 = .ok (.iconst 0, 1) := by decide +kernel
theorem d_M_wrongs_1 : decode c_M_wrongs 1 = .ok (.istore 4, 2) := by decide +kernel
theorem d_M_wrongs_3 : decode c_M_wrongs 3 = .ok (.aload_n 0, 1) := by decide +kernel
theorem d_M_wrongs_4 : decode c_M_wrongs 4 = .ok (.iconst (-1), 1) := by decide +kernel
theorem d_M_wrongs_5 : decode c_M_wrongs 5 = .ok (.putfield 235, 3) := by decide +kernel
theorem d_M_wrongs_8 : decode c_M_wrongs 8 = .ok (.aload_n 0, 1) := by decide +kernel
theorem d_M_wrongs_9 : decode c_M_wrongs 9 = .ok (.iload_n 1, 1) := by decide +kernel
theorem d_M_wrongs_10 : decode c_M_wrongs 10 = .ok (.invokevirtual 86, 3) := by decide +kernel
theorem d_M_wrongs_13 : decode c_M_wrongs 13 = .ok (.iconst 1, 1) := by decide +kernel
theorem d_M_wrongs_14 : decode c_M_wrongs 14 = .ok (.isub, 1) := by decide +kernel
theorem d_M_wrongs_15 : decode c_M_wrongs 15 = .ok (.istore 5, 2) := by decide +kernel
theorem d_M_wrongs_17 : decode c_M_wrongs 17 = .ok (.iload 5, 2) := by decide +kernel
theorem d_M_wrongs_19 : decode c_M_wrongs 19 = .ok (.ifCond .lt 33, 3) := by decide +kernel
theorem d_M_wrongs_22 : decode c_M_wrongs 22 = .ok (.aload_n 0, 1) := by decide +kernel
theorem d_M_wrongs_23 : decode c_M_wrongs 23 = .ok (.iload_n 1, 1) := by decide +kernel
theorem d_M_wrongs_24 : decode c_M_wrongs 24 = .ok (.iload 5, 2) := by decide +kernel
theorem d_M_wrongs_26 : decode c_M_wrongs 26 = .ok (.iload_n 2, 1) := by decide +kernel
theorem d_M_wrongs_27 : decode c_M_wrongs 27 = .ok (.iload_n 3, 1) := by decide +kernel
theorem d_M_wrongs_28 : decode c_M_wrongs 28 = .ok (.invokevirtual 238, 3) := by decide +kernel
theorem d_M_wrongs_31 : decode c_M_wrongs 31 = .ok (.ifCond .ne 6, 3) := by decide +kernel
theorem d_M_wrongs_34 : decode c_M_wrongs 34 = .ok (.goto 12, 3) := by decide +kernel
theorem d_M_wrongs_37 : decode c_M_wrongs 37 = .ok (.aload_n 0, 1) := by decide +kernel
theorem d_M_wrongs_38 : decode c_M_wrongs 38 = .ok (.iload 5, 2) := by decide +kernel
theorem d_M_wrongs_40 : decode c_M_wrongs 40 = .ok (.putfield 235, 3) := by decide +kernel
theorem d_M_wrongs_43 : decode c_M_wrongs 43 = .ok (.iinc 4 1, 3) := by decide +kernel
theorem d_M_wrongs_46 : decode c_M_wrongs 46 = .ok (.iinc 5 (-1), 3) := by decide +kernel
theorem d_M_wrongs_49 : decode c_M_wrongs 49 = .ok (.goto (-32), 3) := by decide +kernel
theorem d_M_wrongs_52 : decode c_M_wrongs 52 = .ok (.iload 4, 2) := by decide +kernel
theorem d_M_wrongs_54 : decode c_M_wrongs 54 = .ok (.ireturn, 1) := by decide +kernel
theorem d_M_draws_0 : decode c_M_draws 0 = .ok (.aload_n 0, 1) := by decide +kernel
theorem d_M_draws_1 : decode c_M_draws 1 = .ok (.iconst 0, 1) := by decide +kernel
theorem d_M_draws_2 : decode c_M_draws 2 = .ok (.putfield 69, 3) := by decide +kernel
theorem d_M_draws_5 : decode c_M_draws 5 = .ok (.iload_n 1, 1) := by decide +kernel
theorem d_M_draws_6 : decode c_M_draws 6 = .ok (.invokestatic 151, 3) := by decide +kernel
theorem d_M_draws_9 : decode c_M_draws 9 = .ok (.ifCond .eq 29, 3) := by decide +kernel
theorem d_M_draws_12 : decode c_M_draws 12 = .ok (.iload_n 2, 1) := by decide +kernel
theorem d_M_draws_13 : decode c_M_draws 13 = .ok (.i2l, 1) := by decide +kernel
theorem d_M_draws_14 : decode c_M_draws 14 = .ok (.ldc2_w 161, 3) := by decide +kernel
theorem d_M_draws_17 : decode c_M_draws 17 = .ok (.ldc2_w 163, 3) := by decide +kernel
theorem d_M_draws_20 : decode c_M_draws 20 = .ok (.invokestatic 82, 3) := by decide +kernel
theorem d_M_draws_23 : decode c_M_draws 23 = .ok (.ifCond .eq 15, 3) := by decide +kernel
theorem d_M_draws_26 : decode c_M_draws 26 = .ok (.iload_n 3, 1) := by decide +kernel
theorem d_M_draws_27 : decode c_M_draws 27 = .ok (.i2l, 1) := by decide +kernel
theorem d_M_draws_28 : decode c_M_draws 28 = .ok (.lconst 0, 1) := by decide +kernel
theorem d_M_draws_29 : decode c_M_draws 29 = .ok (.ldc2_w 183, 3) := by decide +kernel
theorem d_M_draws_32 : decode c_M_draws 32 = .ok (.invokestatic 82, 3) := by decide +kernel
theorem d_M_draws_35 : decode c_M_draws 35 = .ok (.ifCond .ne 5, 3) := by decide +kernel
theorem d_M_draws_38 : decode c_M_draws 38 = .ok (.iconst (-1), 1) := by decide +kernel
theorem d_M_draws_39 : decode c_M_draws 39 = .ok (.ireturn, 1) := by decide +kernel
theorem d_M_draws_40 : decode c_M_draws 40 = .ok (.aload_n 0, 1) := by decide +kernel
theorem d_M_draws_41 : decode c_M_draws 41 = .ok (.iload_n 1, 1) := by decide +kernel
theorem d_M_draws_42 : decode c_M_draws 42 = .ok (.iload_n 2, 1) := by decide +kernel
theorem d_M_draws_43 : decode c_M_draws 43 = .ok (.invokevirtual 128, 3) := by decide +kernel
theorem d_M_draws_46 : decode c_M_draws 46 = .ok (.aload_n 0, 1) := by decide +kernel
theorem d_M_draws_47 : decode c_M_draws 47 = .ok (.iload 4, 2) := by decide +kernel
theorem d_M_draws_49 : decode c_M_draws 49 = .ok (.putfield 179, 3) := by decide +kernel
theorem d_M_draws_52 : decode c_M_draws 52 = .ok (.iconst 0, 1) := by decide +kernel
theorem d_M_draws_53 : decode c_M_draws 53 = .ok (.istore 5, 2) := by decide +kernel
theorem d_M_draws_55 : decode c_M_draws 55 = .ok (.iload 5, 2) := by decide +kernel
theorem d_M_draws_57 : decode c_M_draws 57 = .ok (.iload_n 3, 1) := by decide +kernel
theorem d_M_draws_58 : decode c_M_draws 58 = .ok (.if_icmp .ge 64, 3) := by decide +kernel
theorem d_M_draws_61 : decode c_M_draws 61 = .ok (.aload_n 0, 1) := by decide +kernel
theorem d_M_draws_62 : decode c_M_draws 62 = .ok (.iload_n 2, 1) := by decide +kernel
theorem d_M_draws_63 : decode c_M_draws 63 = .ok (.invokevirtual 185, 3) := by decide +kernel
theorem d_M_draws_66 : decode c_M_draws 66 = .ok (.istore 6, 2) := by decide +kernel
theorem d_M_draws_68 : decode c_M_draws 68 = .ok (.aload_n 0, 1) := by decide +kernel
theorem d_M_draws_69 : decode c_M_draws 69 = .ok (.iload_n 2, 1) := by decide +kernel
theorem d_M_draws_70 : decode c_M_draws 70 = .ok (.iconst 1, 1) := by decide +kernel
theorem d_M_draws_71 : decode c_M_draws 71 = .ok (.isub, 1) := by decide +kernel
theorem d_M_draws_72 : decode c_M_draws 72 = .ok (.invokevirtual 185, 3) := by decide +kernel
theorem d_M_draws_75 : decode c_M_draws 75 = .ok (.istore 7, 2) := by decide +kernel
theorem d_M_draws_77 : decode c_M_draws 77 = .ok (.iload 7, 2) := by decide +kernel
theorem d_M_draws_79 : decode c_M_draws 79 = .ok (.iload 7, 2) := by decide +kernel
theorem d_M_draws_81 : decode c_M_draws 81 = .ok (.iload 6, 2) := by decide +kernel
theorem d_M_draws_83 : decode c_M_draws 83 = .ok (.if_icmp .lt 7, 3) := by decide +kernel
theorem d_M_draws_86 : decode c_M_draws 86 = .ok (.iconst 1, 1) := by decide +kernel
theorem d_M_draws_87 : decode c_M_draws 87 = .ok (.goto 4, 3) := by decide +kernel
theorem d_M_draws_90 : decode c_M_draws 90 = .ok (.iconst 0, 1) := by decide +kernel
theorem d_M_draws_91 : decode c_M_draws 91 = .ok (.invokestatic 188, 3) := by decide +kernel
theorem d_M_draws_94 : decode c_M_draws 94 = .ok (.iadd, 1) := by decide +kernel
theorem d_M_draws_95 : decode c_M_draws 95 = .ok (.istore 7, 2) := by decide +kernel
theorem d_M_draws_97 : decode c_M_draws 97 = .ok (.aload_n 0, 1) := by decide +kernel
theorem d_M_draws_98 : decode c_M_draws 98 = .ok (.iload_n 1, 1) := by decide +kernel
theorem d_M_draws_99 : decode c_M_draws 99 = .ok (.iload 6, 2) := by decide +kernel
theorem d_M_draws_101 : decode c_M_draws 101 = .ok (.iload 7, 2) := by decide +kernel
theorem d_M_draws_103 : decode c_M_draws 103 = .ok (.invokestatic 132, 3) := by decide +kernel
theorem d_M_draws_106 : decode c_M_draws 106 = .ok (.iload 6, 2) := by decide +kernel
theorem d_M_draws_108 : decode c_M_draws 108 = .ok (.iload 7, 2) := by decide +kernel
theorem d_M_draws_110 : decode c_M_draws 110 = .ok (.invokestatic 138, 3) := by decide +kernel
theorem d_M_draws_113 : decode c_M_draws 113 = .ok (.invokevirtual 141, 3) := by decide +kernel
theorem d_M_draws_116 : decode c_M_draws 116 = .ok (.iinc 5 1, 3) := by decide +kernel
theorem d_M_draws_119 : decode c_M_draws 119 = .ok (.goto (-64), 3) := by decide +kernel
theorem d_M_draws_122 : decode c_M_draws 122 = .ok (.aload_n 0, 1) := by decide +kernel
theorem d_M_draws_123 : decode c_M_draws 123 = .ok (.iload_n 1, 1) := by decide +kernel
theorem d_M_draws_124 : decode c_M_draws 124 = .ok (.iconst (-1), 1) := by decide +kernel
theorem d_M_draws_125 : decode c_M_draws 125 = .ok (.iconst 0, 1) := by decide +kernel
theorem d_M_draws_126 : decode c_M_draws 126 = .ok (.invokevirtual 192, 3) := by decide +kernel
theorem d_M_draws_129 : decode c_M_draws 129 = .ok (.ireturn, 1) := by decide +kernel

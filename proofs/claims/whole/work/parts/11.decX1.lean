theorem d_X_code_0 : decode c_X_code 0 = .ok (.bipush 10, 2) := by decide +kernel
theorem d_X_code_2 : decode c_X_code 2 = .ok (.iload_n 0, 1) := by decide +kernel
theorem d_X_code_3 : decode c_X_code 3 = .ok (.imul, 1) := by decide +kernel
theorem d_X_code_4 : decode c_X_code 4 = .ok (.iload_n 1, 1) := by decide +kernel
theorem d_X_code_5 : decode c_X_code 5 = .ok (.iadd, 1) := by decide +kernel
theorem d_X_code_6 : decode c_X_code 6 = .ok (.ireturn, 1) := by decide +kernel
theorem d_X_comparer_0 : decode c_X_comparer 0 = .ok (.aload_n 0, 1) := by decide +kernel
theorem d_X_comparer_1 : decode c_X_comparer 1 = .ok (.iload_n 1, 1) := by decide +kernel
theorem d_X_comparer_2 : decode c_X_comparer 2 = .ok (.iload_n 2, 1) := by decide +kernel
theorem d_X_comparer_3 : decode c_X_comparer 3 = .ok (.invokevirtual 166, 3) := by decide +kernel
theorem d_X_comparer_6 : decode c_X_comparer 6 = .ok (.ifCond .ne 5, 3) := by decide +kernel
theorem d_X_comparer_9 : decode c_X_comparer 9 = .ok (.iconst (-1), 1) := by decide +kernel
theorem d_X_comparer_10 : decode c_X_comparer 10 = .ok (.ireturn, 1) := by decide +kernel
theorem d_X_comparer_11 : decode c_X_comparer 11 = .ok (.aload_n 0, 1) := by decide +kernel
theorem d_X_comparer_12 : decode c_X_comparer 12 = .ok (.getfield 44, 3) := by decide +kernel
theorem d_X_comparer_15 : decode c_X_comparer 15 = .ok (.aload_n 0, 1) := by decide +kernel
theorem d_X_comparer_16 : decode c_X_comparer 16 = .ok (.getfield 11, 3) := by decide +kernel
theorem d_X_comparer_19 : decode c_X_comparer 19 = .ok (.iload_n 1, 1) := by decide +kernel
theorem d_X_comparer_20 : decode c_X_comparer 20 = .ok (.aaload, 1) := by decide +kernel
theorem d_X_comparer_21 : decode c_X_comparer 21 = .ok (.invokevirtual 187, 3) := by decide +kernel
theorem d_X_comparer_24 : decode c_X_comparer 24 = .ok (.aload_n 0, 1) := by decide +kernel
theorem d_X_comparer_25 : decode c_X_comparer 25 = .ok (.getfield 37, 3) := by decide +kernel
theorem d_X_comparer_28 : decode c_X_comparer 28 = .ok (.invokevirtual 108, 3) := by decide +kernel
theorem d_X_comparer_31 : decode c_X_comparer 31 = .ok (.aload_n 0, 1) := by decide +kernel
theorem d_X_comparer_32 : decode c_X_comparer 32 = .ok (.getfield 37, 3) := by decide +kernel
theorem d_X_comparer_35 : decode c_X_comparer 35 = .ok (.aload_n 0, 1) := by decide +kernel
theorem d_X_comparer_36 : decode c_X_comparer 36 = .ok (.getfield 44, 3) := by decide +kernel
theorem d_X_comparer_39 : decode c_X_comparer 39 = .ok (.getfield 211, 3) := by decide +kernel
theorem d_X_comparer_42 : decode c_X_comparer 42 = .ok (.iload_n 2, 1) := by decide +kernel
theorem d_X_comparer_43 : decode c_X_comparer 43 = .ok (.iaload, 1) := by decide +kernel
theorem d_X_comparer_44 : decode c_X_comparer 44 = .ok (.i2l, 1) := by decide +kernel
theorem d_X_comparer_45 : decode c_X_comparer 45 = .ok (.invokevirtual 118, 3) := by decide +kernel
theorem d_X_comparer_48 : decode c_X_comparer 48 = .ok (.aload_n 0, 1) := by decide +kernel
theorem d_X_comparer_49 : decode c_X_comparer 49 = .ok (.getfield 11, 3) := by decide +kernel
theorem d_X_comparer_52 : decode c_X_comparer 52 = .ok (.iload_n 1, 1) := by decide +kernel
theorem d_X_comparer_53 : decode c_X_comparer 53 = .ok (.aaload, 1) := by decide +kernel
theorem d_X_comparer_54 : decode c_X_comparer 54 = .ok (.getfield 175, 3) := by decide +kernel
theorem d_X_comparer_57 : decode c_X_comparer 57 = .ok (.iload_n 2, 1) := by decide +kernel
theorem d_X_comparer_58 : decode c_X_comparer 58 = .ok (.iaload, 1) := by decide +kernel
theorem d_X_comparer_59 : decode c_X_comparer 59 = .ok (.aload_n 0, 1) := by decide +kernel
theorem d_X_comparer_60 : decode c_X_comparer 60 = .ok (.getfield 11, 3) := by decide +kernel
theorem d_X_comparer_63 : decode c_X_comparer 63 = .ok (.iload_n 1, 1) := by decide +kernel
theorem d_X_comparer_64 : decode c_X_comparer 64 = .ok (.aaload, 1) := by decide +kernel
theorem d_X_comparer_65 : decode c_X_comparer 65 = .ok (.getfield 178, 3) := by decide +kernel
theorem d_X_comparer_68 : decode c_X_comparer 68 = .ok (.iload_n 2, 1) := by decide +kernel
theorem d_X_comparer_69 : decode c_X_comparer 69 = .ok (.iaload, 1) := by decide +kernel
theorem d_X_comparer_70 : decode c_X_comparer 70 = .ok (.invokestatic 214, 3) := by decide +kernel
theorem d_X_comparer_73 : decode c_X_comparer 73 = .ok (.ireturn, 1) := by decide +kernel
theorem d_X_depth_0 : decode c_X_depth 0 = .ok (.iload_n 1, 1) := by decide +kernel
theorem d_X_depth_1 : decode c_X_depth 1 = .ok (.invokestatic 101, 3) := by decide +kernel
theorem d_X_depth_4 : decode c_X_depth 4 = .ok (.ifCond .ne 5, 3) := by decide +kernel
theorem d_X_depth_7 : decode c_X_depth 7 = .ok (.iconst (-1), 1) := by decide +kernel
theorem d_X_depth_8 : decode c_X_depth 8 = .ok (.ireturn, 1) := by decide +kernel
theorem d_X_depth_9 : decode c_X_depth 9 = .ok (.aload_n 0, 1) := by decide +kernel
theorem d_X_depth_10 : decode c_X_depth 10 = .ok (.getfield 44, 3) := by decide +kernel
theorem d_X_depth_13 : decode c_X_depth 13 = .ok (.aload_n 0, 1) := by decide +kernel
theorem d_X_depth_14 : decode c_X_depth 14 = .ok (.getfield 11, 3) := by decide +kernel
theorem d_X_depth_17 : decode c_X_depth 17 = .ok (.iload_n 1, 1) := by decide +kernel
theorem d_X_depth_18 : decode c_X_depth 18 = .ok (.aaload, 1) := by decide +kernel
theorem d_X_depth_19 : decode c_X_depth 19 = .ok (.invokevirtual 187, 3) := by decide +kernel
theorem d_X_depth_22 : decode c_X_depth 22 = .ok (.aload_n 0, 1) := by decide +kernel
theorem d_X_depth_23 : decode c_X_depth 23 = .ok (.getfield 37, 3) := by decide +kernel
theorem d_X_depth_26 : decode c_X_depth 26 = .ok (.invokevirtual 108, 3) := by decide +kernel
theorem d_X_depth_29 : decode c_X_depth 29 = .ok (.iconst 1, 1) := by decide +kernel
theorem d_X_depth_30 : decode c_X_depth 30 = .ok (.istore_n 2, 1) := by decide +kernel
theorem d_X_depth_31 : decode c_X_depth 31 = .ok (.iload_n 2, 1) := by decide +kernel
theorem d_X_depth_32 : decode c_X_depth 32 = .ok (.aload_n 0, 1) := by decide +kernel
theorem d_X_depth_33 : decode c_X_depth 33 = .ok (.getfield 44, 3) := by decide +kernel
theorem d_X_depth_36 : decode c_X_depth 36 = .ok (.getfield 190, 3) := by decide +kernel
theorem d_X_depth_39 : decode c_X_depth 39 = .ok (.if_icmp .gt 25, 3) := by decide +kernel
theorem d_X_depth_42 : decode c_X_depth 42 = .ok (.aload_n 0, 1) := by decide +kernel
theorem d_X_depth_43 : decode c_X_depth 43 = .ok (.getfield 37, 3) := by decide +kernel
theorem d_X_depth_46 : decode c_X_depth 46 = .ok (.aload_n 0, 1) := by decide +kernel
theorem d_X_depth_47 : decode c_X_depth 47 = .ok (.getfield 44, 3) := by decide +kernel
theorem d_X_depth_50 : decode c_X_depth 50 = .ok (.iload_n 2, 1) := by decide +kernel
theorem d_X_depth_51 : decode c_X_depth 51 = .ok (.invokevirtual 217, 3) := by decide +kernel
theorem d_X_depth_54 : decode c_X_depth 54 = .ok (.i2l, 1) := by decide +kernel
theorem d_X_depth_55 : decode c_X_depth 55 = .ok (.invokevirtual 118, 3) := by decide +kernel
theorem d_X_depth_58 : decode c_X_depth 58 = .ok (.iinc 2 1, 3) := by decide +kernel
theorem d_X_depth_61 : decode c_X_depth 61 = .ok (.goto (-30), 3) := by decide +kernel
theorem d_X_depth_64 : decode c_X_depth 64 = .ok (.aload_n 0, 1) := by decide +kernel
theorem d_X_depth_65 : decode c_X_depth 65 = .ok (.getfield 44, 3) := by decide +kernel
theorem d_X_depth_68 : decode c_X_depth 68 = .ok (.getfield 190, 3) := by decide +kernel
theorem d_X_depth_71 : decode c_X_depth 71 = .ok (.ireturn, 1) := by decide +kernel
theorem d_X_isPattern_0 : decode c_X_isPattern 0 = .ok (.iload_n 1, 1) := by decide +kernel
theorem d_X_isPattern_1 : decode c_X_isPattern 1 = .ok (.invokestatic 101, 3) := by decide +kernel
theorem d_X_isPattern_4 : decode c_X_isPattern 4 = .ok (.ifCond .eq 26, 3) := by decide +kernel
theorem d_X_isPattern_7 : decode c_X_isPattern 7 = .ok (.iload_n 2, 1) := by decide +kernel
theorem d_X_isPattern_8 : decode c_X_isPattern 8 = .ok (.ifCond .lt 22, 3) := by decide +kernel
theorem d_X_isPattern_11 : decode c_X_isPattern 11 = .ok (.iload_n 2, 1) := by decide +kernel
theorem d_X_isPattern_12 : decode c_X_isPattern 12 = .ok (.iconst 1, 1) := by decide +kernel
theorem d_X_isPattern_13 : decode c_X_isPattern 13 = .ok (.aload_n 0, 1) := by decide +kernel
theorem d_X_isPattern_14 : decode c_X_isPattern 14 = .ok (.getfield 11, 3) := by decide +kernel
theorem d_X_isPattern_17 : decode c_X_isPattern 17 = .ok (.iload_n 1, 1) := by decide +kernel
theorem d_X_isPattern_18 : decode c_X_isPattern 18 = .ok (.aaload, 1) := by decide +kernel
theorem d_X_isPattern_19 : decode c_X_isPattern 19 = .ok (.getfield 111, 3) := by decide +kernel
theorem d_X_isPattern_22 : decode c_X_isPattern 22 = .ok (.ishl, 1) := by decide +kernel
theorem d_X_isPattern_23 : decode c_X_isPattern 23 = .ok (.if_icmp .ge 7, 3) := by decide +kernel
theorem d_X_isPattern_26 : decode c_X_isPattern 26 = .ok (.iconst 1, 1) := by decide +kernel
theorem d_X_isPattern_27 : decode c_X_isPattern 27 = .ok (.goto 4, 3) := by decide +kernel
theorem d_X_isPattern_30 : decode c_X_isPattern 30 = .ok (.iconst 0, 1) := by decide +kernel
theorem d_X_isPattern_31 : decode c_X_isPattern 31 = .ok (.ireturn, 1) := by decide +kernel
theorem d_X_runs_0 : decode c_X_runs 0 = .ok (.aload_n 0, 1) := by decide +kernel
theorem d_X_runs_1 : decode c_X_runs 1 = .ok (.iload_n 1, 1) := by decide +kernel
theorem d_X_runs_2 : decode c_X_runs 2 = .ok (.iload_n 2, 1) := by decide +kernel
theorem d_X_runs_3 : decode c_X_runs 3 = .ok (.invokevirtual 220, 3) := by decide +kernel
theorem d_X_runs_6 : decode c_X_runs 6 = .ok (.ifCond .ne 5, 3) := by decide +kernel
theorem d_X_runs_9 : decode c_X_runs 9 = .ok (.iconst (-1), 1) := by decide +kernel
theorem d_X_runs_10 : decode c_X_runs 10 = .ok (.ireturn, 1) := by decide +kernel
theorem d_X_runs_11 : decode c_X_runs 11 = .ok (.aload_n 0, 1) := by decide +kernel
theorem d_X_runs_12 : decode c_X_runs 12 = .ok (.getfield 11, 3) := by decide +kernel
theorem d_X_runs_15 : decode c_X_runs 15 = .ok (.iload_n 1, 1) := by decide +kernel
theorem d_X_runs_16 : decode c_X_runs 16 = .ok (.aaload, 1) := by decide +kernel
theorem d_X_runs_17 : decode c_X_runs 17 = .ok (.astore_n 3, 1) := by decide +kernel
theorem d_X_runs_18 : decode c_X_runs 18 = .ok (.iload_n 2, 1) := by decide +kernel
theorem d_X_runs_19 : decode c_X_runs 19 = .ok (.istore 4, 2) := by decide +kernel
theorem d_X_runs_21 : decode c_X_runs 21 = .ok (.lconst 0, 1) := by decide +kernel
theorem d_X_runs_22 : decode c_X_runs 22 = .ok (.lstore 5, 2) := by decide +kernel
theorem d_X_runs_24 : decode c_X_runs 24 = .ok (.iconst 0, 1) := by decide +kernel
theorem d_X_runs_25 : decode c_X_runs 25 = .ok (.istore 7, 2) := by decide +kernel
theorem d_X_runs_27 : decode c_X_runs 27 = .ok (.iload 7, 2) := by decide +kernel
theorem d_X_runs_29 : decode c_X_runs 29 = .ok (.aload_n 3, 1) := by decide +kernel
theorem d_X_runs_30 : decode c_X_runs 30 = .ok (.getfield 121, 3) := by decide +kernel
theorem d_X_runs_33 : decode c_X_runs 33 = .ok (.if_icmp .ge 67, 3) := by decide +kernel
theorem d_X_runs_36 : decode c_X_runs 36 = .ok (.aload_n 3, 1) := by decide +kernel
theorem d_X_runs_37 : decode c_X_runs 37 = .ok (.getfield 175, 3) := by decide +kernel
theorem d_X_runs_40 : decode c_X_runs 40 = .ok (.iload 7, 2) := by decide +kernel
theorem d_X_runs_42 : decode c_X_runs 42 = .ok (.iaload, 1) := by decide +kernel
theorem d_X_runs_43 : decode c_X_runs 43 = .ok (.istore 8, 2) := by decide +kernel
theorem d_X_runs_45 : decode c_X_runs 45 = .ok (.aload_n 3, 1) := by decide +kernel
theorem d_X_runs_46 : decode c_X_runs 46 = .ok (.getfield 178, 3) := by decide +kernel
theorem d_X_runs_49 : decode c_X_runs 49 = .ok (.iload 7, 2) := by decide +kernel
theorem d_X_runs_51 : decode c_X_runs 51 = .ok (.iaload, 1) := by decide +kernel
theorem d_X_runs_52 : decode c_X_runs 52 = .ok (.istore 9, 2) := by decide +kernel
theorem d_X_runs_54 : decode c_X_runs 54 = .ok (.iload 4, 2) := by decide +kernel
theorem d_X_runs_56 : decode c_X_runs 56 = .ok (.iload 8, 2) := by decide +kernel
theorem d_X_runs_58 : decode c_X_runs 58 = .ok (.ishr, 1) := by decide +kernel
theorem d_X_runs_59 : decode c_X_runs 59 = .ok (.iconst 1, 1) := by decide +kernel
theorem d_X_runs_60 : decode c_X_runs 60 = .ok (.iand, 1) := by decide +kernel
theorem d_X_runs_61 : decode c_X_runs 61 = .ok (.iload 4, 2) := by decide +kernel
theorem d_X_runs_63 : decode c_X_runs 63 = .ok (.iload 9, 2) := by decide +kernel
theorem d_X_runs_65 : decode c_X_runs 65 = .ok (.ishr, 1) := by decide +kernel
theorem d_X_runs_66 : decode c_X_runs 66 = .ok (.iconst 1, 1) := by decide +kernel
theorem d_X_runs_67 : decode c_X_runs 67 = .ok (.iand, 1) := by decide +kernel
theorem d_X_runs_68 : decode c_X_runs 68 = .ok (.if_icmp .le 26, 3) := by decide +kernel
theorem d_X_runs_71 : decode c_X_runs 71 = .ok (.lload 5, 2) := by decide +kernel
theorem d_X_runs_73 : decode c_X_runs 73 = .ok (.lconst 1, 1) := by decide +kernel
theorem d_X_runs_74 : decode c_X_runs 74 = .ok (.iload 7, 2) := by decide +kernel
theorem d_X_runs_76 : decode c_X_runs 76 = .ok (.lshl, 1) := by decide +kernel
theorem d_X_runs_77 : decode c_X_runs 77 = .ok (.lor, 1) := by decide +kernel
theorem d_X_runs_78 : decode c_X_runs 78 = .ok (.lstore 5, 2) := by decide +kernel
theorem d_X_runs_80 : decode c_X_runs 80 = .ok (.iload 4, 2) := by decide +kernel
theorem d_X_runs_82 : decode c_X_runs 82 = .ok (.iconst 1, 1) := by decide +kernel
theorem d_X_runs_83 : decode c_X_runs 83 = .ok (.iload 8, 2) := by decide +kernel
theorem d_X_runs_85 : decode c_X_runs 85 = .ok (.ishl, 1) := by decide +kernel
theorem d_X_runs_86 : decode c_X_runs 86 = .ok (.iconst 1, 1) := by decide +kernel
theorem d_X_runs_87 : decode c_X_runs 87 = .ok (.iload 9, 2) := by decide +kernel
theorem d_X_runs_89 : decode c_X_runs 89 = .ok (.ishl, 1) := by decide +kernel
theorem d_X_runs_90 : decode c_X_runs 90 = .ok (.ior, 1) := by decide +kernel
theorem d_X_runs_91 : decode c_X_runs 91 = .ok (.ixor, 1) := by decide +kernel
theorem d_X_runs_92 : decode c_X_runs 92 = .ok (.istore 4, 2) := by decide +kernel
theorem d_X_runs_94 : decode c_X_runs 94 = .ok (.iinc 7 1, 3) := by decide +kernel
theorem d_X_runs_97 : decode c_X_runs 97 = .ok (.goto (-70), 3) := by decide +kernel
theorem d_X_runs_100 : decode c_X_runs 100 = .ok (.aload_n 0, 1) := by decide +kernel
theorem d_X_runs_101 : decode c_X_runs 101 = .ok (.getfield 37, 3) := by decide +kernel
theorem d_X_runs_104 : decode c_X_runs 104 = .ok (.invokevirtual 108, 3) := by decide +kernel
theorem d_X_runs_107 : decode c_X_runs 107 = .ok (.aload_n 0, 1) := by decide +kernel
theorem d_X_runs_108 : decode c_X_runs 108 = .ok (.getfield 37, 3) := by decide +kernel
theorem d_X_runs_111 : decode c_X_runs 111 = .ok (.lload 5, 2) := by decide +kernel
theorem d_X_runs_113 : decode c_X_runs 113 = .ok (.invokevirtual 118, 3) := by decide +kernel
theorem d_X_runs_116 : decode c_X_runs 116 = .ok (.iload 4, 2) := by decide +kernel
theorem d_X_runs_118 : decode c_X_runs 118 = .ok (.ireturn, 1) := by decide +kernel
theorem d_X_readValues_0 : decode c_X_readValues 0 = .ok (.iconst 0, 1) := by decide +kernel
theorem d_X_readValues_1 : decode c_X_readValues 1 = .ok (.istore_n 2, 1) := by decide +kernel
theorem d_X_readValues_2 : decode c_X_readValues 2 = .ok (.iconst 0, 1) := by decide +kernel
theorem d_X_readValues_3 : decode c_X_readValues 3 = .ok (.istore_n 3, 1) := by decide +kernel
theorem d_X_readValues_4 : decode c_X_readValues 4 = .ok (.iload_n 3, 1) := by decide +kernel
theorem d_X_readValues_5 : decode c_X_readValues 5 = .ok (.iload_n 1, 1) := by decide +kernel
theorem d_X_readValues_6 : decode c_X_readValues 6 = .ok (.if_icmp .ge 100, 3) := by decide +kernel
theorem d_X_readValues_9 : decode c_X_readValues 9 = .ok (.iload_n 3, 1) := by decide +kernel
theorem d_X_readValues_10 : decode c_X_readValues 10 = .ok (.ifCond .le 21, 3) := by decide +kernel
theorem d_X_readValues_13 : decode c_X_readValues 13 = .ok (.aload_n 0, 1) := by decide +kernel
theorem d_X_readValues_14 : decode c_X_readValues 14 = .ok (.getfield 30, 3) := by decide +kernel
theorem d_X_readValues_17 : decode c_X_readValues 17 = .ok (.iload_n 2, 1) := by decide +kernel
theorem d_X_readValues_18 : decode c_X_readValues 18 = .ok (.invokevirtual 341, 3) := by decide +kernel
theorem d_X_readValues_21 : decode c_X_readValues 21 = .ok (.bipush 44, 2) := by decide +kernel
theorem d_X_readValues_23 : decode c_X_readValues 23 = .ok (.if_icmp .eq 5, 3) := by decide +kernel
theorem d_X_readValues_26 : decode c_X_readValues 26 = .ok (.iload_n 2, 1) := by decide +kernel
theorem d_X_readValues_27 : decode c_X_readValues 27 = .ok (.ireturn, 1) := by decide +kernel
theorem d_X_readValues_28 : decode c_X_readValues 28 = .ok (.iinc 2 1, 3) := by decide +kernel
theorem d_X_readValues_31 : decode c_X_readValues 31 = .ok (.aload_n 0, 1) := by decide +kernel
theorem d_X_readValues_32 : decode c_X_readValues 32 = .ok (.getfield 30, 3) := by decide +kernel
theorem d_X_readValues_35 : decode c_X_readValues 35 = .ok (.iload_n 2, 1) := by decide +kernel
theorem d_X_readValues_36 : decode c_X_readValues 36 = .ok (.invokevirtual 338, 3) := by decide +kernel
theorem d_X_readValues_39 : decode c_X_readValues 39 = .ok (.ifCond .ge 5, 3) := by decide +kernel
theorem d_X_readValues_42 : decode c_X_readValues 42 = .ok (.iload_n 2, 1) := by decide +kernel
theorem d_X_readValues_43 : decode c_X_readValues 43 = .ok (.ireturn, 1) := by decide +kernel
theorem d_X_readValues_44 : decode c_X_readValues 44 = .ok (.iconst 0, 1) := by decide +kernel
theorem d_X_readValues_45 : decode c_X_readValues 45 = .ok (.istore 4, 2) := by decide +kernel
theorem d_X_readValues_47 : decode c_X_readValues 47 = .ok (.iconst 0, 1) := by decide +kernel
theorem d_X_readValues_48 : decode c_X_readValues 48 = .ok (.istore 5, 2) := by decide +kernel
theorem d_X_readValues_50 : decode c_X_readValues 50 = .ok (.iload 5, 2) := by decide +kernel
theorem d_X_readValues_52 : decode c_X_readValues 52 = .ok (.iconst 4, 1) := by decide +kernel
theorem d_X_readValues_53 : decode c_X_readValues 53 = .ok (.if_icmp .ge 39, 3) := by decide +kernel
theorem d_X_readValues_56 : decode c_X_readValues 56 = .ok (.aload_n 0, 1) := by decide +kernel
theorem d_X_readValues_57 : decode c_X_readValues 57 = .ok (.getfield 30, 3) := by decide +kernel
theorem d_X_readValues_60 : decode c_X_readValues 60 = .ok (.iload_n 2, 1) := by decide +kernel
theorem d_X_readValues_61 : decode c_X_readValues 61 = .ok (.invokevirtual 338, 3) := by decide +kernel
theorem d_X_readValues_64 : decode c_X_readValues 64 = .ok (.ifCond .lt 28, 3) := by decide +kernel
theorem d_X_readValues_67 : decode c_X_readValues 67 = .ok (.bipush 10, 2) := by decide +kernel
theorem d_X_readValues_69 : decode c_X_readValues 69 = .ok (.iload 4, 2) := by decide +kernel
theorem d_X_readValues_71 : decode c_X_readValues 71 = .ok (.imul, 1) := by decide +kernel
theorem d_X_readValues_72 : decode c_X_readValues 72 = .ok (.aload_n 0, 1) := by decide +kernel
theorem d_X_readValues_73 : decode c_X_readValues 73 = .ok (.getfield 30, 3) := by decide +kernel
theorem d_X_readValues_76 : decode c_X_readValues 76 = .ok (.iload_n 2, 1) := by decide +kernel
theorem d_X_readValues_77 : decode c_X_readValues 77 = .ok (.invokevirtual 338, 3) := by decide +kernel
theorem d_X_readValues_80 : decode c_X_readValues 80 = .ok (.iadd, 1) := by decide +kernel
theorem d_X_readValues_81 : decode c_X_readValues 81 = .ok (.istore 4, 2) := by decide +kernel
theorem d_X_readValues_83 : decode c_X_readValues 83 = .ok (.iinc 2 1, 3) := by decide +kernel
theorem d_X_readValues_86 : decode c_X_readValues 86 = .ok (.iinc 5 1, 3) := by decide +kernel
theorem d_X_readValues_89 : decode c_X_readValues 89 = .ok (.goto (-39), 3) := by decide +kernel
theorem d_X_readValues_92 : decode c_X_readValues 92 = .ok (.aload_n 0, 1) := by decide +kernel
theorem d_X_readValues_93 : decode c_X_readValues 93 = .ok (.getfield 73, 3) := by decide +kernel
theorem d_X_readValues_96 : decode c_X_readValues 96 = .ok (.iload_n 3, 1) := by decide +kernel
theorem d_X_readValues_97 : decode c_X_readValues 97 = .ok (.iload 4, 2) := by decide +kernel
theorem d_X_readValues_99 : decode c_X_readValues 99 = .ok (.iastore, 1) := by decide +kernel
theorem d_X_readValues_100 : decode c_X_readValues 100 = .ok (.iinc 3 1, 3) := by decide +kernel
theorem d_X_readValues_103 : decode c_X_readValues 103 = .ok (.goto (-99), 3) := by decide +kernel
theorem d_X_readValues_106 : decode c_X_readValues 106 = .ok (.iload_n 2, 1) := by decide +kernel
theorem d_X_readValues_107 : decode c_X_readValues 107 = .ok (.aload_n 0, 1) := by decide +kernel
theorem d_X_readValues_108 : decode c_X_readValues 108 = .ok (.getfield 30, 3) := by decide +kernel
theorem d_X_readValues_111 : decode c_X_readValues 111 = .ok (.getfield 93, 3) := by decide +kernel
theorem d_X_readValues_114 : decode c_X_readValues 114 = .ok (.if_icmp .ne 7, 3) := by decide +kernel
theorem d_X_readValues_117 : decode c_X_readValues 117 = .ok (.iconst (-1), 1) := by decide +kernel
theorem d_X_readValues_118 : decode c_X_readValues 118 = .ok (.goto 4, 3) := by decide +kernel
theorem d_X_readValues_121 : decode c_X_readValues 121 = .ok (.iload_n 2, 1) := by decide +kernel
theorem d_X_readValues_122 : decode c_X_readValues 122 = .ok (.ireturn, 1) := by decide +kernel
theorem d_X_orderValues_0 : decode c_X_orderValues 0 = .ok (.aload_n 0, 1) := by decide +kernel
theorem d_X_orderValues_1 : decode c_X_orderValues 1 = .ok (.getfield 73, 3) := by decide +kernel
theorem d_X_orderValues_4 : decode c_X_orderValues 4 = .ok (.iload_n 1, 1) := by decide +kernel
theorem d_X_orderValues_5 : decode c_X_orderValues 5 = .ok (.iaload, 1) := by decide +kernel
theorem d_X_orderValues_6 : decode c_X_orderValues 6 = .ok (.aload_n 0, 1) := by decide +kernel
theorem d_X_orderValues_7 : decode c_X_orderValues 7 = .ok (.getfield 73, 3) := by decide +kernel
theorem d_X_orderValues_10 : decode c_X_orderValues 10 = .ok (.iload_n 2, 1) := by decide +kernel
theorem d_X_orderValues_11 : decode c_X_orderValues 11 = .ok (.iaload, 1) := by decide +kernel
theorem d_X_orderValues_12 : decode c_X_orderValues 12 = .ok (.if_icmp .gt 5, 3) := by decide +kernel
theorem d_X_orderValues_15 : decode c_X_orderValues 15 = .ok (.iconst 0, 1) := by decide +kernel
theorem d_X_orderValues_16 : decode c_X_orderValues 16 = .ok (.ireturn, 1) := by decide +kernel
theorem d_X_orderValues_17 : decode c_X_orderValues 17 = .ok (.aload_n 0, 1) := by decide +kernel
theorem d_X_orderValues_18 : decode c_X_orderValues 18 = .ok (.getfield 73, 3) := by decide +kernel
theorem d_X_orderValues_21 : decode c_X_orderValues 21 = .ok (.iload_n 1, 1) := by decide +kernel
theorem d_X_orderValues_22 : decode c_X_orderValues 22 = .ok (.iaload, 1) := by decide +kernel
theorem d_X_orderValues_23 : decode c_X_orderValues 23 = .ok (.istore_n 3, 1) := by decide +kernel
theorem d_X_orderValues_24 : decode c_X_orderValues 24 = .ok (.aload_n 0, 1) := by decide +kernel
theorem d_X_orderValues_25 : decode c_X_orderValues 25 = .ok (.getfield 73, 3) := by decide +kernel
theorem d_X_orderValues_28 : decode c_X_orderValues 28 = .ok (.iload_n 1, 1) := by decide +kernel
theorem d_X_orderValues_29 : decode c_X_orderValues 29 = .ok (.aload_n 0, 1) := by decide +kernel
theorem d_X_orderValues_30 : decode c_X_orderValues 30 = .ok (.getfield 73, 3) := by decide +kernel
theorem d_X_orderValues_33 : decode c_X_orderValues 33 = .ok (.iload_n 2, 1) := by decide +kernel
theorem d_X_orderValues_34 : decode c_X_orderValues 34 = .ok (.iaload, 1) := by decide +kernel
theorem d_X_orderValues_35 : decode c_X_orderValues 35 = .ok (.iastore, 1) := by decide +kernel
theorem d_X_orderValues_36 : decode c_X_orderValues 36 = .ok (.aload_n 0, 1) := by decide +kernel
theorem d_X_orderValues_37 : decode c_X_orderValues 37 = .ok (.getfield 73, 3) := by decide +kernel
theorem d_X_orderValues_40 : decode c_X_orderValues 40 = .ok (.iload_n 2, 1) := by decide +kernel
theorem d_X_orderValues_41 : decode c_X_orderValues 41 = .ok (.iload_n 3, 1) := by decide +kernel
theorem d_X_orderValues_42 : decode c_X_orderValues 42 = .ok (.iastore, 1) := by decide +kernel
theorem d_X_orderValues_43 : decode c_X_orderValues 43 = .ok (.iconst 1, 1) := by decide +kernel
theorem d_X_orderValues_44 : decode c_X_orderValues 44 = .ok (.ireturn, 1) := by decide +kernel
theorem d_X_tellFirst_0 : decode c_X_tellFirst 0 = .ok (.aload_n 0, 1) := by decide +kernel
theorem d_X_tellFirst_1 : decode c_X_tellFirst 1 = .ok (.getfield 37, 3) := by decide +kernel
theorem d_X_tellFirst_4 : decode c_X_tellFirst 4 = .ok (.invokevirtual 108, 3) := by decide +kernel
theorem d_X_tellFirst_7 : decode c_X_tellFirst 7 = .ok (.iconst 0, 1) := by decide +kernel
theorem d_X_tellFirst_8 : decode c_X_tellFirst 8 = .ok (.istore_n 3, 1) := by decide +kernel
theorem d_X_tellFirst_9 : decode c_X_tellFirst 9 = .ok (.iload_n 3, 1) := by decide +kernel
theorem d_X_tellFirst_10 : decode c_X_tellFirst 10 = .ok (.iload_n 2, 1) := by decide +kernel
theorem d_X_tellFirst_11 : decode c_X_tellFirst 11 = .ok (.if_icmp .ge 26, 3) := by decide +kernel
theorem d_X_tellFirst_14 : decode c_X_tellFirst 14 = .ok (.iload_n 3, 1) := by decide +kernel
theorem d_X_tellFirst_15 : decode c_X_tellFirst 15 = .ok (.aload_n 1, 1) := by decide +kernel
theorem d_X_tellFirst_16 : decode c_X_tellFirst 16 = .ok (.arraylength, 1) := by decide +kernel
theorem d_X_tellFirst_17 : decode c_X_tellFirst 17 = .ok (.if_icmp .ge 20, 3) := by decide +kernel
theorem d_X_tellFirst_20 : decode c_X_tellFirst 20 = .ok (.aload_n 0, 1) := by decide +kernel
theorem d_X_tellFirst_21 : decode c_X_tellFirst 21 = .ok (.getfield 37, 3) := by decide +kernel
theorem d_X_tellFirst_24 : decode c_X_tellFirst 24 = .ok (.aload_n 1, 1) := by decide +kernel
theorem d_X_tellFirst_25 : decode c_X_tellFirst 25 = .ok (.iload_n 3, 1) := by decide +kernel
theorem d_X_tellFirst_26 : decode c_X_tellFirst 26 = .ok (.iaload, 1) := by decide +kernel
theorem d_X_tellFirst_27 : decode c_X_tellFirst 27 = .ok (.i2l, 1) := by decide +kernel
theorem d_X_tellFirst_28 : decode c_X_tellFirst 28 = .ok (.invokevirtual 118, 3) := by decide +kernel
theorem d_X_tellFirst_31 : decode c_X_tellFirst 31 = .ok (.iinc 3 1, 3) := by decide +kernel
theorem d_X_tellFirst_34 : decode c_X_tellFirst 34 = .ok (.goto (-25), 3) := by decide +kernel
theorem d_X_tellFirst_37 : decode c_X_tellFirst 37 = .ok (.return_, 1) := by decide +kernel
theorem d_X_tells_0 : decode c_X_tells 0 = .ok (.iload_n 1, 1) := by decide +kernel
theorem d_X_tells_1 : decode c_X_tells 1 = .ok (.invokestatic 101, 3) := by decide +kernel
theorem d_X_tells_4 : decode c_X_tells 4 = .ok (.ifCond .ne 13, 3) := by decide +kernel
theorem d_X_tells_7 : decode c_X_tells 7 = .ok (.aload_n 0, 1) := by decide +kernel
theorem d_X_tells_8 : decode c_X_tells 8 = .ok (.getfield 30, 3) := by decide +kernel
theorem d_X_tells_11 : decode c_X_tells 11 = .ok (.iconst 0, 1) := by decide +kernel
theorem d_X_tells_12 : decode c_X_tells 12 = .ok (.putfield 93, 3) := by decide +kernel
theorem d_X_tells_15 : decode c_X_tells 15 = .ok (.iconst (-1), 1) := by decide +kernel
theorem d_X_tells_16 : decode c_X_tells 16 = .ok (.ireturn, 1) := by decide +kernel
theorem d_X_tells_17 : decode c_X_tells 17 = .ok (.aload_n 0, 1) := by decide +kernel
theorem d_X_tells_18 : decode c_X_tells 18 = .ok (.getfield 11, 3) := by decide +kernel
theorem d_X_tells_21 : decode c_X_tells 21 = .ok (.iload_n 1, 1) := by decide +kernel
theorem d_X_tells_22 : decode c_X_tells 22 = .ok (.aaload, 1) := by decide +kernel
theorem d_X_tells_23 : decode c_X_tells 23 = .ok (.astore_n 2, 1) := by decide +kernel
theorem d_X_tells_24 : decode c_X_tells 24 = .ok (.aload_n 0, 1) := by decide +kernel
theorem d_X_tells_25 : decode c_X_tells 25 = .ok (.aload_n 2, 1) := by decide +kernel
theorem d_X_tells_26 : decode c_X_tells 26 = .ok (.getfield 111, 3) := by decide +kernel
theorem d_X_tells_29 : decode c_X_tells 29 = .ok (.invokevirtual 223, 3) := by decide +kernel
theorem d_X_tells_32 : decode c_X_tells 32 = .ok (.istore_n 3, 1) := by decide +kernel
theorem d_X_tells_33 : decode c_X_tells 33 = .ok (.aload_n 0, 1) := by decide +kernel
theorem d_X_tells_34 : decode c_X_tells 34 = .ok (.getfield 30, 3) := by decide +kernel
theorem d_X_tells_37 : decode c_X_tells 37 = .ok (.iconst 0, 1) := by decide +kernel
theorem d_X_tells_38 : decode c_X_tells 38 = .ok (.putfield 93, 3) := by decide +kernel
theorem d_X_tells_41 : decode c_X_tells 41 = .ok (.iload_n 3, 1) := by decide +kernel
theorem d_X_tells_42 : decode c_X_tells 42 = .ok (.ifCond .lt 8, 3) := by decide +kernel
theorem d_X_tells_45 : decode c_X_tells 45 = .ok (.bipush (-21), 2) := by decide +kernel
theorem d_X_tells_47 : decode c_X_tells 47 = .ok (.iload_n 3, 1) := by decide +kernel
theorem d_X_tells_48 : decode c_X_tells 48 = .ok (.isub, 1) := by decide +kernel
theorem d_X_tells_49 : decode c_X_tells 49 = .ok (.ireturn, 1) := by decide +kernel
theorem d_X_tells_50 : decode c_X_tells 50 = .ok (.iconst 0, 1) := by decide +kernel
theorem d_X_tells_51 : decode c_X_tells 51 = .ok (.istore 4, 2) := by decide +kernel
theorem d_X_tells_53 : decode c_X_tells 53 = .ok (.iconst 0, 1) := by decide +kernel
theorem d_X_tells_54 : decode c_X_tells 54 = .ok (.istore 5, 2) := by decide +kernel
theorem d_X_tells_56 : decode c_X_tells 56 = .ok (.iload 5, 2) := by decide +kernel
theorem d_X_tells_58 : decode c_X_tells 58 = .ok (.aload_n 2, 1) := by decide +kernel
theorem d_X_tells_59 : decode c_X_tells 59 = .ok (.getfield 121, 3) := by decide +kernel
theorem d_X_tells_62 : decode c_X_tells 62 = .ok (.if_icmp .ge 32, 3) := by decide +kernel
theorem d_X_tells_65 : decode c_X_tells 65 = .ok (.iload 4, 2) := by decide +kernel
theorem d_X_tells_67 : decode c_X_tells 67 = .ok (.aload_n 0, 1) := by decide +kernel
theorem d_X_tells_68 : decode c_X_tells 68 = .ok (.aload_n 2, 1) := by decide +kernel
theorem d_X_tells_69 : decode c_X_tells 69 = .ok (.getfield 175, 3) := by decide +kernel
theorem d_X_tells_72 : decode c_X_tells 72 = .ok (.iload 5, 2) := by decide +kernel
theorem d_X_tells_74 : decode c_X_tells 74 = .ok (.iaload, 1) := by decide +kernel
theorem d_X_tells_75 : decode c_X_tells 75 = .ok (.aload_n 2, 1) := by decide +kernel
theorem d_X_tells_76 : decode c_X_tells 76 = .ok (.getfield 178, 3) := by decide +kernel
theorem d_X_tells_79 : decode c_X_tells 79 = .ok (.iload 5, 2) := by decide +kernel
theorem d_X_tells_81 : decode c_X_tells 81 = .ok (.iaload, 1) := by decide +kernel
theorem d_X_tells_82 : decode c_X_tells 82 = .ok (.invokevirtual 226, 3) := by decide +kernel
theorem d_X_tells_85 : decode c_X_tells 85 = .ok (.iadd, 1) := by decide +kernel
theorem d_X_tells_86 : decode c_X_tells 86 = .ok (.istore 4, 2) := by decide +kernel
theorem d_X_tells_88 : decode c_X_tells 88 = .ok (.iinc 5 1, 3) := by decide +kernel
theorem d_X_tells_91 : decode c_X_tells 91 = .ok (.goto (-35), 3) := by decide +kernel
theorem d_X_tells_94 : decode c_X_tells 94 = .ok (.aload_n 0, 1) := by decide +kernel
theorem d_X_tells_95 : decode c_X_tells 95 = .ok (.aload_n 0, 1) := by decide +kernel
theorem d_X_tells_96 : decode c_X_tells 96 = .ok (.getfield 73, 3) := by decide +kernel
theorem d_X_tells_99 : decode c_X_tells 99 = .ok (.aload_n 2, 1) := by decide +kernel
theorem d_X_tells_100 : decode c_X_tells 100 = .ok (.getfield 111, 3) := by decide +kernel
theorem d_X_tells_103 : decode c_X_tells 103 = .ok (.invokevirtual 229, 3) := by decide +kernel
theorem d_X_tells_106 : decode c_X_tells 106 = .ok (.iload 4, 2) := by decide +kernel
theorem d_X_tells_108 : decode c_X_tells 108 = .ok (.ireturn, 1) := by decide +kernel
theorem d_X_sorts_0 : decode c_X_sorts 0 = .ok (.iload_n 1, 1) := by decide +kernel
theorem d_X_sorts_1 : decode c_X_sorts 1 = .ok (.invokestatic 101, 3) := by decide +kernel
theorem d_X_sorts_4 : decode c_X_sorts 4 = .ok (.ifCond .ne 5, 3) := by decide +kernel
theorem d_X_sorts_7 : decode c_X_sorts 7 = .ok (.iconst (-1), 1) := by decide +kernel
theorem d_X_sorts_8 : decode c_X_sorts 8 = .ok (.ireturn, 1) := by decide +kernel
theorem d_X_sorts_9 : decode c_X_sorts 9 = .ok (.aload_n 0, 1) := by decide +kernel
theorem d_X_sorts_10 : decode c_X_sorts 10 = .ok (.aload_n 0, 1) := by decide +kernel
theorem d_X_sorts_11 : decode c_X_sorts 11 = .ok (.getfield 11, 3) := by decide +kernel
theorem d_X_sorts_14 : decode c_X_sorts 14 = .ok (.iload_n 1, 1) := by decide +kernel
theorem d_X_sorts_15 : decode c_X_sorts 15 = .ok (.aaload, 1) := by decide +kernel
theorem d_X_sorts_16 : decode c_X_sorts 16 = .ok (.iconst (-1), 1) := by decide +kernel
theorem d_X_sorts_17 : decode c_X_sorts 17 = .ok (.invokevirtual 157, 3) := by decide +kernel
theorem d_X_sorts_20 : decode c_X_sorts 20 = .ok (.aload_n 0, 1) := by decide +kernel
theorem d_X_sorts_21 : decode c_X_sorts 21 = .ok (.getfield 37, 3) := by decide +kernel
theorem d_X_sorts_24 : decode c_X_sorts 24 = .ok (.invokevirtual 108, 3) := by decide +kernel
theorem d_X_sorts_27 : decode c_X_sorts 27 = .ok (.aload_n 0, 1) := by decide +kernel
theorem d_X_sorts_28 : decode c_X_sorts 28 = .ok (.getfield 37, 3) := by decide +kernel
theorem d_X_sorts_31 : decode c_X_sorts 31 = .ok (.aload_n 0, 1) := by decide +kernel
theorem d_X_sorts_32 : decode c_X_sorts 32 = .ok (.getfield 61, 3) := by decide +kernel
theorem d_X_sorts_35 : decode c_X_sorts 35 = .ok (.invokevirtual 161, 3) := by decide +kernel
theorem d_X_sorts_38 : decode c_X_sorts 38 = .ok (.i2l, 1) := by decide +kernel
theorem d_X_sorts_39 : decode c_X_sorts 39 = .ok (.invokevirtual 118, 3) := by decide +kernel
theorem d_X_sorts_42 : decode c_X_sorts 42 = .ok (.aload_n 0, 1) := by decide +kernel
theorem d_X_sorts_43 : decode c_X_sorts 43 = .ok (.getfield 37, 3) := by decide +kernel
theorem d_X_sorts_46 : decode c_X_sorts 46 = .ok (.aload_n 0, 1) := by decide +kernel
theorem d_X_sorts_47 : decode c_X_sorts 47 = .ok (.getfield 61, 3) := by decide +kernel
theorem d_X_sorts_50 : decode c_X_sorts 50 = .ok (.invokevirtual 233, 3) := by decide +kernel
theorem d_X_sorts_53 : decode c_X_sorts 53 = .ok (.i2l, 1) := by decide +kernel
theorem d_X_sorts_54 : decode c_X_sorts 54 = .ok (.invokevirtual 118, 3) := by decide +kernel
theorem d_X_sorts_57 : decode c_X_sorts 57 = .ok (.aload_n 0, 1) := by decide +kernel
theorem d_X_sorts_58 : decode c_X_sorts 58 = .ok (.getfield 61, 3) := by decide +kernel
theorem d_X_sorts_61 : decode c_X_sorts 61 = .ok (.invokevirtual 236, 3) := by decide +kernel
theorem d_X_sorts_64 : decode c_X_sorts 64 = .ok (.ifCond .eq 7, 3) := by decide +kernel
theorem d_X_sorts_67 : decode c_X_sorts 67 = .ok (.iconst 1, 1) := by decide +kernel
theorem d_X_sorts_68 : decode c_X_sorts 68 = .ok (.goto 4, 3) := by decide +kernel
theorem d_X_sorts_71 : decode c_X_sorts 71 = .ok (.iconst 0, 1) := by decide +kernel
theorem d_X_sorts_72 : decode c_X_sorts 72 = .ok (.ireturn, 1) := by decide +kernel
theorem d_X_findResults_0 : decode c_X_findResults 0 = .ok (.aload_n 0, 1) := by decide +kernel
theorem d_X_findResults_1 : decode c_X_findResults 1 = .ok (.getfield 51, 3) := by decide +kernel
theorem d_X_findResults_4 : decode c_X_findResults 4 = .ok (.aload_n 1, 1) := by decide +kernel
theorem d_X_findResults_5 : decode c_X_findResults 5 = .ok (.getfield 111, 3) := by decide +kernel
theorem d_X_findResults_8 : decode c_X_findResults 8 = .ok (.invokevirtual 266, 3) := by decide +kernel
theorem d_X_findResults_11 : decode c_X_findResults 11 = .ok (.aload_n 0, 1) := by decide +kernel
theorem d_X_findResults_12 : decode c_X_findResults 12 = .ok (.getfield 51, 3) := by decide +kernel
theorem d_X_findResults_15 : decode c_X_findResults 15 = .ok (.aload_n 1, 1) := by decide +kernel
theorem d_X_findResults_16 : decode c_X_findResults 16 = .ok (.iconst 0, 1) := by decide +kernel
theorem d_X_findResults_17 : decode c_X_findResults 17 = .ok (.aload_n 1, 1) := by decide +kernel
theorem d_X_findResults_18 : decode c_X_findResults 18 = .ok (.getfield 121, 3) := by decide +kernel
theorem d_X_findResults_21 : decode c_X_findResults 21 = .ok (.invokevirtual 285, 3) := by decide +kernel
theorem d_X_findResults_24 : decode c_X_findResults 24 = .ok (.aload_n 0, 1) := by decide +kernel
theorem d_X_findResults_25 : decode c_X_findResults 25 = .ok (.getfield 51, 3) := by decide +kernel
theorem d_X_findResults_28 : decode c_X_findResults 28 = .ok (.aload_n 0, 1) := by decide +kernel
theorem d_X_findResults_29 : decode c_X_findResults 29 = .ok (.getfield 65, 3) := by decide +kernel
theorem d_X_findResults_32 : decode c_X_findResults 32 = .ok (.invokevirtual 353, 3) := by decide +kernel
theorem d_X_findResults_35 : decode c_X_findResults 35 = .ok (.return_, 1) := by decide +kernel
theorem d_X_takeImage_0 : decode c_X_takeImage 0 = .ok (.aload_n 0, 1) := by decide +kernel
theorem d_X_takeImage_1 : decode c_X_takeImage 1 = .ok (.aload_n 1, 1) := by decide +kernel
theorem d_X_takeImage_2 : decode c_X_takeImage 2 = .ok (.invokevirtual 249, 3) := by decide +kernel
theorem d_X_takeImage_5 : decode c_X_takeImage 5 = .ok (.aload_n 0, 1) := by decide +kernel
theorem d_X_takeImage_6 : decode c_X_takeImage 6 = .ok (.getfield 61, 3) := by decide +kernel
theorem d_X_takeImage_9 : decode c_X_takeImage 9 = .ok (.invokevirtual 357, 3) := by decide +kernel
theorem d_X_takeImage_12 : decode c_X_takeImage 12 = .ok (.iconst 0, 1) := by decide +kernel
theorem d_X_takeImage_13 : decode c_X_takeImage 13 = .ok (.istore_n 2, 1) := by decide +kernel
theorem d_X_takeImage_14 : decode c_X_takeImage 14 = .ok (.iload_n 2, 1) := by decide +kernel
theorem d_X_takeImage_15 : decode c_X_takeImage 15 = .ok (.iconst 1, 1) := by decide +kernel
theorem d_X_takeImage_16 : decode c_X_takeImage 16 = .ok (.aload_n 1, 1) := by decide +kernel
theorem d_X_takeImage_17 : decode c_X_takeImage 17 = .ok (.getfield 111, 3) := by decide +kernel
theorem d_X_takeImage_20 : decode c_X_takeImage 20 = .ok (.ishl, 1) := by decide +kernel
theorem d_X_takeImage_21 : decode c_X_takeImage 21 = .ok (.if_icmp .ge 22, 3) := by decide +kernel
theorem d_X_takeImage_24 : decode c_X_takeImage 24 = .ok (.aload_n 0, 1) := by decide +kernel
theorem d_X_takeImage_25 : decode c_X_takeImage 25 = .ok (.getfield 61, 3) := by decide +kernel
theorem d_X_takeImage_28 : decode c_X_takeImage 28 = .ok (.aload_n 0, 1) := by decide +kernel
theorem d_X_takeImage_29 : decode c_X_takeImage 29 = .ok (.getfield 65, 3) := by decide +kernel
theorem d_X_takeImage_32 : decode c_X_takeImage 32 = .ok (.iload_n 2, 1) := by decide +kernel
theorem d_X_takeImage_33 : decode c_X_takeImage 33 = .ok (.iaload, 1) := by decide +kernel
theorem d_X_takeImage_34 : decode c_X_takeImage 34 = .ok (.invokevirtual 358, 3) := by decide +kernel
theorem d_X_takeImage_37 : decode c_X_takeImage 37 = .ok (.iinc 2 1, 3) := by decide +kernel
theorem d_X_takeImage_40 : decode c_X_takeImage 40 = .ok (.goto (-26), 3) := by decide +kernel
theorem d_X_takeImage_43 : decode c_X_takeImage 43 = .ok (.return_, 1) := by decide +kernel
theorem d_X_topOnes_0 : decode c_X_topOnes 0 = .ok (.iconst 1, 1) := by decide +kernel
theorem d_X_topOnes_1 : decode c_X_topOnes 1 = .ok (.iload_n 0, 1) := by decide +kernel
theorem d_X_topOnes_2 : decode c_X_topOnes 2 = .ok (.ishl, 1) := by decide +kernel
theorem d_X_topOnes_3 : decode c_X_topOnes 3 = .ok (.iconst 1, 1) := by decide +kernel
theorem d_X_topOnes_4 : decode c_X_topOnes 4 = .ok (.iload_n 0, 1) := by decide +kernel
theorem d_X_topOnes_5 : decode c_X_topOnes 5 = .ok (.iload_n 1, 1) := by decide +kernel
theorem d_X_topOnes_6 : decode c_X_topOnes 6 = .ok (.isub, 1) := by decide +kernel
theorem d_X_topOnes_7 : decode c_X_topOnes 7 = .ok (.ishl, 1) := by decide +kernel
theorem d_X_topOnes_8 : decode c_X_topOnes 8 = .ok (.isub, 1) := by decide +kernel
theorem d_X_topOnes_9 : decode c_X_topOnes 9 = .ok (.ireturn, 1) := by decide +kernel
theorem d_X_image_0 : decode c_X_image 0 = .ok (.iload_n 1, 1) := by decide +kernel
theorem d_X_image_1 : decode c_X_image 1 = .ok (.invokestatic 101, 3) := by decide +kernel
theorem d_X_image_4 : decode c_X_image 4 = .ok (.ifCond .ne 5, 3) := by decide +kernel
theorem d_X_image_7 : decode c_X_image 7 = .ok (.iconst (-1), 1) := by decide +kernel
theorem d_X_image_8 : decode c_X_image 8 = .ok (.ireturn, 1) := by decide +kernel
theorem d_X_image_9 : decode c_X_image 9 = .ok (.aload_n 0, 1) := by decide +kernel
theorem d_X_image_10 : decode c_X_image 10 = .ok (.aload_n 0, 1) := by decide +kernel
theorem d_X_image_11 : decode c_X_image 11 = .ok (.getfield 11, 3) := by decide +kernel
theorem d_X_image_14 : decode c_X_image 14 = .ok (.iload_n 1, 1) := by decide +kernel
theorem d_X_image_15 : decode c_X_image 15 = .ok (.aaload, 1) := by decide +kernel
theorem d_X_image_16 : decode c_X_image 16 = .ok (.invokevirtual 240, 3) := by decide +kernel
theorem d_X_image_19 : decode c_X_image 19 = .ok (.iconst 0, 1) := by decide +kernel
theorem d_X_image_20 : decode c_X_image 20 = .ok (.istore_n 2, 1) := by decide +kernel
theorem d_X_image_21 : decode c_X_image 21 = .ok (.iconst 0, 1) := by decide +kernel
theorem d_X_image_22 : decode c_X_image 22 = .ok (.istore_n 3, 1) := by decide +kernel
theorem d_X_image_23 : decode c_X_image 23 = .ok (.iload_n 3, 1) := by decide +kernel
theorem d_X_image_24 : decode c_X_image 24 = .ok (.aload_n 0, 1) := by decide +kernel
theorem d_X_image_25 : decode c_X_image 25 = .ok (.getfield 11, 3) := by decide +kernel
theorem d_X_image_28 : decode c_X_image 28 = .ok (.iload_n 1, 1) := by decide +kernel
theorem d_X_image_29 : decode c_X_image 29 = .ok (.aaload, 1) := by decide +kernel
theorem d_X_image_30 : decode c_X_image 30 = .ok (.getfield 111, 3) := by decide +kernel
theorem d_X_image_33 : decode c_X_image 33 = .ok (.if_icmp .gt 35, 3) := by decide +kernel
theorem d_X_image_36 : decode c_X_image 36 = .ok (.aload_n 0, 1) := by decide +kernel
theorem d_X_image_37 : decode c_X_image 37 = .ok (.getfield 61, 3) := by decide +kernel
theorem d_X_image_40 : decode c_X_image 40 = .ok (.aload_n 0, 1) := by decide +kernel
theorem d_X_image_41 : decode c_X_image 41 = .ok (.getfield 11, 3) := by decide +kernel
theorem d_X_image_44 : decode c_X_image 44 = .ok (.iload_n 1, 1) := by decide +kernel
theorem d_X_image_45 : decode c_X_image 45 = .ok (.aaload, 1) := by decide +kernel
theorem d_X_image_46 : decode c_X_image 46 = .ok (.getfield 111, 3) := by decide +kernel
theorem d_X_image_49 : decode c_X_image 49 = .ok (.iload_n 3, 1) := by decide +kernel
theorem d_X_image_50 : decode c_X_image 50 = .ok (.invokestatic 243, 3) := by decide +kernel
theorem d_X_image_53 : decode c_X_image 53 = .ok (.invokevirtual 246, 3) := by decide +kernel
theorem d_X_image_56 : decode c_X_image 56 = .ok (.ifCond .eq 6, 3) := by decide +kernel
theorem d_X_image_59 : decode c_X_image 59 = .ok (.iinc 2 1, 3) := by decide +kernel
theorem d_X_image_62 : decode c_X_image 62 = .ok (.iinc 3 1, 3) := by decide +kernel
theorem d_X_image_65 : decode c_X_image 65 = .ok (.goto (-42), 3) := by decide +kernel
theorem d_X_image_68 : decode c_X_image 68 = .ok (.aload_n 0, 1) := by decide +kernel
theorem d_X_image_69 : decode c_X_image 69 = .ok (.getfield 37, 3) := by decide +kernel
theorem d_X_image_72 : decode c_X_image 72 = .ok (.invokevirtual 108, 3) := by decide +kernel
theorem d_X_image_75 : decode c_X_image 75 = .ok (.aload_n 0, 1) := by decide +kernel
theorem d_X_image_76 : decode c_X_image 76 = .ok (.getfield 37, 3) := by decide +kernel
theorem d_X_image_79 : decode c_X_image 79 = .ok (.iload_n 2, 1) := by decide +kernel
theorem d_X_image_80 : decode c_X_image 80 = .ok (.i2l, 1) := by decide +kernel
theorem d_X_image_81 : decode c_X_image 81 = .ok (.invokevirtual 118, 3) := by decide +kernel
theorem d_X_image_84 : decode c_X_image 84 = .ok (.aload_n 0, 1) := by decide +kernel
theorem d_X_image_85 : decode c_X_image 85 = .ok (.getfield 61, 3) := by decide +kernel
theorem d_X_image_88 : decode c_X_image 88 = .ok (.invokevirtual 161, 3) := by decide +kernel
theorem d_X_image_91 : decode c_X_image 91 = .ok (.ireturn, 1) := by decide +kernel
theorem d_X_comes_0 : decode c_X_comes 0 = .ok (.aload_n 0, 1) := by decide +kernel
theorem d_X_comes_1 : decode c_X_comes 1 = .ok (.iload_n 1, 1) := by decide +kernel
theorem d_X_comes_2 : decode c_X_comes 2 = .ok (.iload_n 2, 1) := by decide +kernel
theorem d_X_comes_3 : decode c_X_comes 3 = .ok (.invokevirtual 220, 3) := by decide +kernel
theorem d_X_comes_6 : decode c_X_comes 6 = .ok (.ifCond .ne 5, 3) := by decide +kernel
theorem d_X_comes_9 : decode c_X_comes 9 = .ok (.iconst (-1), 1) := by decide +kernel
theorem d_X_comes_10 : decode c_X_comes 10 = .ok (.ireturn, 1) := by decide +kernel
theorem d_X_comes_11 : decode c_X_comes 11 = .ok (.aload_n 0, 1) := by decide +kernel
theorem d_X_comes_12 : decode c_X_comes 12 = .ok (.aload_n 0, 1) := by decide +kernel
theorem d_X_comes_13 : decode c_X_comes 13 = .ok (.getfield 11, 3) := by decide +kernel
theorem d_X_comes_16 : decode c_X_comes 16 = .ok (.iload_n 1, 1) := by decide +kernel
theorem d_X_comes_17 : decode c_X_comes 17 = .ok (.aaload, 1) := by decide +kernel
theorem d_X_comes_18 : decode c_X_comes 18 = .ok (.invokevirtual 249, 3) := by decide +kernel
theorem d_X_comes_21 : decode c_X_comes 21 = .ok (.iconst (-1), 1) := by decide +kernel
theorem d_X_comes_22 : decode c_X_comes 22 = .ok (.istore_n 3, 1) := by decide +kernel
theorem d_X_comes_23 : decode c_X_comes 23 = .ok (.iconst 0, 1) := by decide +kernel
theorem d_X_comes_24 : decode c_X_comes 24 = .ok (.istore 4, 2) := by decide +kernel
theorem d_X_comes_26 : decode c_X_comes 26 = .ok (.iconst 1, 1) := by decide +kernel
theorem d_X_comes_27 : decode c_X_comes 27 = .ok (.aload_n 0, 1) := by decide +kernel
theorem d_X_comes_28 : decode c_X_comes 28 = .ok (.getfield 11, 3) := by decide +kernel
theorem d_X_comes_31 : decode c_X_comes 31 = .ok (.iload_n 1, 1) := by decide +kernel
theorem d_X_comes_32 : decode c_X_comes 32 = .ok (.aaload, 1) := by decide +kernel
theorem d_X_comes_33 : decode c_X_comes 33 = .ok (.getfield 111, 3) := by decide +kernel
theorem d_X_comes_36 : decode c_X_comes 36 = .ok (.ishl, 1) := by decide +kernel
theorem d_X_comes_37 : decode c_X_comes 37 = .ok (.iconst 1, 1) := by decide +kernel
theorem d_X_comes_38 : decode c_X_comes 38 = .ok (.isub, 1) := by decide +kernel
theorem d_X_comes_39 : decode c_X_comes 39 = .ok (.istore 5, 2) := by decide +kernel
theorem d_X_comes_41 : decode c_X_comes 41 = .ok (.iload 5, 2) := by decide +kernel
theorem d_X_comes_43 : decode c_X_comes 43 = .ok (.ifCond .lt 26, 3) := by decide +kernel
theorem d_X_comes_46 : decode c_X_comes 46 = .ok (.aload_n 0, 1) := by decide +kernel
theorem d_X_comes_47 : decode c_X_comes 47 = .ok (.getfield 65, 3) := by decide +kernel
theorem d_X_comes_50 : decode c_X_comes 50 = .ok (.iload 5, 2) := by decide +kernel
theorem d_X_comes_52 : decode c_X_comes 52 = .ok (.iaload, 1) := by decide +kernel
theorem d_X_comes_53 : decode c_X_comes 53 = .ok (.iload_n 2, 1) := by decide +kernel
theorem d_X_comes_54 : decode c_X_comes 54 = .ok (.if_icmp .ne 9, 3) := by decide +kernel
theorem d_X_comes_57 : decode c_X_comes 57 = .ok (.iload 5, 2) := by decide +kernel
theorem d_X_comes_59 : decode c_X_comes 59 = .ok (.istore_n 3, 1) := by decide +kernel
theorem d_X_comes_60 : decode c_X_comes 60 = .ok (.iinc 4 1, 3) := by decide +kernel
theorem d_X_comes_63 : decode c_X_comes 63 = .ok (.iinc 5 (-1), 3) := by decide +kernel
theorem d_X_comes_66 : decode c_X_comes 66 = .ok (.goto (-25), 3) := by decide +kernel
theorem d_X_comes_69 : decode c_X_comes 69 = .ok (.aload_n 0, 1) := by decide +kernel
theorem d_X_comes_70 : decode c_X_comes 70 = .ok (.getfield 37, 3) := by decide +kernel
theorem d_X_comes_73 : decode c_X_comes 73 = .ok (.invokevirtual 108, 3) := by decide +kernel
theorem d_X_comes_76 : decode c_X_comes 76 = .ok (.aload_n 0, 1) := by decide +kernel
theorem d_X_comes_77 : decode c_X_comes 77 = .ok (.getfield 37, 3) := by decide +kernel
theorem d_X_comes_80 : decode c_X_comes 80 = .ok (.iload_n 3, 1) := by decide +kernel
theorem d_X_comes_81 : decode c_X_comes 81 = .ok (.i2l, 1) := by decide +kernel
theorem d_X_comes_82 : decode c_X_comes 82 = .ok (.invokevirtual 118, 3) := by decide +kernel
theorem d_X_comes_85 : decode c_X_comes 85 = .ok (.iload 4, 2) := by decide +kernel
theorem d_X_comes_87 : decode c_X_comes 87 = .ok (.ireturn, 1) := by decide +kernel
theorem d_X_findReach_0 : decode c_X_findReach 0 = .ok (.aload_n 1, 1) := by decide +kernel
theorem d_X_findReach_1 : decode c_X_findReach 1 = .ok (.getfield 111, 3) := by decide +kernel
theorem d_X_findReach_4 : decode c_X_findReach 4 = .ok (.istore_n 2, 1) := by decide +kernel
theorem d_X_findReach_5 : decode c_X_findReach 5 = .ok (.aload_n 0, 1) := by decide +kernel
theorem d_X_findReach_6 : decode c_X_findReach 6 = .ok (.aload_n 1, 1) := by decide +kernel
theorem d_X_findReach_7 : decode c_X_findReach 7 = .ok (.invokevirtual 249, 3) := by decide +kernel
theorem d_X_findReach_10 : decode c_X_findReach 10 = .ok (.iconst 0, 1) := by decide +kernel
theorem d_X_findReach_11 : decode c_X_findReach 11 = .ok (.istore_n 3, 1) := by decide +kernel
theorem d_X_findReach_12 : decode c_X_findReach 12 = .ok (.iload_n 3, 1) := by decide +kernel
theorem d_X_findReach_13 : decode c_X_findReach 13 = .ok (.iload_n 2, 1) := by decide +kernel
theorem d_X_findReach_14 : decode c_X_findReach 14 = .ok (.if_icmp .ge 16, 3) := by decide +kernel
theorem d_X_findReach_17 : decode c_X_findReach 17 = .ok (.aload_n 0, 1) := by decide +kernel
theorem d_X_findReach_18 : decode c_X_findReach 18 = .ok (.getfield 73, 3) := by decide +kernel
theorem d_X_findReach_21 : decode c_X_findReach 21 = .ok (.iload_n 3, 1) := by decide +kernel
theorem d_X_findReach_22 : decode c_X_findReach 22 = .ok (.iconst 0, 1) := by decide +kernel
theorem d_X_findReach_23 : decode c_X_findReach 23 = .ok (.iastore, 1) := by decide +kernel
theorem d_X_findReach_24 : decode c_X_findReach 24 = .ok (.iinc 3 1, 3) := by decide +kernel
theorem d_X_findReach_27 : decode c_X_findReach 27 = .ok (.goto (-15), 3) := by decide +kernel
theorem d_X_findReach_30 : decode c_X_findReach 30 = .ok (.iconst 1, 1) := by decide +kernel
theorem d_X_findReach_31 : decode c_X_findReach 31 = .ok (.istore_n 3, 1) := by decide +kernel
theorem d_X_findReach_32 : decode c_X_findReach 32 = .ok (.iload_n 3, 1) := by decide +kernel
theorem d_X_findReach_33 : decode c_X_findReach 33 = .ok (.iconst 1, 1) := by decide +kernel
theorem d_X_findReach_34 : decode c_X_findReach 34 = .ok (.iload_n 2, 1) := by decide +kernel
theorem d_X_findReach_35 : decode c_X_findReach 35 = .ok (.ishl, 1) := by decide +kernel
theorem d_X_findReach_36 : decode c_X_findReach 36 = .ok (.if_icmp .ge 70, 3) := by decide +kernel
theorem d_X_findReach_39 : decode c_X_findReach 39 = .ok (.iload_n 2, 1) := by decide +kernel
theorem d_X_findReach_40 : decode c_X_findReach 40 = .ok (.iload_n 3, 1) := by decide +kernel
theorem d_X_findReach_41 : decode c_X_findReach 41 = .ok (.invokestatic 334, 3) := by decide +kernel
theorem d_X_findReach_44 : decode c_X_findReach 44 = .ok (.isub, 1) := by decide +kernel
theorem d_X_findReach_45 : decode c_X_findReach 45 = .ok (.istore 4, 2) := by decide +kernel
theorem d_X_findReach_47 : decode c_X_findReach 47 = .ok (.iconst 0, 1) := by decide +kernel
theorem d_X_findReach_48 : decode c_X_findReach 48 = .ok (.istore 5, 2) := by decide +kernel
theorem d_X_findReach_50 : decode c_X_findReach 50 = .ok (.iload 5, 2) := by decide +kernel
theorem d_X_findReach_52 : decode c_X_findReach 52 = .ok (.iload_n 2, 1) := by decide +kernel
theorem d_X_findReach_53 : decode c_X_findReach 53 = .ok (.if_icmp .ge 47, 3) := by decide +kernel
theorem d_X_findReach_56 : decode c_X_findReach 56 = .ok (.iload_n 3, 1) := by decide +kernel
theorem d_X_findReach_57 : decode c_X_findReach 57 = .ok (.iload 5, 2) := by decide +kernel
theorem d_X_findReach_59 : decode c_X_findReach 59 = .ok (.ishr, 1) := by decide +kernel
theorem d_X_findReach_60 : decode c_X_findReach 60 = .ok (.iconst 1, 1) := by decide +kernel
theorem d_X_findReach_61 : decode c_X_findReach 61 = .ok (.iand, 1) := by decide +kernel
theorem d_X_findReach_62 : decode c_X_findReach 62 = .ok (.iconst 1, 1) := by decide +kernel
theorem d_X_findReach_63 : decode c_X_findReach 63 = .ok (.if_icmp .ne 31, 3) := by decide +kernel
theorem d_X_findReach_66 : decode c_X_findReach 66 = .ok (.aload_n 0, 1) := by decide +kernel
theorem d_X_findReach_67 : decode c_X_findReach 67 = .ok (.getfield 73, 3) := by decide +kernel
theorem d_X_findReach_70 : decode c_X_findReach 70 = .ok (.iload 4, 2) := by decide +kernel
theorem d_X_findReach_72 : decode c_X_findReach 72 = .ok (.dup2, 1) := by decide +kernel
theorem d_X_findReach_73 : decode c_X_findReach 73 = .ok (.iaload, 1) := by decide +kernel
theorem d_X_findReach_74 : decode c_X_findReach 74 = .ok (.aload_n 0, 1) := by decide +kernel
theorem d_X_findReach_75 : decode c_X_findReach 75 = .ok (.getfield 65, 3) := by decide +kernel
theorem d_X_findReach_78 : decode c_X_findReach 78 = .ok (.iload_n 3, 1) := by decide +kernel
theorem d_X_findReach_79 : decode c_X_findReach 79 = .ok (.iaload, 1) := by decide +kernel
theorem d_X_findReach_80 : decode c_X_findReach 80 = .ok (.aload_n 0, 1) := by decide +kernel
theorem d_X_findReach_81 : decode c_X_findReach 81 = .ok (.getfield 65, 3) := by decide +kernel
theorem d_X_findReach_84 : decode c_X_findReach 84 = .ok (.iload_n 3, 1) := by decide +kernel
theorem d_X_findReach_85 : decode c_X_findReach 85 = .ok (.iconst 1, 1) := by decide +kernel
theorem d_X_findReach_86 : decode c_X_findReach 86 = .ok (.iload 5, 2) := by decide +kernel
theorem d_X_findReach_88 : decode c_X_findReach 88 = .ok (.ishl, 1) := by decide +kernel
theorem d_X_findReach_89 : decode c_X_findReach 89 = .ok (.ixor, 1) := by decide +kernel
theorem d_X_findReach_90 : decode c_X_findReach 90 = .ok (.iaload, 1) := by decide +kernel
theorem d_X_findReach_91 : decode c_X_findReach 91 = .ok (.ixor, 1) := by decide +kernel
theorem d_X_findReach_92 : decode c_X_findReach 92 = .ok (.ior, 1) := by decide +kernel
theorem d_X_findReach_93 : decode c_X_findReach 93 = .ok (.iastore, 1) := by decide +kernel
theorem d_X_findReach_94 : decode c_X_findReach 94 = .ok (.iinc 5 1, 3) := by decide +kernel
theorem d_X_findReach_97 : decode c_X_findReach 97 = .ok (.goto (-47), 3) := by decide +kernel
theorem d_X_findReach_100 : decode c_X_findReach 100 = .ok (.iinc 3 1, 3) := by decide +kernel
theorem d_X_findReach_103 : decode c_X_findReach 103 = .ok (.goto (-71), 3) := by decide +kernel
theorem d_X_findReach_106 : decode c_X_findReach 106 = .ok (.return_, 1) := by decide +kernel
theorem d_X_tellBits_0 : decode c_X_tellBits 0 = .ok (.aload_n 0, 1) := by decide +kernel
theorem d_X_tellBits_1 : decode c_X_tellBits 1 = .ok (.getfield 37, 3) := by decide +kernel
theorem d_X_tellBits_4 : decode c_X_tellBits 4 = .ok (.invokevirtual 108, 3) := by decide +kernel
theorem d_X_tellBits_7 : decode c_X_tellBits 7 = .ok (.aload_n 0, 1) := by decide +kernel
theorem d_X_tellBits_8 : decode c_X_tellBits 8 = .ok (.getfield 37, 3) := by decide +kernel
theorem d_X_tellBits_11 : decode c_X_tellBits 11 = .ok (.iload_n 1, 1) := by decide +kernel
theorem d_X_tellBits_12 : decode c_X_tellBits 12 = .ok (.invokestatic 334, 3) := by decide +kernel
theorem d_X_tellBits_15 : decode c_X_tellBits 15 = .ok (.i2l, 1) := by decide +kernel
theorem d_X_tellBits_16 : decode c_X_tellBits 16 = .ok (.invokevirtual 118, 3) := by decide +kernel
theorem d_X_tellBits_19 : decode c_X_tellBits 19 = .ok (.iload_n 1, 1) := by decide +kernel
theorem d_X_tellBits_20 : decode c_X_tellBits 20 = .ok (.ireturn, 1) := by decide +kernel
theorem d_X_ranks_0 : decode c_X_ranks 0 = .ok (.iload_n 1, 1) := by decide +kernel
theorem d_X_ranks_1 : decode c_X_ranks 1 = .ok (.invokestatic 101, 3) := by decide +kernel
theorem d_X_ranks_4 : decode c_X_ranks 4 = .ok (.ifCond .eq 16, 3) := by decide +kernel
theorem d_X_ranks_7 : decode c_X_ranks 7 = .ok (.aload_n 0, 1) := by decide +kernel
theorem d_X_ranks_8 : decode c_X_ranks 8 = .ok (.getfield 11, 3) := by decide +kernel
theorem d_X_ranks_11 : decode c_X_ranks 11 = .ok (.iload_n 1, 1) := by decide +kernel
theorem d_X_ranks_12 : decode c_X_ranks 12 = .ok (.aaload, 1) := by decide +kernel
theorem d_X_ranks_13 : decode c_X_ranks 13 = .ok (.iload_n 2, 1) := by decide +kernel
theorem d_X_ranks_14 : decode c_X_ranks 14 = .ok (.invokevirtual 163, 3) := by decide +kernel
theorem d_X_ranks_17 : decode c_X_ranks 17 = .ok (.ifCond .ne 5, 3) := by decide +kernel
theorem d_X_ranks_20 : decode c_X_ranks 20 = .ok (.iconst (-1), 1) := by decide +kernel
theorem d_X_ranks_21 : decode c_X_ranks 21 = .ok (.ireturn, 1) := by decide +kernel
theorem d_X_ranks_22 : decode c_X_ranks 22 = .ok (.aload_n 0, 1) := by decide +kernel
theorem d_X_ranks_23 : decode c_X_ranks 23 = .ok (.aload_n 0, 1) := by decide +kernel
theorem d_X_ranks_24 : decode c_X_ranks 24 = .ok (.getfield 11, 3) := by decide +kernel
theorem d_X_ranks_27 : decode c_X_ranks 27 = .ok (.iload_n 1, 1) := by decide +kernel
theorem d_X_ranks_28 : decode c_X_ranks 28 = .ok (.aaload, 1) := by decide +kernel
theorem d_X_ranks_29 : decode c_X_ranks 29 = .ok (.invokevirtual 252, 3) := by decide +kernel
theorem d_X_ranks_32 : decode c_X_ranks 32 = .ok (.aload_n 0, 1) := by decide +kernel
theorem d_X_ranks_33 : decode c_X_ranks 33 = .ok (.aload_n 0, 1) := by decide +kernel
theorem d_X_ranks_34 : decode c_X_ranks 34 = .ok (.getfield 73, 3) := by decide +kernel
theorem d_X_ranks_37 : decode c_X_ranks 37 = .ok (.iload_n 2, 1) := by decide +kernel
theorem d_X_ranks_38 : decode c_X_ranks 38 = .ok (.iaload, 1) := by decide +kernel
theorem d_X_ranks_39 : decode c_X_ranks 39 = .ok (.invokevirtual 255, 3) := by decide +kernel
theorem d_X_ranks_42 : decode c_X_ranks 42 = .ok (.ireturn, 1) := by decide +kernel
theorem d_X_leaves_0 : decode c_X_leaves 0 = .ok (.iload_n 1, 1) := by decide +kernel
theorem d_X_leaves_1 : decode c_X_leaves 1 = .ok (.invokestatic 101, 3) := by decide +kernel
theorem d_X_leaves_4 : decode c_X_leaves 4 = .ok (.ifCond .eq 16, 3) := by decide +kernel
theorem d_X_leaves_7 : decode c_X_leaves 7 = .ok (.aload_n 0, 1) := by decide +kernel
theorem d_X_leaves_8 : decode c_X_leaves 8 = .ok (.getfield 11, 3) := by decide +kernel
theorem d_X_leaves_11 : decode c_X_leaves 11 = .ok (.iload_n 1, 1) := by decide +kernel
theorem d_X_leaves_12 : decode c_X_leaves 12 = .ok (.aaload, 1) := by decide +kernel
theorem d_X_leaves_13 : decode c_X_leaves 13 = .ok (.iload_n 2, 1) := by decide +kernel
theorem d_X_leaves_14 : decode c_X_leaves 14 = .ok (.invokevirtual 163, 3) := by decide +kernel
theorem d_X_leaves_17 : decode c_X_leaves 17 = .ok (.ifCond .ne 5, 3) := by decide +kernel
theorem d_X_leaves_20 : decode c_X_leaves 20 = .ok (.iconst (-1), 1) := by decide +kernel
theorem d_X_leaves_21 : decode c_X_leaves 21 = .ok (.ireturn, 1) := by decide +kernel
theorem d_X_leaves_22 : decode c_X_leaves 22 = .ok (.aload_n 0, 1) := by decide +kernel
theorem d_X_leaves_23 : decode c_X_leaves 23 = .ok (.aload_n 0, 1) := by decide +kernel
theorem d_X_leaves_24 : decode c_X_leaves 24 = .ok (.getfield 11, 3) := by decide +kernel
theorem d_X_leaves_27 : decode c_X_leaves 27 = .ok (.iload_n 1, 1) := by decide +kernel
theorem d_X_leaves_28 : decode c_X_leaves 28 = .ok (.aaload, 1) := by decide +kernel
theorem d_X_leaves_29 : decode c_X_leaves 29 = .ok (.invokevirtual 252, 3) := by decide +kernel
theorem d_X_leaves_32 : decode c_X_leaves 32 = .ok (.iconst 0, 1) := by decide +kernel
theorem d_X_leaves_33 : decode c_X_leaves 33 = .ok (.istore_n 3, 1) := by decide +kernel
theorem d_X_leaves_34 : decode c_X_leaves 34 = .ok (.iconst 0, 1) := by decide +kernel
theorem d_X_leaves_35 : decode c_X_leaves 35 = .ok (.istore 4, 2) := by decide +kernel
theorem d_X_leaves_37 : decode c_X_leaves 37 = .ok (.iload 4, 2) := by decide +kernel
theorem d_X_leaves_39 : decode c_X_leaves 39 = .ok (.aload_n 0, 1) := by decide +kernel
theorem d_X_leaves_40 : decode c_X_leaves 40 = .ok (.getfield 11, 3) := by decide +kernel
theorem d_X_leaves_43 : decode c_X_leaves 43 = .ok (.iload_n 1, 1) := by decide +kernel
theorem d_X_leaves_44 : decode c_X_leaves 44 = .ok (.aaload, 1) := by decide +kernel
theorem d_X_leaves_45 : decode c_X_leaves 45 = .ok (.getfield 111, 3) := by decide +kernel
theorem d_X_leaves_48 : decode c_X_leaves 48 = .ok (.if_icmp .ge 26, 3) := by decide +kernel
theorem d_X_leaves_51 : decode c_X_leaves 51 = .ok (.iload_n 3, 1) := by decide +kernel
theorem d_X_leaves_52 : decode c_X_leaves 52 = .ok (.aload_n 0, 1) := by decide +kernel
theorem d_X_leaves_53 : decode c_X_leaves 53 = .ok (.getfield 73, 3) := by decide +kernel
theorem d_X_leaves_56 : decode c_X_leaves 56 = .ok (.iload 4, 2) := by decide +kernel
theorem d_X_leaves_58 : decode c_X_leaves 58 = .ok (.iaload, 1) := by decide +kernel
theorem d_X_leaves_59 : decode c_X_leaves 59 = .ok (.iload_n 2, 1) := by decide +kernel
theorem d_X_leaves_60 : decode c_X_leaves 60 = .ok (.ishr, 1) := by decide +kernel
theorem d_X_leaves_61 : decode c_X_leaves 61 = .ok (.iconst 1, 1) := by decide +kernel
theorem d_X_leaves_62 : decode c_X_leaves 62 = .ok (.iand, 1) := by decide +kernel
theorem d_X_leaves_63 : decode c_X_leaves 63 = .ok (.iload 4, 2) := by decide +kernel
theorem d_X_leaves_65 : decode c_X_leaves 65 = .ok (.ishl, 1) := by decide +kernel
theorem d_X_leaves_66 : decode c_X_leaves 66 = .ok (.ior, 1) := by decide +kernel
theorem d_X_leaves_67 : decode c_X_leaves 67 = .ok (.istore_n 3, 1) := by decide +kernel
theorem d_X_leaves_68 : decode c_X_leaves 68 = .ok (.iinc 4 1, 3) := by decide +kernel
theorem d_X_leaves_71 : decode c_X_leaves 71 = .ok (.goto (-34), 3) := by decide +kernel
theorem d_X_leaves_74 : decode c_X_leaves 74 = .ok (.aload_n 0, 1) := by decide +kernel
theorem d_X_leaves_75 : decode c_X_leaves 75 = .ok (.iload_n 3, 1) := by decide +kernel
theorem d_X_leaves_76 : decode c_X_leaves 76 = .ok (.invokevirtual 255, 3) := by decide +kernel
theorem d_X_leaves_79 : decode c_X_leaves 79 = .ok (.ireturn, 1) := by decide +kernel
theorem d_X_leavesUnsorted_0 : decode c_X_leavesUnsorted 0 = .ok (.iconst 0, 1) := by decide +kernel
theorem d_X_leavesUnsorted_1 : decode c_X_leavesUnsorted 1 = .ok (.istore_n 2, 1) := by decide +kernel
theorem d_X_leavesUnsorted_2 : decode c_X_leavesUnsorted 2 = .ok (.iload_n 2, 1) := by decide +kernel
theorem d_X_leavesUnsorted_3 : decode c_X_leavesUnsorted 3 = .ok (.iload_n 1, 1) := by decide +kernel
theorem d_X_leavesUnsorted_4 : decode c_X_leavesUnsorted 4 = .ok (.if_icmp .ge 21, 3) := by decide +kernel
theorem d_X_leavesUnsorted_7 : decode c_X_leavesUnsorted 7 = .ok (.aload_n 0, 1) := by decide +kernel
theorem d_X_leavesUnsorted_8 : decode c_X_leavesUnsorted 8 = .ok (.getfield 76, 3) := by decide +kernel
theorem d_X_leavesUnsorted_11 : decode c_X_leavesUnsorted 11 = .ok (.aload_n 0, 1) := by decide +kernel
theorem d_X_leavesUnsorted_12 : decode c_X_leavesUnsorted 12 = .ok (.getfield 73, 3) := by decide +kernel
theorem d_X_leavesUnsorted_15 : decode c_X_leavesUnsorted 15 = .ok (.iload_n 2, 1) := by decide +kernel
theorem d_X_leavesUnsorted_16 : decode c_X_leavesUnsorted 16 = .ok (.iaload, 1) := by decide +kernel
theorem d_X_leavesUnsorted_17 : decode c_X_leavesUnsorted 17 = .ok (.iload_n 2, 1) := by decide +kernel
theorem d_X_leavesUnsorted_18 : decode c_X_leavesUnsorted 18 = .ok (.iastore, 1) := by decide +kernel
theorem d_X_leavesUnsorted_19 : decode c_X_leavesUnsorted 19 = .ok (.iinc 2 1, 3) := by decide +kernel
theorem d_X_leavesUnsorted_22 : decode c_X_leavesUnsorted 22 = .ok (.goto (-20), 3) := by decide +kernel
theorem d_X_leavesUnsorted_25 : decode c_X_leavesUnsorted 25 = .ok (.iconst 0, 1) := by decide +kernel
theorem d_X_leavesUnsorted_26 : decode c_X_leavesUnsorted 26 = .ok (.istore_n 2, 1) := by decide +kernel
theorem d_X_leavesUnsorted_27 : decode c_X_leavesUnsorted 27 = .ok (.iload_n 1, 1) := by decide +kernel
theorem d_X_leavesUnsorted_28 : decode c_X_leavesUnsorted 28 = .ok (.iconst 1, 1) := by decide +kernel
theorem d_X_leavesUnsorted_29 : decode c_X_leavesUnsorted 29 = .ok (.isub, 1) := by decide +kernel
theorem d_X_leavesUnsorted_30 : decode c_X_leavesUnsorted 30 = .ok (.istore_n 3, 1) := by decide +kernel
theorem d_X_leavesUnsorted_31 : decode c_X_leavesUnsorted 31 = .ok (.iload_n 3, 1) := by decide +kernel
theorem d_X_leavesUnsorted_32 : decode c_X_leavesUnsorted 32 = .ok (.ifCond .le 33, 3) := by decide +kernel
theorem d_X_leavesUnsorted_35 : decode c_X_leavesUnsorted 35 = .ok (.iload_n 2, 1) := by decide +kernel
theorem d_X_leavesUnsorted_36 : decode c_X_leavesUnsorted 36 = .ok (.iconst 1, 1) := by decide +kernel
theorem d_X_leavesUnsorted_37 : decode c_X_leavesUnsorted 37 = .ok (.aload_n 0, 1) := by decide +kernel
theorem d_X_leavesUnsorted_38 : decode c_X_leavesUnsorted 38 = .ok (.getfield 76, 3) := by decide +kernel
theorem d_X_leavesUnsorted_41 : decode c_X_leavesUnsorted 41 = .ok (.iload_n 3, 1) := by decide +kernel
theorem d_X_leavesUnsorted_42 : decode c_X_leavesUnsorted 42 = .ok (.iaload, 1) := by decide +kernel
theorem d_X_leavesUnsorted_43 : decode c_X_leavesUnsorted 43 = .ok (.ishl, 1) := by decide +kernel
theorem d_X_leavesUnsorted_44 : decode c_X_leavesUnsorted 44 = .ok (.ior, 1) := by decide +kernel
theorem d_X_leavesUnsorted_45 : decode c_X_leavesUnsorted 45 = .ok (.istore_n 2, 1) := by decide +kernel
theorem d_X_leavesUnsorted_46 : decode c_X_leavesUnsorted 46 = .ok (.aload_n 0, 1) := by decide +kernel
theorem d_X_leavesUnsorted_47 : decode c_X_leavesUnsorted 47 = .ok (.getfield 61, 3) := by decide +kernel
theorem d_X_leavesUnsorted_50 : decode c_X_leavesUnsorted 50 = .ok (.iload_n 2, 1) := by decide +kernel
theorem d_X_leavesUnsorted_51 : decode c_X_leavesUnsorted 51 = .ok (.invokevirtual 246, 3) := by decide +kernel
theorem d_X_leavesUnsorted_54 : decode c_X_leavesUnsorted 54 = .ok (.ifCond .eq 5, 3) := by decide +kernel
theorem d_X_leavesUnsorted_57 : decode c_X_leavesUnsorted 57 = .ok (.iconst 1, 1) := by decide +kernel
theorem d_X_leavesUnsorted_58 : decode c_X_leavesUnsorted 58 = .ok (.ireturn, 1) := by decide +kernel
theorem d_X_leavesUnsorted_59 : decode c_X_leavesUnsorted 59 = .ok (.iinc 3 (-1), 3) := by decide +kernel
theorem d_X_leavesUnsorted_62 : decode c_X_leavesUnsorted 62 = .ok (.goto (-31), 3) := by decide +kernel
theorem d_X_leavesUnsorted_65 : decode c_X_leavesUnsorted 65 = .ok (.iconst 0, 1) := by decide +kernel
theorem d_X_leavesUnsorted_66 : decode c_X_leavesUnsorted 66 = .ok (.ireturn, 1) := by decide +kernel
theorem d_X_exchangeValues_0 : decode c_X_exchangeValues 0 = .ok (.aload_n 0, 1) := by decide +kernel
theorem d_X_exchangeValues_1 : decode c_X_exchangeValues 1 = .ok (.getfield 73, 3) := by decide +kernel
theorem d_X_exchangeValues_4 : decode c_X_exchangeValues 4 = .ok (.iload_n 1, 1) := by decide +kernel
theorem d_X_exchangeValues_5 : decode c_X_exchangeValues 5 = .ok (.iaload, 1) := by decide +kernel
theorem d_X_exchangeValues_6 : decode c_X_exchangeValues 6 = .ok (.istore_n 3, 1) := by decide +kernel
theorem d_X_exchangeValues_7 : decode c_X_exchangeValues 7 = .ok (.aload_n 0, 1) := by decide +kernel
theorem d_X_exchangeValues_8 : decode c_X_exchangeValues 8 = .ok (.getfield 73, 3) := by decide +kernel
theorem d_X_exchangeValues_11 : decode c_X_exchangeValues 11 = .ok (.iload_n 1, 1) := by decide +kernel
theorem d_X_exchangeValues_12 : decode c_X_exchangeValues 12 = .ok (.aload_n 0, 1) := by decide +kernel
theorem d_X_exchangeValues_13 : decode c_X_exchangeValues 13 = .ok (.getfield 73, 3) := by decide +kernel
theorem d_X_exchangeValues_16 : decode c_X_exchangeValues 16 = .ok (.iload_n 2, 1) := by decide +kernel
theorem d_X_exchangeValues_17 : decode c_X_exchangeValues 17 = .ok (.iaload, 1) := by decide +kernel
theorem d_X_exchangeValues_18 : decode c_X_exchangeValues 18 = .ok (.iastore, 1) := by decide +kernel
theorem d_X_exchangeValues_19 : decode c_X_exchangeValues 19 = .ok (.aload_n 0, 1) := by decide +kernel
theorem d_X_exchangeValues_20 : decode c_X_exchangeValues 20 = .ok (.getfield 73, 3) := by decide +kernel
theorem d_X_exchangeValues_23 : decode c_X_exchangeValues 23 = .ok (.iload_n 2, 1) := by decide +kernel
theorem d_X_exchangeValues_24 : decode c_X_exchangeValues 24 = .ok (.iload_n 3, 1) := by decide +kernel
theorem d_X_exchangeValues_25 : decode c_X_exchangeValues 25 = .ok (.iastore, 1) := by decide +kernel
theorem d_X_exchangeValues_26 : decode c_X_exchangeValues 26 = .ok (.return_, 1) := by decide +kernel
theorem d_X_nextOrder_0 : decode c_X_nextOrder 0 = .ok (.iload_n 1, 1) := by decide +kernel
theorem d_X_nextOrder_1 : decode c_X_nextOrder 1 = .ok (.iconst 2, 1) := by decide +kernel
theorem d_X_nextOrder_2 : decode c_X_nextOrder 2 = .ok (.isub, 1) := by decide +kernel
theorem d_X_nextOrder_3 : decode c_X_nextOrder 3 = .ok (.istore_n 2, 1) := by decide +kernel
theorem d_X_nextOrder_4 : decode c_X_nextOrder 4 = .ok (.iload_n 2, 1) := by decide +kernel
theorem d_X_nextOrder_5 : decode c_X_nextOrder 5 = .ok (.ifCond .lt 26, 3) := by decide +kernel
theorem d_X_nextOrder_8 : decode c_X_nextOrder 8 = .ok (.aload_n 0, 1) := by decide +kernel
theorem d_X_nextOrder_9 : decode c_X_nextOrder 9 = .ok (.getfield 73, 3) := by decide +kernel
theorem d_X_nextOrder_12 : decode c_X_nextOrder 12 = .ok (.iload_n 2, 1) := by decide +kernel
theorem d_X_nextOrder_13 : decode c_X_nextOrder 13 = .ok (.iaload, 1) := by decide +kernel
theorem d_X_nextOrder_14 : decode c_X_nextOrder 14 = .ok (.aload_n 0, 1) := by decide +kernel
theorem d_X_nextOrder_15 : decode c_X_nextOrder 15 = .ok (.getfield 73, 3) := by decide +kernel
theorem d_X_nextOrder_18 : decode c_X_nextOrder 18 = .ok (.iload_n 2, 1) := by decide +kernel
theorem d_X_nextOrder_19 : decode c_X_nextOrder 19 = .ok (.iconst 1, 1) := by decide +kernel
theorem d_X_nextOrder_20 : decode c_X_nextOrder 20 = .ok (.iadd, 1) := by decide +kernel
theorem d_X_nextOrder_21 : decode c_X_nextOrder 21 = .ok (.iaload, 1) := by decide +kernel
theorem d_X_nextOrder_22 : decode c_X_nextOrder 22 = .ok (.if_icmp .le 9, 3) := by decide +kernel
theorem d_X_nextOrder_25 : decode c_X_nextOrder 25 = .ok (.iinc 2 (-1), 3) := by decide +kernel
theorem d_X_nextOrder_28 : decode c_X_nextOrder 28 = .ok (.goto (-24), 3) := by decide +kernel
theorem d_X_nextOrder_31 : decode c_X_nextOrder 31 = .ok (.iload_n 2, 1) := by decide +kernel
theorem d_X_nextOrder_32 : decode c_X_nextOrder 32 = .ok (.ifCond .ge 5, 3) := by decide +kernel
theorem d_X_nextOrder_35 : decode c_X_nextOrder 35 = .ok (.iconst 0, 1) := by decide +kernel
theorem d_X_nextOrder_36 : decode c_X_nextOrder 36 = .ok (.ireturn, 1) := by decide +kernel
theorem d_X_nextOrder_37 : decode c_X_nextOrder 37 = .ok (.iload_n 1, 1) := by decide +kernel
theorem d_X_nextOrder_38 : decode c_X_nextOrder 38 = .ok (.iconst 1, 1) := by decide +kernel
theorem d_X_nextOrder_39 : decode c_X_nextOrder 39 = .ok (.isub, 1) := by decide +kernel
theorem d_X_nextOrder_40 : decode c_X_nextOrder 40 = .ok (.istore_n 3, 1) := by decide +kernel
theorem d_X_nextOrder_41 : decode c_X_nextOrder 41 = .ok (.iload_n 3, 1) := by decide +kernel
theorem d_X_nextOrder_42 : decode c_X_nextOrder 42 = .ok (.iload_n 2, 1) := by decide +kernel
theorem d_X_nextOrder_43 : decode c_X_nextOrder 43 = .ok (.iconst 1, 1) := by decide +kernel
theorem d_X_nextOrder_44 : decode c_X_nextOrder 44 = .ok (.iadd, 1) := by decide +kernel
theorem d_X_nextOrder_45 : decode c_X_nextOrder 45 = .ok (.if_icmp .le 24, 3) := by decide +kernel
theorem d_X_nextOrder_48 : decode c_X_nextOrder 48 = .ok (.aload_n 0, 1) := by decide +kernel
theorem d_X_nextOrder_49 : decode c_X_nextOrder 49 = .ok (.getfield 73, 3) := by decide +kernel
theorem d_X_nextOrder_52 : decode c_X_nextOrder 52 = .ok (.iload_n 3, 1) := by decide +kernel
theorem d_X_nextOrder_53 : decode c_X_nextOrder 53 = .ok (.iaload, 1) := by decide +kernel
theorem d_X_nextOrder_54 : decode c_X_nextOrder 54 = .ok (.aload_n 0, 1) := by decide +kernel
theorem d_X_nextOrder_55 : decode c_X_nextOrder 55 = .ok (.getfield 73, 3) := by decide +kernel
theorem d_X_nextOrder_58 : decode c_X_nextOrder 58 = .ok (.iload_n 2, 1) := by decide +kernel
theorem d_X_nextOrder_59 : decode c_X_nextOrder 59 = .ok (.iaload, 1) := by decide +kernel
theorem d_X_nextOrder_60 : decode c_X_nextOrder 60 = .ok (.if_icmp .ge 9, 3) := by decide +kernel
theorem d_X_nextOrder_63 : decode c_X_nextOrder 63 = .ok (.iinc 3 (-1), 3) := by decide +kernel
theorem d_X_nextOrder_66 : decode c_X_nextOrder 66 = .ok (.goto (-25), 3) := by decide +kernel
theorem d_X_nextOrder_69 : decode c_X_nextOrder 69 = .ok (.aload_n 0, 1) := by decide +kernel
theorem d_X_nextOrder_70 : decode c_X_nextOrder 70 = .ok (.iload_n 2, 1) := by decide +kernel
theorem d_X_nextOrder_71 : decode c_X_nextOrder 71 = .ok (.iload_n 3, 1) := by decide +kernel
theorem d_X_nextOrder_72 : decode c_X_nextOrder 72 = .ok (.invokevirtual 364, 3) := by decide +kernel
theorem d_X_nextOrder_75 : decode c_X_nextOrder 75 = .ok (.iload_n 2, 1) := by decide +kernel
theorem d_X_nextOrder_76 : decode c_X_nextOrder 76 = .ok (.iconst 1, 1) := by decide +kernel
theorem d_X_nextOrder_77 : decode c_X_nextOrder 77 = .ok (.iadd, 1) := by decide +kernel
theorem d_X_nextOrder_78 : decode c_X_nextOrder 78 = .ok (.istore 4, 2) := by decide +kernel
theorem d_X_nextOrder_80 : decode c_X_nextOrder 80 = .ok (.iload_n 1, 1) := by decide +kernel
theorem d_X_nextOrder_81 : decode c_X_nextOrder 81 = .ok (.iconst 1, 1) := by decide +kernel
theorem d_X_nextOrder_82 : decode c_X_nextOrder 82 = .ok (.isub, 1) := by decide +kernel
theorem d_X_nextOrder_83 : decode c_X_nextOrder 83 = .ok (.istore 5, 2) := by decide +kernel
theorem d_X_nextOrder_85 : decode c_X_nextOrder 85 = .ok (.iload 4, 2) := by decide +kernel
theorem d_X_nextOrder_87 : decode c_X_nextOrder 87 = .ok (.iload 5, 2) := by decide +kernel
theorem d_X_nextOrder_89 : decode c_X_nextOrder 89 = .ok (.if_icmp .ge 20, 3) := by decide +kernel
theorem d_X_nextOrder_92 : decode c_X_nextOrder 92 = .ok (.aload_n 0, 1) := by decide +kernel
theorem d_X_nextOrder_93 : decode c_X_nextOrder 93 = .ok (.iload 4, 2) := by decide +kernel
theorem d_X_nextOrder_95 : decode c_X_nextOrder 95 = .ok (.iload 5, 2) := by decide +kernel
theorem d_X_nextOrder_97 : decode c_X_nextOrder 97 = .ok (.invokevirtual 364, 3) := by decide +kernel
theorem d_X_nextOrder_100 : decode c_X_nextOrder 100 = .ok (.iinc 4 1, 3) := by decide +kernel
theorem d_X_nextOrder_103 : decode c_X_nextOrder 103 = .ok (.iinc 5 (-1), 3) := by decide +kernel
theorem d_X_nextOrder_106 : decode c_X_nextOrder 106 = .ok (.goto (-21), 3) := by decide +kernel
theorem d_X_nextOrder_109 : decode c_X_nextOrder 109 = .ok (.iconst 1, 1) := by decide +kernel
theorem d_X_nextOrder_110 : decode c_X_nextOrder 110 = .ok (.ireturn, 1) := by decide +kernel
theorem d_X_orders_0 : decode c_X_orders 0 = .ok (.iload_n 1, 1) := by decide +kernel
theorem d_X_orders_1 : decode c_X_orders 1 = .ok (.invokestatic 101, 3) := by decide +kernel
theorem d_X_orders_4 : decode c_X_orders 4 = .ok (.ifCond .ne 5, 3) := by decide +kernel
theorem d_X_orders_7 : decode c_X_orders 7 = .ok (.iconst (-1), 1) := by decide +kernel
theorem d_X_orders_8 : decode c_X_orders 8 = .ok (.ireturn, 1) := by decide +kernel
theorem d_X_orders_9 : decode c_X_orders 9 = .ok (.aload_n 0, 1) := by decide +kernel
theorem d_X_orders_10 : decode c_X_orders 10 = .ok (.getfield 11, 3) := by decide +kernel
theorem d_X_orders_13 : decode c_X_orders 13 = .ok (.iload_n 1, 1) := by decide +kernel
theorem d_X_orders_14 : decode c_X_orders 14 = .ok (.aaload, 1) := by decide +kernel
theorem d_X_orders_15 : decode c_X_orders 15 = .ok (.getfield 111, 3) := by decide +kernel
theorem d_X_orders_18 : decode c_X_orders 18 = .ok (.istore_n 2, 1) := by decide +kernel
theorem d_X_orders_19 : decode c_X_orders 19 = .ok (.iload_n 2, 1) := by decide +kernel
theorem d_X_orders_20 : decode c_X_orders 20 = .ok (.bipush 7, 2) := by decide +kernel
theorem d_X_orders_22 : decode c_X_orders 22 = .ok (.if_icmp .le 6, 3) := by decide +kernel
theorem d_X_orders_25 : decode c_X_orders 25 = .ok (.bipush (-2), 2) := by decide +kernel
theorem d_X_orders_27 : decode c_X_orders 27 = .ok (.ireturn, 1) := by decide +kernel
theorem d_X_orders_28 : decode c_X_orders 28 = .ok (.aload_n 0, 1) := by decide +kernel
theorem d_X_orders_29 : decode c_X_orders 29 = .ok (.aload_n 0, 1) := by decide +kernel
theorem d_X_orders_30 : decode c_X_orders 30 = .ok (.getfield 11, 3) := by decide +kernel
theorem d_X_orders_33 : decode c_X_orders 33 = .ok (.iload_n 1, 1) := by decide +kernel
theorem d_X_orders_34 : decode c_X_orders 34 = .ok (.aaload, 1) := by decide +kernel
theorem d_X_orders_35 : decode c_X_orders 35 = .ok (.iconst (-1), 1) := by decide +kernel
theorem d_X_orders_36 : decode c_X_orders 36 = .ok (.invokevirtual 157, 3) := by decide +kernel
theorem d_X_orders_39 : decode c_X_orders 39 = .ok (.iconst 0, 1) := by decide +kernel
theorem d_X_orders_40 : decode c_X_orders 40 = .ok (.istore_n 3, 1) := by decide +kernel
theorem d_X_orders_41 : decode c_X_orders 41 = .ok (.iload_n 3, 1) := by decide +kernel
theorem d_X_orders_42 : decode c_X_orders 42 = .ok (.iload_n 2, 1) := by decide +kernel
theorem d_X_orders_43 : decode c_X_orders 43 = .ok (.if_icmp .ge 16, 3) := by decide +kernel
theorem d_X_orders_46 : decode c_X_orders 46 = .ok (.aload_n 0, 1) := by decide +kernel
theorem d_X_orders_47 : decode c_X_orders 47 = .ok (.getfield 73, 3) := by decide +kernel
theorem d_X_orders_50 : decode c_X_orders 50 = .ok (.iload_n 3, 1) := by decide +kernel
theorem d_X_orders_51 : decode c_X_orders 51 = .ok (.iload_n 3, 1) := by decide +kernel
theorem d_X_orders_52 : decode c_X_orders 52 = .ok (.iastore, 1) := by decide +kernel
theorem d_X_orders_53 : decode c_X_orders 53 = .ok (.iinc 3 1, 3) := by decide +kernel
theorem d_X_orders_56 : decode c_X_orders 56 = .ok (.goto (-15), 3) := by decide +kernel
theorem d_X_orders_59 : decode c_X_orders 59 = .ok (.aload_n 0, 1) := by decide +kernel
theorem d_X_orders_60 : decode c_X_orders 60 = .ok (.getfield 37, 3) := by decide +kernel
theorem d_X_orders_63 : decode c_X_orders 63 = .ok (.invokevirtual 108, 3) := by decide +kernel
theorem d_X_orders_66 : decode c_X_orders 66 = .ok (.iconst 0, 1) := by decide +kernel
theorem d_X_orders_67 : decode c_X_orders 67 = .ok (.istore_n 3, 1) := by decide +kernel
theorem d_X_orders_68 : decode c_X_orders 68 = .ok (.iconst 0, 1) := by decide +kernel
theorem d_X_orders_69 : decode c_X_orders 69 = .ok (.istore 4, 2) := by decide +kernel
theorem d_X_orders_71 : decode c_X_orders 71 = .ok (.iload 4, 2) := by decide +kernel
theorem d_X_orders_73 : decode c_X_orders 73 = .ok (.sipush 5040, 3) := by decide +kernel
theorem d_X_orders_76 : decode c_X_orders 76 = .ok (.if_icmp .ge 44, 3) := by decide +kernel
theorem d_X_orders_79 : decode c_X_orders 79 = .ok (.aload_n 0, 1) := by decide +kernel
theorem d_X_orders_80 : decode c_X_orders 80 = .ok (.iload_n 2, 1) := by decide +kernel
theorem d_X_orders_81 : decode c_X_orders 81 = .ok (.invokevirtual 258, 3) := by decide +kernel
theorem d_X_orders_84 : decode c_X_orders 84 = .ok (.ifCond .eq 19, 3) := by decide +kernel
theorem d_X_orders_87 : decode c_X_orders 87 = .ok (.iload_n 3, 1) := by decide +kernel
theorem d_X_orders_88 : decode c_X_orders 88 = .ok (.ifCond .ne 12, 3) := by decide +kernel
theorem d_X_orders_91 : decode c_X_orders 91 = .ok (.aload_n 0, 1) := by decide +kernel
theorem d_X_orders_92 : decode c_X_orders 92 = .ok (.aload_n 0, 1) := by decide +kernel
theorem d_X_orders_93 : decode c_X_orders 93 = .ok (.getfield 73, 3) := by decide +kernel
theorem d_X_orders_96 : decode c_X_orders 96 = .ok (.iload_n 2, 1) := by decide +kernel
theorem d_X_orders_97 : decode c_X_orders 97 = .ok (.invokevirtual 229, 3) := by decide +kernel
theorem d_X_orders_100 : decode c_X_orders 100 = .ok (.iinc 3 1, 3) := by decide +kernel
theorem d_X_orders_103 : decode c_X_orders 103 = .ok (.aload_n 0, 1) := by decide +kernel
theorem d_X_orders_104 : decode c_X_orders 104 = .ok (.iload_n 2, 1) := by decide +kernel
theorem d_X_orders_105 : decode c_X_orders 105 = .ok (.invokevirtual 261, 3) := by decide +kernel
theorem d_X_orders_108 : decode c_X_orders 108 = .ok (.ifCond .ne 6, 3) := by decide +kernel
theorem d_X_orders_111 : decode c_X_orders 111 = .ok (.goto 9, 3) := by decide +kernel
theorem d_X_orders_114 : decode c_X_orders 114 = .ok (.iinc 4 1, 3) := by decide +kernel
theorem d_X_orders_117 : decode c_X_orders 117 = .ok (.goto (-46), 3) := by decide +kernel
theorem d_X_orders_120 : decode c_X_orders 120 = .ok (.iload_n 3, 1) := by decide +kernel
theorem d_X_orders_121 : decode c_X_orders 121 = .ok (.ireturn, 1) := by decide +kernel
theorem d_X_merges_0 : decode c_X_merges 0 = .ok (.iload_n 1, 1) := by decide +kernel
theorem d_X_merges_1 : decode c_X_merges 1 = .ok (.invokestatic 101, 3) := by decide +kernel
theorem d_X_merges_4 : decode c_X_merges 4 = .ok (.ifCond .eq 20, 3) := by decide +kernel
theorem d_X_merges_7 : decode c_X_merges 7 = .ok (.aload_n 0, 1) := by decide +kernel
theorem d_X_merges_8 : decode c_X_merges 8 = .ok (.getfield 11, 3) := by decide +kernel
theorem d_X_merges_11 : decode c_X_merges 11 = .ok (.iload_n 1, 1) := by decide +kernel
theorem d_X_merges_12 : decode c_X_merges 12 = .ok (.aaload, 1) := by decide +kernel
theorem d_X_merges_13 : decode c_X_merges 13 = .ok (.iload_n 2, 1) := by decide +kernel
theorem d_X_merges_14 : decode c_X_merges 14 = .ok (.invokevirtual 163, 3) := by decide +kernel
theorem d_X_merges_17 : decode c_X_merges 17 = .ok (.ifCond .eq 7, 3) := by decide +kernel
theorem d_X_merges_20 : decode c_X_merges 20 = .ok (.iload_n 2, 1) := by decide +kernel
theorem d_X_merges_21 : decode c_X_merges 21 = .ok (.ifCond .ne 5, 3) := by decide +kernel
theorem d_X_merges_24 : decode c_X_merges 24 = .ok (.iconst (-1), 1) := by decide +kernel
theorem d_X_merges_25 : decode c_X_merges 25 = .ok (.ireturn, 1) := by decide +kernel
theorem d_X_merges_26 : decode c_X_merges 26 = .ok (.aload_n 0, 1) := by decide +kernel
theorem d_X_merges_27 : decode c_X_merges 27 = .ok (.getfield 11, 3) := by decide +kernel
theorem d_X_merges_30 : decode c_X_merges 30 = .ok (.iload_n 1, 1) := by decide +kernel
theorem d_X_merges_31 : decode c_X_merges 31 = .ok (.aaload, 1) := by decide +kernel
theorem d_X_merges_32 : decode c_X_merges 32 = .ok (.getfield 111, 3) := by decide +kernel
theorem d_X_merges_35 : decode c_X_merges 35 = .ok (.istore_n 3, 1) := by decide +kernel
theorem d_X_merges_36 : decode c_X_merges 36 = .ok (.aload_n 0, 1) := by decide +kernel
theorem d_X_merges_37 : decode c_X_merges 37 = .ok (.aload_n 0, 1) := by decide +kernel
theorem d_X_merges_38 : decode c_X_merges 38 = .ok (.getfield 11, 3) := by decide +kernel
theorem d_X_merges_41 : decode c_X_merges 41 = .ok (.iload_n 1, 1) := by decide +kernel
theorem d_X_merges_42 : decode c_X_merges 42 = .ok (.aaload, 1) := by decide +kernel
theorem d_X_merges_43 : decode c_X_merges 43 = .ok (.iconst (-1), 1) := by decide +kernel
theorem d_X_merges_44 : decode c_X_merges 44 = .ok (.invokevirtual 157, 3) := by decide +kernel
theorem d_X_merges_47 : decode c_X_merges 47 = .ok (.iconst 0, 1) := by decide +kernel
theorem d_X_merges_48 : decode c_X_merges 48 = .ok (.istore 4, 2) := by decide +kernel
theorem d_X_merges_50 : decode c_X_merges 50 = .ok (.iconst 0, 1) := by decide +kernel
theorem d_X_merges_51 : decode c_X_merges 51 = .ok (.istore 5, 2) := by decide +kernel
theorem d_X_merges_53 : decode c_X_merges 53 = .ok (.iconst 0, 1) := by decide +kernel
theorem d_X_merges_54 : decode c_X_merges 54 = .ok (.istore 6, 2) := by decide +kernel
theorem d_X_merges_56 : decode c_X_merges 56 = .ok (.iload 6, 2) := by decide +kernel
theorem d_X_merges_58 : decode c_X_merges 58 = .ok (.iload_n 2, 1) := by decide +kernel
theorem d_X_merges_59 : decode c_X_merges 59 = .ok (.if_icmp .gt 55, 3) := by decide +kernel
theorem d_X_merges_62 : decode c_X_merges 62 = .ok (.iconst 0, 1) := by decide +kernel
theorem d_X_merges_63 : decode c_X_merges 63 = .ok (.istore 7, 2) := by decide +kernel
theorem d_X_merges_65 : decode c_X_merges 65 = .ok (.iload 7, 2) := by decide +kernel
theorem d_X_merges_67 : decode c_X_merges 67 = .ok (.iload_n 3, 1) := by decide +kernel
theorem d_X_merges_68 : decode c_X_merges 68 = .ok (.iload_n 2, 1) := by decide +kernel
theorem d_X_merges_69 : decode c_X_merges 69 = .ok (.isub, 1) := by decide +kernel
theorem d_X_merges_70 : decode c_X_merges 70 = .ok (.if_icmp .gt 38, 3) := by decide +kernel
theorem d_X_merges_73 : decode c_X_merges 73 = .ok (.iinc 4 1, 3) := by decide +kernel
theorem d_X_merges_76 : decode c_X_merges 76 = .ok (.aload_n 0, 1) := by decide +kernel
theorem d_X_merges_77 : decode c_X_merges 77 = .ok (.getfield 61, 3) := by decide +kernel
theorem d_X_merges_80 : decode c_X_merges 80 = .ok (.iload_n 2, 1) := by decide +kernel
theorem d_X_merges_81 : decode c_X_merges 81 = .ok (.iload 6, 2) := by decide +kernel
theorem d_X_merges_83 : decode c_X_merges 83 = .ok (.invokestatic 243, 3) := by decide +kernel
theorem d_X_merges_86 : decode c_X_merges 86 = .ok (.iload_n 3, 1) := by decide +kernel
theorem d_X_merges_87 : decode c_X_merges 87 = .ok (.iload 7, 2) := by decide +kernel
theorem d_X_merges_89 : decode c_X_merges 89 = .ok (.invokestatic 243, 3) := by decide +kernel
theorem d_X_merges_92 : decode c_X_merges 92 = .ok (.ior, 1) := by decide +kernel
theorem d_X_merges_93 : decode c_X_merges 93 = .ok (.invokevirtual 246, 3) := by decide +kernel
theorem d_X_merges_96 : decode c_X_merges 96 = .ok (.ifCond .eq 6, 3) := by decide +kernel
theorem d_X_merges_99 : decode c_X_merges 99 = .ok (.iinc 5 1, 3) := by decide +kernel
theorem d_X_merges_102 : decode c_X_merges 102 = .ok (.iinc 7 1, 3) := by decide +kernel
theorem d_X_merges_105 : decode c_X_merges 105 = .ok (.goto (-40), 3) := by decide +kernel
theorem d_X_merges_108 : decode c_X_merges 108 = .ok (.iinc 6 1, 3) := by decide +kernel
theorem d_X_merges_111 : decode c_X_merges 111 = .ok (.goto (-55), 3) := by decide +kernel
theorem d_X_merges_114 : decode c_X_merges 114 = .ok (.aload_n 0, 1) := by decide +kernel
theorem d_X_merges_115 : decode c_X_merges 115 = .ok (.getfield 37, 3) := by decide +kernel
theorem d_X_merges_118 : decode c_X_merges 118 = .ok (.invokevirtual 108, 3) := by decide +kernel
theorem d_X_merges_121 : decode c_X_merges 121 = .ok (.aload_n 0, 1) := by decide +kernel
theorem d_X_merges_122 : decode c_X_merges 122 = .ok (.getfield 37, 3) := by decide +kernel
theorem d_X_merges_125 : decode c_X_merges 125 = .ok (.iload 4, 2) := by decide +kernel
theorem d_X_merges_127 : decode c_X_merges 127 = .ok (.i2l, 1) := by decide +kernel
theorem d_X_merges_128 : decode c_X_merges 128 = .ok (.invokevirtual 118, 3) := by decide +kernel
theorem d_X_merges_131 : decode c_X_merges 131 = .ok (.iload 5, 2) := by decide +kernel
theorem d_X_merges_133 : decode c_X_merges 133 = .ok (.ireturn, 1) := by decide +kernel

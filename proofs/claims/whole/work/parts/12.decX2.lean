theorem d_X_idle_0 : decode c_X_idle 0 = .ok (.iload_n 1, 1) := by decide +kernel
theorem d_X_idle_1 : decode c_X_idle 1 = .ok (.invokestatic 101, 3) := by decide +kernel
theorem d_X_idle_4 : decode c_X_idle 4 = .ok (.ifCond .ne 7, 3) := by decide +kernel
theorem d_X_idle_7 : decode c_X_idle 7 = .ok (.ldc2_w 264, 3) := by decide +kernel
theorem d_X_idle_10 : decode c_X_idle 10 = .ok (.lreturn, 1) := by decide +kernel
theorem d_X_idle_11 : decode c_X_idle 11 = .ok (.aload_n 0, 1) := by decide +kernel
theorem d_X_idle_12 : decode c_X_idle 12 = .ok (.getfield 11, 3) := by decide +kernel
theorem d_X_idle_15 : decode c_X_idle 15 = .ok (.iload_n 1, 1) := by decide +kernel
theorem d_X_idle_16 : decode c_X_idle 16 = .ok (.aaload, 1) := by decide +kernel
theorem d_X_idle_17 : decode c_X_idle 17 = .ok (.astore_n 2, 1) := by decide +kernel
theorem d_X_idle_18 : decode c_X_idle 18 = .ok (.aload_n 0, 1) := by decide +kernel
theorem d_X_idle_19 : decode c_X_idle 19 = .ok (.getfield 51, 3) := by decide +kernel
theorem d_X_idle_22 : decode c_X_idle 22 = .ok (.aload_n 2, 1) := by decide +kernel
theorem d_X_idle_23 : decode c_X_idle 23 = .ok (.getfield 111, 3) := by decide +kernel
theorem d_X_idle_26 : decode c_X_idle 26 = .ok (.invokevirtual 266, 3) := by decide +kernel
theorem d_X_idle_29 : decode c_X_idle 29 = .ok (.lconst 0, 1) := by decide +kernel
theorem d_X_idle_30 : decode c_X_idle 30 = .ok (.lstore_n 3, 1) := by decide +kernel
theorem d_X_idle_31 : decode c_X_idle 31 = .ok (.iconst 0, 1) := by decide +kernel
theorem d_X_idle_32 : decode c_X_idle 32 = .ok (.istore 5, 2) := by decide +kernel
theorem d_X_idle_34 : decode c_X_idle 34 = .ok (.iload 5, 2) := by decide +kernel
theorem d_X_idle_36 : decode c_X_idle 36 = .ok (.aload_n 2, 1) := by decide +kernel
theorem d_X_idle_37 : decode c_X_idle 37 = .ok (.getfield 121, 3) := by decide +kernel
theorem d_X_idle_40 : decode c_X_idle 40 = .ok (.if_icmp .ge 61, 3) := by decide +kernel
theorem d_X_idle_43 : decode c_X_idle 43 = .ok (.aload_n 0, 1) := by decide +kernel
theorem d_X_idle_44 : decode c_X_idle 44 = .ok (.getfield 51, 3) := by decide +kernel
theorem d_X_idle_47 : decode c_X_idle 47 = .ok (.aload_n 2, 1) := by decide +kernel
theorem d_X_idle_48 : decode c_X_idle 48 = .ok (.getfield 175, 3) := by decide +kernel
theorem d_X_idle_51 : decode c_X_idle 51 = .ok (.iload 5, 2) := by decide +kernel
theorem d_X_idle_53 : decode c_X_idle 53 = .ok (.iaload, 1) := by decide +kernel
theorem d_X_idle_54 : decode c_X_idle 54 = .ok (.aload_n 2, 1) := by decide +kernel
theorem d_X_idle_55 : decode c_X_idle 55 = .ok (.getfield 178, 3) := by decide +kernel
theorem d_X_idle_58 : decode c_X_idle 58 = .ok (.iload 5, 2) := by decide +kernel
theorem d_X_idle_60 : decode c_X_idle 60 = .ok (.iaload, 1) := by decide +kernel
theorem d_X_idle_61 : decode c_X_idle 61 = .ok (.invokevirtual 267, 3) := by decide +kernel
theorem d_X_idle_64 : decode c_X_idle 64 = .ok (.ifCond .ne 10, 3) := by decide +kernel
theorem d_X_idle_67 : decode c_X_idle 67 = .ok (.lload_n 3, 1) := by decide +kernel
theorem d_X_idle_68 : decode c_X_idle 68 = .ok (.lconst 1, 1) := by decide +kernel
theorem d_X_idle_69 : decode c_X_idle 69 = .ok (.iload 5, 2) := by decide +kernel
theorem d_X_idle_71 : decode c_X_idle 71 = .ok (.lshl, 1) := by decide +kernel
theorem d_X_idle_72 : decode c_X_idle 72 = .ok (.lor, 1) := by decide +kernel
theorem d_X_idle_73 : decode c_X_idle 73 = .ok (.lstore_n 3, 1) := by decide +kernel
theorem d_X_idle_74 : decode c_X_idle 74 = .ok (.aload_n 0, 1) := by decide +kernel
theorem d_X_idle_75 : decode c_X_idle 75 = .ok (.getfield 51, 3) := by decide +kernel
theorem d_X_idle_78 : decode c_X_idle 78 = .ok (.aload_n 2, 1) := by decide +kernel
theorem d_X_idle_79 : decode c_X_idle 79 = .ok (.getfield 175, 3) := by decide +kernel
theorem d_X_idle_82 : decode c_X_idle 82 = .ok (.iload 5, 2) := by decide +kernel
theorem d_X_idle_84 : decode c_X_idle 84 = .ok (.iaload, 1) := by decide +kernel
theorem d_X_idle_85 : decode c_X_idle 85 = .ok (.aload_n 2, 1) := by decide +kernel
theorem d_X_idle_86 : decode c_X_idle 86 = .ok (.getfield 178, 3) := by decide +kernel
theorem d_X_idle_89 : decode c_X_idle 89 = .ok (.iload 5, 2) := by decide +kernel
theorem d_X_idle_91 : decode c_X_idle 91 = .ok (.iaload, 1) := by decide +kernel
theorem d_X_idle_92 : decode c_X_idle 92 = .ok (.invokevirtual 270, 3) := by decide +kernel
theorem d_X_idle_95 : decode c_X_idle 95 = .ok (.iinc 5 1, 3) := by decide +kernel
theorem d_X_idle_98 : decode c_X_idle 98 = .ok (.goto (-64), 3) := by decide +kernel
theorem d_X_idle_101 : decode c_X_idle 101 = .ok (.aload_n 0, 1) := by decide +kernel
theorem d_X_idle_102 : decode c_X_idle 102 = .ok (.getfield 37, 3) := by decide +kernel
theorem d_X_idle_105 : decode c_X_idle 105 = .ok (.invokevirtual 108, 3) := by decide +kernel
theorem d_X_idle_108 : decode c_X_idle 108 = .ok (.aload_n 0, 1) := by decide +kernel
theorem d_X_idle_109 : decode c_X_idle 109 = .ok (.getfield 37, 3) := by decide +kernel
theorem d_X_idle_112 : decode c_X_idle 112 = .ok (.lload_n 3, 1) := by decide +kernel
theorem d_X_idle_113 : decode c_X_idle 113 = .ok (.invokestatic 273, 3) := by decide +kernel
theorem d_X_idle_116 : decode c_X_idle 116 = .ok (.i2l, 1) := by decide +kernel
theorem d_X_idle_117 : decode c_X_idle 117 = .ok (.invokevirtual 118, 3) := by decide +kernel
theorem d_X_idle_120 : decode c_X_idle 120 = .ok (.lload_n 3, 1) := by decide +kernel
theorem d_X_idle_121 : decode c_X_idle 121 = .ok (.lreturn, 1) := by decide +kernel
theorem d_X_isSorting_0 : decode c_X_isSorting 0 = .ok (.aload_n 0, 1) := by decide +kernel
theorem d_X_isSorting_1 : decode c_X_isSorting 1 = .ok (.aload_n 1, 1) := by decide +kernel
theorem d_X_isSorting_2 : decode c_X_isSorting 2 = .ok (.iload_n 2, 1) := by decide +kernel
theorem d_X_isSorting_3 : decode c_X_isSorting 3 = .ok (.invokevirtual 157, 3) := by decide +kernel
theorem d_X_isSorting_6 : decode c_X_isSorting 6 = .ok (.aload_n 0, 1) := by decide +kernel
theorem d_X_isSorting_7 : decode c_X_isSorting 7 = .ok (.getfield 61, 3) := by decide +kernel
theorem d_X_isSorting_10 : decode c_X_isSorting 10 = .ok (.invokevirtual 236, 3) := by decide +kernel
theorem d_X_isSorting_13 : decode c_X_isSorting 13 = .ok (.ireturn, 1) := by decide +kernel
theorem d_X_spare_0 : decode c_X_spare 0 = .ok (.iload_n 1, 1) := by decide +kernel
theorem d_X_spare_1 : decode c_X_spare 1 = .ok (.invokestatic 101, 3) := by decide +kernel
theorem d_X_spare_4 : decode c_X_spare 4 = .ok (.ifCond .ne 7, 3) := by decide +kernel
theorem d_X_spare_7 : decode c_X_spare 7 = .ok (.ldc2_w 264, 3) := by decide +kernel
theorem d_X_spare_10 : decode c_X_spare 10 = .ok (.lreturn, 1) := by decide +kernel
theorem d_X_spare_11 : decode c_X_spare 11 = .ok (.aload_n 0, 1) := by decide +kernel
theorem d_X_spare_12 : decode c_X_spare 12 = .ok (.aload_n 0, 1) := by decide +kernel
theorem d_X_spare_13 : decode c_X_spare 13 = .ok (.getfield 11, 3) := by decide +kernel
theorem d_X_spare_16 : decode c_X_spare 16 = .ok (.iload_n 1, 1) := by decide +kernel
theorem d_X_spare_17 : decode c_X_spare 17 = .ok (.aaload, 1) := by decide +kernel
theorem d_X_spare_18 : decode c_X_spare 18 = .ok (.iconst (-1), 1) := by decide +kernel
theorem d_X_spare_19 : decode c_X_spare 19 = .ok (.invokevirtual 279, 3) := by decide +kernel
theorem d_X_spare_22 : decode c_X_spare 22 = .ok (.ifCond .ne 7, 3) := by decide +kernel
theorem d_X_spare_25 : decode c_X_spare 25 = .ok (.ldc2_w 283, 3) := by decide +kernel
theorem d_X_spare_28 : decode c_X_spare 28 = .ok (.lreturn, 1) := by decide +kernel
theorem d_X_spare_29 : decode c_X_spare 29 = .ok (.lconst 0, 1) := by decide +kernel
theorem d_X_spare_30 : decode c_X_spare 30 = .ok (.lstore_n 2, 1) := by decide +kernel
theorem d_X_spare_31 : decode c_X_spare 31 = .ok (.iconst 0, 1) := by decide +kernel
theorem d_X_spare_32 : decode c_X_spare 32 = .ok (.istore 4, 2) := by decide +kernel
theorem d_X_spare_34 : decode c_X_spare 34 = .ok (.iload 4, 2) := by decide +kernel
theorem d_X_spare_36 : decode c_X_spare 36 = .ok (.aload_n 0, 1) := by decide +kernel
theorem d_X_spare_37 : decode c_X_spare 37 = .ok (.getfield 11, 3) := by decide +kernel
theorem d_X_spare_40 : decode c_X_spare 40 = .ok (.iload_n 1, 1) := by decide +kernel
theorem d_X_spare_41 : decode c_X_spare 41 = .ok (.aaload, 1) := by decide +kernel
theorem d_X_spare_42 : decode c_X_spare 42 = .ok (.getfield 121, 3) := by decide +kernel
theorem d_X_spare_45 : decode c_X_spare 45 = .ok (.if_icmp .ge 31, 3) := by decide +kernel
theorem d_X_spare_48 : decode c_X_spare 48 = .ok (.aload_n 0, 1) := by decide +kernel
theorem d_X_spare_49 : decode c_X_spare 49 = .ok (.aload_n 0, 1) := by decide +kernel
theorem d_X_spare_50 : decode c_X_spare 50 = .ok (.getfield 11, 3) := by decide +kernel
theorem d_X_spare_53 : decode c_X_spare 53 = .ok (.iload_n 1, 1) := by decide +kernel
theorem d_X_spare_54 : decode c_X_spare 54 = .ok (.aaload, 1) := by decide +kernel
theorem d_X_spare_55 : decode c_X_spare 55 = .ok (.iload 4, 2) := by decide +kernel
theorem d_X_spare_57 : decode c_X_spare 57 = .ok (.invokevirtual 279, 3) := by decide +kernel
theorem d_X_spare_60 : decode c_X_spare 60 = .ok (.ifCond .eq 10, 3) := by decide +kernel
theorem d_X_spare_63 : decode c_X_spare 63 = .ok (.lload_n 2, 1) := by decide +kernel
theorem d_X_spare_64 : decode c_X_spare 64 = .ok (.lconst 1, 1) := by decide +kernel
theorem d_X_spare_65 : decode c_X_spare 65 = .ok (.iload 4, 2) := by decide +kernel
theorem d_X_spare_67 : decode c_X_spare 67 = .ok (.lshl, 1) := by decide +kernel
theorem d_X_spare_68 : decode c_X_spare 68 = .ok (.lor, 1) := by decide +kernel
theorem d_X_spare_69 : decode c_X_spare 69 = .ok (.lstore_n 2, 1) := by decide +kernel
theorem d_X_spare_70 : decode c_X_spare 70 = .ok (.iinc 4 1, 3) := by decide +kernel
theorem d_X_spare_73 : decode c_X_spare 73 = .ok (.goto (-39), 3) := by decide +kernel
theorem d_X_spare_76 : decode c_X_spare 76 = .ok (.aload_n 0, 1) := by decide +kernel
theorem d_X_spare_77 : decode c_X_spare 77 = .ok (.getfield 37, 3) := by decide +kernel
theorem d_X_spare_80 : decode c_X_spare 80 = .ok (.invokevirtual 108, 3) := by decide +kernel
theorem d_X_spare_83 : decode c_X_spare 83 = .ok (.aload_n 0, 1) := by decide +kernel
theorem d_X_spare_84 : decode c_X_spare 84 = .ok (.getfield 37, 3) := by decide +kernel
theorem d_X_spare_87 : decode c_X_spare 87 = .ok (.lload_n 2, 1) := by decide +kernel
theorem d_X_spare_88 : decode c_X_spare 88 = .ok (.invokestatic 273, 3) := by decide +kernel
theorem d_X_spare_91 : decode c_X_spare 91 = .ok (.i2l, 1) := by decide +kernel
theorem d_X_spare_92 : decode c_X_spare 92 = .ok (.invokevirtual 118, 3) := by decide +kernel
theorem d_X_spare_95 : decode c_X_spare 95 = .ok (.lload_n 2, 1) := by decide +kernel
theorem d_X_spare_96 : decode c_X_spare 96 = .ok (.lreturn, 1) := by decide +kernel
theorem d_X_thins_0 : decode c_X_thins 0 = .ok (.iload_n 1, 1) := by decide +kernel
theorem d_X_thins_1 : decode c_X_thins 1 = .ok (.invokestatic 101, 3) := by decide +kernel
theorem d_X_thins_4 : decode c_X_thins 4 = .ok (.ifCond .ne 5, 3) := by decide +kernel
theorem d_X_thins_7 : decode c_X_thins 7 = .ok (.iconst (-1), 1) := by decide +kernel
theorem d_X_thins_8 : decode c_X_thins 8 = .ok (.ireturn, 1) := by decide +kernel
theorem d_X_thins_9 : decode c_X_thins 9 = .ok (.aload_n 0, 1) := by decide +kernel
theorem d_X_thins_10 : decode c_X_thins 10 = .ok (.getfield 11, 3) := by decide +kernel
theorem d_X_thins_13 : decode c_X_thins 13 = .ok (.iload_n 1, 1) := by decide +kernel
theorem d_X_thins_14 : decode c_X_thins 14 = .ok (.aaload, 1) := by decide +kernel
theorem d_X_thins_15 : decode c_X_thins 15 = .ok (.astore_n 2, 1) := by decide +kernel
theorem d_X_thins_16 : decode c_X_thins 16 = .ok (.aload_n 0, 1) := by decide +kernel
theorem d_X_thins_17 : decode c_X_thins 17 = .ok (.aload_n 2, 1) := by decide +kernel
theorem d_X_thins_18 : decode c_X_thins 18 = .ok (.iconst (-1), 1) := by decide +kernel
theorem d_X_thins_19 : decode c_X_thins 19 = .ok (.invokevirtual 279, 3) := by decide +kernel
theorem d_X_thins_22 : decode c_X_thins 22 = .ok (.ifCond .ne 6, 3) := by decide +kernel
theorem d_X_thins_25 : decode c_X_thins 25 = .ok (.bipush (-2), 2) := by decide +kernel
theorem d_X_thins_27 : decode c_X_thins 27 = .ok (.ireturn, 1) := by decide +kernel
theorem d_X_thins_28 : decode c_X_thins 28 = .ok (.aload_n 2, 1) := by decide +kernel
theorem d_X_thins_29 : decode c_X_thins 29 = .ok (.getfield 121, 3) := by decide +kernel
theorem d_X_thins_32 : decode c_X_thins 32 = .ok (.istore_n 3, 1) := by decide +kernel
theorem d_X_thins_33 : decode c_X_thins 33 = .ok (.iload_n 3, 1) := by decide +kernel
theorem d_X_thins_34 : decode c_X_thins 34 = .ok (.iconst 1, 1) := by decide +kernel
theorem d_X_thins_35 : decode c_X_thins 35 = .ok (.isub, 1) := by decide +kernel
theorem d_X_thins_36 : decode c_X_thins 36 = .ok (.istore 4, 2) := by decide +kernel
theorem d_X_thins_38 : decode c_X_thins 38 = .ok (.iload 4, 2) := by decide +kernel
theorem d_X_thins_40 : decode c_X_thins 40 = .ok (.ifCond .lt 25, 3) := by decide +kernel
theorem d_X_thins_43 : decode c_X_thins 43 = .ok (.aload_n 0, 1) := by decide +kernel
theorem d_X_thins_44 : decode c_X_thins 44 = .ok (.aload_n 2, 1) := by decide +kernel
theorem d_X_thins_45 : decode c_X_thins 45 = .ok (.iload 4, 2) := by decide +kernel
theorem d_X_thins_47 : decode c_X_thins 47 = .ok (.invokevirtual 279, 3) := by decide +kernel
theorem d_X_thins_50 : decode c_X_thins 50 = .ok (.ifCond .eq 9, 3) := by decide +kernel
theorem d_X_thins_53 : decode c_X_thins 53 = .ok (.aload_n 2, 1) := by decide +kernel
theorem d_X_thins_54 : decode c_X_thins 54 = .ok (.iload 4, 2) := by decide +kernel
theorem d_X_thins_56 : decode c_X_thins 56 = .ok (.invokevirtual 169, 3) := by decide +kernel
theorem d_X_thins_59 : decode c_X_thins 59 = .ok (.iinc 4 (-1), 3) := by decide +kernel
theorem d_X_thins_62 : decode c_X_thins 62 = .ok (.goto (-24), 3) := by decide +kernel
theorem d_X_thins_65 : decode c_X_thins 65 = .ok (.iload_n 3, 1) := by decide +kernel
theorem d_X_thins_66 : decode c_X_thins 66 = .ok (.aload_n 2, 1) := by decide +kernel
theorem d_X_thins_67 : decode c_X_thins 67 = .ok (.getfield 121, 3) := by decide +kernel
theorem d_X_thins_70 : decode c_X_thins 70 = .ok (.isub, 1) := by decide +kernel
theorem d_X_thins_71 : decode c_X_thins 71 = .ok (.ireturn, 1) := by decide +kernel
theorem d_X_broken_0 : decode c_X_broken 0 = .ok (.aload_n 0, 1) := by decide +kernel
theorem d_X_broken_1 : decode c_X_broken 1 = .ok (.iload_n 1, 1) := by decide +kernel
theorem d_X_broken_2 : decode c_X_broken 2 = .ok (.iload_n 2, 1) := by decide +kernel
theorem d_X_broken_3 : decode c_X_broken 3 = .ok (.invokevirtual 166, 3) := by decide +kernel
theorem d_X_broken_6 : decode c_X_broken 6 = .ok (.ifCond .eq 12, 3) := by decide +kernel
theorem d_X_broken_9 : decode c_X_broken 9 = .ok (.iload_n 3, 1) := by decide +kernel
theorem d_X_broken_10 : decode c_X_broken 10 = .ok (.ifCond .lt 8, 3) := by decide +kernel
theorem d_X_broken_13 : decode c_X_broken 13 = .ok (.iload_n 3, 1) := by decide +kernel
theorem d_X_broken_14 : decode c_X_broken 14 = .ok (.iconst 2, 1) := by decide +kernel
theorem d_X_broken_15 : decode c_X_broken 15 = .ok (.if_icmp .le 5, 3) := by decide +kernel
theorem d_X_broken_18 : decode c_X_broken 18 = .ok (.iconst (-1), 1) := by decide +kernel
theorem d_X_broken_19 : decode c_X_broken 19 = .ok (.ireturn, 1) := by decide +kernel
theorem d_X_broken_20 : decode c_X_broken 20 = .ok (.aload_n 0, 1) := by decide +kernel
theorem d_X_broken_21 : decode c_X_broken 21 = .ok (.getfield 11, 3) := by decide +kernel
theorem d_X_broken_24 : decode c_X_broken 24 = .ok (.iload_n 1, 1) := by decide +kernel
theorem d_X_broken_25 : decode c_X_broken 25 = .ok (.aaload, 1) := by decide +kernel
theorem d_X_broken_26 : decode c_X_broken 26 = .ok (.astore 4, 2) := by decide +kernel
theorem d_X_broken_28 : decode c_X_broken 28 = .ok (.aload_n 0, 1) := by decide +kernel
theorem d_X_broken_29 : decode c_X_broken 29 = .ok (.getfield 51, 3) := by decide +kernel
theorem d_X_broken_32 : decode c_X_broken 32 = .ok (.aload 4, 2) := by decide +kernel
theorem d_X_broken_34 : decode c_X_broken 34 = .ok (.getfield 111, 3) := by decide +kernel
theorem d_X_broken_37 : decode c_X_broken 37 = .ok (.invokevirtual 266, 3) := by decide +kernel
theorem d_X_broken_40 : decode c_X_broken 40 = .ok (.aload_n 0, 1) := by decide +kernel
theorem d_X_broken_41 : decode c_X_broken 41 = .ok (.getfield 51, 3) := by decide +kernel
theorem d_X_broken_44 : decode c_X_broken 44 = .ok (.aload 4, 2) := by decide +kernel
theorem d_X_broken_46 : decode c_X_broken 46 = .ok (.iconst 0, 1) := by decide +kernel
theorem d_X_broken_47 : decode c_X_broken 47 = .ok (.iload_n 2, 1) := by decide +kernel
theorem d_X_broken_48 : decode c_X_broken 48 = .ok (.invokevirtual 285, 3) := by decide +kernel
theorem d_X_broken_51 : decode c_X_broken 51 = .ok (.iload_n 3, 1) := by decide +kernel
theorem d_X_broken_52 : decode c_X_broken 52 = .ok (.iconst 1, 1) := by decide +kernel
theorem d_X_broken_53 : decode c_X_broken 53 = .ok (.if_icmp .ne 27, 3) := by decide +kernel
theorem d_X_broken_56 : decode c_X_broken 56 = .ok (.aload_n 0, 1) := by decide +kernel
theorem d_X_broken_57 : decode c_X_broken 57 = .ok (.getfield 51, 3) := by decide +kernel
theorem d_X_broken_60 : decode c_X_broken 60 = .ok (.aload 4, 2) := by decide +kernel
theorem d_X_broken_62 : decode c_X_broken 62 = .ok (.getfield 175, 3) := by decide +kernel
theorem d_X_broken_65 : decode c_X_broken 65 = .ok (.iload_n 2, 1) := by decide +kernel
theorem d_X_broken_66 : decode c_X_broken 66 = .ok (.iaload, 1) := by decide +kernel
theorem d_X_broken_67 : decode c_X_broken 67 = .ok (.aload 4, 2) := by decide +kernel
theorem d_X_broken_69 : decode c_X_broken 69 = .ok (.getfield 178, 3) := by decide +kernel
theorem d_X_broken_72 : decode c_X_broken 72 = .ok (.iload_n 2, 1) := by decide +kernel
theorem d_X_broken_73 : decode c_X_broken 73 = .ok (.iaload, 1) := by decide +kernel
theorem d_X_broken_74 : decode c_X_broken 74 = .ok (.invokevirtual 289, 3) := by decide +kernel
theorem d_X_broken_77 : decode c_X_broken 77 = .ok (.goto 29, 3) := by decide +kernel
theorem d_X_broken_80 : decode c_X_broken 80 = .ok (.iload_n 3, 1) := by decide +kernel
theorem d_X_broken_81 : decode c_X_broken 81 = .ok (.iconst 2, 1) := by decide +kernel
theorem d_X_broken_82 : decode c_X_broken 82 = .ok (.if_icmp .ne 24, 3) := by decide +kernel
theorem d_X_broken_85 : decode c_X_broken 85 = .ok (.aload_n 0, 1) := by decide +kernel
theorem d_X_broken_86 : decode c_X_broken 86 = .ok (.getfield 51, 3) := by decide +kernel
theorem d_X_broken_89 : decode c_X_broken 89 = .ok (.aload 4, 2) := by decide +kernel
theorem d_X_broken_91 : decode c_X_broken 91 = .ok (.getfield 178, 3) := by decide +kernel
theorem d_X_broken_94 : decode c_X_broken 94 = .ok (.iload_n 2, 1) := by decide +kernel
theorem d_X_broken_95 : decode c_X_broken 95 = .ok (.iaload, 1) := by decide +kernel
theorem d_X_broken_96 : decode c_X_broken 96 = .ok (.aload 4, 2) := by decide +kernel
theorem d_X_broken_98 : decode c_X_broken 98 = .ok (.getfield 175, 3) := by decide +kernel
theorem d_X_broken_101 : decode c_X_broken 101 = .ok (.iload_n 2, 1) := by decide +kernel
theorem d_X_broken_102 : decode c_X_broken 102 = .ok (.iaload, 1) := by decide +kernel
theorem d_X_broken_103 : decode c_X_broken 103 = .ok (.invokevirtual 270, 3) := by decide +kernel
theorem d_X_broken_106 : decode c_X_broken 106 = .ok (.aload_n 0, 1) := by decide +kernel
theorem d_X_broken_107 : decode c_X_broken 107 = .ok (.getfield 51, 3) := by decide +kernel
theorem d_X_broken_110 : decode c_X_broken 110 = .ok (.aload 4, 2) := by decide +kernel
theorem d_X_broken_112 : decode c_X_broken 112 = .ok (.iload_n 2, 1) := by decide +kernel
theorem d_X_broken_113 : decode c_X_broken 113 = .ok (.iconst 1, 1) := by decide +kernel
theorem d_X_broken_114 : decode c_X_broken 114 = .ok (.iadd, 1) := by decide +kernel
theorem d_X_broken_115 : decode c_X_broken 115 = .ok (.aload 4, 2) := by decide +kernel
theorem d_X_broken_117 : decode c_X_broken 117 = .ok (.getfield 121, 3) := by decide +kernel
theorem d_X_broken_120 : decode c_X_broken 120 = .ok (.invokevirtual 285, 3) := by decide +kernel
theorem d_X_broken_123 : decode c_X_broken 123 = .ok (.aload_n 0, 1) := by decide +kernel
theorem d_X_broken_124 : decode c_X_broken 124 = .ok (.getfield 51, 3) := by decide +kernel
theorem d_X_broken_127 : decode c_X_broken 127 = .ok (.aload_n 0, 1) := by decide +kernel
theorem d_X_broken_128 : decode c_X_broken 128 = .ok (.getfield 61, 3) := by decide +kernel
theorem d_X_broken_131 : decode c_X_broken 131 = .ok (.invokevirtual 292, 3) := by decide +kernel
theorem d_X_broken_134 : decode c_X_broken 134 = .ok (.aload_n 0, 1) := by decide +kernel
theorem d_X_broken_135 : decode c_X_broken 135 = .ok (.getfield 37, 3) := by decide +kernel
theorem d_X_broken_138 : decode c_X_broken 138 = .ok (.invokevirtual 108, 3) := by decide +kernel
theorem d_X_broken_141 : decode c_X_broken 141 = .ok (.aload_n 0, 1) := by decide +kernel
theorem d_X_broken_142 : decode c_X_broken 142 = .ok (.getfield 37, 3) := by decide +kernel
theorem d_X_broken_145 : decode c_X_broken 145 = .ok (.aload_n 0, 1) := by decide +kernel
theorem d_X_broken_146 : decode c_X_broken 146 = .ok (.getfield 61, 3) := by decide +kernel
theorem d_X_broken_149 : decode c_X_broken 149 = .ok (.invokevirtual 233, 3) := by decide +kernel
theorem d_X_broken_152 : decode c_X_broken 152 = .ok (.i2l, 1) := by decide +kernel
theorem d_X_broken_153 : decode c_X_broken 153 = .ok (.invokevirtual 118, 3) := by decide +kernel
theorem d_X_broken_156 : decode c_X_broken 156 = .ok (.aload_n 0, 1) := by decide +kernel
theorem d_X_broken_157 : decode c_X_broken 157 = .ok (.getfield 61, 3) := by decide +kernel
theorem d_X_broken_160 : decode c_X_broken 160 = .ok (.invokevirtual 161, 3) := by decide +kernel
theorem d_X_broken_163 : decode c_X_broken 163 = .ok (.ireturn, 1) := by decide +kernel
theorem d_X_findNotices_0 : decode c_X_findNotices 0 = .ok (.iconst 1, 1) := by decide +kernel
theorem d_X_findNotices_1 : decode c_X_findNotices 1 = .ok (.aload_n 1, 1) := by decide +kernel
theorem d_X_findNotices_2 : decode c_X_findNotices 2 = .ok (.getfield 111, 3) := by decide +kernel
theorem d_X_findNotices_5 : decode c_X_findNotices 5 = .ok (.ishl, 1) := by decide +kernel
theorem d_X_findNotices_6 : decode c_X_findNotices 6 = .ok (.istore_n 2, 1) := by decide +kernel
theorem d_X_findNotices_7 : decode c_X_findNotices 7 = .ok (.iconst 0, 1) := by decide +kernel
theorem d_X_findNotices_8 : decode c_X_findNotices 8 = .ok (.istore_n 3, 1) := by decide +kernel
theorem d_X_findNotices_9 : decode c_X_findNotices 9 = .ok (.iload_n 3, 1) := by decide +kernel
theorem d_X_findNotices_10 : decode c_X_findNotices 10 = .ok (.iload_n 2, 1) := by decide +kernel
theorem d_X_findNotices_11 : decode c_X_findNotices 11 = .ok (.if_icmp .ge 16, 3) := by decide +kernel
theorem d_X_findNotices_14 : decode c_X_findNotices 14 = .ok (.aload_n 0, 1) := by decide +kernel
theorem d_X_findNotices_15 : decode c_X_findNotices 15 = .ok (.getfield 69, 3) := by decide +kernel
theorem d_X_findNotices_18 : decode c_X_findNotices 18 = .ok (.iload_n 3, 1) := by decide +kernel
theorem d_X_findNotices_19 : decode c_X_findNotices 19 = .ok (.lconst 0, 1) := by decide +kernel
theorem d_X_findNotices_20 : decode c_X_findNotices 20 = .ok (.lastore, 1) := by decide +kernel
theorem d_X_findNotices_21 : decode c_X_findNotices 21 = .ok (.iinc 3 1, 3) := by decide +kernel
theorem d_X_findNotices_24 : decode c_X_findNotices 24 = .ok (.goto (-15), 3) := by decide +kernel
theorem d_X_findNotices_27 : decode c_X_findNotices 27 = .ok (.lconst 0, 1) := by decide +kernel
theorem d_X_findNotices_28 : decode c_X_findNotices 28 = .ok (.lstore_n 3, 1) := by decide +kernel
theorem d_X_findNotices_29 : decode c_X_findNotices 29 = .ok (.iconst 0, 1) := by decide +kernel
theorem d_X_findNotices_30 : decode c_X_findNotices 30 = .ok (.istore 5, 2) := by decide +kernel
theorem d_X_findNotices_32 : decode c_X_findNotices 32 = .ok (.iload 5, 2) := by decide +kernel
theorem d_X_findNotices_34 : decode c_X_findNotices 34 = .ok (.aload_n 1, 1) := by decide +kernel
theorem d_X_findNotices_35 : decode c_X_findNotices 35 = .ok (.getfield 121, 3) := by decide +kernel
theorem d_X_findNotices_38 : decode c_X_findNotices 38 = .ok (.if_icmp .ge 64, 3) := by decide +kernel
theorem d_X_findNotices_41 : decode c_X_findNotices 41 = .ok (.aload_n 0, 1) := by decide +kernel
theorem d_X_findNotices_42 : decode c_X_findNotices 42 = .ok (.aload_n 1, 1) := by decide +kernel
theorem d_X_findNotices_43 : decode c_X_findNotices 43 = .ok (.iload 5, 2) := by decide +kernel
theorem d_X_findNotices_45 : decode c_X_findNotices 45 = .ok (.invokevirtual 157, 3) := by decide +kernel
theorem d_X_findNotices_48 : decode c_X_findNotices 48 = .ok (.iconst 0, 1) := by decide +kernel
theorem d_X_findNotices_49 : decode c_X_findNotices 49 = .ok (.istore 6, 2) := by decide +kernel
theorem d_X_findNotices_51 : decode c_X_findNotices 51 = .ok (.iload 6, 2) := by decide +kernel
theorem d_X_findNotices_53 : decode c_X_findNotices 53 = .ok (.iload_n 2, 1) := by decide +kernel
theorem d_X_findNotices_54 : decode c_X_findNotices 54 = .ok (.if_icmp .ge 42, 3) := by decide +kernel
theorem d_X_findNotices_57 : decode c_X_findNotices 57 = .ok (.aload_n 0, 1) := by decide +kernel
theorem d_X_findNotices_58 : decode c_X_findNotices 58 = .ok (.getfield 61, 3) := by decide +kernel
theorem d_X_findNotices_61 : decode c_X_findNotices 61 = .ok (.iload 6, 2) := by decide +kernel
theorem d_X_findNotices_63 : decode c_X_findNotices 63 = .ok (.invokevirtual 246, 3) := by decide +kernel
theorem d_X_findNotices_66 : decode c_X_findNotices 66 = .ok (.ifCond .eq 24, 3) := by decide +kernel
theorem d_X_findNotices_69 : decode c_X_findNotices 69 = .ok (.aload_n 0, 1) := by decide +kernel
theorem d_X_findNotices_70 : decode c_X_findNotices 70 = .ok (.getfield 69, 3) := by decide +kernel
theorem d_X_findNotices_73 : decode c_X_findNotices 73 = .ok (.iload 6, 2) := by decide +kernel
theorem d_X_findNotices_75 : decode c_X_findNotices 75 = .ok (.dup2, 1) := by decide +kernel
theorem d_X_findNotices_76 : decode c_X_findNotices 76 = .ok (.laload, 1) := by decide +kernel
theorem d_X_findNotices_77 : decode c_X_findNotices 77 = .ok (.lconst 1, 1) := by decide +kernel
theorem d_X_findNotices_78 : decode c_X_findNotices 78 = .ok (.iload 5, 2) := by decide +kernel
theorem d_X_findNotices_80 : decode c_X_findNotices 80 = .ok (.lshl, 1) := by decide +kernel
theorem d_X_findNotices_81 : decode c_X_findNotices 81 = .ok (.lor, 1) := by decide +kernel
theorem d_X_findNotices_82 : decode c_X_findNotices 82 = .ok (.lastore, 1) := by decide +kernel
theorem d_X_findNotices_83 : decode c_X_findNotices 83 = .ok (.lload_n 3, 1) := by decide +kernel
theorem d_X_findNotices_84 : decode c_X_findNotices 84 = .ok (.lconst 1, 1) := by decide +kernel
theorem d_X_findNotices_85 : decode c_X_findNotices 85 = .ok (.iload 5, 2) := by decide +kernel
theorem d_X_findNotices_87 : decode c_X_findNotices 87 = .ok (.lshl, 1) := by decide +kernel
theorem d_X_findNotices_88 : decode c_X_findNotices 88 = .ok (.lor, 1) := by decide +kernel
theorem d_X_findNotices_89 : decode c_X_findNotices 89 = .ok (.lstore_n 3, 1) := by decide +kernel
theorem d_X_findNotices_90 : decode c_X_findNotices 90 = .ok (.iinc 6 1, 3) := by decide +kernel
theorem d_X_findNotices_93 : decode c_X_findNotices 93 = .ok (.goto (-42), 3) := by decide +kernel
theorem d_X_findNotices_96 : decode c_X_findNotices 96 = .ok (.iinc 5 1, 3) := by decide +kernel
theorem d_X_findNotices_99 : decode c_X_findNotices 99 = .ok (.goto (-67), 3) := by decide +kernel
theorem d_X_findNotices_102 : decode c_X_findNotices 102 = .ok (.lload_n 3, 1) := by decide +kernel
theorem d_X_findNotices_103 : decode c_X_findNotices 103 = .ok (.lreturn, 1) := by decide +kernel
theorem d_X_tests_0 : decode c_X_tests 0 = .ok (.iload_n 1, 1) := by decide +kernel
theorem d_X_tests_1 : decode c_X_tests 1 = .ok (.invokestatic 101, 3) := by decide +kernel
theorem d_X_tests_4 : decode c_X_tests 4 = .ok (.ifCond .ne 5, 3) := by decide +kernel
theorem d_X_tests_7 : decode c_X_tests 7 = .ok (.iconst (-1), 1) := by decide +kernel
theorem d_X_tests_8 : decode c_X_tests 8 = .ok (.ireturn, 1) := by decide +kernel
theorem d_X_tests_9 : decode c_X_tests 9 = .ok (.aload_n 0, 1) := by decide +kernel
theorem d_X_tests_10 : decode c_X_tests 10 = .ok (.aload_n 0, 1) := by decide +kernel
theorem d_X_tests_11 : decode c_X_tests 11 = .ok (.getfield 11, 3) := by decide +kernel
theorem d_X_tests_14 : decode c_X_tests 14 = .ok (.iload_n 1, 1) := by decide +kernel
theorem d_X_tests_15 : decode c_X_tests 15 = .ok (.aaload, 1) := by decide +kernel
theorem d_X_tests_16 : decode c_X_tests 16 = .ok (.iconst (-1), 1) := by decide +kernel
theorem d_X_tests_17 : decode c_X_tests 17 = .ok (.invokevirtual 279, 3) := by decide +kernel
theorem d_X_tests_20 : decode c_X_tests 20 = .ok (.ifCond .ne 6, 3) := by decide +kernel
theorem d_X_tests_23 : decode c_X_tests 23 = .ok (.bipush (-2), 2) := by decide +kernel
theorem d_X_tests_25 : decode c_X_tests 25 = .ok (.ireturn, 1) := by decide +kernel
theorem d_X_tests_26 : decode c_X_tests 26 = .ok (.iconst 1, 1) := by decide +kernel
theorem d_X_tests_27 : decode c_X_tests 27 = .ok (.aload_n 0, 1) := by decide +kernel
theorem d_X_tests_28 : decode c_X_tests 28 = .ok (.getfield 11, 3) := by decide +kernel
theorem d_X_tests_31 : decode c_X_tests 31 = .ok (.iload_n 1, 1) := by decide +kernel
theorem d_X_tests_32 : decode c_X_tests 32 = .ok (.aaload, 1) := by decide +kernel
theorem d_X_tests_33 : decode c_X_tests 33 = .ok (.getfield 111, 3) := by decide +kernel
theorem d_X_tests_36 : decode c_X_tests 36 = .ok (.ishl, 1) := by decide +kernel
theorem d_X_tests_37 : decode c_X_tests 37 = .ok (.istore_n 2, 1) := by decide +kernel
theorem d_X_tests_38 : decode c_X_tests 38 = .ok (.aload_n 0, 1) := by decide +kernel
theorem d_X_tests_39 : decode c_X_tests 39 = .ok (.aload_n 0, 1) := by decide +kernel
theorem d_X_tests_40 : decode c_X_tests 40 = .ok (.getfield 11, 3) := by decide +kernel
theorem d_X_tests_43 : decode c_X_tests 43 = .ok (.iload_n 1, 1) := by decide +kernel
theorem d_X_tests_44 : decode c_X_tests 44 = .ok (.aaload, 1) := by decide +kernel
theorem d_X_tests_45 : decode c_X_tests 45 = .ok (.invokevirtual 296, 3) := by decide +kernel
theorem d_X_tests_48 : decode c_X_tests 48 = .ok (.lstore_n 3, 1) := by decide +kernel
theorem d_X_tests_49 : decode c_X_tests 49 = .ok (.aload_n 0, 1) := by decide +kernel
theorem d_X_tests_50 : decode c_X_tests 50 = .ok (.getfield 37, 3) := by decide +kernel
theorem d_X_tests_53 : decode c_X_tests 53 = .ok (.invokevirtual 108, 3) := by decide +kernel
theorem d_X_tests_56 : decode c_X_tests 56 = .ok (.iconst 0, 1) := by decide +kernel
theorem d_X_tests_57 : decode c_X_tests 57 = .ok (.istore 5, 2) := by decide +kernel
theorem d_X_tests_59 : decode c_X_tests 59 = .ok (.lload_n 3, 1) := by decide +kernel
theorem d_X_tests_60 : decode c_X_tests 60 = .ok (.lconst 0, 1) := by decide +kernel
theorem d_X_tests_61 : decode c_X_tests 61 = .ok (.lcmp, 1) := by decide +kernel
theorem d_X_tests_62 : decode c_X_tests 62 = .ok (.ifCond .eq 89, 3) := by decide +kernel
theorem d_X_tests_65 : decode c_X_tests 65 = .ok (.iload 5, 2) := by decide +kernel
theorem d_X_tests_67 : decode c_X_tests 67 = .ok (.bipush 60, 2) := by decide +kernel
theorem d_X_tests_69 : decode c_X_tests 69 = .ok (.if_icmp .ge 82, 3) := by decide +kernel
theorem d_X_tests_72 : decode c_X_tests 72 = .ok (.iconst 0, 1) := by decide +kernel
theorem d_X_tests_73 : decode c_X_tests 73 = .ok (.istore 6, 2) := by decide +kernel
theorem d_X_tests_75 : decode c_X_tests 75 = .ok (.iconst 1, 1) := by decide +kernel
theorem d_X_tests_76 : decode c_X_tests 76 = .ok (.istore 7, 2) := by decide +kernel
theorem d_X_tests_78 : decode c_X_tests 78 = .ok (.iload 7, 2) := by decide +kernel
theorem d_X_tests_80 : decode c_X_tests 80 = .ok (.iload_n 2, 1) := by decide +kernel
theorem d_X_tests_81 : decode c_X_tests 81 = .ok (.if_icmp .ge 40, 3) := by decide +kernel
theorem d_X_tests_84 : decode c_X_tests 84 = .ok (.aload_n 0, 1) := by decide +kernel
theorem d_X_tests_85 : decode c_X_tests 85 = .ok (.getfield 69, 3) := by decide +kernel
theorem d_X_tests_88 : decode c_X_tests 88 = .ok (.iload 7, 2) := by decide +kernel
theorem d_X_tests_90 : decode c_X_tests 90 = .ok (.laload, 1) := by decide +kernel
theorem d_X_tests_91 : decode c_X_tests 91 = .ok (.lload_n 3, 1) := by decide +kernel
theorem d_X_tests_92 : decode c_X_tests 92 = .ok (.land, 1) := by decide +kernel
theorem d_X_tests_93 : decode c_X_tests 93 = .ok (.invokestatic 273, 3) := by decide +kernel
theorem d_X_tests_96 : decode c_X_tests 96 = .ok (.aload_n 0, 1) := by decide +kernel
theorem d_X_tests_97 : decode c_X_tests 97 = .ok (.getfield 69, 3) := by decide +kernel
theorem d_X_tests_100 : decode c_X_tests 100 = .ok (.iload 6, 2) := by decide +kernel
theorem d_X_tests_102 : decode c_X_tests 102 = .ok (.laload, 1) := by decide +kernel
theorem d_X_tests_103 : decode c_X_tests 103 = .ok (.lload_n 3, 1) := by decide +kernel
theorem d_X_tests_104 : decode c_X_tests 104 = .ok (.land, 1) := by decide +kernel
theorem d_X_tests_105 : decode c_X_tests 105 = .ok (.invokestatic 273, 3) := by decide +kernel
theorem d_X_tests_108 : decode c_X_tests 108 = .ok (.if_icmp .le 7, 3) := by decide +kernel
theorem d_X_tests_111 : decode c_X_tests 111 = .ok (.iload 7, 2) := by decide +kernel
theorem d_X_tests_113 : decode c_X_tests 113 = .ok (.istore 6, 2) := by decide +kernel
theorem d_X_tests_115 : decode c_X_tests 115 = .ok (.iinc 7 1, 3) := by decide +kernel
theorem d_X_tests_118 : decode c_X_tests 118 = .ok (.goto (-40), 3) := by decide +kernel
theorem d_X_tests_121 : decode c_X_tests 121 = .ok (.aload_n 0, 1) := by decide +kernel
theorem d_X_tests_122 : decode c_X_tests 122 = .ok (.getfield 37, 3) := by decide +kernel
theorem d_X_tests_125 : decode c_X_tests 125 = .ok (.iload 6, 2) := by decide +kernel
theorem d_X_tests_127 : decode c_X_tests 127 = .ok (.i2l, 1) := by decide +kernel
theorem d_X_tests_128 : decode c_X_tests 128 = .ok (.invokevirtual 118, 3) := by decide +kernel
theorem d_X_tests_131 : decode c_X_tests 131 = .ok (.lload_n 3, 1) := by decide +kernel
theorem d_X_tests_132 : decode c_X_tests 132 = .ok (.aload_n 0, 1) := by decide +kernel
theorem d_X_tests_133 : decode c_X_tests 133 = .ok (.getfield 69, 3) := by decide +kernel
theorem d_X_tests_136 : decode c_X_tests 136 = .ok (.iload 6, 2) := by decide +kernel
theorem d_X_tests_138 : decode c_X_tests 138 = .ok (.laload, 1) := by decide +kernel
theorem d_X_tests_139 : decode c_X_tests 139 = .ok (.ldc2_w 264, 3) := by decide +kernel
theorem d_X_tests_142 : decode c_X_tests 142 = .ok (.lxor, 1) := by decide +kernel
theorem d_X_tests_143 : decode c_X_tests 143 = .ok (.land, 1) := by decide +kernel
theorem d_X_tests_144 : decode c_X_tests 144 = .ok (.lstore_n 3, 1) := by decide +kernel
theorem d_X_tests_145 : decode c_X_tests 145 = .ok (.iinc 5 1, 3) := by decide +kernel
theorem d_X_tests_148 : decode c_X_tests 148 = .ok (.goto (-89), 3) := by decide +kernel
theorem d_X_tests_151 : decode c_X_tests 151 = .ok (.aload_n 0, 1) := by decide +kernel
theorem d_X_tests_152 : decode c_X_tests 152 = .ok (.getfield 37, 3) := by decide +kernel
theorem d_X_tests_155 : decode c_X_tests 155 = .ok (.getfield 300, 3) := by decide +kernel
theorem d_X_tests_158 : decode c_X_tests 158 = .ok (.ireturn, 1) := by decide +kernel
theorem d_X_helps_0 : decode c_X_helps 0 = .ok (.iload_n 1, 1) := by decide +kernel
theorem d_X_helps_1 : decode c_X_helps 1 = .ok (.invokestatic 101, 3) := by decide +kernel
theorem d_X_helps_4 : decode c_X_helps 4 = .ok (.ifCond .ne 5, 3) := by decide +kernel
theorem d_X_helps_7 : decode c_X_helps 7 = .ok (.iconst (-1), 1) := by decide +kernel
theorem d_X_helps_8 : decode c_X_helps 8 = .ok (.ireturn, 1) := by decide +kernel
theorem d_X_helps_9 : decode c_X_helps 9 = .ok (.aload_n 0, 1) := by decide +kernel
theorem d_X_helps_10 : decode c_X_helps 10 = .ok (.getfield 11, 3) := by decide +kernel
theorem d_X_helps_13 : decode c_X_helps 13 = .ok (.iload_n 1, 1) := by decide +kernel
theorem d_X_helps_14 : decode c_X_helps 14 = .ok (.aaload, 1) := by decide +kernel
theorem d_X_helps_15 : decode c_X_helps 15 = .ok (.getfield 111, 3) := by decide +kernel
theorem d_X_helps_18 : decode c_X_helps 18 = .ok (.istore_n 2, 1) := by decide +kernel
theorem d_X_helps_19 : decode c_X_helps 19 = .ok (.aload_n 0, 1) := by decide +kernel
theorem d_X_helps_20 : decode c_X_helps 20 = .ok (.getfield 55, 3) := by decide +kernel
theorem d_X_helps_23 : decode c_X_helps 23 = .ok (.iload_n 2, 1) := by decide +kernel
theorem d_X_helps_24 : decode c_X_helps 24 = .ok (.invokevirtual 266, 3) := by decide +kernel
theorem d_X_helps_27 : decode c_X_helps 27 = .ok (.aload_n 0, 1) := by decide +kernel
theorem d_X_helps_28 : decode c_X_helps 28 = .ok (.getfield 55, 3) := by decide +kernel
theorem d_X_helps_31 : decode c_X_helps 31 = .ok (.aload_n 0, 1) := by decide +kernel
theorem d_X_helps_32 : decode c_X_helps 32 = .ok (.getfield 11, 3) := by decide +kernel
theorem d_X_helps_35 : decode c_X_helps 35 = .ok (.iload_n 1, 1) := by decide +kernel
theorem d_X_helps_36 : decode c_X_helps 36 = .ok (.aaload, 1) := by decide +kernel
theorem d_X_helps_37 : decode c_X_helps 37 = .ok (.iconst 0, 1) := by decide +kernel
theorem d_X_helps_38 : decode c_X_helps 38 = .ok (.aload_n 0, 1) := by decide +kernel
theorem d_X_helps_39 : decode c_X_helps 39 = .ok (.getfield 11, 3) := by decide +kernel
theorem d_X_helps_42 : decode c_X_helps 42 = .ok (.iload_n 1, 1) := by decide +kernel
theorem d_X_helps_43 : decode c_X_helps 43 = .ok (.aaload, 1) := by decide +kernel
theorem d_X_helps_44 : decode c_X_helps 44 = .ok (.getfield 121, 3) := by decide +kernel
theorem d_X_helps_47 : decode c_X_helps 47 = .ok (.invokevirtual 285, 3) := by decide +kernel
theorem d_X_helps_50 : decode c_X_helps 50 = .ok (.iconst (-1), 1) := by decide +kernel
theorem d_X_helps_51 : decode c_X_helps 51 = .ok (.istore_n 3, 1) := by decide +kernel
theorem d_X_helps_52 : decode c_X_helps 52 = .ok (.sipush 256, 3) := by decide +kernel
theorem d_X_helps_55 : decode c_X_helps 55 = .ok (.istore 4, 2) := by decide +kernel
theorem d_X_helps_57 : decode c_X_helps 57 = .ok (.iconst 0, 1) := by decide +kernel
theorem d_X_helps_58 : decode c_X_helps 58 = .ok (.istore 5, 2) := by decide +kernel
theorem d_X_helps_60 : decode c_X_helps 60 = .ok (.iload 5, 2) := by decide +kernel
theorem d_X_helps_62 : decode c_X_helps 62 = .ok (.iload_n 2, 1) := by decide +kernel
theorem d_X_helps_63 : decode c_X_helps 63 = .ok (.iconst 1, 1) := by decide +kernel
theorem d_X_helps_64 : decode c_X_helps 64 = .ok (.isub, 1) := by decide +kernel
theorem d_X_helps_65 : decode c_X_helps 65 = .ok (.if_icmp .ge 88, 3) := by decide +kernel
theorem d_X_helps_68 : decode c_X_helps 68 = .ok (.iload 5, 2) := by decide +kernel
theorem d_X_helps_70 : decode c_X_helps 70 = .ok (.iconst 1, 1) := by decide +kernel
theorem d_X_helps_71 : decode c_X_helps 71 = .ok (.iadd, 1) := by decide +kernel
theorem d_X_helps_72 : decode c_X_helps 72 = .ok (.istore 6, 2) := by decide +kernel
theorem d_X_helps_74 : decode c_X_helps 74 = .ok (.iload 6, 2) := by decide +kernel
theorem d_X_helps_76 : decode c_X_helps 76 = .ok (.iload_n 2, 1) := by decide +kernel
theorem d_X_helps_77 : decode c_X_helps 77 = .ok (.if_icmp .ge 70, 3) := by decide +kernel
theorem d_X_helps_80 : decode c_X_helps 80 = .ok (.aload_n 0, 1) := by decide +kernel
theorem d_X_helps_81 : decode c_X_helps 81 = .ok (.getfield 51, 3) := by decide +kernel
theorem d_X_helps_84 : decode c_X_helps 84 = .ok (.aload_n 0, 1) := by decide +kernel
theorem d_X_helps_85 : decode c_X_helps 85 = .ok (.getfield 55, 3) := by decide +kernel
theorem d_X_helps_88 : decode c_X_helps 88 = .ok (.invokevirtual 301, 3) := by decide +kernel
theorem d_X_helps_91 : decode c_X_helps 91 = .ok (.aload_n 0, 1) := by decide +kernel
theorem d_X_helps_92 : decode c_X_helps 92 = .ok (.getfield 51, 3) := by decide +kernel
theorem d_X_helps_95 : decode c_X_helps 95 = .ok (.iload 5, 2) := by decide +kernel
theorem d_X_helps_97 : decode c_X_helps 97 = .ok (.iload 6, 2) := by decide +kernel
theorem d_X_helps_99 : decode c_X_helps 99 = .ok (.invokevirtual 270, 3) := by decide +kernel
theorem d_X_helps_102 : decode c_X_helps 102 = .ok (.aload_n 0, 1) := by decide +kernel
theorem d_X_helps_103 : decode c_X_helps 103 = .ok (.getfield 51, 3) := by decide +kernel
theorem d_X_helps_106 : decode c_X_helps 106 = .ok (.aload_n 0, 1) := by decide +kernel
theorem d_X_helps_107 : decode c_X_helps 107 = .ok (.getfield 61, 3) := by decide +kernel
theorem d_X_helps_110 : decode c_X_helps 110 = .ok (.invokevirtual 292, 3) := by decide +kernel
theorem d_X_helps_113 : decode c_X_helps 113 = .ok (.aload_n 0, 1) := by decide +kernel
theorem d_X_helps_114 : decode c_X_helps 114 = .ok (.getfield 61, 3) := by decide +kernel
theorem d_X_helps_117 : decode c_X_helps 117 = .ok (.invokevirtual 161, 3) := by decide +kernel
theorem d_X_helps_120 : decode c_X_helps 120 = .ok (.istore 7, 2) := by decide +kernel
theorem d_X_helps_122 : decode c_X_helps 122 = .ok (.iload 7, 2) := by decide +kernel
theorem d_X_helps_124 : decode c_X_helps 124 = .ok (.iload 4, 2) := by decide +kernel
theorem d_X_helps_126 : decode c_X_helps 126 = .ok (.if_icmp .ge 15, 3) := by decide +kernel
theorem d_X_helps_129 : decode c_X_helps 129 = .ok (.iload 7, 2) := by decide +kernel
theorem d_X_helps_131 : decode c_X_helps 131 = .ok (.istore 4, 2) := by decide +kernel
theorem d_X_helps_133 : decode c_X_helps 133 = .ok (.iload 5, 2) := by decide +kernel
theorem d_X_helps_135 : decode c_X_helps 135 = .ok (.iload 6, 2) := by decide +kernel
theorem d_X_helps_137 : decode c_X_helps 137 = .ok (.invokestatic 214, 3) := by decide +kernel
theorem d_X_helps_140 : decode c_X_helps 140 = .ok (.istore_n 3, 1) := by decide +kernel
theorem d_X_helps_141 : decode c_X_helps 141 = .ok (.iinc 6 1, 3) := by decide +kernel
theorem d_X_helps_144 : decode c_X_helps 144 = .ok (.goto (-70), 3) := by decide +kernel
theorem d_X_helps_147 : decode c_X_helps 147 = .ok (.iinc 5 1, 3) := by decide +kernel
theorem d_X_helps_150 : decode c_X_helps 150 = .ok (.goto (-90), 3) := by decide +kernel
theorem d_X_helps_153 : decode c_X_helps 153 = .ok (.aload_n 0, 1) := by decide +kernel
theorem d_X_helps_154 : decode c_X_helps 154 = .ok (.getfield 37, 3) := by decide +kernel
theorem d_X_helps_157 : decode c_X_helps 157 = .ok (.invokevirtual 108, 3) := by decide +kernel
theorem d_X_helps_160 : decode c_X_helps 160 = .ok (.aload_n 0, 1) := by decide +kernel
theorem d_X_helps_161 : decode c_X_helps 161 = .ok (.getfield 37, 3) := by decide +kernel
theorem d_X_helps_164 : decode c_X_helps 164 = .ok (.iload 4, 2) := by decide +kernel
theorem d_X_helps_166 : decode c_X_helps 166 = .ok (.i2l, 1) := by decide +kernel
theorem d_X_helps_167 : decode c_X_helps 167 = .ok (.invokevirtual 118, 3) := by decide +kernel
theorem d_X_helps_170 : decode c_X_helps 170 = .ok (.iload_n 3, 1) := by decide +kernel
theorem d_X_helps_171 : decode c_X_helps 171 = .ok (.ireturn, 1) := by decide +kernel
theorem d_X_same_0 : decode c_X_same 0 = .ok (.iload_n 1, 1) := by decide +kernel
theorem d_X_same_1 : decode c_X_same 1 = .ok (.invokestatic 101, 3) := by decide +kernel
theorem d_X_same_4 : decode c_X_same 4 = .ok (.ifCond .eq 10, 3) := by decide +kernel
theorem d_X_same_7 : decode c_X_same 7 = .ok (.iload_n 2, 1) := by decide +kernel
theorem d_X_same_8 : decode c_X_same 8 = .ok (.invokestatic 101, 3) := by decide +kernel
theorem d_X_same_11 : decode c_X_same 11 = .ok (.ifCond .ne 5, 3) := by decide +kernel
theorem d_X_same_14 : decode c_X_same 14 = .ok (.iconst (-1), 1) := by decide +kernel
theorem d_X_same_15 : decode c_X_same 15 = .ok (.ireturn, 1) := by decide +kernel
theorem d_X_same_16 : decode c_X_same 16 = .ok (.aload_n 0, 1) := by decide +kernel
theorem d_X_same_17 : decode c_X_same 17 = .ok (.getfield 11, 3) := by decide +kernel
theorem d_X_same_20 : decode c_X_same 20 = .ok (.iload_n 1, 1) := by decide +kernel
theorem d_X_same_21 : decode c_X_same 21 = .ok (.aaload, 1) := by decide +kernel
theorem d_X_same_22 : decode c_X_same 22 = .ok (.getfield 111, 3) := by decide +kernel
theorem d_X_same_25 : decode c_X_same 25 = .ok (.aload_n 0, 1) := by decide +kernel
theorem d_X_same_26 : decode c_X_same 26 = .ok (.getfield 11, 3) := by decide +kernel
theorem d_X_same_29 : decode c_X_same 29 = .ok (.iload_n 2, 1) := by decide +kernel
theorem d_X_same_30 : decode c_X_same 30 = .ok (.aaload, 1) := by decide +kernel
theorem d_X_same_31 : decode c_X_same 31 = .ok (.getfield 111, 3) := by decide +kernel
theorem d_X_same_34 : decode c_X_same 34 = .ok (.if_icmp .eq 6, 3) := by decide +kernel
theorem d_X_same_37 : decode c_X_same 37 = .ok (.bipush (-2), 2) := by decide +kernel
theorem d_X_same_39 : decode c_X_same 39 = .ok (.ireturn, 1) := by decide +kernel
theorem d_X_same_40 : decode c_X_same 40 = .ok (.aload_n 0, 1) := by decide +kernel
theorem d_X_same_41 : decode c_X_same 41 = .ok (.getfield 51, 3) := by decide +kernel
theorem d_X_same_44 : decode c_X_same 44 = .ok (.aload_n 0, 1) := by decide +kernel
theorem d_X_same_45 : decode c_X_same 45 = .ok (.getfield 11, 3) := by decide +kernel
theorem d_X_same_48 : decode c_X_same 48 = .ok (.iload_n 1, 1) := by decide +kernel
theorem d_X_same_49 : decode c_X_same 49 = .ok (.aaload, 1) := by decide +kernel
theorem d_X_same_50 : decode c_X_same 50 = .ok (.getfield 111, 3) := by decide +kernel
theorem d_X_same_53 : decode c_X_same 53 = .ok (.invokevirtual 266, 3) := by decide +kernel
theorem d_X_same_56 : decode c_X_same 56 = .ok (.aload_n 0, 1) := by decide +kernel
theorem d_X_same_57 : decode c_X_same 57 = .ok (.getfield 51, 3) := by decide +kernel
theorem d_X_same_60 : decode c_X_same 60 = .ok (.aload_n 0, 1) := by decide +kernel
theorem d_X_same_61 : decode c_X_same 61 = .ok (.getfield 11, 3) := by decide +kernel
theorem d_X_same_64 : decode c_X_same 64 = .ok (.iload_n 1, 1) := by decide +kernel
theorem d_X_same_65 : decode c_X_same 65 = .ok (.aaload, 1) := by decide +kernel
theorem d_X_same_66 : decode c_X_same 66 = .ok (.iconst 0, 1) := by decide +kernel
theorem d_X_same_67 : decode c_X_same 67 = .ok (.aload_n 0, 1) := by decide +kernel
theorem d_X_same_68 : decode c_X_same 68 = .ok (.getfield 11, 3) := by decide +kernel
theorem d_X_same_71 : decode c_X_same 71 = .ok (.iload_n 1, 1) := by decide +kernel
theorem d_X_same_72 : decode c_X_same 72 = .ok (.aaload, 1) := by decide +kernel
theorem d_X_same_73 : decode c_X_same 73 = .ok (.getfield 121, 3) := by decide +kernel
theorem d_X_same_76 : decode c_X_same 76 = .ok (.invokevirtual 285, 3) := by decide +kernel
theorem d_X_same_79 : decode c_X_same 79 = .ok (.aload_n 0, 1) := by decide +kernel
theorem d_X_same_80 : decode c_X_same 80 = .ok (.getfield 55, 3) := by decide +kernel
theorem d_X_same_83 : decode c_X_same 83 = .ok (.aload_n 0, 1) := by decide +kernel
theorem d_X_same_84 : decode c_X_same 84 = .ok (.getfield 11, 3) := by decide +kernel
theorem d_X_same_87 : decode c_X_same 87 = .ok (.iload_n 2, 1) := by decide +kernel
theorem d_X_same_88 : decode c_X_same 88 = .ok (.aaload, 1) := by decide +kernel
theorem d_X_same_89 : decode c_X_same 89 = .ok (.getfield 111, 3) := by decide +kernel
theorem d_X_same_92 : decode c_X_same 92 = .ok (.invokevirtual 266, 3) := by decide +kernel
theorem d_X_same_95 : decode c_X_same 95 = .ok (.aload_n 0, 1) := by decide +kernel
theorem d_X_same_96 : decode c_X_same 96 = .ok (.getfield 55, 3) := by decide +kernel
theorem d_X_same_99 : decode c_X_same 99 = .ok (.aload_n 0, 1) := by decide +kernel
theorem d_X_same_100 : decode c_X_same 100 = .ok (.getfield 11, 3) := by decide +kernel
theorem d_X_same_103 : decode c_X_same 103 = .ok (.iload_n 2, 1) := by decide +kernel
theorem d_X_same_104 : decode c_X_same 104 = .ok (.aaload, 1) := by decide +kernel
theorem d_X_same_105 : decode c_X_same 105 = .ok (.iconst 0, 1) := by decide +kernel
theorem d_X_same_106 : decode c_X_same 106 = .ok (.aload_n 0, 1) := by decide +kernel
theorem d_X_same_107 : decode c_X_same 107 = .ok (.getfield 11, 3) := by decide +kernel
theorem d_X_same_110 : decode c_X_same 110 = .ok (.iload_n 2, 1) := by decide +kernel
theorem d_X_same_111 : decode c_X_same 111 = .ok (.aaload, 1) := by decide +kernel
theorem d_X_same_112 : decode c_X_same 112 = .ok (.getfield 121, 3) := by decide +kernel
theorem d_X_same_115 : decode c_X_same 115 = .ok (.invokevirtual 285, 3) := by decide +kernel
theorem d_X_same_118 : decode c_X_same 118 = .ok (.aload_n 0, 1) := by decide +kernel
theorem d_X_same_119 : decode c_X_same 119 = .ok (.getfield 51, 3) := by decide +kernel
theorem d_X_same_122 : decode c_X_same 122 = .ok (.aload_n 0, 1) := by decide +kernel
theorem d_X_same_123 : decode c_X_same 123 = .ok (.getfield 55, 3) := by decide +kernel
theorem d_X_same_126 : decode c_X_same 126 = .ok (.aload_n 0, 1) := by decide +kernel
theorem d_X_same_127 : decode c_X_same 127 = .ok (.getfield 61, 3) := by decide +kernel
theorem d_X_same_130 : decode c_X_same 130 = .ok (.invokevirtual 304, 3) := by decide +kernel
theorem d_X_same_133 : decode c_X_same 133 = .ok (.aload_n 0, 1) := by decide +kernel
theorem d_X_same_134 : decode c_X_same 134 = .ok (.getfield 37, 3) := by decide +kernel
theorem d_X_same_137 : decode c_X_same 137 = .ok (.invokevirtual 108, 3) := by decide +kernel
theorem d_X_same_140 : decode c_X_same 140 = .ok (.aload_n 0, 1) := by decide +kernel
theorem d_X_same_141 : decode c_X_same 141 = .ok (.getfield 37, 3) := by decide +kernel
theorem d_X_same_144 : decode c_X_same 144 = .ok (.aload_n 0, 1) := by decide +kernel
theorem d_X_same_145 : decode c_X_same 145 = .ok (.getfield 61, 3) := by decide +kernel
theorem d_X_same_148 : decode c_X_same 148 = .ok (.invokevirtual 161, 3) := by decide +kernel
theorem d_X_same_151 : decode c_X_same 151 = .ok (.i2l, 1) := by decide +kernel
theorem d_X_same_152 : decode c_X_same 152 = .ok (.invokevirtual 118, 3) := by decide +kernel
theorem d_X_same_155 : decode c_X_same 155 = .ok (.aload_n 0, 1) := by decide +kernel
theorem d_X_same_156 : decode c_X_same 156 = .ok (.getfield 37, 3) := by decide +kernel
theorem d_X_same_159 : decode c_X_same 159 = .ok (.aload_n 0, 1) := by decide +kernel
theorem d_X_same_160 : decode c_X_same 160 = .ok (.getfield 61, 3) := by decide +kernel
theorem d_X_same_163 : decode c_X_same 163 = .ok (.invokevirtual 233, 3) := by decide +kernel
theorem d_X_same_166 : decode c_X_same 166 = .ok (.i2l, 1) := by decide +kernel
theorem d_X_same_167 : decode c_X_same 167 = .ok (.invokevirtual 118, 3) := by decide +kernel
theorem d_X_same_170 : decode c_X_same 170 = .ok (.aload_n 0, 1) := by decide +kernel
theorem d_X_same_171 : decode c_X_same 171 = .ok (.getfield 61, 3) := by decide +kernel
theorem d_X_same_174 : decode c_X_same 174 = .ok (.invokevirtual 236, 3) := by decide +kernel
theorem d_X_same_177 : decode c_X_same 177 = .ok (.ifCond .eq 7, 3) := by decide +kernel
theorem d_X_same_180 : decode c_X_same 180 = .ok (.iconst 1, 1) := by decide +kernel
theorem d_X_same_181 : decode c_X_same 181 = .ok (.goto 4, 3) := by decide +kernel
theorem d_X_same_184 : decode c_X_same 184 = .ok (.iconst 0, 1) := by decide +kernel
theorem d_X_same_185 : decode c_X_same 185 = .ok (.ireturn, 1) := by decide +kernel
theorem d_X_smallImage_0 : decode c_X_smallImage 0 = .ok (.aload_n 0, 1) := by decide +kernel
theorem d_X_smallImage_1 : decode c_X_smallImage 1 = .ok (.aload_n 1, 1) := by decide +kernel
theorem d_X_smallImage_2 : decode c_X_smallImage 2 = .ok (.invokevirtual 240, 3) := by decide +kernel
theorem d_X_smallImage_5 : decode c_X_smallImage 5 = .ok (.aload_n 0, 1) := by decide +kernel
theorem d_X_smallImage_6 : decode c_X_smallImage 6 = .ok (.getfield 61, 3) := by decide +kernel
theorem d_X_smallImage_9 : decode c_X_smallImage 9 = .ok (.getfield 361, 3) := by decide +kernel
theorem d_X_smallImage_12 : decode c_X_smallImage 12 = .ok (.iconst 0, 1) := by decide +kernel
theorem d_X_smallImage_13 : decode c_X_smallImage 13 = .ok (.laload, 1) := by decide +kernel
theorem d_X_smallImage_14 : decode c_X_smallImage 14 = .ok (.lreturn, 1) := by decide +kernel
theorem d_X_within_0 : decode c_X_within 0 = .ok (.iload_n 1, 1) := by decide +kernel
theorem d_X_within_1 : decode c_X_within 1 = .ok (.invokestatic 101, 3) := by decide +kernel
theorem d_X_within_4 : decode c_X_within 4 = .ok (.ifCond .eq 10, 3) := by decide +kernel
theorem d_X_within_7 : decode c_X_within 7 = .ok (.iload_n 2, 1) := by decide +kernel
theorem d_X_within_8 : decode c_X_within 8 = .ok (.invokestatic 101, 3) := by decide +kernel
theorem d_X_within_11 : decode c_X_within 11 = .ok (.ifCond .ne 5, 3) := by decide +kernel
theorem d_X_within_14 : decode c_X_within 14 = .ok (.iconst (-1), 1) := by decide +kernel
theorem d_X_within_15 : decode c_X_within 15 = .ok (.ireturn, 1) := by decide +kernel
theorem d_X_within_16 : decode c_X_within 16 = .ok (.aload_n 0, 1) := by decide +kernel
theorem d_X_within_17 : decode c_X_within 17 = .ok (.getfield 11, 3) := by decide +kernel
theorem d_X_within_20 : decode c_X_within 20 = .ok (.iload_n 1, 1) := by decide +kernel
theorem d_X_within_21 : decode c_X_within 21 = .ok (.aaload, 1) := by decide +kernel
theorem d_X_within_22 : decode c_X_within 22 = .ok (.getfield 111, 3) := by decide +kernel
theorem d_X_within_25 : decode c_X_within 25 = .ok (.istore_n 3, 1) := by decide +kernel
theorem d_X_within_26 : decode c_X_within 26 = .ok (.iload_n 3, 1) := by decide +kernel
theorem d_X_within_27 : decode c_X_within 27 = .ok (.aload_n 0, 1) := by decide +kernel
theorem d_X_within_28 : decode c_X_within 28 = .ok (.getfield 11, 3) := by decide +kernel
theorem d_X_within_31 : decode c_X_within 31 = .ok (.iload_n 2, 1) := by decide +kernel
theorem d_X_within_32 : decode c_X_within 32 = .ok (.aaload, 1) := by decide +kernel
theorem d_X_within_33 : decode c_X_within 33 = .ok (.getfield 111, 3) := by decide +kernel
theorem d_X_within_36 : decode c_X_within 36 = .ok (.if_icmp .eq 6, 3) := by decide +kernel
theorem d_X_within_39 : decode c_X_within 39 = .ok (.bipush (-2), 2) := by decide +kernel
theorem d_X_within_41 : decode c_X_within 41 = .ok (.ireturn, 1) := by decide +kernel
theorem d_X_within_42 : decode c_X_within 42 = .ok (.iload_n 3, 1) := by decide +kernel
theorem d_X_within_43 : decode c_X_within 43 = .ok (.bipush 6, 2) := by decide +kernel
theorem d_X_within_45 : decode c_X_within 45 = .ok (.if_icmp .le 6, 3) := by decide +kernel
theorem d_X_within_48 : decode c_X_within 48 = .ok (.bipush (-3), 2) := by decide +kernel
theorem d_X_within_50 : decode c_X_within 50 = .ok (.ireturn, 1) := by decide +kernel
theorem d_X_within_51 : decode c_X_within 51 = .ok (.aload_n 0, 1) := by decide +kernel
theorem d_X_within_52 : decode c_X_within 52 = .ok (.aload_n 0, 1) := by decide +kernel
theorem d_X_within_53 : decode c_X_within 53 = .ok (.getfield 11, 3) := by decide +kernel
theorem d_X_within_56 : decode c_X_within 56 = .ok (.iload_n 1, 1) := by decide +kernel
theorem d_X_within_57 : decode c_X_within 57 = .ok (.aaload, 1) := by decide +kernel
theorem d_X_within_58 : decode c_X_within 58 = .ok (.invokevirtual 308, 3) := by decide +kernel
theorem d_X_within_61 : decode c_X_within 61 = .ok (.aload_n 0, 1) := by decide +kernel
theorem d_X_within_62 : decode c_X_within 62 = .ok (.aload_n 0, 1) := by decide +kernel
theorem d_X_within_63 : decode c_X_within 63 = .ok (.getfield 11, 3) := by decide +kernel
theorem d_X_within_66 : decode c_X_within 66 = .ok (.iload_n 2, 1) := by decide +kernel
theorem d_X_within_67 : decode c_X_within 67 = .ok (.aaload, 1) := by decide +kernel
theorem d_X_within_68 : decode c_X_within 68 = .ok (.invokevirtual 308, 3) := by decide +kernel
theorem d_X_within_71 : decode c_X_within 71 = .ok (.iload_n 3, 1) := by decide +kernel
theorem d_X_within_72 : decode c_X_within 72 = .ok (.iconst 0, 1) := by decide +kernel
theorem d_X_within_73 : decode c_X_within 73 = .ok (.sipush 720, 3) := by decide +kernel
theorem d_X_within_76 : decode c_X_within 76 = .ok (.invokestatic 311, 3) := by decide +kernel
theorem d_X_within_79 : decode c_X_within 79 = .ok (.istore 4, 2) := by decide +kernel
theorem d_X_within_81 : decode c_X_within 81 = .ok (.aload_n 0, 1) := by decide +kernel
theorem d_X_within_82 : decode c_X_within 82 = .ok (.getfield 37, 3) := by decide +kernel
theorem d_X_within_85 : decode c_X_within 85 = .ok (.invokevirtual 108, 3) := by decide +kernel
theorem d_X_within_88 : decode c_X_within 88 = .ok (.aload_n 0, 1) := by decide +kernel
theorem d_X_within_89 : decode c_X_within 89 = .ok (.getfield 37, 3) := by decide +kernel
theorem d_X_within_92 : decode c_X_within 92 = .ok (.iload 4, 2) := by decide +kernel
theorem d_X_within_94 : decode c_X_within 94 = .ok (.i2l, 1) := by decide +kernel
theorem d_X_within_95 : decode c_X_within 95 = .ok (.invokevirtual 118, 3) := by decide +kernel
theorem d_X_within_98 : decode c_X_within 98 = .ok (.iload 4, 2) := by decide +kernel
theorem d_X_within_100 : decode c_X_within 100 = .ok (.ifCond .le 7, 3) := by decide +kernel
theorem d_X_within_103 : decode c_X_within 103 = .ok (.iconst 1, 1) := by decide +kernel
theorem d_X_within_104 : decode c_X_within 104 = .ok (.goto 4, 3) := by decide +kernel
theorem d_X_within_107 : decode c_X_within 107 = .ok (.iconst 0, 1) := by decide +kernel
theorem d_X_within_108 : decode c_X_within 108 = .ok (.ireturn, 1) := by decide +kernel
theorem d_X_least_0 : decode c_X_least 0 = .ok (.iload_n 1, 1) := by decide +kernel
theorem d_X_least_1 : decode c_X_least 1 = .ok (.iconst 1, 1) := by decide +kernel
theorem d_X_least_2 : decode c_X_least 2 = .ok (.if_icmp .lt 8, 3) := by decide +kernel
theorem d_X_least_5 : decode c_X_least 5 = .ok (.iload_n 1, 1) := by decide +kernel
theorem d_X_least_6 : decode c_X_least 6 = .ok (.iconst 5, 1) := by decide +kernel
theorem d_X_least_7 : decode c_X_least 7 = .ok (.if_icmp .le 5, 3) := by decide +kernel
theorem d_X_least_10 : decode c_X_least 10 = .ok (.iconst (-1), 1) := by decide +kernel
theorem d_X_least_11 : decode c_X_least 11 = .ok (.ireturn, 1) := by decide +kernel
theorem d_X_least_12 : decode c_X_least 12 = .ok (.aload_n 0, 1) := by decide +kernel
theorem d_X_least_13 : decode c_X_least 13 = .ok (.getfield 85, 3) := by decide +kernel
theorem d_X_least_16 : decode c_X_least 16 = .ok (.iload_n 1, 1) := by decide +kernel
theorem d_X_least_17 : decode c_X_least 17 = .ok (.iconst 0, 1) := by decide +kernel
theorem d_X_least_18 : decode c_X_least 18 = .ok (.aload_n 0, 1) := by decide +kernel
theorem d_X_least_19 : decode c_X_least 19 = .ok (.getfield 37, 3) := by decide +kernel
theorem d_X_least_22 : decode c_X_least 22 = .ok (.invokevirtual 317, 3) := by decide +kernel
theorem d_X_least_25 : decode c_X_least 25 = .ok (.ireturn, 1) := by decide +kernel
theorem d_X_shallow_0 : decode c_X_shallow 0 = .ok (.iload_n 1, 1) := by decide +kernel
theorem d_X_shallow_1 : decode c_X_shallow 1 = .ok (.iconst 1, 1) := by decide +kernel
theorem d_X_shallow_2 : decode c_X_shallow 2 = .ok (.if_icmp .lt 8, 3) := by decide +kernel
theorem d_X_shallow_5 : decode c_X_shallow 5 = .ok (.iload_n 1, 1) := by decide +kernel
theorem d_X_shallow_6 : decode c_X_shallow 6 = .ok (.iconst 5, 1) := by decide +kernel
theorem d_X_shallow_7 : decode c_X_shallow 7 = .ok (.if_icmp .le 5, 3) := by decide +kernel
theorem d_X_shallow_10 : decode c_X_shallow 10 = .ok (.iconst (-1), 1) := by decide +kernel
theorem d_X_shallow_11 : decode c_X_shallow 11 = .ok (.ireturn, 1) := by decide +kernel
theorem d_X_shallow_12 : decode c_X_shallow 12 = .ok (.aload_n 0, 1) := by decide +kernel
theorem d_X_shallow_13 : decode c_X_shallow 13 = .ok (.getfield 85, 3) := by decide +kernel
theorem d_X_shallow_16 : decode c_X_shallow 16 = .ok (.iload_n 1, 1) := by decide +kernel
theorem d_X_shallow_17 : decode c_X_shallow 17 = .ok (.iconst 1, 1) := by decide +kernel
theorem d_X_shallow_18 : decode c_X_shallow 18 = .ok (.aload_n 0, 1) := by decide +kernel
theorem d_X_shallow_19 : decode c_X_shallow 19 = .ok (.getfield 37, 3) := by decide +kernel
theorem d_X_shallow_22 : decode c_X_shallow 22 = .ok (.invokevirtual 317, 3) := by decide +kernel
theorem d_X_shallow_25 : decode c_X_shallow 25 = .ok (.ireturn, 1) := by decide +kernel
theorem d_X_isFinishedBy_0 : decode c_X_isFinishedBy 0 = .ok (.iload_n 3, 1) := by decide +kernel
theorem d_X_isFinishedBy_1 : decode c_X_isFinishedBy 1 = .ok (.iload 4, 2) := by decide +kernel
theorem d_X_isFinishedBy_3 : decode c_X_isFinishedBy 3 = .ok (.if_icmp .ge 10, 3) := by decide +kernel
theorem d_X_isFinishedBy_6 : decode c_X_isFinishedBy 6 = .ok (.iload_n 3, 1) := by decide +kernel
theorem d_X_isFinishedBy_7 : decode c_X_isFinishedBy 7 = .ok (.aload 5, 2) := by decide +kernel
theorem d_X_isFinishedBy_9 : decode c_X_isFinishedBy 9 = .ok (.arraylength, 1) := by decide +kernel
theorem d_X_isFinishedBy_10 : decode c_X_isFinishedBy 10 = .ok (.if_icmp .lt 19, 3) := by decide +kernel
theorem d_X_isFinishedBy_13 : decode c_X_isFinishedBy 13 = .ok (.lload_n 0, 1) := by decide +kernel
theorem d_X_isFinishedBy_14 : decode c_X_isFinishedBy 14 = .ok (.invokestatic 273, 3) := by decide +kernel
theorem d_X_isFinishedBy_17 : decode c_X_isFinishedBy 17 = .ok (.iload_n 2, 1) := by decide +kernel
theorem d_X_isFinishedBy_18 : decode c_X_isFinishedBy 18 = .ok (.iconst 1, 1) := by decide +kernel
theorem d_X_isFinishedBy_19 : decode c_X_isFinishedBy 19 = .ok (.iadd, 1) := by decide +kernel
theorem d_X_isFinishedBy_20 : decode c_X_isFinishedBy 20 = .ok (.if_icmp .ne 7, 3) := by decide +kernel
theorem d_X_isFinishedBy_23 : decode c_X_isFinishedBy 23 = .ok (.iconst 1, 1) := by decide +kernel
theorem d_X_isFinishedBy_24 : decode c_X_isFinishedBy 24 = .ok (.goto 4, 3) := by decide +kernel
theorem d_X_isFinishedBy_27 : decode c_X_isFinishedBy 27 = .ok (.iconst 0, 1) := by decide +kernel
theorem d_X_isFinishedBy_28 : decode c_X_isFinishedBy 28 = .ok (.ireturn, 1) := by decide +kernel
theorem d_X_isFinishedBy_29 : decode c_X_isFinishedBy 29 = .ok (.iconst 0, 1) := by decide +kernel
theorem d_X_isFinishedBy_30 : decode c_X_isFinishedBy 30 = .ok (.istore 6, 2) := by decide +kernel
theorem d_X_isFinishedBy_32 : decode c_X_isFinishedBy 32 = .ok (.iload 6, 2) := by decide +kernel
theorem d_X_isFinishedBy_34 : decode c_X_isFinishedBy 34 = .ok (.iload_n 2, 1) := by decide +kernel
theorem d_X_isFinishedBy_35 : decode c_X_isFinishedBy 35 = .ok (.iconst 1, 1) := by decide +kernel
theorem d_X_isFinishedBy_36 : decode c_X_isFinishedBy 36 = .ok (.isub, 1) := by decide +kernel
theorem d_X_isFinishedBy_37 : decode c_X_isFinishedBy 37 = .ok (.if_icmp .ge 62, 3) := by decide +kernel
theorem d_X_isFinishedBy_40 : decode c_X_isFinishedBy 40 = .ok (.iload 6, 2) := by decide +kernel
theorem d_X_isFinishedBy_42 : decode c_X_isFinishedBy 42 = .ok (.iconst 1, 1) := by decide +kernel
theorem d_X_isFinishedBy_43 : decode c_X_isFinishedBy 43 = .ok (.iadd, 1) := by decide +kernel
theorem d_X_isFinishedBy_44 : decode c_X_isFinishedBy 44 = .ok (.istore 7, 2) := by decide +kernel
theorem d_X_isFinishedBy_46 : decode c_X_isFinishedBy 46 = .ok (.iload 7, 2) := by decide +kernel
theorem d_X_isFinishedBy_48 : decode c_X_isFinishedBy 48 = .ok (.iload_n 2, 1) := by decide +kernel
theorem d_X_isFinishedBy_49 : decode c_X_isFinishedBy 49 = .ok (.if_icmp .ge 44, 3) := by decide +kernel
theorem d_X_isFinishedBy_52 : decode c_X_isFinishedBy 52 = .ok (.aload 5, 2) := by decide +kernel
theorem d_X_isFinishedBy_54 : decode c_X_isFinishedBy 54 = .ok (.iload_n 3, 1) := by decide +kernel
theorem d_X_isFinishedBy_55 : decode c_X_isFinishedBy 55 = .ok (.iload 6, 2) := by decide +kernel
theorem d_X_isFinishedBy_57 : decode c_X_isFinishedBy 57 = .ok (.iload 7, 2) := by decide +kernel
theorem d_X_isFinishedBy_59 : decode c_X_isFinishedBy 59 = .ok (.invokestatic 214, 3) := by decide +kernel
theorem d_X_isFinishedBy_62 : decode c_X_isFinishedBy 62 = .ok (.iastore, 1) := by decide +kernel
theorem d_X_isFinishedBy_63 : decode c_X_isFinishedBy 63 = .ok (.lload_n 0, 1) := by decide +kernel
theorem d_X_isFinishedBy_64 : decode c_X_isFinishedBy 64 = .ok (.iload 6, 2) := by decide +kernel
theorem d_X_isFinishedBy_66 : decode c_X_isFinishedBy 66 = .ok (.iload 7, 2) := by decide +kernel
theorem d_X_isFinishedBy_68 : decode c_X_isFinishedBy 68 = .ok (.invokestatic 367, 3) := by decide +kernel
theorem d_X_isFinishedBy_71 : decode c_X_isFinishedBy 71 = .ok (.iload_n 2, 1) := by decide +kernel
theorem d_X_isFinishedBy_72 : decode c_X_isFinishedBy 72 = .ok (.iload_n 3, 1) := by decide +kernel
theorem d_X_isFinishedBy_73 : decode c_X_isFinishedBy 73 = .ok (.iconst 1, 1) := by decide +kernel
theorem d_X_isFinishedBy_74 : decode c_X_isFinishedBy 74 = .ok (.iadd, 1) := by decide +kernel
theorem d_X_isFinishedBy_75 : decode c_X_isFinishedBy 75 = .ok (.iload 4, 2) := by decide +kernel
theorem d_X_isFinishedBy_77 : decode c_X_isFinishedBy 77 = .ok (.aload 5, 2) := by decide +kernel
theorem d_X_isFinishedBy_79 : decode c_X_isFinishedBy 79 = .ok (.invokestatic 321, 3) := by decide +kernel
theorem d_X_isFinishedBy_82 : decode c_X_isFinishedBy 82 = .ok (.ifCond .eq 5, 3) := by decide +kernel
theorem d_X_isFinishedBy_85 : decode c_X_isFinishedBy 85 = .ok (.iconst 1, 1) := by decide +kernel
theorem d_X_isFinishedBy_86 : decode c_X_isFinishedBy 86 = .ok (.ireturn, 1) := by decide +kernel
theorem d_X_isFinishedBy_87 : decode c_X_isFinishedBy 87 = .ok (.iinc 7 1, 3) := by decide +kernel
theorem d_X_isFinishedBy_90 : decode c_X_isFinishedBy 90 = .ok (.goto (-44), 3) := by decide +kernel
theorem d_X_isFinishedBy_93 : decode c_X_isFinishedBy 93 = .ok (.iinc 6 1, 3) := by decide +kernel
theorem d_X_isFinishedBy_96 : decode c_X_isFinishedBy 96 = .ok (.goto (-64), 3) := by decide +kernel
theorem d_X_isFinishedBy_99 : decode c_X_isFinishedBy 99 = .ok (.iconst 0, 1) := by decide +kernel
theorem d_X_isFinishedBy_100 : decode c_X_isFinishedBy 100 = .ok (.ireturn, 1) := by decide +kernel
theorem d_X_rest_0 : decode c_X_rest 0 = .ok (.iload_n 1, 1) := by decide +kernel
theorem d_X_rest_1 : decode c_X_rest 1 = .ok (.invokestatic 101, 3) := by decide +kernel
theorem d_X_rest_4 : decode c_X_rest 4 = .ok (.ifCond .ne 5, 3) := by decide +kernel
theorem d_X_rest_7 : decode c_X_rest 7 = .ok (.iconst (-1), 1) := by decide +kernel
theorem d_X_rest_8 : decode c_X_rest 8 = .ok (.ireturn, 1) := by decide +kernel
theorem d_X_rest_9 : decode c_X_rest 9 = .ok (.aload_n 0, 1) := by decide +kernel
theorem d_X_rest_10 : decode c_X_rest 10 = .ok (.getfield 11, 3) := by decide +kernel
theorem d_X_rest_13 : decode c_X_rest 13 = .ok (.iload_n 1, 1) := by decide +kernel
theorem d_X_rest_14 : decode c_X_rest 14 = .ok (.aaload, 1) := by decide +kernel
theorem d_X_rest_15 : decode c_X_rest 15 = .ok (.getfield 111, 3) := by decide +kernel
theorem d_X_rest_18 : decode c_X_rest 18 = .ok (.istore_n 2, 1) := by decide +kernel
theorem d_X_rest_19 : decode c_X_rest 19 = .ok (.iload_n 2, 1) := by decide +kernel
theorem d_X_rest_20 : decode c_X_rest 20 = .ok (.iconst 4, 1) := by decide +kernel
theorem d_X_rest_21 : decode c_X_rest 21 = .ok (.if_icmp .le 6, 3) := by decide +kernel
theorem d_X_rest_24 : decode c_X_rest 24 = .ok (.bipush (-2), 2) := by decide +kernel
theorem d_X_rest_26 : decode c_X_rest 26 = .ok (.ireturn, 1) := by decide +kernel
theorem d_X_rest_27 : decode c_X_rest 27 = .ok (.aload_n 0, 1) := by decide +kernel
theorem d_X_rest_28 : decode c_X_rest 28 = .ok (.aload_n 0, 1) := by decide +kernel
theorem d_X_rest_29 : decode c_X_rest 29 = .ok (.getfield 11, 3) := by decide +kernel
theorem d_X_rest_32 : decode c_X_rest 32 = .ok (.iload_n 1, 1) := by decide +kernel
theorem d_X_rest_33 : decode c_X_rest 33 = .ok (.aaload, 1) := by decide +kernel
theorem d_X_rest_34 : decode c_X_rest 34 = .ok (.invokevirtual 308, 3) := by decide +kernel
theorem d_X_rest_37 : decode c_X_rest 37 = .ok (.lstore_n 3, 1) := by decide +kernel
theorem d_X_rest_38 : decode c_X_rest 38 = .ok (.iconst 0, 1) := by decide +kernel
theorem d_X_rest_39 : decode c_X_rest 39 = .ok (.istore 5, 2) := by decide +kernel
theorem d_X_rest_41 : decode c_X_rest 41 = .ok (.iload 5, 2) := by decide +kernel
theorem d_X_rest_43 : decode c_X_rest 43 = .ok (.bipush 6, 2) := by decide +kernel
theorem d_X_rest_45 : decode c_X_rest 45 = .ok (.if_icmp .ge 24, 3) := by decide +kernel
theorem d_X_rest_48 : decode c_X_rest 48 = .ok (.lload_n 3, 1) := by decide +kernel
theorem d_X_rest_49 : decode c_X_rest 49 = .ok (.iload_n 2, 1) := by decide +kernel
theorem d_X_rest_50 : decode c_X_rest 50 = .ok (.iconst 0, 1) := by decide +kernel
theorem d_X_rest_51 : decode c_X_rest 51 = .ok (.iload 5, 2) := by decide +kernel
theorem d_X_rest_53 : decode c_X_rest 53 = .ok (.aload_n 0, 1) := by decide +kernel
theorem d_X_rest_54 : decode c_X_rest 54 = .ok (.getfield 79, 3) := by decide +kernel
theorem d_X_rest_57 : decode c_X_rest 57 = .ok (.invokestatic 321, 3) := by decide +kernel
theorem d_X_rest_60 : decode c_X_rest 60 = .ok (.ifCond .ne 9, 3) := by decide +kernel
theorem d_X_rest_63 : decode c_X_rest 63 = .ok (.iinc 5 1, 3) := by decide +kernel
theorem d_X_rest_66 : decode c_X_rest 66 = .ok (.goto (-25), 3) := by decide +kernel
theorem d_X_rest_69 : decode c_X_rest 69 = .ok (.aload_n 0, 1) := by decide +kernel
theorem d_X_rest_70 : decode c_X_rest 70 = .ok (.aload_n 0, 1) := by decide +kernel
theorem d_X_rest_71 : decode c_X_rest 71 = .ok (.getfield 79, 3) := by decide +kernel
theorem d_X_rest_74 : decode c_X_rest 74 = .ok (.iload 5, 2) := by decide +kernel
theorem d_X_rest_76 : decode c_X_rest 76 = .ok (.invokevirtual 229, 3) := by decide +kernel
theorem d_X_rest_79 : decode c_X_rest 79 = .ok (.iload 5, 2) := by decide +kernel
theorem d_X_rest_81 : decode c_X_rest 81 = .ok (.ireturn, 1) := by decide +kernel
theorem d_X_has_0 : decode c_X_has 0 = .ok (.iload_n 1, 1) := by decide +kernel
theorem d_X_has_1 : decode c_X_has 1 = .ok (.invokestatic 101, 3) := by decide +kernel
theorem d_X_has_4 : decode c_X_has 4 = .ok (.ifCond .eq 12, 3) := by decide +kernel
theorem d_X_has_7 : decode c_X_has 7 = .ok (.iload_n 2, 1) := by decide +kernel
theorem d_X_has_8 : decode c_X_has 8 = .ok (.ifCond .lt 8, 3) := by decide +kernel
theorem d_X_has_11 : decode c_X_has 11 = .ok (.iload_n 2, 1) := by decide +kernel
theorem d_X_has_12 : decode c_X_has 12 = .ok (.iconst 1, 1) := by decide +kernel
theorem d_X_has_13 : decode c_X_has 13 = .ok (.if_icmp .le 5, 3) := by decide +kernel
theorem d_X_has_16 : decode c_X_has 16 = .ok (.iconst (-1), 1) := by decide +kernel
theorem d_X_has_17 : decode c_X_has 17 = .ok (.ireturn, 1) := by decide +kernel
theorem d_X_has_18 : decode c_X_has 18 = .ok (.iload_n 2, 1) := by decide +kernel
theorem d_X_has_19 : decode c_X_has 19 = .ok (.ifCond .ne 15, 3) := by decide +kernel
theorem d_X_has_22 : decode c_X_has 22 = .ok (.aload_n 0, 1) := by decide +kernel
theorem d_X_has_23 : decode c_X_has 23 = .ok (.getfield 11, 3) := by decide +kernel
theorem d_X_has_26 : decode c_X_has 26 = .ok (.iload_n 1, 1) := by decide +kernel
theorem d_X_has_27 : decode c_X_has 27 = .ok (.aaload, 1) := by decide +kernel
theorem d_X_has_28 : decode c_X_has 28 = .ok (.getfield 111, 3) := by decide +kernel
theorem d_X_has_31 : decode c_X_has 31 = .ok (.goto 12, 3) := by decide +kernel
theorem d_X_has_34 : decode c_X_has 34 = .ok (.aload_n 0, 1) := by decide +kernel
theorem d_X_has_35 : decode c_X_has 35 = .ok (.getfield 11, 3) := by decide +kernel
theorem d_X_has_38 : decode c_X_has 38 = .ok (.iload_n 1, 1) := by decide +kernel
theorem d_X_has_39 : decode c_X_has 39 = .ok (.aaload, 1) := by decide +kernel
theorem d_X_has_40 : decode c_X_has 40 = .ok (.getfield 121, 3) := by decide +kernel
theorem d_X_has_43 : decode c_X_has 43 = .ok (.ireturn, 1) := by decide +kernel
theorem d_X_allComparers_0 : decode c_X_allComparers 0 = .ok (.iconst 0, 1) := by decide +kernel
theorem d_X_allComparers_1 : decode c_X_allComparers 1 = .ok (.istore_n 1, 1) := by decide +kernel
theorem d_X_allComparers_2 : decode c_X_allComparers 2 = .ok (.iconst 0, 1) := by decide +kernel
theorem d_X_allComparers_3 : decode c_X_allComparers 3 = .ok (.istore_n 2, 1) := by decide +kernel
theorem d_X_allComparers_4 : decode c_X_allComparers 4 = .ok (.iload_n 2, 1) := by decide +kernel
theorem d_X_allComparers_5 : decode c_X_allComparers 5 = .ok (.iconst 4, 1) := by decide +kernel
theorem d_X_allComparers_6 : decode c_X_allComparers 6 = .ok (.if_icmp .ge 21, 3) := by decide +kernel
theorem d_X_allComparers_9 : decode c_X_allComparers 9 = .ok (.iload_n 1, 1) := by decide +kernel
theorem d_X_allComparers_10 : decode c_X_allComparers 10 = .ok (.aload_n 0, 1) := by decide +kernel
theorem d_X_allComparers_11 : decode c_X_allComparers 11 = .ok (.getfield 11, 3) := by decide +kernel
theorem d_X_allComparers_14 : decode c_X_allComparers 14 = .ok (.iload_n 2, 1) := by decide +kernel
theorem d_X_allComparers_15 : decode c_X_allComparers 15 = .ok (.aaload, 1) := by decide +kernel
theorem d_X_allComparers_16 : decode c_X_allComparers 16 = .ok (.getfield 121, 3) := by decide +kernel
theorem d_X_allComparers_19 : decode c_X_allComparers 19 = .ok (.iadd, 1) := by decide +kernel
theorem d_X_allComparers_20 : decode c_X_allComparers 20 = .ok (.istore_n 1, 1) := by decide +kernel
theorem d_X_allComparers_21 : decode c_X_allComparers 21 = .ok (.iinc 2 1, 3) := by decide +kernel
theorem d_X_allComparers_24 : decode c_X_allComparers 24 = .ok (.goto (-20), 3) := by decide +kernel
theorem d_X_allComparers_27 : decode c_X_allComparers 27 = .ok (.iload_n 1, 1) := by decide +kernel
theorem d_X_allComparers_28 : decode c_X_allComparers 28 = .ok (.ireturn, 1) := by decide +kernel
theorem d_X_count_0 : decode c_X_count 0 = .ok (.iload_n 1, 1) := by decide +kernel
theorem d_X_count_1 : decode c_X_count 1 = .ok (.tableswitch 48 0 2 #[27, 35, 43], 27) := by decide +kernel
theorem d_X_count_28 : decode c_X_count 28 = .ok (.aload_n 0, 1) := by decide +kernel
theorem d_X_count_29 : decode c_X_count 29 = .ok (.getfield 37, 3) := by decide +kernel
theorem d_X_count_32 : decode c_X_count 32 = .ok (.getfield 300, 3) := by decide +kernel
theorem d_X_count_35 : decode c_X_count 35 = .ok (.ireturn, 1) := by decide +kernel
theorem d_X_count_36 : decode c_X_count 36 = .ok (.aload_n 0, 1) := by decide +kernel
theorem d_X_count_37 : decode c_X_count 37 = .ok (.getfield 30, 3) := by decide +kernel
theorem d_X_count_40 : decode c_X_count 40 = .ok (.getfield 93, 3) := by decide +kernel
theorem d_X_count_43 : decode c_X_count 43 = .ok (.ireturn, 1) := by decide +kernel
theorem d_X_count_44 : decode c_X_count 44 = .ok (.aload_n 0, 1) := by decide +kernel
theorem d_X_count_45 : decode c_X_count 45 = .ok (.invokevirtual 325, 3) := by decide +kernel
theorem d_X_count_48 : decode c_X_count 48 = .ok (.ireturn, 1) := by decide +kernel
theorem d_X_count_49 : decode c_X_count 49 = .ok (.iconst (-1), 1) := by decide +kernel
theorem d_X_count_50 : decode c_X_count 50 = .ok (.ireturn, 1) := by decide +kernel

theorem d_M_takesNumbers_0 : decode c_M_takesNumbers 0 = .ok (.iconst 0, 1) := by decide +kernel
theorem d_M_takesNumbers_1 : decode c_M_takesNumbers 1 = .ok (.istore_n 2, 1) := by decide +kernel
theorem d_M_takesNumbers_2 : decode c_M_takesNumbers 2 = .ok (.iload_n 2, 1) := by decide +kernel
theorem d_M_takesNumbers_3 : decode c_M_takesNumbers 3 = .ok (.iload_n 1, 1) := by decide +kernel
theorem d_M_takesNumbers_4 : decode c_M_takesNumbers 4 = .ok (.if_icmp .ge 92, 3) := by decide +kernel
theorem d_M_takesNumbers_7 : decode c_M_takesNumbers 7 = .ok (.iload_n 2, 1) := by decide +kernel
theorem d_M_takesNumbers_8 : decode c_M_takesNumbers 8 = .ok (.ifCond .le 14, 3) := by decide +kernel
theorem d_M_takesNumbers_11 : decode c_M_takesNumbers 11 = .ok (.aload_n 0, 1) := by decide +kernel
theorem d_M_takesNumbers_12 : decode c_M_takesNumbers 12 = .ok (.bipush 44, 2) := by decide +kernel
theorem d_M_takesNumbers_14 : decode c_M_takesNumbers 14 = .ok (.invokevirtual 120, 3) := by decide +kernel
theorem d_M_takesNumbers_17 : decode c_M_takesNumbers 17 = .ok (.ifCond .ne 5, 3) := by decide +kernel
theorem d_M_takesNumbers_20 : decode c_M_takesNumbers 20 = .ok (.iconst 0, 1) := by decide +kernel
theorem d_M_takesNumbers_21 : decode c_M_takesNumbers 21 = .ok (.ireturn, 1) := by decide +kernel
theorem d_M_takesNumbers_22 : decode c_M_takesNumbers 22 = .ok (.aload_n 0, 1) := by decide +kernel
theorem d_M_takesNumbers_23 : decode c_M_takesNumbers 23 = .ok (.invokevirtual 245, 3) := by decide +kernel
theorem d_M_takesNumbers_26 : decode c_M_takesNumbers 26 = .ok (.ifCond .ne 5, 3) := by decide +kernel
theorem d_M_takesNumbers_29 : decode c_M_takesNumbers 29 = .ok (.iconst 0, 1) := by decide +kernel
theorem d_M_takesNumbers_30 : decode c_M_takesNumbers 30 = .ok (.ireturn, 1) := by decide +kernel
theorem d_M_takesNumbers_31 : decode c_M_takesNumbers 31 = .ok (.iconst 0, 1) := by decide +kernel
theorem d_M_takesNumbers_32 : decode c_M_takesNumbers 32 = .ok (.istore_n 3, 1) := by decide +kernel
theorem d_M_takesNumbers_33 : decode c_M_takesNumbers 33 = .ok (.iconst 0, 1) := by decide +kernel
theorem d_M_takesNumbers_34 : decode c_M_takesNumbers 34 = .ok (.istore 4, 2) := by decide +kernel
theorem d_M_takesNumbers_36 : decode c_M_takesNumbers 36 = .ok (.iload 4, 2) := by decide +kernel
theorem d_M_takesNumbers_38 : decode c_M_takesNumbers 38 = .ok (.iconst 4, 1) := by decide +kernel
theorem d_M_takesNumbers_39 : decode c_M_takesNumbers 39 = .ok (.if_icmp .ge 44, 3) := by decide +kernel
theorem d_M_takesNumbers_42 : decode c_M_takesNumbers 42 = .ok (.aload_n 0, 1) := by decide +kernel
theorem d_M_takesNumbers_43 : decode c_M_takesNumbers 43 = .ok (.invokevirtual 245, 3) := by decide +kernel
theorem d_M_takesNumbers_46 : decode c_M_takesNumbers 46 = .ok (.ifCond .eq 37, 3) := by decide +kernel
theorem d_M_takesNumbers_49 : decode c_M_takesNumbers 49 = .ok (.bipush 10, 2) := by decide +kernel
theorem d_M_takesNumbers_51 : decode c_M_takesNumbers 51 = .ok (.iload_n 3, 1) := by decide +kernel
theorem d_M_takesNumbers_52 : decode c_M_takesNumbers 52 = .ok (.imul, 1) := by decide +kernel
theorem d_M_takesNumbers_53 : decode c_M_takesNumbers 53 = .ok (.aload_n 0, 1) := by decide +kernel
theorem d_M_takesNumbers_54 : decode c_M_takesNumbers 54 = .ok (.getfield 26, 3) := by decide +kernel
theorem d_M_takesNumbers_57 : decode c_M_takesNumbers 57 = .ok (.aload_n 0, 1) := by decide +kernel
theorem d_M_takesNumbers_58 : decode c_M_takesNumbers 58 = .ok (.getfield 100, 3) := by decide +kernel
theorem d_M_takesNumbers_61 : decode c_M_takesNumbers 61 = .ok (.iaload, 1) := by decide +kernel
theorem d_M_takesNumbers_62 : decode c_M_takesNumbers 62 = .ok (.iadd, 1) := by decide +kernel
theorem d_M_takesNumbers_63 : decode c_M_takesNumbers 63 = .ok (.bipush 48, 2) := by decide +kernel
theorem d_M_takesNumbers_65 : decode c_M_takesNumbers 65 = .ok (.isub, 1) := by decide +kernel
theorem d_M_takesNumbers_66 : decode c_M_takesNumbers 66 = .ok (.istore_n 3, 1) := by decide +kernel
theorem d_M_takesNumbers_67 : decode c_M_takesNumbers 67 = .ok (.aload_n 0, 1) := by decide +kernel
theorem d_M_takesNumbers_68 : decode c_M_takesNumbers 68 = .ok (.dup, 1) := by decide +kernel
theorem d_M_takesNumbers_69 : decode c_M_takesNumbers 69 = .ok (.getfield 100, 3) := by decide +kernel
theorem d_M_takesNumbers_72 : decode c_M_takesNumbers 72 = .ok (.iconst 1, 1) := by decide +kernel
theorem d_M_takesNumbers_73 : decode c_M_takesNumbers 73 = .ok (.iadd, 1) := by decide +kernel
theorem d_M_takesNumbers_74 : decode c_M_takesNumbers 74 = .ok (.putfield 100, 3) := by decide +kernel
theorem d_M_takesNumbers_77 : decode c_M_takesNumbers 77 = .ok (.iinc 4 1, 3) := by decide +kernel
theorem d_M_takesNumbers_80 : decode c_M_takesNumbers 80 = .ok (.goto (-44), 3) := by decide +kernel
theorem d_M_takesNumbers_83 : decode c_M_takesNumbers 83 = .ok (.aload_n 0, 1) := by decide +kernel
theorem d_M_takesNumbers_84 : decode c_M_takesNumbers 84 = .ok (.getfield 47, 3) := by decide +kernel
theorem d_M_takesNumbers_87 : decode c_M_takesNumbers 87 = .ok (.iload_n 2, 1) := by decide +kernel
theorem d_M_takesNumbers_88 : decode c_M_takesNumbers 88 = .ok (.iload_n 3, 1) := by decide +kernel
theorem d_M_takesNumbers_89 : decode c_M_takesNumbers 89 = .ok (.iastore, 1) := by decide +kernel
theorem d_M_takesNumbers_90 : decode c_M_takesNumbers 90 = .ok (.iinc 2 1, 3) := by decide +kernel
theorem d_M_takesNumbers_93 : decode c_M_takesNumbers 93 = .ok (.goto (-91), 3) := by decide +kernel
theorem d_M_takesNumbers_96 : decode c_M_takesNumbers 96 = .ok (.aload_n 0, 1) := by decide +kernel
theorem d_M_takesNumbers_97 : decode c_M_takesNumbers 97 = .ok (.getfield 100, 3) := by decide +kernel
theorem d_M_takesNumbers_100 : decode c_M_takesNumbers 100 = .ok (.aload_n 0, 1) := by decide +kernel
theorem d_M_takesNumbers_101 : decode c_M_takesNumbers 101 = .ok (.getfield 97, 3) := by decide +kernel
theorem d_M_takesNumbers_104 : decode c_M_takesNumbers 104 = .ok (.if_icmp .ne 7, 3) := by decide +kernel
theorem d_M_takesNumbers_107 : decode c_M_takesNumbers 107 = .ok (.iconst 1, 1) := by decide +kernel
theorem d_M_takesNumbers_108 : decode c_M_takesNumbers 108 = .ok (.goto 4, 3) := by decide +kernel
theorem d_M_takesNumbers_111 : decode c_M_takesNumbers 111 = .ok (.iconst 0, 1) := by decide +kernel
theorem d_M_takesNumbers_112 : decode c_M_takesNumbers 112 = .ok (.ireturn, 1) := by decide +kernel
theorem d_M_tells_0 : decode c_M_tells 0 = .ok (.aload_n 0, 1) := by decide +kernel
theorem d_M_tells_1 : decode c_M_tells 1 = .ok (.iconst 0, 1) := by decide +kernel
theorem d_M_tells_2 : decode c_M_tells 2 = .ok (.putfield 69, 3) := by decide +kernel
theorem d_M_tells_5 : decode c_M_tells 5 = .ok (.aload_n 0, 1) := by decide +kernel
theorem d_M_tells_6 : decode c_M_tells 6 = .ok (.invokevirtual 145, 3) := by decide +kernel
theorem d_M_tells_9 : decode c_M_tells 9 = .ok (.iload_n 1, 1) := by decide +kernel
theorem d_M_tells_10 : decode c_M_tells 10 = .ok (.invokestatic 151, 3) := by decide +kernel
theorem d_M_tells_13 : decode c_M_tells 13 = .ok (.ifCond .ne 5, 3) := by decide +kernel
theorem d_M_tells_16 : decode c_M_tells 16 = .ok (.iconst (-1), 1) := by decide +kernel
theorem d_M_tells_17 : decode c_M_tells 17 = .ok (.ireturn, 1) := by decide +kernel
theorem d_M_tells_18 : decode c_M_tells 18 = .ok (.aload_n 0, 1) := by decide +kernel
theorem d_M_tells_19 : decode c_M_tells 19 = .ok (.aload_n 0, 1) := by decide +kernel
theorem d_M_tells_20 : decode c_M_tells 20 = .ok (.getfield 13, 3) := by decide +kernel
theorem d_M_tells_23 : decode c_M_tells 23 = .ok (.iload_n 1, 1) := by decide +kernel
theorem d_M_tells_24 : decode c_M_tells 24 = .ok (.iaload, 1) := by decide +kernel
theorem d_M_tells_25 : decode c_M_tells 25 = .ok (.invokevirtual 248, 3) := by decide +kernel
theorem d_M_tells_28 : decode c_M_tells 28 = .ok (.ifCond .ne 11, 3) := by decide +kernel
theorem d_M_tells_31 : decode c_M_tells 31 = .ok (.bipush (-21), 2) := by decide +kernel
theorem d_M_tells_33 : decode c_M_tells 33 = .ok (.aload_n 0, 1) := by decide +kernel
theorem d_M_tells_34 : decode c_M_tells 34 = .ok (.getfield 100, 3) := by decide +kernel
theorem d_M_tells_37 : decode c_M_tells 37 = .ok (.isub, 1) := by decide +kernel
theorem d_M_tells_38 : decode c_M_tells 38 = .ok (.ireturn, 1) := by decide +kernel
theorem d_M_tells_39 : decode c_M_tells 39 = .ok (.iconst 0, 1) := by decide +kernel
theorem d_M_tells_40 : decode c_M_tells 40 = .ok (.istore_n 2, 1) := by decide +kernel
theorem d_M_tells_41 : decode c_M_tells 41 = .ok (.iconst 0, 1) := by decide +kernel
theorem d_M_tells_42 : decode c_M_tells 42 = .ok (.istore_n 3, 1) := by decide +kernel
theorem d_M_tells_43 : decode c_M_tells 43 = .ok (.iload_n 3, 1) := by decide +kernel
theorem d_M_tells_44 : decode c_M_tells 44 = .ok (.aload_n 0, 1) := by decide +kernel
theorem d_M_tells_45 : decode c_M_tells 45 = .ok (.getfield 17, 3) := by decide +kernel
theorem d_M_tells_48 : decode c_M_tells 48 = .ok (.iload_n 1, 1) := by decide +kernel
theorem d_M_tells_49 : decode c_M_tells 49 = .ok (.iaload, 1) := by decide +kernel
theorem d_M_tells_50 : decode c_M_tells 50 = .ok (.if_icmp .ge 89, 3) := by decide +kernel
theorem d_M_tells_53 : decode c_M_tells 53 = .ok (.aload_n 0, 1) := by decide +kernel
theorem d_M_tells_54 : decode c_M_tells 54 = .ok (.getfield 47, 3) := by decide +kernel
theorem d_M_tells_57 : decode c_M_tells 57 = .ok (.aload_n 0, 1) := by decide +kernel
theorem d_M_tells_58 : decode c_M_tells 58 = .ok (.iload_n 1, 1) := by decide +kernel
theorem d_M_tells_59 : decode c_M_tells 59 = .ok (.iload_n 3, 1) := by decide +kernel
theorem d_M_tells_60 : decode c_M_tells 60 = .ok (.invokevirtual 199, 3) := by decide +kernel
theorem d_M_tells_63 : decode c_M_tells 63 = .ok (.iaload, 1) := by decide +kernel
theorem d_M_tells_64 : decode c_M_tells 64 = .ok (.istore 4, 2) := by decide +kernel
theorem d_M_tells_66 : decode c_M_tells 66 = .ok (.aload_n 0, 1) := by decide +kernel
theorem d_M_tells_67 : decode c_M_tells 67 = .ok (.getfield 47, 3) := by decide +kernel
theorem d_M_tells_70 : decode c_M_tells 70 = .ok (.aload_n 0, 1) := by decide +kernel
theorem d_M_tells_71 : decode c_M_tells 71 = .ok (.iload_n 1, 1) := by decide +kernel
theorem d_M_tells_72 : decode c_M_tells 72 = .ok (.iload_n 3, 1) := by decide +kernel
theorem d_M_tells_73 : decode c_M_tells 73 = .ok (.invokevirtual 202, 3) := by decide +kernel
theorem d_M_tells_76 : decode c_M_tells 76 = .ok (.iaload, 1) := by decide +kernel
theorem d_M_tells_77 : decode c_M_tells 77 = .ok (.istore 5, 2) := by decide +kernel
theorem d_M_tells_79 : decode c_M_tells 79 = .ok (.iload_n 2, 1) := by decide +kernel
theorem d_M_tells_80 : decode c_M_tells 80 = .ok (.iload 4, 2) := by decide +kernel
theorem d_M_tells_82 : decode c_M_tells 82 = .ok (.iload 5, 2) := by decide +kernel
theorem d_M_tells_84 : decode c_M_tells 84 = .ok (.if_icmp .le 7, 3) := by decide +kernel
theorem d_M_tells_87 : decode c_M_tells 87 = .ok (.iconst 1, 1) := by decide +kernel
theorem d_M_tells_88 : decode c_M_tells 88 = .ok (.goto 4, 3) := by decide +kernel
theorem d_M_tells_91 : decode c_M_tells 91 = .ok (.iconst 0, 1) := by decide +kernel
theorem d_M_tells_92 : decode c_M_tells 92 = .ok (.invokestatic 188, 3) := by decide +kernel
theorem d_M_tells_95 : decode c_M_tells 95 = .ok (.iadd, 1) := by decide +kernel
theorem d_M_tells_96 : decode c_M_tells 96 = .ok (.istore_n 2, 1) := by decide +kernel
theorem d_M_tells_97 : decode c_M_tells 97 = .ok (.aload_n 0, 1) := by decide +kernel
theorem d_M_tells_98 : decode c_M_tells 98 = .ok (.getfield 47, 3) := by decide +kernel
theorem d_M_tells_101 : decode c_M_tells 101 = .ok (.aload_n 0, 1) := by decide +kernel
theorem d_M_tells_102 : decode c_M_tells 102 = .ok (.iload_n 1, 1) := by decide +kernel
theorem d_M_tells_103 : decode c_M_tells 103 = .ok (.iload_n 3, 1) := by decide +kernel
theorem d_M_tells_104 : decode c_M_tells 104 = .ok (.invokevirtual 199, 3) := by decide +kernel
theorem d_M_tells_107 : decode c_M_tells 107 = .ok (.iload 4, 2) := by decide +kernel
theorem d_M_tells_109 : decode c_M_tells 109 = .ok (.iload 5, 2) := by decide +kernel
theorem d_M_tells_111 : decode c_M_tells 111 = .ok (.invokestatic 132, 3) := by decide +kernel
theorem d_M_tells_114 : decode c_M_tells 114 = .ok (.iastore, 1) := by decide +kernel
theorem d_M_tells_115 : decode c_M_tells 115 = .ok (.aload_n 0, 1) := by decide +kernel
theorem d_M_tells_116 : decode c_M_tells 116 = .ok (.getfield 47, 3) := by decide +kernel
theorem d_M_tells_119 : decode c_M_tells 119 = .ok (.aload_n 0, 1) := by decide +kernel
theorem d_M_tells_120 : decode c_M_tells 120 = .ok (.iload_n 1, 1) := by decide +kernel
theorem d_M_tells_121 : decode c_M_tells 121 = .ok (.iload_n 3, 1) := by decide +kernel
theorem d_M_tells_122 : decode c_M_tells 122 = .ok (.invokevirtual 202, 3) := by decide +kernel
theorem d_M_tells_125 : decode c_M_tells 125 = .ok (.iload 4, 2) := by decide +kernel
theorem d_M_tells_127 : decode c_M_tells 127 = .ok (.iload 5, 2) := by decide +kernel
theorem d_M_tells_129 : decode c_M_tells 129 = .ok (.invokestatic 138, 3) := by decide +kernel
theorem d_M_tells_132 : decode c_M_tells 132 = .ok (.iastore, 1) := by decide +kernel
theorem d_M_tells_133 : decode c_M_tells 133 = .ok (.iinc 3 1, 3) := by decide +kernel
theorem d_M_tells_136 : decode c_M_tells 136 = .ok (.goto (-93), 3) := by decide +kernel
theorem d_M_tells_139 : decode c_M_tells 139 = .ok (.aload_n 0, 1) := by decide +kernel
theorem d_M_tells_140 : decode c_M_tells 140 = .ok (.iconst 0, 1) := by decide +kernel
theorem d_M_tells_141 : decode c_M_tells 141 = .ok (.putfield 73, 3) := by decide +kernel
theorem d_M_tells_144 : decode c_M_tells 144 = .ok (.iconst 0, 1) := by decide +kernel
theorem d_M_tells_145 : decode c_M_tells 145 = .ok (.istore_n 3, 1) := by decide +kernel
theorem d_M_tells_146 : decode c_M_tells 146 = .ok (.iload_n 3, 1) := by decide +kernel
theorem d_M_tells_147 : decode c_M_tells 147 = .ok (.aload_n 0, 1) := by decide +kernel
theorem d_M_tells_148 : decode c_M_tells 148 = .ok (.getfield 13, 3) := by decide +kernel
theorem d_M_tells_151 : decode c_M_tells 151 = .ok (.iload_n 1, 1) := by decide +kernel
theorem d_M_tells_152 : decode c_M_tells 152 = .ok (.iaload, 1) := by decide +kernel
theorem d_M_tells_153 : decode c_M_tells 153 = .ok (.if_icmp .ge 20, 3) := by decide +kernel
theorem d_M_tells_156 : decode c_M_tells 156 = .ok (.aload_n 0, 1) := by decide +kernel
theorem d_M_tells_157 : decode c_M_tells 157 = .ok (.aload_n 0, 1) := by decide +kernel
theorem d_M_tells_158 : decode c_M_tells 158 = .ok (.getfield 47, 3) := by decide +kernel
theorem d_M_tells_161 : decode c_M_tells 161 = .ok (.iload_n 3, 1) := by decide +kernel
theorem d_M_tells_162 : decode c_M_tells 162 = .ok (.iaload, 1) := by decide +kernel
theorem d_M_tells_163 : decode c_M_tells 163 = .ok (.i2l, 1) := by decide +kernel
theorem d_M_tells_164 : decode c_M_tells 164 = .ok (.invokevirtual 76, 3) := by decide +kernel
theorem d_M_tells_167 : decode c_M_tells 167 = .ok (.iinc 3 1, 3) := by decide +kernel
theorem d_M_tells_170 : decode c_M_tells 170 = .ok (.goto (-24), 3) := by decide +kernel
theorem d_M_tells_173 : decode c_M_tells 173 = .ok (.iload_n 2, 1) := by decide +kernel
theorem d_M_tells_174 : decode c_M_tells 174 = .ok (.ireturn, 1) := by decide +kernel
theorem d_M_sorts_0 : decode c_M_sorts 0 = .ok (.aload_n 0, 1) := by decide +kernel
theorem d_M_sorts_1 : decode c_M_sorts 1 = .ok (.iconst 0, 1) := by decide +kernel
theorem d_M_sorts_2 : decode c_M_sorts 2 = .ok (.putfield 69, 3) := by decide +kernel
theorem d_M_sorts_5 : decode c_M_sorts 5 = .ok (.iload_n 1, 1) := by decide +kernel
theorem d_M_sorts_6 : decode c_M_sorts 6 = .ok (.invokestatic 151, 3) := by decide +kernel
theorem d_M_sorts_9 : decode c_M_sorts 9 = .ok (.ifCond .ne 5, 3) := by decide +kernel
theorem d_M_sorts_12 : decode c_M_sorts 12 = .ok (.iconst (-1), 1) := by decide +kernel
theorem d_M_sorts_13 : decode c_M_sorts 13 = .ok (.ireturn, 1) := by decide +kernel
theorem d_M_sorts_14 : decode c_M_sorts 14 = .ok (.aload_n 0, 1) := by decide +kernel
theorem d_M_sorts_15 : decode c_M_sorts 15 = .ok (.iload_n 1, 1) := by decide +kernel
theorem d_M_sorts_16 : decode c_M_sorts 16 = .ok (.iconst (-1), 1) := by decide +kernel
theorem d_M_sorts_17 : decode c_M_sorts 17 = .ok (.iconst 0, 1) := by decide +kernel
theorem d_M_sorts_18 : decode c_M_sorts 18 = .ok (.invokevirtual 192, 3) := by decide +kernel
theorem d_M_sorts_21 : decode c_M_sorts 21 = .ok (.istore_n 2, 1) := by decide +kernel
theorem d_M_sorts_22 : decode c_M_sorts 22 = .ok (.aload_n 0, 1) := by decide +kernel
theorem d_M_sorts_23 : decode c_M_sorts 23 = .ok (.iload_n 2, 1) := by decide +kernel
theorem d_M_sorts_24 : decode c_M_sorts 24 = .ok (.i2l, 1) := by decide +kernel
theorem d_M_sorts_25 : decode c_M_sorts 25 = .ok (.invokevirtual 221, 3) := by decide +kernel
theorem d_M_sorts_28 : decode c_M_sorts 28 = .ok (.aload_n 0, 1) := by decide +kernel
theorem d_M_sorts_29 : decode c_M_sorts 29 = .ok (.aload_n 0, 1) := by decide +kernel
theorem d_M_sorts_30 : decode c_M_sorts 30 = .ok (.getfield 235, 3) := by decide +kernel
theorem d_M_sorts_33 : decode c_M_sorts 33 = .ok (.i2l, 1) := by decide +kernel
theorem d_M_sorts_34 : decode c_M_sorts 34 = .ok (.invokevirtual 76, 3) := by decide +kernel
theorem d_M_sorts_37 : decode c_M_sorts 37 = .ok (.iload_n 2, 1) := by decide +kernel
theorem d_M_sorts_38 : decode c_M_sorts 38 = .ok (.ifCond .ne 7, 3) := by decide +kernel
theorem d_M_sorts_41 : decode c_M_sorts 41 = .ok (.iconst 1, 1) := by decide +kernel
theorem d_M_sorts_42 : decode c_M_sorts 42 = .ok (.goto 4, 3) := by decide +kernel
theorem d_M_sorts_45 : decode c_M_sorts 45 = .ok (.iconst 0, 1) := by decide +kernel
theorem d_M_sorts_46 : decode c_M_sorts 46 = .ok (.invokestatic 188, 3) := by decide +kernel
theorem d_M_sorts_49 : decode c_M_sorts 49 = .ok (.ireturn, 1) := by decide +kernel
theorem d_M_laysImage_0 : decode c_M_laysImage 0 = .ok (.iconst 0, 1) := by decide +kernel
theorem d_M_laysImage_1 : decode c_M_laysImage 1 = .ok (.istore_n 2, 1) := by decide +kernel
theorem d_M_laysImage_2 : decode c_M_laysImage 2 = .ok (.iload_n 2, 1) := by decide +kernel
theorem d_M_laysImage_3 : decode c_M_laysImage 3 = .ok (.sipush 256, 3) := by decide +kernel
theorem d_M_laysImage_6 : decode c_M_laysImage 6 = .ok (.if_icmp .ge 16, 3) := by decide +kernel
theorem d_M_laysImage_9 : decode c_M_laysImage 9 = .ok (.aload_n 0, 1) := by decide +kernel
theorem d_M_laysImage_10 : decode c_M_laysImage 10 = .ok (.getfield 50, 3) := by decide +kernel
theorem d_M_laysImage_13 : decode c_M_laysImage 13 = .ok (.iload_n 2, 1) := by decide +kernel
theorem d_M_laysImage_14 : decode c_M_laysImage 14 = .ok (.iconst 0, 1) := by decide +kernel
theorem d_M_laysImage_15 : decode c_M_laysImage 15 = .ok (.bastore, 1) := by decide +kernel
theorem d_M_laysImage_16 : decode c_M_laysImage 16 = .ok (.iinc 2 1, 3) := by decide +kernel
theorem d_M_laysImage_19 : decode c_M_laysImage 19 = .ok (.goto (-17), 3) := by decide +kernel
theorem d_M_laysImage_22 : decode c_M_laysImage 22 = .ok (.iconst 0, 1) := by decide +kernel
theorem d_M_laysImage_23 : decode c_M_laysImage 23 = .ok (.istore_n 2, 1) := by decide +kernel
theorem d_M_laysImage_24 : decode c_M_laysImage 24 = .ok (.iload_n 2, 1) := by decide +kernel
theorem d_M_laysImage_25 : decode c_M_laysImage 25 = .ok (.aload_n 0, 1) := by decide +kernel
theorem d_M_laysImage_26 : decode c_M_laysImage 26 = .ok (.iload_n 1, 1) := by decide +kernel
theorem d_M_laysImage_27 : decode c_M_laysImage 27 = .ok (.invokevirtual 86, 3) := by decide +kernel
theorem d_M_laysImage_30 : decode c_M_laysImage 30 = .ok (.if_icmp .ge 23, 3) := by decide +kernel
theorem d_M_laysImage_33 : decode c_M_laysImage 33 = .ok (.aload_n 0, 1) := by decide +kernel
theorem d_M_laysImage_34 : decode c_M_laysImage 34 = .ok (.getfield 50, 3) := by decide +kernel
theorem d_M_laysImage_37 : decode c_M_laysImage 37 = .ok (.aload_n 0, 1) := by decide +kernel
theorem d_M_laysImage_38 : decode c_M_laysImage 38 = .ok (.iload_n 1, 1) := by decide +kernel
theorem d_M_laysImage_39 : decode c_M_laysImage 39 = .ok (.iload_n 2, 1) := by decide +kernel
theorem d_M_laysImage_40 : decode c_M_laysImage 40 = .ok (.iconst (-1), 1) := by decide +kernel
theorem d_M_laysImage_41 : decode c_M_laysImage 41 = .ok (.iconst 0, 1) := by decide +kernel
theorem d_M_laysImage_42 : decode c_M_laysImage 42 = .ok (.invokevirtual 228, 3) := by decide +kernel
theorem d_M_laysImage_45 : decode c_M_laysImage 45 = .ok (.iconst 1, 1) := by decide +kernel
theorem d_M_laysImage_46 : decode c_M_laysImage 46 = .ok (.bastore, 1) := by decide +kernel
theorem d_M_laysImage_47 : decode c_M_laysImage 47 = .ok (.iinc 2 1, 3) := by decide +kernel
theorem d_M_laysImage_50 : decode c_M_laysImage 50 = .ok (.goto (-26), 3) := by decide +kernel
theorem d_M_laysImage_53 : decode c_M_laysImage 53 = .ok (.return_, 1) := by decide +kernel
theorem d_M_image_0 : decode c_M_image 0 = .ok (.aload_n 0, 1) := by decide +kernel
theorem d_M_image_1 : decode c_M_image 1 = .ok (.iconst 0, 1) := by decide +kernel
theorem d_M_image_2 : decode c_M_image 2 = .ok (.putfield 69, 3) := by decide +kernel
theorem d_M_image_5 : decode c_M_image 5 = .ok (.iload_n 1, 1) := by decide +kernel
theorem d_M_image_6 : decode c_M_image 6 = .ok (.invokestatic 151, 3) := by decide +kernel
theorem d_M_image_9 : decode c_M_image 9 = .ok (.ifCond .ne 5, 3) := by decide +kernel
theorem d_M_image_12 : decode c_M_image 12 = .ok (.iconst (-1), 1) := by decide +kernel
theorem d_M_image_13 : decode c_M_image 13 = .ok (.ireturn, 1) := by decide +kernel
theorem d_M_image_14 : decode c_M_image 14 = .ok (.aload_n 0, 1) := by decide +kernel
theorem d_M_image_15 : decode c_M_image 15 = .ok (.iload_n 1, 1) := by decide +kernel
theorem d_M_image_16 : decode c_M_image 16 = .ok (.invokevirtual 251, 3) := by decide +kernel
theorem d_M_image_19 : decode c_M_image 19 = .ok (.iconst 0, 1) := by decide +kernel
theorem d_M_image_20 : decode c_M_image 20 = .ok (.istore_n 2, 1) := by decide +kernel
theorem d_M_image_21 : decode c_M_image 21 = .ok (.iconst 0, 1) := by decide +kernel
theorem d_M_image_22 : decode c_M_image 22 = .ok (.istore_n 3, 1) := by decide +kernel
theorem d_M_image_23 : decode c_M_image 23 = .ok (.iconst 0, 1) := by decide +kernel
theorem d_M_image_24 : decode c_M_image 24 = .ok (.istore 4, 2) := by decide +kernel
theorem d_M_image_26 : decode c_M_image 26 = .ok (.iload 4, 2) := by decide +kernel
theorem d_M_image_28 : decode c_M_image 28 = .ok (.aload_n 0, 1) := by decide +kernel
theorem d_M_image_29 : decode c_M_image 29 = .ok (.iload_n 1, 1) := by decide +kernel
theorem d_M_image_30 : decode c_M_image 30 = .ok (.invokevirtual 86, 3) := by decide +kernel
theorem d_M_image_33 : decode c_M_image 33 = .ok (.if_icmp .ge 57, 3) := by decide +kernel
theorem d_M_image_36 : decode c_M_image 36 = .ok (.iload_n 2, 1) := by decide +kernel
theorem d_M_image_37 : decode c_M_image 37 = .ok (.aload_n 0, 1) := by decide +kernel
theorem d_M_image_38 : decode c_M_image 38 = .ok (.getfield 50, 3) := by decide +kernel
theorem d_M_image_41 : decode c_M_image 41 = .ok (.iload 4, 2) := by decide +kernel
theorem d_M_image_43 : decode c_M_image 43 = .ok (.baload, 1) := by decide +kernel
theorem d_M_image_44 : decode c_M_image 44 = .ok (.invokestatic 188, 3) := by decide +kernel
theorem d_M_image_47 : decode c_M_image 47 = .ok (.iadd, 1) := by decide +kernel
theorem d_M_image_48 : decode c_M_image 48 = .ok (.istore_n 2, 1) := by decide +kernel
theorem d_M_image_49 : decode c_M_image 49 = .ok (.iload_n 3, 1) := by decide +kernel
theorem d_M_image_50 : decode c_M_image 50 = .ok (.aload_n 0, 1) := by decide +kernel
theorem d_M_image_51 : decode c_M_image 51 = .ok (.getfield 50, 3) := by decide +kernel
theorem d_M_image_54 : decode c_M_image 54 = .ok (.iload 4, 2) := by decide +kernel
theorem d_M_image_56 : decode c_M_image 56 = .ok (.baload, 1) := by decide +kernel
theorem d_M_image_57 : decode c_M_image 57 = .ok (.ifCond .eq 21, 3) := by decide +kernel
theorem d_M_image_60 : decode c_M_image 60 = .ok (.aload_n 0, 1) := by decide +kernel
theorem d_M_image_61 : decode c_M_image 61 = .ok (.getfield 13, 3) := by decide +kernel
theorem d_M_image_64 : decode c_M_image 64 = .ok (.iload_n 1, 1) := by decide +kernel
theorem d_M_image_65 : decode c_M_image 65 = .ok (.iaload, 1) := by decide +kernel
theorem d_M_image_66 : decode c_M_image 66 = .ok (.iload 4, 2) := by decide +kernel
theorem d_M_image_68 : decode c_M_image 68 = .ok (.invokestatic 232, 3) := by decide +kernel
theorem d_M_image_71 : decode c_M_image 71 = .ok (.ifCond .eq 7, 3) := by decide +kernel
theorem d_M_image_74 : decode c_M_image 74 = .ok (.iconst 1, 1) := by decide +kernel
theorem d_M_image_75 : decode c_M_image 75 = .ok (.goto 4, 3) := by decide +kernel
theorem d_M_image_78 : decode c_M_image 78 = .ok (.iconst 0, 1) := by decide +kernel
theorem d_M_image_79 : decode c_M_image 79 = .ok (.invokestatic 188, 3) := by decide +kernel
theorem d_M_image_82 : decode c_M_image 82 = .ok (.iadd, 1) := by decide +kernel
theorem d_M_image_83 : decode c_M_image 83 = .ok (.istore_n 3, 1) := by decide +kernel
theorem d_M_image_84 : decode c_M_image 84 = .ok (.iinc 4 1, 3) := by decide +kernel
theorem d_M_image_87 : decode c_M_image 87 = .ok (.goto (-61), 3) := by decide +kernel
theorem d_M_image_90 : decode c_M_image 90 = .ok (.aload_n 0, 1) := by decide +kernel
theorem d_M_image_91 : decode c_M_image 91 = .ok (.iload_n 3, 1) := by decide +kernel
theorem d_M_image_92 : decode c_M_image 92 = .ok (.i2l, 1) := by decide +kernel
theorem d_M_image_93 : decode c_M_image 93 = .ok (.invokevirtual 221, 3) := by decide +kernel
theorem d_M_image_96 : decode c_M_image 96 = .ok (.iload_n 2, 1) := by decide +kernel
theorem d_M_image_97 : decode c_M_image 97 = .ok (.ireturn, 1) := by decide +kernel
theorem d_M_comes2_0 : decode c_M_comes2 0 = .ok (.aload_n 0, 1) := by decide +kernel
theorem d_M_comes2_1 : decode c_M_comes2 1 = .ok (.iconst 0, 1) := by decide +kernel
theorem d_M_comes2_2 : decode c_M_comes2 2 = .ok (.putfield 69, 3) := by decide +kernel
theorem d_M_comes2_5 : decode c_M_comes2 5 = .ok (.iload_n 1, 1) := by decide +kernel
theorem d_M_comes2_6 : decode c_M_comes2 6 = .ok (.invokestatic 151, 3) := by decide +kernel
theorem d_M_comes2_9 : decode c_M_comes2 9 = .ok (.ifCond .eq 12, 3) := by decide +kernel
theorem d_M_comes2_12 : decode c_M_comes2 12 = .ok (.aload_n 0, 1) := by decide +kernel
theorem d_M_comes2_13 : decode c_M_comes2 13 = .ok (.iload_n 1, 1) := by decide +kernel
theorem d_M_comes2_14 : decode c_M_comes2 14 = .ok (.iload_n 2, 1) := by decide +kernel
theorem d_M_comes2_15 : decode c_M_comes2 15 = .ok (.invokevirtual 242, 3) := by decide +kernel
theorem d_M_comes2_18 : decode c_M_comes2 18 = .ok (.ifCond .ne 5, 3) := by decide +kernel
theorem d_M_comes2_21 : decode c_M_comes2 21 = .ok (.iconst (-1), 1) := by decide +kernel
theorem d_M_comes2_22 : decode c_M_comes2 22 = .ok (.ireturn, 1) := by decide +kernel
theorem d_M_comes2_23 : decode c_M_comes2 23 = .ok (.iconst 0, 1) := by decide +kernel
theorem d_M_comes2_24 : decode c_M_comes2 24 = .ok (.istore_n 3, 1) := by decide +kernel
theorem d_M_comes2_25 : decode c_M_comes2 25 = .ok (.iconst (-1), 1) := by decide +kernel
theorem d_M_comes2_26 : decode c_M_comes2 26 = .ok (.istore 4, 2) := by decide +kernel
theorem d_M_comes2_28 : decode c_M_comes2 28 = .ok (.aload_n 0, 1) := by decide +kernel
theorem d_M_comes2_29 : decode c_M_comes2 29 = .ok (.iload_n 1, 1) := by decide +kernel
theorem d_M_comes2_30 : decode c_M_comes2 30 = .ok (.invokevirtual 86, 3) := by decide +kernel
theorem d_M_comes2_33 : decode c_M_comes2 33 = .ok (.iconst 1, 1) := by decide +kernel
theorem d_M_comes2_34 : decode c_M_comes2 34 = .ok (.isub, 1) := by decide +kernel
theorem d_M_comes2_35 : decode c_M_comes2 35 = .ok (.istore 5, 2) := by decide +kernel
theorem d_M_comes2_37 : decode c_M_comes2 37 = .ok (.iload 5, 2) := by decide +kernel
theorem d_M_comes2_39 : decode c_M_comes2 39 = .ok (.ifCond .lt 32, 3) := by decide +kernel
theorem d_M_comes2_42 : decode c_M_comes2 42 = .ok (.aload_n 0, 1) := by decide +kernel
theorem d_M_comes2_43 : decode c_M_comes2 43 = .ok (.iload_n 1, 1) := by decide +kernel
theorem d_M_comes2_44 : decode c_M_comes2 44 = .ok (.iload 5, 2) := by decide +kernel
theorem d_M_comes2_46 : decode c_M_comes2 46 = .ok (.iconst (-1), 1) := by decide +kernel
theorem d_M_comes2_47 : decode c_M_comes2 47 = .ok (.iconst 0, 1) := by decide +kernel
theorem d_M_comes2_48 : decode c_M_comes2 48 = .ok (.invokevirtual 228, 3) := by decide +kernel
theorem d_M_comes2_51 : decode c_M_comes2 51 = .ok (.iload_n 2, 1) := by decide +kernel
theorem d_M_comes2_52 : decode c_M_comes2 52 = .ok (.if_icmp .eq 6, 3) := by decide +kernel
theorem d_M_comes2_55 : decode c_M_comes2 55 = .ok (.goto 10, 3) := by decide +kernel
theorem d_M_comes2_58 : decode c_M_comes2 58 = .ok (.iinc 3 1, 3) := by decide +kernel
theorem d_M_comes2_61 : decode c_M_comes2 61 = .ok (.iload 5, 2) := by decide +kernel
theorem d_M_comes2_63 : decode c_M_comes2 63 = .ok (.istore 4, 2) := by decide +kernel
theorem d_M_comes2_65 : decode c_M_comes2 65 = .ok (.iinc 5 (-1), 3) := by decide +kernel
theorem d_M_comes2_68 : decode c_M_comes2 68 = .ok (.goto (-31), 3) := by decide +kernel
theorem d_M_comes2_71 : decode c_M_comes2 71 = .ok (.aload_n 0, 1) := by decide +kernel
theorem d_M_comes2_72 : decode c_M_comes2 72 = .ok (.iload 4, 2) := by decide +kernel
theorem d_M_comes2_74 : decode c_M_comes2 74 = .ok (.i2l, 1) := by decide +kernel
theorem d_M_comes2_75 : decode c_M_comes2 75 = .ok (.invokevirtual 221, 3) := by decide +kernel
theorem d_M_comes2_78 : decode c_M_comes2 78 = .ok (.iload_n 3, 1) := by decide +kernel
theorem d_M_comes2_79 : decode c_M_comes2 79 = .ok (.ireturn, 1) := by decide +kernel
theorem d_M_wiresOf_0 : decode c_M_wiresOf 0 = .ok (.iconst 0, 1) := by decide +kernel
theorem d_M_wiresOf_1 : decode c_M_wiresOf 1 = .ok (.istore_n 3, 1) := by decide +kernel
theorem d_M_wiresOf_2 : decode c_M_wiresOf 2 = .ok (.iconst 0, 1) := by decide +kernel
theorem d_M_wiresOf_3 : decode c_M_wiresOf 3 = .ok (.istore 4, 2) := by decide +kernel
theorem d_M_wiresOf_5 : decode c_M_wiresOf 5 = .ok (.iload 4, 2) := by decide +kernel
theorem d_M_wiresOf_7 : decode c_M_wiresOf 7 = .ok (.aload_n 0, 1) := by decide +kernel
theorem d_M_wiresOf_8 : decode c_M_wiresOf 8 = .ok (.iload_n 1, 1) := by decide +kernel
theorem d_M_wiresOf_9 : decode c_M_wiresOf 9 = .ok (.invokevirtual 86, 3) := by decide +kernel
theorem d_M_wiresOf_12 : decode c_M_wiresOf 12 = .ok (.if_icmp .ge 94, 3) := by decide +kernel
theorem d_M_wiresOf_15 : decode c_M_wiresOf 15 = .ok (.iload 4, 2) := by decide +kernel
theorem d_M_wiresOf_17 : decode c_M_wiresOf 17 = .ok (.invokestatic 255, 3) := by decide +kernel
theorem d_M_wiresOf_20 : decode c_M_wiresOf 20 = .ok (.aload_n 0, 1) := by decide +kernel
theorem d_M_wiresOf_21 : decode c_M_wiresOf 21 = .ok (.getfield 13, 3) := by decide +kernel
theorem d_M_wiresOf_24 : decode c_M_wiresOf 24 = .ok (.iload_n 1, 1) := by decide +kernel
theorem d_M_wiresOf_25 : decode c_M_wiresOf 25 = .ok (.iaload, 1) := by decide +kernel
theorem d_M_wiresOf_26 : decode c_M_wiresOf 26 = .ok (.iload_n 2, 1) := by decide +kernel
theorem d_M_wiresOf_27 : decode c_M_wiresOf 27 = .ok (.isub, 1) := by decide +kernel
theorem d_M_wiresOf_28 : decode c_M_wiresOf 28 = .ok (.if_icmp .eq 6, 3) := by decide +kernel
theorem d_M_wiresOf_31 : decode c_M_wiresOf 31 = .ok (.goto 69, 3) := by decide +kernel
theorem d_M_wiresOf_34 : decode c_M_wiresOf 34 = .ok (.aload_n 0, 1) := by decide +kernel
theorem d_M_wiresOf_35 : decode c_M_wiresOf 35 = .ok (.iload_n 1, 1) := by decide +kernel
theorem d_M_wiresOf_36 : decode c_M_wiresOf 36 = .ok (.iload 4, 2) := by decide +kernel
theorem d_M_wiresOf_38 : decode c_M_wiresOf 38 = .ok (.iconst (-1), 1) := by decide +kernel
theorem d_M_wiresOf_39 : decode c_M_wiresOf 39 = .ok (.iconst 0, 1) := by decide +kernel
theorem d_M_wiresOf_40 : decode c_M_wiresOf 40 = .ok (.invokevirtual 228, 3) := by decide +kernel
theorem d_M_wiresOf_43 : decode c_M_wiresOf 43 = .ok (.istore 5, 2) := by decide +kernel
theorem d_M_wiresOf_45 : decode c_M_wiresOf 45 = .ok (.iconst 0, 1) := by decide +kernel
theorem d_M_wiresOf_46 : decode c_M_wiresOf 46 = .ok (.istore 6, 2) := by decide +kernel
theorem d_M_wiresOf_48 : decode c_M_wiresOf 48 = .ok (.iload 6, 2) := by decide +kernel
theorem d_M_wiresOf_50 : decode c_M_wiresOf 50 = .ok (.aload_n 0, 1) := by decide +kernel
theorem d_M_wiresOf_51 : decode c_M_wiresOf 51 = .ok (.getfield 13, 3) := by decide +kernel
theorem d_M_wiresOf_54 : decode c_M_wiresOf 54 = .ok (.iload_n 1, 1) := by decide +kernel
theorem d_M_wiresOf_55 : decode c_M_wiresOf 55 = .ok (.iaload, 1) := by decide +kernel
theorem d_M_wiresOf_56 : decode c_M_wiresOf 56 = .ok (.if_icmp .ge 44, 3) := by decide +kernel
theorem d_M_wiresOf_59 : decode c_M_wiresOf 59 = .ok (.iload_n 3, 1) := by decide +kernel
theorem d_M_wiresOf_60 : decode c_M_wiresOf 60 = .ok (.iload 4, 2) := by decide +kernel
theorem d_M_wiresOf_62 : decode c_M_wiresOf 62 = .ok (.iload 6, 2) := by decide +kernel
theorem d_M_wiresOf_64 : decode c_M_wiresOf 64 = .ok (.ishr, 1) := by decide +kernel
theorem d_M_wiresOf_65 : decode c_M_wiresOf 65 = .ok (.iconst 1, 1) := by decide +kernel
theorem d_M_wiresOf_66 : decode c_M_wiresOf 66 = .ok (.iand, 1) := by decide +kernel
theorem d_M_wiresOf_67 : decode c_M_wiresOf 67 = .ok (.iconst 1, 1) := by decide +kernel
theorem d_M_wiresOf_68 : decode c_M_wiresOf 68 = .ok (.if_icmp .ne 23, 3) := by decide +kernel
theorem d_M_wiresOf_71 : decode c_M_wiresOf 71 = .ok (.iload 5, 2) := by decide +kernel
theorem d_M_wiresOf_73 : decode c_M_wiresOf 73 = .ok (.aload_n 0, 1) := by decide +kernel
theorem d_M_wiresOf_74 : decode c_M_wiresOf 74 = .ok (.iload_n 1, 1) := by decide +kernel
theorem d_M_wiresOf_75 : decode c_M_wiresOf 75 = .ok (.iload 4, 2) := by decide +kernel
theorem d_M_wiresOf_77 : decode c_M_wiresOf 77 = .ok (.iconst 1, 1) := by decide +kernel
theorem d_M_wiresOf_78 : decode c_M_wiresOf 78 = .ok (.iload 6, 2) := by decide +kernel
theorem d_M_wiresOf_80 : decode c_M_wiresOf 80 = .ok (.ishl, 1) := by decide +kernel
theorem d_M_wiresOf_81 : decode c_M_wiresOf 81 = .ok (.ixor, 1) := by decide +kernel
theorem d_M_wiresOf_82 : decode c_M_wiresOf 82 = .ok (.iconst (-1), 1) := by decide +kernel
theorem d_M_wiresOf_83 : decode c_M_wiresOf 83 = .ok (.iconst 0, 1) := by decide +kernel
theorem d_M_wiresOf_84 : decode c_M_wiresOf 84 = .ok (.invokevirtual 228, 3) := by decide +kernel
theorem d_M_wiresOf_87 : decode c_M_wiresOf 87 = .ok (.ixor, 1) := by decide +kernel
theorem d_M_wiresOf_88 : decode c_M_wiresOf 88 = .ok (.goto 4, 3) := by decide +kernel
theorem d_M_wiresOf_91 : decode c_M_wiresOf 91 = .ok (.iconst 0, 1) := by decide +kernel
theorem d_M_wiresOf_92 : decode c_M_wiresOf 92 = .ok (.ior, 1) := by decide +kernel
theorem d_M_wiresOf_93 : decode c_M_wiresOf 93 = .ok (.istore_n 3, 1) := by decide +kernel
theorem d_M_wiresOf_94 : decode c_M_wiresOf 94 = .ok (.iinc 6 1, 3) := by decide +kernel
theorem d_M_wiresOf_97 : decode c_M_wiresOf 97 = .ok (.goto (-49), 3) := by decide +kernel
theorem d_M_wiresOf_100 : decode c_M_wiresOf 100 = .ok (.iinc 4 1, 3) := by decide +kernel
theorem d_M_wiresOf_103 : decode c_M_wiresOf 103 = .ok (.goto (-98), 3) := by decide +kernel
theorem d_M_wiresOf_106 : decode c_M_wiresOf 106 = .ok (.iload_n 3, 1) := by decide +kernel
theorem d_M_wiresOf_107 : decode c_M_wiresOf 107 = .ok (.ireturn, 1) := by decide +kernel
theorem d_M_ranks_0 : decode c_M_ranks 0 = .ok (.aload_n 0, 1) := by decide +kernel
theorem d_M_ranks_1 : decode c_M_ranks 1 = .ok (.iconst 0, 1) := by decide +kernel
theorem d_M_ranks_2 : decode c_M_ranks 2 = .ok (.putfield 69, 3) := by decide +kernel
theorem d_M_ranks_5 : decode c_M_ranks 5 = .ok (.iload_n 1, 1) := by decide +kernel
theorem d_M_ranks_6 : decode c_M_ranks 6 = .ok (.invokestatic 151, 3) := by decide +kernel
theorem d_M_ranks_9 : decode c_M_ranks 9 = .ok (.ifCond .eq 12, 3) := by decide +kernel
theorem d_M_ranks_12 : decode c_M_ranks 12 = .ok (.aload_n 0, 1) := by decide +kernel
theorem d_M_ranks_13 : decode c_M_ranks 13 = .ok (.iload_n 1, 1) := by decide +kernel
theorem d_M_ranks_14 : decode c_M_ranks 14 = .ok (.iload_n 2, 1) := by decide +kernel
theorem d_M_ranks_15 : decode c_M_ranks 15 = .ok (.invokevirtual 196, 3) := by decide +kernel
theorem d_M_ranks_18 : decode c_M_ranks 18 = .ok (.ifCond .ne 5, 3) := by decide +kernel
theorem d_M_ranks_21 : decode c_M_ranks 21 = .ok (.iconst (-1), 1) := by decide +kernel
theorem d_M_ranks_22 : decode c_M_ranks 22 = .ok (.ireturn, 1) := by decide +kernel
theorem d_M_ranks_23 : decode c_M_ranks 23 = .ok (.aload_n 0, 1) := by decide +kernel
theorem d_M_ranks_24 : decode c_M_ranks 24 = .ok (.iload_n 1, 1) := by decide +kernel
theorem d_M_ranks_25 : decode c_M_ranks 25 = .ok (.iload_n 2, 1) := by decide +kernel
theorem d_M_ranks_26 : decode c_M_ranks 26 = .ok (.invokevirtual 260, 3) := by decide +kernel
theorem d_M_ranks_29 : decode c_M_ranks 29 = .ok (.istore_n 3, 1) := by decide +kernel
theorem d_M_ranks_30 : decode c_M_ranks 30 = .ok (.aload_n 0, 1) := by decide +kernel
theorem d_M_ranks_31 : decode c_M_ranks 31 = .ok (.iload_n 3, 1) := by decide +kernel
theorem d_M_ranks_32 : decode c_M_ranks 32 = .ok (.invokestatic 255, 3) := by decide +kernel
theorem d_M_ranks_35 : decode c_M_ranks 35 = .ok (.i2l, 1) := by decide +kernel
theorem d_M_ranks_36 : decode c_M_ranks 36 = .ok (.invokevirtual 221, 3) := by decide +kernel
theorem d_M_ranks_39 : decode c_M_ranks 39 = .ok (.iload_n 3, 1) := by decide +kernel
theorem d_M_ranks_40 : decode c_M_ranks 40 = .ok (.ireturn, 1) := by decide +kernel
theorem d_M_leaves_0 : decode c_M_leaves 0 = .ok (.aload_n 0, 1) := by decide +kernel
theorem d_M_leaves_1 : decode c_M_leaves 1 = .ok (.iconst 0, 1) := by decide +kernel
theorem d_M_leaves_2 : decode c_M_leaves 2 = .ok (.putfield 69, 3) := by decide +kernel
theorem d_M_leaves_5 : decode c_M_leaves 5 = .ok (.iload_n 1, 1) := by decide +kernel
theorem d_M_leaves_6 : decode c_M_leaves 6 = .ok (.invokestatic 151, 3) := by decide +kernel
theorem d_M_leaves_9 : decode c_M_leaves 9 = .ok (.ifCond .eq 12, 3) := by decide +kernel
theorem d_M_leaves_12 : decode c_M_leaves 12 = .ok (.aload_n 0, 1) := by decide +kernel
theorem d_M_leaves_13 : decode c_M_leaves 13 = .ok (.iload_n 1, 1) := by decide +kernel
theorem d_M_leaves_14 : decode c_M_leaves 14 = .ok (.iload_n 2, 1) := by decide +kernel
theorem d_M_leaves_15 : decode c_M_leaves 15 = .ok (.invokevirtual 196, 3) := by decide +kernel
theorem d_M_leaves_18 : decode c_M_leaves 18 = .ok (.ifCond .ne 5, 3) := by decide +kernel
theorem d_M_leaves_21 : decode c_M_leaves 21 = .ok (.iconst (-1), 1) := by decide +kernel
theorem d_M_leaves_22 : decode c_M_leaves 22 = .ok (.ireturn, 1) := by decide +kernel
theorem d_M_leaves_23 : decode c_M_leaves 23 = .ok (.iconst 0, 1) := by decide +kernel
theorem d_M_leaves_24 : decode c_M_leaves 24 = .ok (.istore_n 3, 1) := by decide +kernel
theorem d_M_leaves_25 : decode c_M_leaves 25 = .ok (.iconst 0, 1) := by decide +kernel
theorem d_M_leaves_26 : decode c_M_leaves 26 = .ok (.istore 4, 2) := by decide +kernel
theorem d_M_leaves_28 : decode c_M_leaves 28 = .ok (.iload 4, 2) := by decide +kernel
theorem d_M_leaves_30 : decode c_M_leaves 30 = .ok (.aload_n 0, 1) := by decide +kernel
theorem d_M_leaves_31 : decode c_M_leaves 31 = .ok (.getfield 13, 3) := by decide +kernel
theorem d_M_leaves_34 : decode c_M_leaves 34 = .ok (.iload_n 1, 1) := by decide +kernel
theorem d_M_leaves_35 : decode c_M_leaves 35 = .ok (.iaload, 1) := by decide +kernel
theorem d_M_leaves_36 : decode c_M_leaves 36 = .ok (.if_icmp .ge 26, 3) := by decide +kernel
theorem d_M_leaves_39 : decode c_M_leaves 39 = .ok (.iload_n 3, 1) := by decide +kernel
theorem d_M_leaves_40 : decode c_M_leaves 40 = .ok (.aload_n 0, 1) := by decide +kernel
theorem d_M_leaves_41 : decode c_M_leaves 41 = .ok (.iload_n 1, 1) := by decide +kernel
theorem d_M_leaves_42 : decode c_M_leaves 42 = .ok (.iload 4, 2) := by decide +kernel
theorem d_M_leaves_44 : decode c_M_leaves 44 = .ok (.invokevirtual 260, 3) := by decide +kernel
theorem d_M_leaves_47 : decode c_M_leaves 47 = .ok (.iload_n 2, 1) := by decide +kernel
theorem d_M_leaves_48 : decode c_M_leaves 48 = .ok (.ishr, 1) := by decide +kernel
theorem d_M_leaves_49 : decode c_M_leaves 49 = .ok (.iconst 1, 1) := by decide +kernel
theorem d_M_leaves_50 : decode c_M_leaves 50 = .ok (.iand, 1) := by decide +kernel
theorem d_M_leaves_51 : decode c_M_leaves 51 = .ok (.iload 4, 2) := by decide +kernel
theorem d_M_leaves_53 : decode c_M_leaves 53 = .ok (.ishl, 1) := by decide +kernel
theorem d_M_leaves_54 : decode c_M_leaves 54 = .ok (.ior, 1) := by decide +kernel
theorem d_M_leaves_55 : decode c_M_leaves 55 = .ok (.istore_n 3, 1) := by decide +kernel
theorem d_M_leaves_56 : decode c_M_leaves 56 = .ok (.iinc 4 1, 3) := by decide +kernel
theorem d_M_leaves_59 : decode c_M_leaves 59 = .ok (.goto (-31), 3) := by decide +kernel
theorem d_M_leaves_62 : decode c_M_leaves 62 = .ok (.aload_n 0, 1) := by decide +kernel
theorem d_M_leaves_63 : decode c_M_leaves 63 = .ok (.iload_n 3, 1) := by decide +kernel
theorem d_M_leaves_64 : decode c_M_leaves 64 = .ok (.invokestatic 255, 3) := by decide +kernel
theorem d_M_leaves_67 : decode c_M_leaves 67 = .ok (.i2l, 1) := by decide +kernel
theorem d_M_leaves_68 : decode c_M_leaves 68 = .ok (.invokevirtual 221, 3) := by decide +kernel
theorem d_M_leaves_71 : decode c_M_leaves 71 = .ok (.iload_n 3, 1) := by decide +kernel
theorem d_M_leaves_72 : decode c_M_leaves 72 = .ok (.ireturn, 1) := by decide +kernel
theorem d_M_firstOrder_0 : decode c_M_firstOrder 0 = .ok (.iconst 0, 1) := by decide +kernel
theorem d_M_firstOrder_1 : decode c_M_firstOrder 1 = .ok (.istore_n 2, 1) := by decide +kernel
theorem d_M_firstOrder_2 : decode c_M_firstOrder 2 = .ok (.iload_n 2, 1) := by decide +kernel
theorem d_M_firstOrder_3 : decode c_M_firstOrder 3 = .ok (.iload_n 1, 1) := by decide +kernel
theorem d_M_firstOrder_4 : decode c_M_firstOrder 4 = .ok (.if_icmp .ge 16, 3) := by decide +kernel
theorem d_M_firstOrder_7 : decode c_M_firstOrder 7 = .ok (.aload_n 0, 1) := by decide +kernel
theorem d_M_firstOrder_8 : decode c_M_firstOrder 8 = .ok (.getfield 54, 3) := by decide +kernel
theorem d_M_firstOrder_11 : decode c_M_firstOrder 11 = .ok (.iload_n 2, 1) := by decide +kernel
theorem d_M_firstOrder_12 : decode c_M_firstOrder 12 = .ok (.iload_n 2, 1) := by decide +kernel
theorem d_M_firstOrder_13 : decode c_M_firstOrder 13 = .ok (.iastore, 1) := by decide +kernel
theorem d_M_firstOrder_14 : decode c_M_firstOrder 14 = .ok (.iinc 2 1, 3) := by decide +kernel
theorem d_M_firstOrder_17 : decode c_M_firstOrder 17 = .ok (.goto (-15), 3) := by decide +kernel
theorem d_M_firstOrder_20 : decode c_M_firstOrder 20 = .ok (.return_, 1) := by decide +kernel
theorem d_M_leavesSorted_0 : decode c_M_leavesSorted 0 = .ok (.iconst 0, 1) := by decide +kernel
theorem d_M_leavesSorted_1 : decode c_M_leavesSorted 1 = .ok (.istore_n 2, 1) := by decide +kernel
theorem d_M_leavesSorted_2 : decode c_M_leavesSorted 2 = .ok (.iload_n 2, 1) := by decide +kernel
theorem d_M_leavesSorted_3 : decode c_M_leavesSorted 3 = .ok (.aload_n 0, 1) := by decide +kernel
theorem d_M_leavesSorted_4 : decode c_M_leavesSorted 4 = .ok (.getfield 13, 3) := by decide +kernel
theorem d_M_leavesSorted_7 : decode c_M_leavesSorted 7 = .ok (.iload_n 1, 1) := by decide +kernel
theorem d_M_leavesSorted_8 : decode c_M_leavesSorted 8 = .ok (.iaload, 1) := by decide +kernel
theorem d_M_leavesSorted_9 : decode c_M_leavesSorted 9 = .ok (.if_icmp .ge 21, 3) := by decide +kernel
theorem d_M_leavesSorted_12 : decode c_M_leavesSorted 12 = .ok (.aload_n 0, 1) := by decide +kernel
theorem d_M_leavesSorted_13 : decode c_M_leavesSorted 13 = .ok (.getfield 47, 3) := by decide +kernel
theorem d_M_leavesSorted_16 : decode c_M_leavesSorted 16 = .ok (.iload_n 2, 1) := by decide +kernel
theorem d_M_leavesSorted_17 : decode c_M_leavesSorted 17 = .ok (.aload_n 0, 1) := by decide +kernel
theorem d_M_leavesSorted_18 : decode c_M_leavesSorted 18 = .ok (.getfield 54, 3) := by decide +kernel
theorem d_M_leavesSorted_21 : decode c_M_leavesSorted 21 = .ok (.iload_n 2, 1) := by decide +kernel
theorem d_M_leavesSorted_22 : decode c_M_leavesSorted 22 = .ok (.iaload, 1) := by decide +kernel
theorem d_M_leavesSorted_23 : decode c_M_leavesSorted 23 = .ok (.iastore, 1) := by decide +kernel
theorem d_M_leavesSorted_24 : decode c_M_leavesSorted 24 = .ok (.iinc 2 1, 3) := by decide +kernel
theorem d_M_leavesSorted_27 : decode c_M_leavesSorted 27 = .ok (.goto (-25), 3) := by decide +kernel
theorem d_M_leavesSorted_30 : decode c_M_leavesSorted 30 = .ok (.iconst 0, 1) := by decide +kernel
theorem d_M_leavesSorted_31 : decode c_M_leavesSorted 31 = .ok (.istore_n 2, 1) := by decide +kernel
theorem d_M_leavesSorted_32 : decode c_M_leavesSorted 32 = .ok (.iload_n 2, 1) := by decide +kernel
theorem d_M_leavesSorted_33 : decode c_M_leavesSorted 33 = .ok (.aload_n 0, 1) := by decide +kernel
theorem d_M_leavesSorted_34 : decode c_M_leavesSorted 34 = .ok (.getfield 17, 3) := by decide +kernel
theorem d_M_leavesSorted_37 : decode c_M_leavesSorted 37 = .ok (.iload_n 1, 1) := by decide +kernel
theorem d_M_leavesSorted_38 : decode c_M_leavesSorted 38 = .ok (.iaload, 1) := by decide +kernel
theorem d_M_leavesSorted_39 : decode c_M_leavesSorted 39 = .ok (.if_icmp .ge 68, 3) := by decide +kernel
theorem d_M_leavesSorted_42 : decode c_M_leavesSorted 42 = .ok (.aload_n 0, 1) := by decide +kernel
theorem d_M_leavesSorted_43 : decode c_M_leavesSorted 43 = .ok (.getfield 47, 3) := by decide +kernel
theorem d_M_leavesSorted_46 : decode c_M_leavesSorted 46 = .ok (.aload_n 0, 1) := by decide +kernel
theorem d_M_leavesSorted_47 : decode c_M_leavesSorted 47 = .ok (.iload_n 1, 1) := by decide +kernel
theorem d_M_leavesSorted_48 : decode c_M_leavesSorted 48 = .ok (.iload_n 2, 1) := by decide +kernel
theorem d_M_leavesSorted_49 : decode c_M_leavesSorted 49 = .ok (.invokevirtual 199, 3) := by decide +kernel
theorem d_M_leavesSorted_52 : decode c_M_leavesSorted 52 = .ok (.iaload, 1) := by decide +kernel
theorem d_M_leavesSorted_53 : decode c_M_leavesSorted 53 = .ok (.istore_n 3, 1) := by decide +kernel
theorem d_M_leavesSorted_54 : decode c_M_leavesSorted 54 = .ok (.aload_n 0, 1) := by decide +kernel
theorem d_M_leavesSorted_55 : decode c_M_leavesSorted 55 = .ok (.getfield 47, 3) := by decide +kernel
theorem d_M_leavesSorted_58 : decode c_M_leavesSorted 58 = .ok (.aload_n 0, 1) := by decide +kernel
theorem d_M_leavesSorted_59 : decode c_M_leavesSorted 59 = .ok (.iload_n 1, 1) := by decide +kernel
theorem d_M_leavesSorted_60 : decode c_M_leavesSorted 60 = .ok (.iload_n 2, 1) := by decide +kernel
theorem d_M_leavesSorted_61 : decode c_M_leavesSorted 61 = .ok (.invokevirtual 202, 3) := by decide +kernel
theorem d_M_leavesSorted_64 : decode c_M_leavesSorted 64 = .ok (.iaload, 1) := by decide +kernel
theorem d_M_leavesSorted_65 : decode c_M_leavesSorted 65 = .ok (.istore 4, 2) := by decide +kernel
theorem d_M_leavesSorted_67 : decode c_M_leavesSorted 67 = .ok (.aload_n 0, 1) := by decide +kernel
theorem d_M_leavesSorted_68 : decode c_M_leavesSorted 68 = .ok (.getfield 47, 3) := by decide +kernel
theorem d_M_leavesSorted_71 : decode c_M_leavesSorted 71 = .ok (.aload_n 0, 1) := by decide +kernel
theorem d_M_leavesSorted_72 : decode c_M_leavesSorted 72 = .ok (.iload_n 1, 1) := by decide +kernel
theorem d_M_leavesSorted_73 : decode c_M_leavesSorted 73 = .ok (.iload_n 2, 1) := by decide +kernel
theorem d_M_leavesSorted_74 : decode c_M_leavesSorted 74 = .ok (.invokevirtual 199, 3) := by decide +kernel
theorem d_M_leavesSorted_77 : decode c_M_leavesSorted 77 = .ok (.iload_n 3, 1) := by decide +kernel
theorem d_M_leavesSorted_78 : decode c_M_leavesSorted 78 = .ok (.iload 4, 2) := by decide +kernel
theorem d_M_leavesSorted_80 : decode c_M_leavesSorted 80 = .ok (.invokestatic 132, 3) := by decide +kernel
theorem d_M_leavesSorted_83 : decode c_M_leavesSorted 83 = .ok (.iastore, 1) := by decide +kernel
theorem d_M_leavesSorted_84 : decode c_M_leavesSorted 84 = .ok (.aload_n 0, 1) := by decide +kernel
theorem d_M_leavesSorted_85 : decode c_M_leavesSorted 85 = .ok (.getfield 47, 3) := by decide +kernel
theorem d_M_leavesSorted_88 : decode c_M_leavesSorted 88 = .ok (.aload_n 0, 1) := by decide +kernel
theorem d_M_leavesSorted_89 : decode c_M_leavesSorted 89 = .ok (.iload_n 1, 1) := by decide +kernel
theorem d_M_leavesSorted_90 : decode c_M_leavesSorted 90 = .ok (.iload_n 2, 1) := by decide +kernel
theorem d_M_leavesSorted_91 : decode c_M_leavesSorted 91 = .ok (.invokevirtual 202, 3) := by decide +kernel
theorem d_M_leavesSorted_94 : decode c_M_leavesSorted 94 = .ok (.iload_n 3, 1) := by decide +kernel
theorem d_M_leavesSorted_95 : decode c_M_leavesSorted 95 = .ok (.iload 4, 2) := by decide +kernel
theorem d_M_leavesSorted_97 : decode c_M_leavesSorted 97 = .ok (.invokestatic 138, 3) := by decide +kernel
theorem d_M_leavesSorted_100 : decode c_M_leavesSorted 100 = .ok (.iastore, 1) := by decide +kernel
theorem d_M_leavesSorted_101 : decode c_M_leavesSorted 101 = .ok (.iinc 2 1, 3) := by decide +kernel
theorem d_M_leavesSorted_104 : decode c_M_leavesSorted 104 = .ok (.goto (-72), 3) := by decide +kernel
theorem d_M_leavesSorted_107 : decode c_M_leavesSorted 107 = .ok (.iconst 1, 1) := by decide +kernel
theorem d_M_leavesSorted_108 : decode c_M_leavesSorted 108 = .ok (.istore_n 2, 1) := by decide +kernel
theorem d_M_leavesSorted_109 : decode c_M_leavesSorted 109 = .ok (.iconst 0, 1) := by decide +kernel
theorem d_M_leavesSorted_110 : decode c_M_leavesSorted 110 = .ok (.istore_n 3, 1) := by decide +kernel
theorem d_M_leavesSorted_111 : decode c_M_leavesSorted 111 = .ok (.iload_n 3, 1) := by decide +kernel
theorem d_M_leavesSorted_112 : decode c_M_leavesSorted 112 = .ok (.aload_n 0, 1) := by decide +kernel
theorem d_M_leavesSorted_113 : decode c_M_leavesSorted 113 = .ok (.getfield 13, 3) := by decide +kernel
theorem d_M_leavesSorted_116 : decode c_M_leavesSorted 116 = .ok (.iload_n 1, 1) := by decide +kernel
theorem d_M_leavesSorted_117 : decode c_M_leavesSorted 117 = .ok (.iaload, 1) := by decide +kernel
theorem d_M_leavesSorted_118 : decode c_M_leavesSorted 118 = .ok (.if_icmp .ge 29, 3) := by decide +kernel
theorem d_M_leavesSorted_121 : decode c_M_leavesSorted 121 = .ok (.iload_n 2, 1) := by decide +kernel
theorem d_M_leavesSorted_122 : decode c_M_leavesSorted 122 = .ok (.ifCond .eq 17, 3) := by decide +kernel
theorem d_M_leavesSorted_125 : decode c_M_leavesSorted 125 = .ok (.aload_n 0, 1) := by decide +kernel
theorem d_M_leavesSorted_126 : decode c_M_leavesSorted 126 = .ok (.getfield 47, 3) := by decide +kernel
theorem d_M_leavesSorted_129 : decode c_M_leavesSorted 129 = .ok (.iload_n 3, 1) := by decide +kernel
theorem d_M_leavesSorted_130 : decode c_M_leavesSorted 130 = .ok (.iaload, 1) := by decide +kernel
theorem d_M_leavesSorted_131 : decode c_M_leavesSorted 131 = .ok (.iload_n 3, 1) := by decide +kernel
theorem d_M_leavesSorted_132 : decode c_M_leavesSorted 132 = .ok (.if_icmp .ne 7, 3) := by decide +kernel
theorem d_M_leavesSorted_135 : decode c_M_leavesSorted 135 = .ok (.iconst 1, 1) := by decide +kernel
theorem d_M_leavesSorted_136 : decode c_M_leavesSorted 136 = .ok (.goto 4, 3) := by decide +kernel
theorem d_M_leavesSorted_139 : decode c_M_leavesSorted 139 = .ok (.iconst 0, 1) := by decide +kernel
theorem d_M_leavesSorted_140 : decode c_M_leavesSorted 140 = .ok (.istore_n 2, 1) := by decide +kernel
theorem d_M_leavesSorted_141 : decode c_M_leavesSorted 141 = .ok (.iinc 3 1, 3) := by decide +kernel
theorem d_M_leavesSorted_144 : decode c_M_leavesSorted 144 = .ok (.goto (-33), 3) := by decide +kernel
theorem d_M_leavesSorted_147 : decode c_M_leavesSorted 147 = .ok (.iload_n 2, 1) := by decide +kernel
theorem d_M_leavesSorted_148 : decode c_M_leavesSorted 148 = .ok (.ireturn, 1) := by decide +kernel
theorem d_M_exchanges2_0 : decode c_M_exchanges2 0 = .ok (.aload_n 0, 1) := by decide +kernel
theorem d_M_exchanges2_1 : decode c_M_exchanges2 1 = .ok (.getfield 54, 3) := by decide +kernel
theorem d_M_exchanges2_4 : decode c_M_exchanges2 4 = .ok (.iload_n 1, 1) := by decide +kernel
theorem d_M_exchanges2_5 : decode c_M_exchanges2 5 = .ok (.iaload, 1) := by decide +kernel
theorem d_M_exchanges2_6 : decode c_M_exchanges2 6 = .ok (.istore_n 3, 1) := by decide +kernel
theorem d_M_exchanges2_7 : decode c_M_exchanges2 7 = .ok (.aload_n 0, 1) := by decide +kernel
theorem d_M_exchanges2_8 : decode c_M_exchanges2 8 = .ok (.getfield 54, 3) := by decide +kernel
theorem d_M_exchanges2_11 : decode c_M_exchanges2 11 = .ok (.iload_n 1, 1) := by decide +kernel
theorem d_M_exchanges2_12 : decode c_M_exchanges2 12 = .ok (.aload_n 0, 1) := by decide +kernel
theorem d_M_exchanges2_13 : decode c_M_exchanges2 13 = .ok (.getfield 54, 3) := by decide +kernel
theorem d_M_exchanges2_16 : decode c_M_exchanges2 16 = .ok (.iload_n 2, 1) := by decide +kernel
theorem d_M_exchanges2_17 : decode c_M_exchanges2 17 = .ok (.iaload, 1) := by decide +kernel
theorem d_M_exchanges2_18 : decode c_M_exchanges2 18 = .ok (.iastore, 1) := by decide +kernel
theorem d_M_exchanges2_19 : decode c_M_exchanges2 19 = .ok (.aload_n 0, 1) := by decide +kernel
theorem d_M_exchanges2_20 : decode c_M_exchanges2 20 = .ok (.getfield 54, 3) := by decide +kernel
theorem d_M_exchanges2_23 : decode c_M_exchanges2 23 = .ok (.iload_n 2, 1) := by decide +kernel
theorem d_M_exchanges2_24 : decode c_M_exchanges2 24 = .ok (.iload_n 3, 1) := by decide +kernel
theorem d_M_exchanges2_25 : decode c_M_exchanges2 25 = .ok (.iastore, 1) := by decide +kernel
theorem d_M_exchanges2_26 : decode c_M_exchanges2 26 = .ok (.return_, 1) := by decide +kernel
theorem d_M_nextOrder_0 : decode c_M_nextOrder 0 = .ok (.iload_n 1, 1) := by decide +kernel
theorem d_M_nextOrder_1 : decode c_M_nextOrder 1 = .ok (.iconst 2, 1) := by decide +kernel
theorem d_M_nextOrder_2 : decode c_M_nextOrder 2 = .ok (.isub, 1) := by decide +kernel
theorem d_M_nextOrder_3 : decode c_M_nextOrder 3 = .ok (.istore_n 2, 1) := by decide +kernel
theorem d_M_nextOrder_4 : decode c_M_nextOrder 4 = .ok (.iload_n 2, 1) := by decide +kernel
theorem d_M_nextOrder_5 : decode c_M_nextOrder 5 = .ok (.ifCond .lt 26, 3) := by decide +kernel
theorem d_M_nextOrder_8 : decode c_M_nextOrder 8 = .ok (.aload_n 0, 1) := by decide +kernel
theorem d_M_nextOrder_9 : decode c_M_nextOrder 9 = .ok (.getfield 54, 3) := by decide +kernel
theorem d_M_nextOrder_12 : decode c_M_nextOrder 12 = .ok (.iload_n 2, 1) := by decide +kernel
theorem d_M_nextOrder_13 : decode c_M_nextOrder 13 = .ok (.iaload, 1) := by decide +kernel
theorem d_M_nextOrder_14 : decode c_M_nextOrder 14 = .ok (.aload_n 0, 1) := by decide +kernel
theorem d_M_nextOrder_15 : decode c_M_nextOrder 15 = .ok (.getfield 54, 3) := by decide +kernel
theorem d_M_nextOrder_18 : decode c_M_nextOrder 18 = .ok (.iload_n 2, 1) := by decide +kernel
theorem d_M_nextOrder_19 : decode c_M_nextOrder 19 = .ok (.iconst 1, 1) := by decide +kernel
theorem d_M_nextOrder_20 : decode c_M_nextOrder 20 = .ok (.iadd, 1) := by decide +kernel
theorem d_M_nextOrder_21 : decode c_M_nextOrder 21 = .ok (.iaload, 1) := by decide +kernel
theorem d_M_nextOrder_22 : decode c_M_nextOrder 22 = .ok (.if_icmp .le 9, 3) := by decide +kernel
theorem d_M_nextOrder_25 : decode c_M_nextOrder 25 = .ok (.iinc 2 (-1), 3) := by decide +kernel
theorem d_M_nextOrder_28 : decode c_M_nextOrder 28 = .ok (.goto (-24), 3) := by decide +kernel
theorem d_M_nextOrder_31 : decode c_M_nextOrder 31 = .ok (.iload_n 2, 1) := by decide +kernel
theorem d_M_nextOrder_32 : decode c_M_nextOrder 32 = .ok (.ifCond .ge 5, 3) := by decide +kernel
theorem d_M_nextOrder_35 : decode c_M_nextOrder 35 = .ok (.iconst 0, 1) := by decide +kernel
theorem d_M_nextOrder_36 : decode c_M_nextOrder 36 = .ok (.ireturn, 1) := by decide +kernel
theorem d_M_nextOrder_37 : decode c_M_nextOrder 37 = .ok (.iload_n 1, 1) := by decide +kernel
theorem d_M_nextOrder_38 : decode c_M_nextOrder 38 = .ok (.iconst 1, 1) := by decide +kernel
theorem d_M_nextOrder_39 : decode c_M_nextOrder 39 = .ok (.isub, 1) := by decide +kernel
theorem d_M_nextOrder_40 : decode c_M_nextOrder 40 = .ok (.istore_n 3, 1) := by decide +kernel
theorem d_M_nextOrder_41 : decode c_M_nextOrder 41 = .ok (.aload_n 0, 1) := by decide +kernel
theorem d_M_nextOrder_42 : decode c_M_nextOrder 42 = .ok (.getfield 54, 3) := by decide +kernel
theorem d_M_nextOrder_45 : decode c_M_nextOrder 45 = .ok (.iload_n 3, 1) := by decide +kernel
theorem d_M_nextOrder_46 : decode c_M_nextOrder 46 = .ok (.iaload, 1) := by decide +kernel
theorem d_M_nextOrder_47 : decode c_M_nextOrder 47 = .ok (.aload_n 0, 1) := by decide +kernel
theorem d_M_nextOrder_48 : decode c_M_nextOrder 48 = .ok (.getfield 54, 3) := by decide +kernel
theorem d_M_nextOrder_51 : decode c_M_nextOrder 51 = .ok (.iload_n 2, 1) := by decide +kernel
theorem d_M_nextOrder_52 : decode c_M_nextOrder 52 = .ok (.iaload, 1) := by decide +kernel
theorem d_M_nextOrder_53 : decode c_M_nextOrder 53 = .ok (.if_icmp .ge 9, 3) := by decide +kernel
theorem d_M_nextOrder_56 : decode c_M_nextOrder 56 = .ok (.iinc 3 (-1), 3) := by decide +kernel
theorem d_M_nextOrder_59 : decode c_M_nextOrder 59 = .ok (.goto (-18), 3) := by decide +kernel
theorem d_M_nextOrder_62 : decode c_M_nextOrder 62 = .ok (.aload_n 0, 1) := by decide +kernel
theorem d_M_nextOrder_63 : decode c_M_nextOrder 63 = .ok (.iload_n 2, 1) := by decide +kernel
theorem d_M_nextOrder_64 : decode c_M_nextOrder 64 = .ok (.iload_n 3, 1) := by decide +kernel
theorem d_M_nextOrder_65 : decode c_M_nextOrder 65 = .ok (.invokevirtual 263, 3) := by decide +kernel
theorem d_M_nextOrder_68 : decode c_M_nextOrder 68 = .ok (.iload_n 2, 1) := by decide +kernel
theorem d_M_nextOrder_69 : decode c_M_nextOrder 69 = .ok (.iconst 1, 1) := by decide +kernel
theorem d_M_nextOrder_70 : decode c_M_nextOrder 70 = .ok (.iadd, 1) := by decide +kernel
theorem d_M_nextOrder_71 : decode c_M_nextOrder 71 = .ok (.istore 4, 2) := by decide +kernel
theorem d_M_nextOrder_73 : decode c_M_nextOrder 73 = .ok (.iload_n 1, 1) := by decide +kernel
theorem d_M_nextOrder_74 : decode c_M_nextOrder 74 = .ok (.iconst 1, 1) := by decide +kernel
theorem d_M_nextOrder_75 : decode c_M_nextOrder 75 = .ok (.isub, 1) := by decide +kernel
theorem d_M_nextOrder_76 : decode c_M_nextOrder 76 = .ok (.istore 5, 2) := by decide +kernel
theorem d_M_nextOrder_78 : decode c_M_nextOrder 78 = .ok (.iload 4, 2) := by decide +kernel
theorem d_M_nextOrder_80 : decode c_M_nextOrder 80 = .ok (.iload 5, 2) := by decide +kernel
theorem d_M_nextOrder_82 : decode c_M_nextOrder 82 = .ok (.if_icmp .ge 20, 3) := by decide +kernel
theorem d_M_nextOrder_85 : decode c_M_nextOrder 85 = .ok (.aload_n 0, 1) := by decide +kernel
theorem d_M_nextOrder_86 : decode c_M_nextOrder 86 = .ok (.iload 4, 2) := by decide +kernel
theorem d_M_nextOrder_88 : decode c_M_nextOrder 88 = .ok (.iload 5, 2) := by decide +kernel
theorem d_M_nextOrder_90 : decode c_M_nextOrder 90 = .ok (.invokevirtual 263, 3) := by decide +kernel
theorem d_M_nextOrder_93 : decode c_M_nextOrder 93 = .ok (.iinc 4 1, 3) := by decide +kernel
theorem d_M_nextOrder_96 : decode c_M_nextOrder 96 = .ok (.iinc 5 (-1), 3) := by decide +kernel
theorem d_M_nextOrder_99 : decode c_M_nextOrder 99 = .ok (.goto (-21), 3) := by decide +kernel
theorem d_M_nextOrder_102 : decode c_M_nextOrder 102 = .ok (.iconst 1, 1) := by decide +kernel
theorem d_M_nextOrder_103 : decode c_M_nextOrder 103 = .ok (.ireturn, 1) := by decide +kernel
theorem d_M_orders_0 : decode c_M_orders 0 = .ok (.aload_n 0, 1) := by decide +kernel
theorem d_M_orders_1 : decode c_M_orders 1 = .ok (.iconst 0, 1) := by decide +kernel
theorem d_M_orders_2 : decode c_M_orders 2 = .ok (.putfield 69, 3) := by decide +kernel
theorem d_M_orders_5 : decode c_M_orders 5 = .ok (.iload_n 1, 1) := by decide +kernel
theorem d_M_orders_6 : decode c_M_orders 6 = .ok (.invokestatic 151, 3) := by decide +kernel
theorem d_M_orders_9 : decode c_M_orders 9 = .ok (.ifCond .ne 5, 3) := by decide +kernel
theorem d_M_orders_12 : decode c_M_orders 12 = .ok (.iconst (-1), 1) := by decide +kernel
theorem d_M_orders_13 : decode c_M_orders 13 = .ok (.ireturn, 1) := by decide +kernel
theorem d_M_orders_14 : decode c_M_orders 14 = .ok (.aload_n 0, 1) := by decide +kernel
theorem d_M_orders_15 : decode c_M_orders 15 = .ok (.getfield 13, 3) := by decide +kernel
theorem d_M_orders_18 : decode c_M_orders 18 = .ok (.iload_n 1, 1) := by decide +kernel
theorem d_M_orders_19 : decode c_M_orders 19 = .ok (.iaload, 1) := by decide +kernel
theorem d_M_orders_20 : decode c_M_orders 20 = .ok (.bipush 8, 2) := by decide +kernel
theorem d_M_orders_22 : decode c_M_orders 22 = .ok (.if_icmp .ne 6, 3) := by decide +kernel
theorem d_M_orders_25 : decode c_M_orders 25 = .ok (.bipush (-2), 2) := by decide +kernel
theorem d_M_orders_27 : decode c_M_orders 27 = .ok (.ireturn, 1) := by decide +kernel
theorem d_M_orders_28 : decode c_M_orders 28 = .ok (.iconst 0, 1) := by decide +kernel
theorem d_M_orders_29 : decode c_M_orders 29 = .ok (.istore_n 2, 1) := by decide +kernel
theorem d_M_orders_30 : decode c_M_orders 30 = .ok (.aload_n 0, 1) := by decide +kernel
theorem d_M_orders_31 : decode c_M_orders 31 = .ok (.iconst 0, 1) := by decide +kernel
theorem d_M_orders_32 : decode c_M_orders 32 = .ok (.putfield 73, 3) := by decide +kernel
theorem d_M_orders_35 : decode c_M_orders 35 = .ok (.aload_n 0, 1) := by decide +kernel
theorem d_M_orders_36 : decode c_M_orders 36 = .ok (.aload_n 0, 1) := by decide +kernel
theorem d_M_orders_37 : decode c_M_orders 37 = .ok (.getfield 13, 3) := by decide +kernel
theorem d_M_orders_40 : decode c_M_orders 40 = .ok (.iload_n 1, 1) := by decide +kernel
theorem d_M_orders_41 : decode c_M_orders 41 = .ok (.iaload, 1) := by decide +kernel
theorem d_M_orders_42 : decode c_M_orders 42 = .ok (.invokevirtual 265, 3) := by decide +kernel
theorem d_M_orders_45 : decode c_M_orders 45 = .ok (.iconst 1, 1) := by decide +kernel
theorem d_M_orders_46 : decode c_M_orders 46 = .ok (.istore_n 3, 1) := by decide +kernel
theorem d_M_orders_47 : decode c_M_orders 47 = .ok (.iload_n 3, 1) := by decide +kernel
theorem d_M_orders_48 : decode c_M_orders 48 = .ok (.ifCond .eq 64, 3) := by decide +kernel
theorem d_M_orders_51 : decode c_M_orders 51 = .ok (.aload_n 0, 1) := by decide +kernel
theorem d_M_orders_52 : decode c_M_orders 52 = .ok (.iload_n 1, 1) := by decide +kernel
theorem d_M_orders_53 : decode c_M_orders 53 = .ok (.invokevirtual 268, 3) := by decide +kernel
theorem d_M_orders_56 : decode c_M_orders 56 = .ok (.ifCond .ne 42, 3) := by decide +kernel
theorem d_M_orders_59 : decode c_M_orders 59 = .ok (.iconst 0, 1) := by decide +kernel
theorem d_M_orders_60 : decode c_M_orders 60 = .ok (.istore 4, 2) := by decide +kernel
theorem d_M_orders_62 : decode c_M_orders 62 = .ok (.iload 4, 2) := by decide +kernel
theorem d_M_orders_64 : decode c_M_orders 64 = .ok (.aload_n 0, 1) := by decide +kernel
theorem d_M_orders_65 : decode c_M_orders 65 = .ok (.getfield 13, 3) := by decide +kernel
theorem d_M_orders_68 : decode c_M_orders 68 = .ok (.iload_n 1, 1) := by decide +kernel
theorem d_M_orders_69 : decode c_M_orders 69 = .ok (.iaload, 1) := by decide +kernel
theorem d_M_orders_70 : decode c_M_orders 70 = .ok (.if_icmp .ge 25, 3) := by decide +kernel
theorem d_M_orders_73 : decode c_M_orders 73 = .ok (.iload_n 2, 1) := by decide +kernel
theorem d_M_orders_74 : decode c_M_orders 74 = .ok (.ifCond .ne 21, 3) := by decide +kernel
theorem d_M_orders_77 : decode c_M_orders 77 = .ok (.aload_n 0, 1) := by decide +kernel
theorem d_M_orders_78 : decode c_M_orders 78 = .ok (.aload_n 0, 1) := by decide +kernel
theorem d_M_orders_79 : decode c_M_orders 79 = .ok (.getfield 54, 3) := by decide +kernel
theorem d_M_orders_82 : decode c_M_orders 82 = .ok (.iload 4, 2) := by decide +kernel
theorem d_M_orders_84 : decode c_M_orders 84 = .ok (.iaload, 1) := by decide +kernel
theorem d_M_orders_85 : decode c_M_orders 85 = .ok (.i2l, 1) := by decide +kernel
theorem d_M_orders_86 : decode c_M_orders 86 = .ok (.invokevirtual 76, 3) := by decide +kernel
theorem d_M_orders_89 : decode c_M_orders 89 = .ok (.iinc 4 1, 3) := by decide +kernel
theorem d_M_orders_92 : decode c_M_orders 92 = .ok (.goto (-30), 3) := by decide +kernel
theorem d_M_orders_95 : decode c_M_orders 95 = .ok (.iinc 2 1, 3) := by decide +kernel
theorem d_M_orders_98 : decode c_M_orders 98 = .ok (.aload_n 0, 1) := by decide +kernel
theorem d_M_orders_99 : decode c_M_orders 99 = .ok (.aload_n 0, 1) := by decide +kernel
theorem d_M_orders_100 : decode c_M_orders 100 = .ok (.getfield 13, 3) := by decide +kernel
theorem d_M_orders_103 : decode c_M_orders 103 = .ok (.iload_n 1, 1) := by decide +kernel
theorem d_M_orders_104 : decode c_M_orders 104 = .ok (.iaload, 1) := by decide +kernel
theorem d_M_orders_105 : decode c_M_orders 105 = .ok (.invokevirtual 271, 3) := by decide +kernel
theorem d_M_orders_108 : decode c_M_orders 108 = .ok (.istore_n 3, 1) := by decide +kernel
theorem d_M_orders_109 : decode c_M_orders 109 = .ok (.goto (-62), 3) := by decide +kernel
theorem d_M_orders_112 : decode c_M_orders 112 = .ok (.iload_n 2, 1) := by decide +kernel
theorem d_M_orders_113 : decode c_M_orders 113 = .ok (.ireturn, 1) := by decide +kernel
theorem d_M_merges_0 : decode c_M_merges 0 = .ok (.aload_n 0, 1) := by decide +kernel
theorem d_M_merges_1 : decode c_M_merges 1 = .ok (.iconst 0, 1) := by decide +kernel
theorem d_M_merges_2 : decode c_M_merges 2 = .ok (.putfield 69, 3) := by decide +kernel
theorem d_M_merges_5 : decode c_M_merges 5 = .ok (.iload_n 1, 1) := by decide +kernel
theorem d_M_merges_6 : decode c_M_merges 6 = .ok (.invokestatic 151, 3) := by decide +kernel
theorem d_M_merges_9 : decode c_M_merges 9 = .ok (.ifCond .eq 21, 3) := by decide +kernel
theorem d_M_merges_12 : decode c_M_merges 12 = .ok (.iload_n 2, 1) := by decide +kernel
theorem d_M_merges_13 : decode c_M_merges 13 = .ok (.i2l, 1) := by decide +kernel
theorem d_M_merges_14 : decode c_M_merges 14 = .ok (.lconst 1, 1) := by decide +kernel
theorem d_M_merges_15 : decode c_M_merges 15 = .ok (.aload_n 0, 1) := by decide +kernel
theorem d_M_merges_16 : decode c_M_merges 16 = .ok (.getfield 13, 3) := by decide +kernel
theorem d_M_merges_19 : decode c_M_merges 19 = .ok (.iload_n 1, 1) := by decide +kernel
theorem d_M_merges_20 : decode c_M_merges 20 = .ok (.iaload, 1) := by decide +kernel
theorem d_M_merges_21 : decode c_M_merges 21 = .ok (.iconst 1, 1) := by decide +kernel
theorem d_M_merges_22 : decode c_M_merges 22 = .ok (.isub, 1) := by decide +kernel
theorem d_M_merges_23 : decode c_M_merges 23 = .ok (.i2l, 1) := by decide +kernel
theorem d_M_merges_24 : decode c_M_merges 24 = .ok (.invokestatic 82, 3) := by decide +kernel
theorem d_M_merges_27 : decode c_M_merges 27 = .ok (.ifCond .ne 5, 3) := by decide +kernel
theorem d_M_merges_30 : decode c_M_merges 30 = .ok (.iconst (-1), 1) := by decide +kernel
theorem d_M_merges_31 : decode c_M_merges 31 = .ok (.ireturn, 1) := by decide +kernel
theorem d_M_merges_32 : decode c_M_merges 32 = .ok (.iconst 0, 1) := by decide +kernel
theorem d_M_merges_33 : decode c_M_merges 33 = .ok (.istore_n 3, 1) := by decide +kernel
theorem d_M_merges_34 : decode c_M_merges 34 = .ok (.iconst 0, 1) := by decide +kernel
theorem d_M_merges_35 : decode c_M_merges 35 = .ok (.istore 4, 2) := by decide +kernel
theorem d_M_merges_37 : decode c_M_merges 37 = .ok (.iconst 0, 1) := by decide +kernel
theorem d_M_merges_38 : decode c_M_merges 38 = .ok (.istore 5, 2) := by decide +kernel
theorem d_M_merges_40 : decode c_M_merges 40 = .ok (.iload 5, 2) := by decide +kernel
theorem d_M_merges_42 : decode c_M_merges 42 = .ok (.aload_n 0, 1) := by decide +kernel
theorem d_M_merges_43 : decode c_M_merges 43 = .ok (.iload_n 1, 1) := by decide +kernel
theorem d_M_merges_44 : decode c_M_merges 44 = .ok (.invokevirtual 86, 3) := by decide +kernel
theorem d_M_merges_47 : decode c_M_merges 47 = .ok (.if_icmp .ge 57, 3) := by decide +kernel
theorem d_M_merges_50 : decode c_M_merges 50 = .ok (.iload_n 2, 1) := by decide +kernel
theorem d_M_merges_51 : decode c_M_merges 51 = .ok (.iload 5, 2) := by decide +kernel
theorem d_M_merges_53 : decode c_M_merges 53 = .ok (.invokestatic 232, 3) := by decide +kernel
theorem d_M_merges_56 : decode c_M_merges 56 = .ok (.ifCond .eq 42, 3) := by decide +kernel
theorem d_M_merges_59 : decode c_M_merges 59 = .ok (.aload_n 0, 1) := by decide +kernel
theorem d_M_merges_60 : decode c_M_merges 60 = .ok (.getfield 13, 3) := by decide +kernel
theorem d_M_merges_63 : decode c_M_merges 63 = .ok (.iload_n 1, 1) := by decide +kernel
theorem d_M_merges_64 : decode c_M_merges 64 = .ok (.iaload, 1) := by decide +kernel
theorem d_M_merges_65 : decode c_M_merges 65 = .ok (.iload_n 2, 1) := by decide +kernel
theorem d_M_merges_66 : decode c_M_merges 66 = .ok (.isub, 1) := by decide +kernel
theorem d_M_merges_67 : decode c_M_merges 67 = .ok (.iload 5, 2) := by decide +kernel
theorem d_M_merges_69 : decode c_M_merges 69 = .ok (.iload_n 2, 1) := by decide +kernel
theorem d_M_merges_70 : decode c_M_merges 70 = .ok (.ishr, 1) := by decide +kernel
theorem d_M_merges_71 : decode c_M_merges 71 = .ok (.invokestatic 232, 3) := by decide +kernel
theorem d_M_merges_74 : decode c_M_merges 74 = .ok (.ifCond .ne 6, 3) := by decide +kernel
theorem d_M_merges_77 : decode c_M_merges 77 = .ok (.goto 21, 3) := by decide +kernel
theorem d_M_merges_80 : decode c_M_merges 80 = .ok (.iinc 4 1, 3) := by decide +kernel
theorem d_M_merges_83 : decode c_M_merges 83 = .ok (.iload_n 3, 1) := by decide +kernel
theorem d_M_merges_84 : decode c_M_merges 84 = .ok (.aload_n 0, 1) := by decide +kernel
theorem d_M_merges_85 : decode c_M_merges 85 = .ok (.iload_n 1, 1) := by decide +kernel
theorem d_M_merges_86 : decode c_M_merges 86 = .ok (.iload 5, 2) := by decide +kernel
theorem d_M_merges_88 : decode c_M_merges 88 = .ok (.iconst (-1), 1) := by decide +kernel
theorem d_M_merges_89 : decode c_M_merges 89 = .ok (.iconst 0, 1) := by decide +kernel
theorem d_M_merges_90 : decode c_M_merges 90 = .ok (.invokevirtual 238, 3) := by decide +kernel
theorem d_M_merges_93 : decode c_M_merges 93 = .ok (.invokestatic 188, 3) := by decide +kernel
theorem d_M_merges_96 : decode c_M_merges 96 = .ok (.iadd, 1) := by decide +kernel
theorem d_M_merges_97 : decode c_M_merges 97 = .ok (.istore_n 3, 1) := by decide +kernel
theorem d_M_merges_98 : decode c_M_merges 98 = .ok (.iinc 5 1, 3) := by decide +kernel
theorem d_M_merges_101 : decode c_M_merges 101 = .ok (.goto (-61), 3) := by decide +kernel
theorem d_M_merges_104 : decode c_M_merges 104 = .ok (.aload_n 0, 1) := by decide +kernel
theorem d_M_merges_105 : decode c_M_merges 105 = .ok (.iload 4, 2) := by decide +kernel
theorem d_M_merges_107 : decode c_M_merges 107 = .ok (.i2l, 1) := by decide +kernel
theorem d_M_merges_108 : decode c_M_merges 108 = .ok (.invokevirtual 221, 3) := by decide +kernel
theorem d_M_merges_111 : decode c_M_merges 111 = .ok (.iload_n 3, 1) := by decide +kernel
theorem d_M_merges_112 : decode c_M_merges 112 = .ok (.ireturn, 1) := by decide +kernel
theorem d_M_bits_0 : decode c_M_bits 0 = .ok (.lload_n 0, 1) := by decide +kernel
theorem d_M_bits_1 : decode c_M_bits 1 = .ok (.invokestatic 274, 3) := by decide +kernel
theorem d_M_bits_4 : decode c_M_bits 4 = .ok (.ireturn, 1) := by decide +kernel
theorem d_M_idle_0 : decode c_M_idle 0 = .ok (.aload_n 0, 1) := by decide +kernel
theorem d_M_idle_1 : decode c_M_idle 1 = .ok (.iconst 0, 1) := by decide +kernel
theorem d_M_idle_2 : decode c_M_idle 2 = .ok (.putfield 69, 3) := by decide +kernel
theorem d_M_idle_5 : decode c_M_idle 5 = .ok (.iload_n 1, 1) := by decide +kernel
theorem d_M_idle_6 : decode c_M_idle 6 = .ok (.invokestatic 151, 3) := by decide +kernel
theorem d_M_idle_9 : decode c_M_idle 9 = .ok (.ifCond .ne 7, 3) := by decide +kernel
theorem d_M_idle_12 : decode c_M_idle 12 = .ok (.ldc2_w 279, 3) := by decide +kernel
theorem d_M_idle_15 : decode c_M_idle 15 = .ok (.lreturn, 1) := by decide +kernel
theorem d_M_idle_16 : decode c_M_idle 16 = .ok (.lconst 0, 1) := by decide +kernel
theorem d_M_idle_17 : decode c_M_idle 17 = .ok (.lstore_n 2, 1) := by decide +kernel
theorem d_M_idle_18 : decode c_M_idle 18 = .ok (.iconst 0, 1) := by decide +kernel
theorem d_M_idle_19 : decode c_M_idle 19 = .ok (.istore 4, 2) := by decide +kernel
theorem d_M_idle_21 : decode c_M_idle 21 = .ok (.iload 4, 2) := by decide +kernel
theorem d_M_idle_23 : decode c_M_idle 23 = .ok (.aload_n 0, 1) := by decide +kernel
theorem d_M_idle_24 : decode c_M_idle 24 = .ok (.iload_n 1, 1) := by decide +kernel
theorem d_M_idle_25 : decode c_M_idle 25 = .ok (.invokevirtual 86, 3) := by decide +kernel
theorem d_M_idle_28 : decode c_M_idle 28 = .ok (.if_icmp .ge 26, 3) := by decide +kernel
theorem d_M_idle_31 : decode c_M_idle 31 = .ok (.aload_n 0, 1) := by decide +kernel
theorem d_M_idle_32 : decode c_M_idle 32 = .ok (.iload_n 1, 1) := by decide +kernel
theorem d_M_idle_33 : decode c_M_idle 33 = .ok (.iload 4, 2) := by decide +kernel
theorem d_M_idle_35 : decode c_M_idle 35 = .ok (.iconst (-1), 1) := by decide +kernel
theorem d_M_idle_36 : decode c_M_idle 36 = .ok (.iconst 0, 1) := by decide +kernel
theorem d_M_idle_37 : decode c_M_idle 37 = .ok (.invokevirtual 228, 3) := by decide +kernel
theorem d_M_idle_40 : decode c_M_idle 40 = .ok (.pop, 1) := by decide +kernel
theorem d_M_idle_41 : decode c_M_idle 41 = .ok (.lload_n 2, 1) := by decide +kernel
theorem d_M_idle_42 : decode c_M_idle 42 = .ok (.aload_n 0, 1) := by decide +kernel
theorem d_M_idle_43 : decode c_M_idle 43 = .ok (.getfield 224, 3) := by decide +kernel
theorem d_M_idle_46 : decode c_M_idle 46 = .ok (.lor, 1) := by decide +kernel
theorem d_M_idle_47 : decode c_M_idle 47 = .ok (.lstore_n 2, 1) := by decide +kernel
theorem d_M_idle_48 : decode c_M_idle 48 = .ok (.iinc 4 1, 3) := by decide +kernel
theorem d_M_idle_51 : decode c_M_idle 51 = .ok (.goto (-30), 3) := by decide +kernel
theorem d_M_idle_54 : decode c_M_idle 54 = .ok (.lconst 1, 1) := by decide +kernel
theorem d_M_idle_55 : decode c_M_idle 55 = .ok (.aload_n 0, 1) := by decide +kernel
theorem d_M_idle_56 : decode c_M_idle 56 = .ok (.getfield 17, 3) := by decide +kernel
theorem d_M_idle_59 : decode c_M_idle 59 = .ok (.iload_n 1, 1) := by decide +kernel
theorem d_M_idle_60 : decode c_M_idle 60 = .ok (.iaload, 1) := by decide +kernel
theorem d_M_idle_61 : decode c_M_idle 61 = .ok (.lshl, 1) := by decide +kernel
theorem d_M_idle_62 : decode c_M_idle 62 = .ok (.lconst 1, 1) := by decide +kernel
theorem d_M_idle_63 : decode c_M_idle 63 = .ok (.lsub, 1) := by decide +kernel
theorem d_M_idle_64 : decode c_M_idle 64 = .ok (.lload_n 2, 1) := by decide +kernel
theorem d_M_idle_65 : decode c_M_idle 65 = .ok (.ldc2_w 279, 3) := by decide +kernel
theorem d_M_idle_68 : decode c_M_idle 68 = .ok (.lxor, 1) := by decide +kernel
theorem d_M_idle_69 : decode c_M_idle 69 = .ok (.land, 1) := by decide +kernel
theorem d_M_idle_70 : decode c_M_idle 70 = .ok (.lstore 4, 2) := by decide +kernel
theorem d_M_idle_72 : decode c_M_idle 72 = .ok (.aload_n 0, 1) := by decide +kernel
theorem d_M_idle_73 : decode c_M_idle 73 = .ok (.lload 4, 2) := by decide +kernel
theorem d_M_idle_75 : decode c_M_idle 75 = .ok (.invokestatic 281, 3) := by decide +kernel
theorem d_M_idle_78 : decode c_M_idle 78 = .ok (.i2l, 1) := by decide +kernel
theorem d_M_idle_79 : decode c_M_idle 79 = .ok (.invokevirtual 221, 3) := by decide +kernel
theorem d_M_idle_82 : decode c_M_idle 82 = .ok (.lload 4, 2) := by decide +kernel
theorem d_M_idle_84 : decode c_M_idle 84 = .ok (.lreturn, 1) := by decide +kernel
theorem d_M_doesSort_0 : decode c_M_doesSort 0 = .ok (.aload_n 0, 1) := by decide +kernel
theorem d_M_doesSort_1 : decode c_M_doesSort 1 = .ok (.iload_n 1, 1) := by decide +kernel
theorem d_M_doesSort_2 : decode c_M_doesSort 2 = .ok (.iconst (-1), 1) := by decide +kernel
theorem d_M_doesSort_3 : decode c_M_doesSort 3 = .ok (.iconst 0, 1) := by decide +kernel
theorem d_M_doesSort_4 : decode c_M_doesSort 4 = .ok (.invokevirtual 192, 3) := by decide +kernel
theorem d_M_doesSort_7 : decode c_M_doesSort 7 = .ok (.ifCond .ne 7, 3) := by decide +kernel
theorem d_M_doesSort_10 : decode c_M_doesSort 10 = .ok (.iconst 1, 1) := by decide +kernel
theorem d_M_doesSort_11 : decode c_M_doesSort 11 = .ok (.goto 4, 3) := by decide +kernel
theorem d_M_doesSort_14 : decode c_M_doesSort 14 = .ok (.iconst 0, 1) := by decide +kernel
theorem d_M_doesSort_15 : decode c_M_doesSort 15 = .ok (.ireturn, 1) := by decide +kernel
theorem d_M_spares_0 : decode c_M_spares 0 = .ok (.lconst 0, 1) := by decide +kernel
theorem d_M_spares_1 : decode c_M_spares 1 = .ok (.lstore_n 2, 1) := by decide +kernel
theorem d_M_spares_2 : decode c_M_spares 2 = .ok (.iconst 0, 1) := by decide +kernel
theorem d_M_spares_3 : decode c_M_spares 3 = .ok (.istore 4, 2) := by decide +kernel
theorem d_M_spares_5 : decode c_M_spares 5 = .ok (.iload 4, 2) := by decide +kernel
theorem d_M_spares_7 : decode c_M_spares 7 = .ok (.aload_n 0, 1) := by decide +kernel
theorem d_M_spares_8 : decode c_M_spares 8 = .ok (.getfield 17, 3) := by decide +kernel
theorem d_M_spares_11 : decode c_M_spares 11 = .ok (.iload_n 1, 1) := by decide +kernel
theorem d_M_spares_12 : decode c_M_spares 12 = .ok (.iaload, 1) := by decide +kernel
theorem d_M_spares_13 : decode c_M_spares 13 = .ok (.if_icmp .ge 31, 3) := by decide +kernel
theorem d_M_spares_16 : decode c_M_spares 16 = .ok (.lload_n 2, 1) := by decide +kernel
theorem d_M_spares_17 : decode c_M_spares 17 = .ok (.aload_n 0, 1) := by decide +kernel
theorem d_M_spares_18 : decode c_M_spares 18 = .ok (.iload_n 1, 1) := by decide +kernel
theorem d_M_spares_19 : decode c_M_spares 19 = .ok (.iload 4, 2) := by decide +kernel
theorem d_M_spares_21 : decode c_M_spares 21 = .ok (.iconst 0, 1) := by decide +kernel
theorem d_M_spares_22 : decode c_M_spares 22 = .ok (.invokevirtual 192, 3) := by decide +kernel
theorem d_M_spares_25 : decode c_M_spares 25 = .ok (.ifCond .ne 10, 3) := by decide +kernel
theorem d_M_spares_28 : decode c_M_spares 28 = .ok (.lconst 1, 1) := by decide +kernel
theorem d_M_spares_29 : decode c_M_spares 29 = .ok (.iload 4, 2) := by decide +kernel
theorem d_M_spares_31 : decode c_M_spares 31 = .ok (.lshl, 1) := by decide +kernel
theorem d_M_spares_32 : decode c_M_spares 32 = .ok (.goto 4, 3) := by decide +kernel
theorem d_M_spares_35 : decode c_M_spares 35 = .ok (.lconst 0, 1) := by decide +kernel
theorem d_M_spares_36 : decode c_M_spares 36 = .ok (.lor, 1) := by decide +kernel
theorem d_M_spares_37 : decode c_M_spares 37 = .ok (.lstore_n 2, 1) := by decide +kernel
theorem d_M_spares_38 : decode c_M_spares 38 = .ok (.iinc 4 1, 3) := by decide +kernel
theorem d_M_spares_41 : decode c_M_spares 41 = .ok (.goto (-36), 3) := by decide +kernel
theorem d_M_spares_44 : decode c_M_spares 44 = .ok (.lload_n 2, 1) := by decide +kernel
theorem d_M_spares_45 : decode c_M_spares 45 = .ok (.lreturn, 1) := by decide +kernel
theorem d_M_spare_0 : decode c_M_spare 0 = .ok (.aload_n 0, 1) := by decide +kernel
theorem d_M_spare_1 : decode c_M_spare 1 = .ok (.iconst 0, 1) := by decide +kernel
theorem d_M_spare_2 : decode c_M_spare 2 = .ok (.putfield 69, 3) := by decide +kernel
theorem d_M_spare_5 : decode c_M_spare 5 = .ok (.iload_n 1, 1) := by decide +kernel
theorem d_M_spare_6 : decode c_M_spare 6 = .ok (.invokestatic 151, 3) := by decide +kernel
theorem d_M_spare_9 : decode c_M_spare 9 = .ok (.ifCond .ne 7, 3) := by decide +kernel
theorem d_M_spare_12 : decode c_M_spare 12 = .ok (.ldc2_w 279, 3) := by decide +kernel
theorem d_M_spare_15 : decode c_M_spare 15 = .ok (.lreturn, 1) := by decide +kernel
theorem d_M_spare_16 : decode c_M_spare 16 = .ok (.aload_n 0, 1) := by decide +kernel
theorem d_M_spare_17 : decode c_M_spare 17 = .ok (.iload_n 1, 1) := by decide +kernel
theorem d_M_spare_18 : decode c_M_spare 18 = .ok (.invokevirtual 284, 3) := by decide +kernel
theorem d_M_spare_21 : decode c_M_spare 21 = .ok (.ifCond .ne 7, 3) := by decide +kernel
theorem d_M_spare_24 : decode c_M_spare 24 = .ok (.ldc2_w 287, 3) := by decide +kernel
theorem d_M_spare_27 : decode c_M_spare 27 = .ok (.lreturn, 1) := by decide +kernel
theorem d_M_spare_28 : decode c_M_spare 28 = .ok (.aload_n 0, 1) := by decide +kernel
theorem d_M_spare_29 : decode c_M_spare 29 = .ok (.iload_n 1, 1) := by decide +kernel
theorem d_M_spare_30 : decode c_M_spare 30 = .ok (.invokevirtual 289, 3) := by decide +kernel
theorem d_M_spare_33 : decode c_M_spare 33 = .ok (.lstore_n 2, 1) := by decide +kernel
theorem d_M_spare_34 : decode c_M_spare 34 = .ok (.aload_n 0, 1) := by decide +kernel
theorem d_M_spare_35 : decode c_M_spare 35 = .ok (.lload_n 2, 1) := by decide +kernel
theorem d_M_spare_36 : decode c_M_spare 36 = .ok (.invokestatic 281, 3) := by decide +kernel
theorem d_M_spare_39 : decode c_M_spare 39 = .ok (.i2l, 1) := by decide +kernel
theorem d_M_spare_40 : decode c_M_spare 40 = .ok (.invokevirtual 221, 3) := by decide +kernel
theorem d_M_spare_43 : decode c_M_spare 43 = .ok (.lload_n 2, 1) := by decide +kernel
theorem d_M_spare_44 : decode c_M_spare 44 = .ok (.lreturn, 1) := by decide +kernel
theorem d_M_thins_0 : decode c_M_thins 0 = .ok (.aload_n 0, 1) := by decide +kernel
theorem d_M_thins_1 : decode c_M_thins 1 = .ok (.iconst 0, 1) := by decide +kernel
theorem d_M_thins_2 : decode c_M_thins 2 = .ok (.putfield 69, 3) := by decide +kernel
theorem d_M_thins_5 : decode c_M_thins 5 = .ok (.iload_n 1, 1) := by decide +kernel
theorem d_M_thins_6 : decode c_M_thins 6 = .ok (.invokestatic 151, 3) := by decide +kernel
theorem d_M_thins_9 : decode c_M_thins 9 = .ok (.ifCond .ne 5, 3) := by decide +kernel
theorem d_M_thins_12 : decode c_M_thins 12 = .ok (.iconst (-1), 1) := by decide +kernel
theorem d_M_thins_13 : decode c_M_thins 13 = .ok (.ireturn, 1) := by decide +kernel
theorem d_M_thins_14 : decode c_M_thins 14 = .ok (.aload_n 0, 1) := by decide +kernel
theorem d_M_thins_15 : decode c_M_thins 15 = .ok (.iload_n 1, 1) := by decide +kernel
theorem d_M_thins_16 : decode c_M_thins 16 = .ok (.invokevirtual 284, 3) := by decide +kernel
theorem d_M_thins_19 : decode c_M_thins 19 = .ok (.ifCond .ne 6, 3) := by decide +kernel
theorem d_M_thins_22 : decode c_M_thins 22 = .ok (.bipush (-2), 2) := by decide +kernel
theorem d_M_thins_24 : decode c_M_thins 24 = .ok (.ireturn, 1) := by decide +kernel
theorem d_M_thins_25 : decode c_M_thins 25 = .ok (.iconst 0, 1) := by decide +kernel
theorem d_M_thins_26 : decode c_M_thins 26 = .ok (.istore_n 2, 1) := by decide +kernel
theorem d_M_thins_27 : decode c_M_thins 27 = .ok (.aload_n 0, 1) := by decide +kernel
theorem d_M_thins_28 : decode c_M_thins 28 = .ok (.getfield 17, 3) := by decide +kernel
theorem d_M_thins_31 : decode c_M_thins 31 = .ok (.iload_n 1, 1) := by decide +kernel
theorem d_M_thins_32 : decode c_M_thins 32 = .ok (.iaload, 1) := by decide +kernel
theorem d_M_thins_33 : decode c_M_thins 33 = .ok (.iconst 1, 1) := by decide +kernel
theorem d_M_thins_34 : decode c_M_thins 34 = .ok (.isub, 1) := by decide +kernel
theorem d_M_thins_35 : decode c_M_thins 35 = .ok (.istore_n 3, 1) := by decide +kernel
theorem d_M_thins_36 : decode c_M_thins 36 = .ok (.iload_n 3, 1) := by decide +kernel
theorem d_M_thins_37 : decode c_M_thins 37 = .ok (.ifCond .lt 31, 3) := by decide +kernel
theorem d_M_thins_40 : decode c_M_thins 40 = .ok (.aload_n 0, 1) := by decide +kernel
theorem d_M_thins_41 : decode c_M_thins 41 = .ok (.iload_n 1, 1) := by decide +kernel
theorem d_M_thins_42 : decode c_M_thins 42 = .ok (.iload_n 3, 1) := by decide +kernel
theorem d_M_thins_43 : decode c_M_thins 43 = .ok (.iconst 0, 1) := by decide +kernel
theorem d_M_thins_44 : decode c_M_thins 44 = .ok (.invokevirtual 192, 3) := by decide +kernel
theorem d_M_thins_47 : decode c_M_thins 47 = .ok (.ifCond .le 6, 3) := by decide +kernel
theorem d_M_thins_50 : decode c_M_thins 50 = .ok (.goto 12, 3) := by decide +kernel
theorem d_M_thins_53 : decode c_M_thins 53 = .ok (.aload_n 0, 1) := by decide +kernel
theorem d_M_thins_54 : decode c_M_thins 54 = .ok (.iload_n 1, 1) := by decide +kernel
theorem d_M_thins_55 : decode c_M_thins 55 = .ok (.iload_n 3, 1) := by decide +kernel
theorem d_M_thins_56 : decode c_M_thins 56 = .ok (.invokevirtual 208, 3) := by decide +kernel
theorem d_M_thins_59 : decode c_M_thins 59 = .ok (.iinc 2 1, 3) := by decide +kernel
theorem d_M_thins_62 : decode c_M_thins 62 = .ok (.iinc 3 (-1), 3) := by decide +kernel
theorem d_M_thins_65 : decode c_M_thins 65 = .ok (.goto (-29), 3) := by decide +kernel
theorem d_M_thins_68 : decode c_M_thins 68 = .ok (.iload_n 2, 1) := by decide +kernel
theorem d_M_thins_69 : decode c_M_thins 69 = .ok (.ireturn, 1) := by decide +kernel

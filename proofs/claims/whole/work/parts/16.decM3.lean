theorem d_M_broken_0 : decode c_M_broken 0 = .ok (.aload_n 0, 1) := by decide +kernel
theorem d_M_broken_1 : decode c_M_broken 1 = .ok (.iconst 0, 1) := by decide +kernel
theorem d_M_broken_2 : decode c_M_broken 2 = .ok (.putfield 69, 3) := by decide +kernel
theorem d_M_broken_5 : decode c_M_broken 5 = .ok (.iload_n 1, 1) := by decide +kernel
theorem d_M_broken_6 : decode c_M_broken 6 = .ok (.invokestatic 151, 3) := by decide +kernel
theorem d_M_broken_9 : decode c_M_broken 9 = .ok (.ifCond .eq 24, 3) := by decide +kernel
theorem d_M_broken_12 : decode c_M_broken 12 = .ok (.aload_n 0, 1) := by decide +kernel
theorem d_M_broken_13 : decode c_M_broken 13 = .ok (.iload_n 1, 1) := by decide +kernel
theorem d_M_broken_14 : decode c_M_broken 14 = .ok (.iload_n 2, 1) := by decide +kernel
theorem d_M_broken_15 : decode c_M_broken 15 = .ok (.invokevirtual 205, 3) := by decide +kernel
theorem d_M_broken_18 : decode c_M_broken 18 = .ok (.ifCond .eq 15, 3) := by decide +kernel
theorem d_M_broken_21 : decode c_M_broken 21 = .ok (.iload_n 3, 1) := by decide +kernel
theorem d_M_broken_22 : decode c_M_broken 22 = .ok (.i2l, 1) := by decide +kernel
theorem d_M_broken_23 : decode c_M_broken 23 = .ok (.lconst 0, 1) := by decide +kernel
theorem d_M_broken_24 : decode c_M_broken 24 = .ok (.ldc2_w 161, 3) := by decide +kernel
theorem d_M_broken_27 : decode c_M_broken 27 = .ok (.invokestatic 82, 3) := by decide +kernel
theorem d_M_broken_30 : decode c_M_broken 30 = .ok (.ifCond .ne 5, 3) := by decide +kernel
theorem d_M_broken_33 : decode c_M_broken 33 = .ok (.iconst (-1), 1) := by decide +kernel
theorem d_M_broken_34 : decode c_M_broken 34 = .ok (.ireturn, 1) := by decide +kernel
theorem d_M_broken_35 : decode c_M_broken 35 = .ok (.aload_n 0, 1) := by decide +kernel
theorem d_M_broken_36 : decode c_M_broken 36 = .ok (.iload_n 1, 1) := by decide +kernel
theorem d_M_broken_37 : decode c_M_broken 37 = .ok (.iload_n 2, 1) := by decide +kernel
theorem d_M_broken_38 : decode c_M_broken 38 = .ok (.iload_n 3, 1) := by decide +kernel
theorem d_M_broken_39 : decode c_M_broken 39 = .ok (.invokevirtual 192, 3) := by decide +kernel
theorem d_M_broken_42 : decode c_M_broken 42 = .ok (.istore 4, 2) := by decide +kernel
theorem d_M_broken_44 : decode c_M_broken 44 = .ok (.aload_n 0, 1) := by decide +kernel
theorem d_M_broken_45 : decode c_M_broken 45 = .ok (.aload_n 0, 1) := by decide +kernel
theorem d_M_broken_46 : decode c_M_broken 46 = .ok (.getfield 235, 3) := by decide +kernel
theorem d_M_broken_49 : decode c_M_broken 49 = .ok (.i2l, 1) := by decide +kernel
theorem d_M_broken_50 : decode c_M_broken 50 = .ok (.invokevirtual 221, 3) := by decide +kernel
theorem d_M_broken_53 : decode c_M_broken 53 = .ok (.iload 4, 2) := by decide +kernel
theorem d_M_broken_55 : decode c_M_broken 55 = .ok (.ireturn, 1) := by decide +kernel
theorem d_M_tests_0 : decode c_M_tests 0 = .ok (.aload_n 0, 1) := by decide +kernel
theorem d_M_tests_1 : decode c_M_tests 1 = .ok (.iconst 0, 1) := by decide +kernel
theorem d_M_tests_2 : decode c_M_tests 2 = .ok (.putfield 69, 3) := by decide +kernel
theorem d_M_tests_5 : decode c_M_tests 5 = .ok (.iload_n 1, 1) := by decide +kernel
theorem d_M_tests_6 : decode c_M_tests 6 = .ok (.invokestatic 151, 3) := by decide +kernel
theorem d_M_tests_9 : decode c_M_tests 9 = .ok (.ifCond .ne 5, 3) := by decide +kernel
theorem d_M_tests_12 : decode c_M_tests 12 = .ok (.iconst (-1), 1) := by decide +kernel
theorem d_M_tests_13 : decode c_M_tests 13 = .ok (.ireturn, 1) := by decide +kernel
theorem d_M_tests_14 : decode c_M_tests 14 = .ok (.aload_n 0, 1) := by decide +kernel
theorem d_M_tests_15 : decode c_M_tests 15 = .ok (.iload_n 1, 1) := by decide +kernel
theorem d_M_tests_16 : decode c_M_tests 16 = .ok (.invokevirtual 284, 3) := by decide +kernel
theorem d_M_tests_19 : decode c_M_tests 19 = .ok (.ifCond .ne 6, 3) := by decide +kernel
theorem d_M_tests_22 : decode c_M_tests 22 = .ok (.bipush (-2), 2) := by decide +kernel
theorem d_M_tests_24 : decode c_M_tests 24 = .ok (.ireturn, 1) := by decide +kernel
theorem d_M_tests_25 : decode c_M_tests 25 = .ok (.lconst 0, 1) := by decide +kernel
theorem d_M_tests_26 : decode c_M_tests 26 = .ok (.lstore_n 2, 1) := by decide +kernel
theorem d_M_tests_27 : decode c_M_tests 27 = .ok (.iconst 0, 1) := by decide +kernel
theorem d_M_tests_28 : decode c_M_tests 28 = .ok (.istore 4, 2) := by decide +kernel
theorem d_M_tests_30 : decode c_M_tests 30 = .ok (.iload 4, 2) := by decide +kernel
theorem d_M_tests_32 : decode c_M_tests 32 = .ok (.aload_n 0, 1) := by decide +kernel
theorem d_M_tests_33 : decode c_M_tests 33 = .ok (.iload_n 1, 1) := by decide +kernel
theorem d_M_tests_34 : decode c_M_tests 34 = .ok (.invokevirtual 86, 3) := by decide +kernel
theorem d_M_tests_37 : decode c_M_tests 37 = .ok (.if_icmp .ge 78, 3) := by decide +kernel
theorem d_M_tests_40 : decode c_M_tests 40 = .ok (.aload_n 0, 1) := by decide +kernel
theorem d_M_tests_41 : decode c_M_tests 41 = .ok (.getfield 57, 3) := by decide +kernel
theorem d_M_tests_44 : decode c_M_tests 44 = .ok (.iload 4, 2) := by decide +kernel
theorem d_M_tests_46 : decode c_M_tests 46 = .ok (.lconst 0, 1) := by decide +kernel
theorem d_M_tests_47 : decode c_M_tests 47 = .ok (.lastore, 1) := by decide +kernel
theorem d_M_tests_48 : decode c_M_tests 48 = .ok (.iconst 0, 1) := by decide +kernel
theorem d_M_tests_49 : decode c_M_tests 49 = .ok (.istore 5, 2) := by decide +kernel
theorem d_M_tests_51 : decode c_M_tests 51 = .ok (.iload 5, 2) := by decide +kernel
theorem d_M_tests_53 : decode c_M_tests 53 = .ok (.aload_n 0, 1) := by decide +kernel
theorem d_M_tests_54 : decode c_M_tests 54 = .ok (.getfield 17, 3) := by decide +kernel
theorem d_M_tests_57 : decode c_M_tests 57 = .ok (.iload_n 1, 1) := by decide +kernel
theorem d_M_tests_58 : decode c_M_tests 58 = .ok (.iaload, 1) := by decide +kernel
theorem d_M_tests_59 : decode c_M_tests 59 = .ok (.if_icmp .ge 40, 3) := by decide +kernel
theorem d_M_tests_62 : decode c_M_tests 62 = .ok (.aload_n 0, 1) := by decide +kernel
theorem d_M_tests_63 : decode c_M_tests 63 = .ok (.getfield 57, 3) := by decide +kernel
theorem d_M_tests_66 : decode c_M_tests 66 = .ok (.iload 4, 2) := by decide +kernel
theorem d_M_tests_68 : decode c_M_tests 68 = .ok (.dup2, 1) := by decide +kernel
theorem d_M_tests_69 : decode c_M_tests 69 = .ok (.laload, 1) := by decide +kernel
theorem d_M_tests_70 : decode c_M_tests 70 = .ok (.aload_n 0, 1) := by decide +kernel
theorem d_M_tests_71 : decode c_M_tests 71 = .ok (.iload_n 1, 1) := by decide +kernel
theorem d_M_tests_72 : decode c_M_tests 72 = .ok (.iload 4, 2) := by decide +kernel
theorem d_M_tests_74 : decode c_M_tests 74 = .ok (.iload 5, 2) := by decide +kernel
theorem d_M_tests_76 : decode c_M_tests 76 = .ok (.iconst 0, 1) := by decide +kernel
theorem d_M_tests_77 : decode c_M_tests 77 = .ok (.invokevirtual 238, 3) := by decide +kernel
theorem d_M_tests_80 : decode c_M_tests 80 = .ok (.ifCond .eq 10, 3) := by decide +kernel
theorem d_M_tests_83 : decode c_M_tests 83 = .ok (.lconst 1, 1) := by decide +kernel
theorem d_M_tests_84 : decode c_M_tests 84 = .ok (.iload 5, 2) := by decide +kernel
theorem d_M_tests_86 : decode c_M_tests 86 = .ok (.lshl, 1) := by decide +kernel
theorem d_M_tests_87 : decode c_M_tests 87 = .ok (.goto 4, 3) := by decide +kernel
theorem d_M_tests_90 : decode c_M_tests 90 = .ok (.lconst 0, 1) := by decide +kernel
theorem d_M_tests_91 : decode c_M_tests 91 = .ok (.lor, 1) := by decide +kernel
theorem d_M_tests_92 : decode c_M_tests 92 = .ok (.lastore, 1) := by decide +kernel
theorem d_M_tests_93 : decode c_M_tests 93 = .ok (.iinc 5 1, 3) := by decide +kernel
theorem d_M_tests_96 : decode c_M_tests 96 = .ok (.goto (-45), 3) := by decide +kernel
theorem d_M_tests_99 : decode c_M_tests 99 = .ok (.lload_n 2, 1) := by decide +kernel
theorem d_M_tests_100 : decode c_M_tests 100 = .ok (.aload_n 0, 1) := by decide +kernel
theorem d_M_tests_101 : decode c_M_tests 101 = .ok (.getfield 57, 3) := by decide +kernel
theorem d_M_tests_104 : decode c_M_tests 104 = .ok (.iload 4, 2) := by decide +kernel
theorem d_M_tests_106 : decode c_M_tests 106 = .ok (.laload, 1) := by decide +kernel
theorem d_M_tests_107 : decode c_M_tests 107 = .ok (.lor, 1) := by decide +kernel
theorem d_M_tests_108 : decode c_M_tests 108 = .ok (.lstore_n 2, 1) := by decide +kernel
theorem d_M_tests_109 : decode c_M_tests 109 = .ok (.iinc 4 1, 3) := by decide +kernel
theorem d_M_tests_112 : decode c_M_tests 112 = .ok (.goto (-82), 3) := by decide +kernel
theorem d_M_tests_115 : decode c_M_tests 115 = .ok (.aload_n 0, 1) := by decide +kernel
theorem d_M_tests_116 : decode c_M_tests 116 = .ok (.iconst 0, 1) := by decide +kernel
theorem d_M_tests_117 : decode c_M_tests 117 = .ok (.putfield 73, 3) := by decide +kernel
theorem d_M_tests_120 : decode c_M_tests 120 = .ok (.lload_n 2, 1) := by decide +kernel
theorem d_M_tests_121 : decode c_M_tests 121 = .ok (.lconst 0, 1) := by decide +kernel
theorem d_M_tests_122 : decode c_M_tests 122 = .ok (.lcmp, 1) := by decide +kernel
theorem d_M_tests_123 : decode c_M_tests 123 = .ok (.ifCond .eq 85, 3) := by decide +kernel
theorem d_M_tests_126 : decode c_M_tests 126 = .ok (.iconst 0, 1) := by decide +kernel
theorem d_M_tests_127 : decode c_M_tests 127 = .ok (.istore 4, 2) := by decide +kernel
theorem d_M_tests_129 : decode c_M_tests 129 = .ok (.iconst 1, 1) := by decide +kernel
theorem d_M_tests_130 : decode c_M_tests 130 = .ok (.istore 5, 2) := by decide +kernel
theorem d_M_tests_132 : decode c_M_tests 132 = .ok (.iload 5, 2) := by decide +kernel
theorem d_M_tests_134 : decode c_M_tests 134 = .ok (.aload_n 0, 1) := by decide +kernel
theorem d_M_tests_135 : decode c_M_tests 135 = .ok (.iload_n 1, 1) := by decide +kernel
theorem d_M_tests_136 : decode c_M_tests 136 = .ok (.invokevirtual 86, 3) := by decide +kernel
theorem d_M_tests_139 : decode c_M_tests 139 = .ok (.if_icmp .ge 45, 3) := by decide +kernel
theorem d_M_tests_142 : decode c_M_tests 142 = .ok (.aload_n 0, 1) := by decide +kernel
theorem d_M_tests_143 : decode c_M_tests 143 = .ok (.getfield 57, 3) := by decide +kernel
theorem d_M_tests_146 : decode c_M_tests 146 = .ok (.iload 5, 2) := by decide +kernel
theorem d_M_tests_148 : decode c_M_tests 148 = .ok (.laload, 1) := by decide +kernel
theorem d_M_tests_149 : decode c_M_tests 149 = .ok (.lload_n 2, 1) := by decide +kernel
theorem d_M_tests_150 : decode c_M_tests 150 = .ok (.land, 1) := by decide +kernel
theorem d_M_tests_151 : decode c_M_tests 151 = .ok (.invokestatic 281, 3) := by decide +kernel
theorem d_M_tests_154 : decode c_M_tests 154 = .ok (.aload_n 0, 1) := by decide +kernel
theorem d_M_tests_155 : decode c_M_tests 155 = .ok (.getfield 57, 3) := by decide +kernel
theorem d_M_tests_158 : decode c_M_tests 158 = .ok (.iload 4, 2) := by decide +kernel
theorem d_M_tests_160 : decode c_M_tests 160 = .ok (.laload, 1) := by decide +kernel
theorem d_M_tests_161 : decode c_M_tests 161 = .ok (.lload_n 2, 1) := by decide +kernel
theorem d_M_tests_162 : decode c_M_tests 162 = .ok (.land, 1) := by decide +kernel
theorem d_M_tests_163 : decode c_M_tests 163 = .ok (.invokestatic 281, 3) := by decide +kernel
theorem d_M_tests_166 : decode c_M_tests 166 = .ok (.if_icmp .le 8, 3) := by decide +kernel
theorem d_M_tests_169 : decode c_M_tests 169 = .ok (.iload 5, 2) := by decide +kernel
theorem d_M_tests_171 : decode c_M_tests 171 = .ok (.goto 5, 3) := by decide +kernel
theorem d_M_tests_174 : decode c_M_tests 174 = .ok (.iload 4, 2) := by decide +kernel
theorem d_M_tests_176 : decode c_M_tests 176 = .ok (.istore 4, 2) := by decide +kernel
theorem d_M_tests_178 : decode c_M_tests 178 = .ok (.iinc 5 1, 3) := by decide +kernel
theorem d_M_tests_181 : decode c_M_tests 181 = .ok (.goto (-49), 3) := by decide +kernel
theorem d_M_tests_184 : decode c_M_tests 184 = .ok (.aload_n 0, 1) := by decide +kernel
theorem d_M_tests_185 : decode c_M_tests 185 = .ok (.iload 4, 2) := by decide +kernel
theorem d_M_tests_187 : decode c_M_tests 187 = .ok (.i2l, 1) := by decide +kernel
theorem d_M_tests_188 : decode c_M_tests 188 = .ok (.invokevirtual 76, 3) := by decide +kernel
theorem d_M_tests_191 : decode c_M_tests 191 = .ok (.lload_n 2, 1) := by decide +kernel
theorem d_M_tests_192 : decode c_M_tests 192 = .ok (.aload_n 0, 1) := by decide +kernel
theorem d_M_tests_193 : decode c_M_tests 193 = .ok (.getfield 57, 3) := by decide +kernel
theorem d_M_tests_196 : decode c_M_tests 196 = .ok (.iload 4, 2) := by decide +kernel
theorem d_M_tests_198 : decode c_M_tests 198 = .ok (.laload, 1) := by decide +kernel
theorem d_M_tests_199 : decode c_M_tests 199 = .ok (.ldc2_w 279, 3) := by decide +kernel
theorem d_M_tests_202 : decode c_M_tests 202 = .ok (.lxor, 1) := by decide +kernel
theorem d_M_tests_203 : decode c_M_tests 203 = .ok (.land, 1) := by decide +kernel
theorem d_M_tests_204 : decode c_M_tests 204 = .ok (.lstore_n 2, 1) := by decide +kernel
theorem d_M_tests_205 : decode c_M_tests 205 = .ok (.goto (-85), 3) := by decide +kernel
theorem d_M_tests_208 : decode c_M_tests 208 = .ok (.aload_n 0, 1) := by decide +kernel
theorem d_M_tests_209 : decode c_M_tests 209 = .ok (.getfield 73, 3) := by decide +kernel
theorem d_M_tests_212 : decode c_M_tests 212 = .ok (.ireturn, 1) := by decide +kernel
theorem d_M_compared_0 : decode c_M_compared 0 = .ok (.iload_n 0, 1) := by decide +kernel
theorem d_M_compared_1 : decode c_M_compared 1 = .ok (.iload_n 1, 1) := by decide +kernel
theorem d_M_compared_2 : decode c_M_compared 2 = .ok (.ishr, 1) := by decide +kernel
theorem d_M_compared_3 : decode c_M_compared 3 = .ok (.iconst 1, 1) := by decide +kernel
theorem d_M_compared_4 : decode c_M_compared 4 = .ok (.iand, 1) := by decide +kernel
theorem d_M_compared_5 : decode c_M_compared 5 = .ok (.iload_n 0, 1) := by decide +kernel
theorem d_M_compared_6 : decode c_M_compared 6 = .ok (.iload_n 2, 1) := by decide +kernel
theorem d_M_compared_7 : decode c_M_compared 7 = .ok (.ishr, 1) := by decide +kernel
theorem d_M_compared_8 : decode c_M_compared 8 = .ok (.iconst 1, 1) := by decide +kernel
theorem d_M_compared_9 : decode c_M_compared 9 = .ok (.iand, 1) := by decide +kernel
theorem d_M_compared_10 : decode c_M_compared 10 = .ok (.if_icmp .le 15, 3) := by decide +kernel
theorem d_M_compared_13 : decode c_M_compared 13 = .ok (.iload_n 0, 1) := by decide +kernel
theorem d_M_compared_14 : decode c_M_compared 14 = .ok (.iconst 1, 1) := by decide +kernel
theorem d_M_compared_15 : decode c_M_compared 15 = .ok (.iload_n 1, 1) := by decide +kernel
theorem d_M_compared_16 : decode c_M_compared 16 = .ok (.ishl, 1) := by decide +kernel
theorem d_M_compared_17 : decode c_M_compared 17 = .ok (.iconst 1, 1) := by decide +kernel
theorem d_M_compared_18 : decode c_M_compared 18 = .ok (.iload_n 2, 1) := by decide +kernel
theorem d_M_compared_19 : decode c_M_compared 19 = .ok (.ishl, 1) := by decide +kernel
theorem d_M_compared_20 : decode c_M_compared 20 = .ok (.ior, 1) := by decide +kernel
theorem d_M_compared_21 : decode c_M_compared 21 = .ok (.ixor, 1) := by decide +kernel
theorem d_M_compared_22 : decode c_M_compared 22 = .ok (.goto 4, 3) := by decide +kernel
theorem d_M_compared_25 : decode c_M_compared 25 = .ok (.iload_n 0, 1) := by decide +kernel
theorem d_M_compared_26 : decode c_M_compared 26 = .ok (.ireturn, 1) := by decide +kernel
theorem d_M_helps_0 : decode c_M_helps 0 = .ok (.aload_n 0, 1) := by decide +kernel
theorem d_M_helps_1 : decode c_M_helps 1 = .ok (.iconst 0, 1) := by decide +kernel
theorem d_M_helps_2 : decode c_M_helps 2 = .ok (.putfield 69, 3) := by decide +kernel
theorem d_M_helps_5 : decode c_M_helps 5 = .ok (.iload_n 1, 1) := by decide +kernel
theorem d_M_helps_6 : decode c_M_helps 6 = .ok (.invokestatic 151, 3) := by decide +kernel
theorem d_M_helps_9 : decode c_M_helps 9 = .ok (.ifCond .ne 5, 3) := by decide +kernel
theorem d_M_helps_12 : decode c_M_helps 12 = .ok (.iconst (-1), 1) := by decide +kernel
theorem d_M_helps_13 : decode c_M_helps 13 = .ok (.ireturn, 1) := by decide +kernel
theorem d_M_helps_14 : decode c_M_helps 14 = .ok (.iconst (-1), 1) := by decide +kernel
theorem d_M_helps_15 : decode c_M_helps 15 = .ok (.istore_n 2, 1) := by decide +kernel
theorem d_M_helps_16 : decode c_M_helps 16 = .ok (.iconst 0, 1) := by decide +kernel
theorem d_M_helps_17 : decode c_M_helps 17 = .ok (.istore_n 3, 1) := by decide +kernel
theorem d_M_helps_18 : decode c_M_helps 18 = .ok (.iconst 0, 1) := by decide +kernel
theorem d_M_helps_19 : decode c_M_helps 19 = .ok (.istore 4, 2) := by decide +kernel
theorem d_M_helps_21 : decode c_M_helps 21 = .ok (.iload 4, 2) := by decide +kernel
theorem d_M_helps_23 : decode c_M_helps 23 = .ok (.aload_n 0, 1) := by decide +kernel
theorem d_M_helps_24 : decode c_M_helps 24 = .ok (.getfield 13, 3) := by decide +kernel
theorem d_M_helps_27 : decode c_M_helps 27 = .ok (.iload_n 1, 1) := by decide +kernel
theorem d_M_helps_28 : decode c_M_helps 28 = .ok (.iaload, 1) := by decide +kernel
theorem d_M_helps_29 : decode c_M_helps 29 = .ok (.if_icmp .ge 121, 3) := by decide +kernel
theorem d_M_helps_32 : decode c_M_helps 32 = .ok (.iload 4, 2) := by decide +kernel
theorem d_M_helps_34 : decode c_M_helps 34 = .ok (.iconst 1, 1) := by decide +kernel
theorem d_M_helps_35 : decode c_M_helps 35 = .ok (.iadd, 1) := by decide +kernel
theorem d_M_helps_36 : decode c_M_helps 36 = .ok (.istore 5, 2) := by decide +kernel
theorem d_M_helps_38 : decode c_M_helps 38 = .ok (.iload 5, 2) := by decide +kernel
theorem d_M_helps_40 : decode c_M_helps 40 = .ok (.aload_n 0, 1) := by decide +kernel
theorem d_M_helps_41 : decode c_M_helps 41 = .ok (.getfield 13, 3) := by decide +kernel
theorem d_M_helps_44 : decode c_M_helps 44 = .ok (.iload_n 1, 1) := by decide +kernel
theorem d_M_helps_45 : decode c_M_helps 45 = .ok (.iaload, 1) := by decide +kernel
theorem d_M_helps_46 : decode c_M_helps 46 = .ok (.if_icmp .ge 98, 3) := by decide +kernel
theorem d_M_helps_49 : decode c_M_helps 49 = .ok (.iconst 0, 1) := by decide +kernel
theorem d_M_helps_50 : decode c_M_helps 50 = .ok (.istore 6, 2) := by decide +kernel
theorem d_M_helps_52 : decode c_M_helps 52 = .ok (.iconst 0, 1) := by decide +kernel
theorem d_M_helps_53 : decode c_M_helps 53 = .ok (.istore 7, 2) := by decide +kernel
theorem d_M_helps_55 : decode c_M_helps 55 = .ok (.iload 7, 2) := by decide +kernel
theorem d_M_helps_57 : decode c_M_helps 57 = .ok (.aload_n 0, 1) := by decide +kernel
theorem d_M_helps_58 : decode c_M_helps 58 = .ok (.iload_n 1, 1) := by decide +kernel
theorem d_M_helps_59 : decode c_M_helps 59 = .ok (.invokevirtual 86, 3) := by decide +kernel
theorem d_M_helps_62 : decode c_M_helps 62 = .ok (.if_icmp .ge 50, 3) := by decide +kernel
theorem d_M_helps_65 : decode c_M_helps 65 = .ok (.iload 6, 2) := by decide +kernel
theorem d_M_helps_67 : decode c_M_helps 67 = .ok (.aload_n 0, 1) := by decide +kernel
theorem d_M_helps_68 : decode c_M_helps 68 = .ok (.getfield 13, 3) := by decide +kernel
theorem d_M_helps_71 : decode c_M_helps 71 = .ok (.iload_n 1, 1) := by decide +kernel
theorem d_M_helps_72 : decode c_M_helps 72 = .ok (.iaload, 1) := by decide +kernel
theorem d_M_helps_73 : decode c_M_helps 73 = .ok (.aload_n 0, 1) := by decide +kernel
theorem d_M_helps_74 : decode c_M_helps 74 = .ok (.iload_n 1, 1) := by decide +kernel
theorem d_M_helps_75 : decode c_M_helps 75 = .ok (.iload 7, 2) := by decide +kernel
theorem d_M_helps_77 : decode c_M_helps 77 = .ok (.iconst (-1), 1) := by decide +kernel
theorem d_M_helps_78 : decode c_M_helps 78 = .ok (.iconst 0, 1) := by decide +kernel
theorem d_M_helps_79 : decode c_M_helps 79 = .ok (.invokevirtual 228, 3) := by decide +kernel
theorem d_M_helps_82 : decode c_M_helps 82 = .ok (.iload 4, 2) := by decide +kernel
theorem d_M_helps_84 : decode c_M_helps 84 = .ok (.iload 5, 2) := by decide +kernel
theorem d_M_helps_86 : decode c_M_helps 86 = .ok (.invokestatic 293, 3) := by decide +kernel
theorem d_M_helps_89 : decode c_M_helps 89 = .ok (.invokestatic 232, 3) := by decide +kernel
theorem d_M_helps_92 : decode c_M_helps 92 = .ok (.ifCond .ne 7, 3) := by decide +kernel
theorem d_M_helps_95 : decode c_M_helps 95 = .ok (.iconst 1, 1) := by decide +kernel
theorem d_M_helps_96 : decode c_M_helps 96 = .ok (.goto 4, 3) := by decide +kernel
theorem d_M_helps_99 : decode c_M_helps 99 = .ok (.iconst 0, 1) := by decide +kernel
theorem d_M_helps_100 : decode c_M_helps 100 = .ok (.invokestatic 188, 3) := by decide +kernel
theorem d_M_helps_103 : decode c_M_helps 103 = .ok (.iadd, 1) := by decide +kernel
theorem d_M_helps_104 : decode c_M_helps 104 = .ok (.istore 6, 2) := by decide +kernel
theorem d_M_helps_106 : decode c_M_helps 106 = .ok (.iinc 7 1, 3) := by decide +kernel
theorem d_M_helps_109 : decode c_M_helps 109 = .ok (.goto (-54), 3) := by decide +kernel
theorem d_M_helps_112 : decode c_M_helps 112 = .ok (.iload_n 2, 1) := by decide +kernel
theorem d_M_helps_113 : decode c_M_helps 113 = .ok (.iconst (-1), 1) := by decide +kernel
theorem d_M_helps_114 : decode c_M_helps 114 = .ok (.if_icmp .eq 12, 3) := by decide +kernel
theorem d_M_helps_117 : decode c_M_helps 117 = .ok (.iload 6, 2) := by decide +kernel
theorem d_M_helps_119 : decode c_M_helps 119 = .ok (.iload_n 3, 1) := by decide +kernel
theorem d_M_helps_120 : decode c_M_helps 120 = .ok (.if_icmp .lt 6, 3) := by decide +kernel
theorem d_M_helps_123 : decode c_M_helps 123 = .ok (.goto 15, 3) := by decide +kernel
theorem d_M_helps_126 : decode c_M_helps 126 = .ok (.bipush 10, 2) := by decide +kernel
theorem d_M_helps_128 : decode c_M_helps 128 = .ok (.iload 4, 2) := by decide +kernel
theorem d_M_helps_130 : decode c_M_helps 130 = .ok (.imul, 1) := by decide +kernel
theorem d_M_helps_131 : decode c_M_helps 131 = .ok (.iload 5, 2) := by decide +kernel
theorem d_M_helps_133 : decode c_M_helps 133 = .ok (.iadd, 1) := by decide +kernel
theorem d_M_helps_134 : decode c_M_helps 134 = .ok (.istore_n 2, 1) := by decide +kernel
theorem d_M_helps_135 : decode c_M_helps 135 = .ok (.iload 6, 2) := by decide +kernel
theorem d_M_helps_137 : decode c_M_helps 137 = .ok (.istore_n 3, 1) := by decide +kernel
theorem d_M_helps_138 : decode c_M_helps 138 = .ok (.iinc 5 1, 3) := by decide +kernel
theorem d_M_helps_141 : decode c_M_helps 141 = .ok (.goto (-103), 3) := by decide +kernel
theorem d_M_helps_144 : decode c_M_helps 144 = .ok (.iinc 4 1, 3) := by decide +kernel
theorem d_M_helps_147 : decode c_M_helps 147 = .ok (.goto (-126), 3) := by decide +kernel
theorem d_M_helps_150 : decode c_M_helps 150 = .ok (.aload_n 0, 1) := by decide +kernel
theorem d_M_helps_151 : decode c_M_helps 151 = .ok (.iload_n 3, 1) := by decide +kernel
theorem d_M_helps_152 : decode c_M_helps 152 = .ok (.i2l, 1) := by decide +kernel
theorem d_M_helps_153 : decode c_M_helps 153 = .ok (.invokevirtual 221, 3) := by decide +kernel
theorem d_M_helps_156 : decode c_M_helps 156 = .ok (.iload_n 2, 1) := by decide +kernel
theorem d_M_helps_157 : decode c_M_helps 157 = .ok (.ireturn, 1) := by decide +kernel
theorem d_M_same_0 : decode c_M_same 0 = .ok (.aload_n 0, 1) := by decide +kernel
theorem d_M_same_1 : decode c_M_same 1 = .ok (.iconst 0, 1) := by decide +kernel
theorem d_M_same_2 : decode c_M_same 2 = .ok (.putfield 69, 3) := by decide +kernel
theorem d_M_same_5 : decode c_M_same 5 = .ok (.iload_n 1, 1) := by decide +kernel
theorem d_M_same_6 : decode c_M_same 6 = .ok (.invokestatic 151, 3) := by decide +kernel
theorem d_M_same_9 : decode c_M_same 9 = .ok (.ifCond .eq 10, 3) := by decide +kernel
theorem d_M_same_12 : decode c_M_same 12 = .ok (.iload_n 2, 1) := by decide +kernel
theorem d_M_same_13 : decode c_M_same 13 = .ok (.invokestatic 151, 3) := by decide +kernel
theorem d_M_same_16 : decode c_M_same 16 = .ok (.ifCond .ne 5, 3) := by decide +kernel
theorem d_M_same_19 : decode c_M_same 19 = .ok (.iconst (-1), 1) := by decide +kernel
theorem d_M_same_20 : decode c_M_same 20 = .ok (.ireturn, 1) := by decide +kernel
theorem d_M_same_21 : decode c_M_same 21 = .ok (.aload_n 0, 1) := by decide +kernel
theorem d_M_same_22 : decode c_M_same 22 = .ok (.getfield 13, 3) := by decide +kernel
theorem d_M_same_25 : decode c_M_same 25 = .ok (.iload_n 1, 1) := by decide +kernel
theorem d_M_same_26 : decode c_M_same 26 = .ok (.iaload, 1) := by decide +kernel
theorem d_M_same_27 : decode c_M_same 27 = .ok (.aload_n 0, 1) := by decide +kernel
theorem d_M_same_28 : decode c_M_same 28 = .ok (.getfield 13, 3) := by decide +kernel
theorem d_M_same_31 : decode c_M_same 31 = .ok (.iload_n 2, 1) := by decide +kernel
theorem d_M_same_32 : decode c_M_same 32 = .ok (.iaload, 1) := by decide +kernel
theorem d_M_same_33 : decode c_M_same 33 = .ok (.if_icmp .eq 6, 3) := by decide +kernel
theorem d_M_same_36 : decode c_M_same 36 = .ok (.bipush (-2), 2) := by decide +kernel
theorem d_M_same_38 : decode c_M_same 38 = .ok (.ireturn, 1) := by decide +kernel
theorem d_M_same_39 : decode c_M_same 39 = .ok (.iconst 0, 1) := by decide +kernel
theorem d_M_same_40 : decode c_M_same 40 = .ok (.istore_n 3, 1) := by decide +kernel
theorem d_M_same_41 : decode c_M_same 41 = .ok (.iconst (-1), 1) := by decide +kernel
theorem d_M_same_42 : decode c_M_same 42 = .ok (.istore 4, 2) := by decide +kernel
theorem d_M_same_44 : decode c_M_same 44 = .ok (.aload_n 0, 1) := by decide +kernel
theorem d_M_same_45 : decode c_M_same 45 = .ok (.iload_n 1, 1) := by decide +kernel
theorem d_M_same_46 : decode c_M_same 46 = .ok (.invokevirtual 86, 3) := by decide +kernel
theorem d_M_same_49 : decode c_M_same 49 = .ok (.iconst 1, 1) := by decide +kernel
theorem d_M_same_50 : decode c_M_same 50 = .ok (.isub, 1) := by decide +kernel
theorem d_M_same_51 : decode c_M_same 51 = .ok (.istore 5, 2) := by decide +kernel
theorem d_M_same_53 : decode c_M_same 53 = .ok (.iload 5, 2) := by decide +kernel
theorem d_M_same_55 : decode c_M_same 55 = .ok (.ifCond .lt 40, 3) := by decide +kernel
theorem d_M_same_58 : decode c_M_same 58 = .ok (.aload_n 0, 1) := by decide +kernel
theorem d_M_same_59 : decode c_M_same 59 = .ok (.iload_n 1, 1) := by decide +kernel
theorem d_M_same_60 : decode c_M_same 60 = .ok (.iload 5, 2) := by decide +kernel
theorem d_M_same_62 : decode c_M_same 62 = .ok (.iconst (-1), 1) := by decide +kernel
theorem d_M_same_63 : decode c_M_same 63 = .ok (.iconst 0, 1) := by decide +kernel
theorem d_M_same_64 : decode c_M_same 64 = .ok (.invokevirtual 228, 3) := by decide +kernel
theorem d_M_same_67 : decode c_M_same 67 = .ok (.aload_n 0, 1) := by decide +kernel
theorem d_M_same_68 : decode c_M_same 68 = .ok (.iload_n 2, 1) := by decide +kernel
theorem d_M_same_69 : decode c_M_same 69 = .ok (.iload 5, 2) := by decide +kernel
theorem d_M_same_71 : decode c_M_same 71 = .ok (.iconst (-1), 1) := by decide +kernel
theorem d_M_same_72 : decode c_M_same 72 = .ok (.iconst 0, 1) := by decide +kernel
theorem d_M_same_73 : decode c_M_same 73 = .ok (.invokevirtual 228, 3) := by decide +kernel
theorem d_M_same_76 : decode c_M_same 76 = .ok (.if_icmp .ne 6, 3) := by decide +kernel
theorem d_M_same_79 : decode c_M_same 79 = .ok (.goto 10, 3) := by decide +kernel
theorem d_M_same_82 : decode c_M_same 82 = .ok (.iinc 3 1, 3) := by decide +kernel
theorem d_M_same_85 : decode c_M_same 85 = .ok (.iload 5, 2) := by decide +kernel
theorem d_M_same_87 : decode c_M_same 87 = .ok (.istore 4, 2) := by decide +kernel
theorem d_M_same_89 : decode c_M_same 89 = .ok (.iinc 5 (-1), 3) := by decide +kernel
theorem d_M_same_92 : decode c_M_same 92 = .ok (.goto (-39), 3) := by decide +kernel
theorem d_M_same_95 : decode c_M_same 95 = .ok (.aload_n 0, 1) := by decide +kernel
theorem d_M_same_96 : decode c_M_same 96 = .ok (.iload_n 3, 1) := by decide +kernel
theorem d_M_same_97 : decode c_M_same 97 = .ok (.i2l, 1) := by decide +kernel
theorem d_M_same_98 : decode c_M_same 98 = .ok (.invokevirtual 221, 3) := by decide +kernel
theorem d_M_same_101 : decode c_M_same 101 = .ok (.aload_n 0, 1) := by decide +kernel
theorem d_M_same_102 : decode c_M_same 102 = .ok (.iload 4, 2) := by decide +kernel
theorem d_M_same_104 : decode c_M_same 104 = .ok (.i2l, 1) := by decide +kernel
theorem d_M_same_105 : decode c_M_same 105 = .ok (.invokevirtual 76, 3) := by decide +kernel
theorem d_M_same_108 : decode c_M_same 108 = .ok (.iload_n 3, 1) := by decide +kernel
theorem d_M_same_109 : decode c_M_same 109 = .ok (.ifCond .ne 7, 3) := by decide +kernel
theorem d_M_same_112 : decode c_M_same 112 = .ok (.iconst 1, 1) := by decide +kernel
theorem d_M_same_113 : decode c_M_same 113 = .ok (.goto 4, 3) := by decide +kernel
theorem d_M_same_116 : decode c_M_same 116 = .ok (.iconst 0, 1) := by decide +kernel
theorem d_M_same_117 : decode c_M_same 117 = .ok (.invokestatic 188, 3) := by decide +kernel
theorem d_M_same_120 : decode c_M_same 120 = .ok (.ireturn, 1) := by decide +kernel
theorem d_M_imageOf_0 : decode c_M_imageOf 0 = .ok (.lconst 0, 1) := by decide +kernel
theorem d_M_imageOf_1 : decode c_M_imageOf 1 = .ok (.lstore_n 2, 1) := by decide +kernel
theorem d_M_imageOf_2 : decode c_M_imageOf 2 = .ok (.iconst 0, 1) := by decide +kernel
theorem d_M_imageOf_3 : decode c_M_imageOf 3 = .ok (.istore 4, 2) := by decide +kernel
theorem d_M_imageOf_5 : decode c_M_imageOf 5 = .ok (.iload 4, 2) := by decide +kernel
theorem d_M_imageOf_7 : decode c_M_imageOf 7 = .ok (.aload_n 0, 1) := by decide +kernel
theorem d_M_imageOf_8 : decode c_M_imageOf 8 = .ok (.iload_n 1, 1) := by decide +kernel
theorem d_M_imageOf_9 : decode c_M_imageOf 9 = .ok (.invokevirtual 86, 3) := by decide +kernel
theorem d_M_imageOf_12 : decode c_M_imageOf 12 = .ok (.if_icmp .ge 23, 3) := by decide +kernel
theorem d_M_imageOf_15 : decode c_M_imageOf 15 = .ok (.lload_n 2, 1) := by decide +kernel
theorem d_M_imageOf_16 : decode c_M_imageOf 16 = .ok (.lconst 1, 1) := by decide +kernel
theorem d_M_imageOf_17 : decode c_M_imageOf 17 = .ok (.aload_n 0, 1) := by decide +kernel
theorem d_M_imageOf_18 : decode c_M_imageOf 18 = .ok (.iload_n 1, 1) := by decide +kernel
theorem d_M_imageOf_19 : decode c_M_imageOf 19 = .ok (.iload 4, 2) := by decide +kernel
theorem d_M_imageOf_21 : decode c_M_imageOf 21 = .ok (.iconst (-1), 1) := by decide +kernel
theorem d_M_imageOf_22 : decode c_M_imageOf 22 = .ok (.iconst 0, 1) := by decide +kernel
theorem d_M_imageOf_23 : decode c_M_imageOf 23 = .ok (.invokevirtual 228, 3) := by decide +kernel
theorem d_M_imageOf_26 : decode c_M_imageOf 26 = .ok (.lshl, 1) := by decide +kernel
theorem d_M_imageOf_27 : decode c_M_imageOf 27 = .ok (.lor, 1) := by decide +kernel
theorem d_M_imageOf_28 : decode c_M_imageOf 28 = .ok (.lstore_n 2, 1) := by decide +kernel
theorem d_M_imageOf_29 : decode c_M_imageOf 29 = .ok (.iinc 4 1, 3) := by decide +kernel
theorem d_M_imageOf_32 : decode c_M_imageOf 32 = .ok (.goto (-27), 3) := by decide +kernel
theorem d_M_imageOf_35 : decode c_M_imageOf 35 = .ok (.lload_n 2, 1) := by decide +kernel
theorem d_M_imageOf_36 : decode c_M_imageOf 36 = .ok (.lreturn, 1) := by decide +kernel
theorem d_M_isTurnedIn_0 : decode c_M_isTurnedIn 0 = .ok (.iconst 0, 1) := by decide +kernel
theorem d_M_isTurnedIn_1 : decode c_M_isTurnedIn 1 = .ok (.istore 6, 2) := by decide +kernel
theorem d_M_isTurnedIn_3 : decode c_M_isTurnedIn 3 = .ok (.iload 6, 2) := by decide +kernel
theorem d_M_isTurnedIn_5 : decode c_M_isTurnedIn 5 = .ok (.iconst 1, 1) := by decide +kernel
theorem d_M_isTurnedIn_6 : decode c_M_isTurnedIn 6 = .ok (.iload_n 1, 1) := by decide +kernel
theorem d_M_isTurnedIn_7 : decode c_M_isTurnedIn 7 = .ok (.ishl, 1) := by decide +kernel
theorem d_M_isTurnedIn_8 : decode c_M_isTurnedIn 8 = .ok (.if_icmp .ge 75, 3) := by decide +kernel
theorem d_M_isTurnedIn_11 : decode c_M_isTurnedIn 11 = .ok (.lload_n 2, 1) := by decide +kernel
theorem d_M_isTurnedIn_12 : decode c_M_isTurnedIn 12 = .ok (.iload 6, 2) := by decide +kernel
theorem d_M_isTurnedIn_14 : decode c_M_isTurnedIn 14 = .ok (.lshr, 1) := by decide +kernel
theorem d_M_isTurnedIn_15 : decode c_M_isTurnedIn 15 = .ok (.lconst 1, 1) := by decide +kernel
theorem d_M_isTurnedIn_16 : decode c_M_isTurnedIn 16 = .ok (.land, 1) := by decide +kernel
theorem d_M_isTurnedIn_17 : decode c_M_isTurnedIn 17 = .ok (.lconst 0, 1) := by decide +kernel
theorem d_M_isTurnedIn_18 : decode c_M_isTurnedIn 18 = .ok (.lcmp, 1) := by decide +kernel
theorem d_M_isTurnedIn_19 : decode c_M_isTurnedIn 19 = .ok (.ifCond .ne 6, 3) := by decide +kernel
theorem d_M_isTurnedIn_22 : decode c_M_isTurnedIn 22 = .ok (.goto 55, 3) := by decide +kernel
theorem d_M_isTurnedIn_25 : decode c_M_isTurnedIn 25 = .ok (.iconst 0, 1) := by decide +kernel
theorem d_M_isTurnedIn_26 : decode c_M_isTurnedIn 26 = .ok (.istore 7, 2) := by decide +kernel
theorem d_M_isTurnedIn_28 : decode c_M_isTurnedIn 28 = .ok (.iconst 0, 1) := by decide +kernel
theorem d_M_isTurnedIn_29 : decode c_M_isTurnedIn 29 = .ok (.istore 8, 2) := by decide +kernel
theorem d_M_isTurnedIn_31 : decode c_M_isTurnedIn 31 = .ok (.iload 8, 2) := by decide +kernel
theorem d_M_isTurnedIn_33 : decode c_M_isTurnedIn 33 = .ok (.iload_n 1, 1) := by decide +kernel
theorem d_M_isTurnedIn_34 : decode c_M_isTurnedIn 34 = .ok (.if_icmp .ge 29, 3) := by decide +kernel
theorem d_M_isTurnedIn_37 : decode c_M_isTurnedIn 37 = .ok (.iload 7, 2) := by decide +kernel
theorem d_M_isTurnedIn_39 : decode c_M_isTurnedIn 39 = .ok (.iload 6, 2) := by decide +kernel
theorem d_M_isTurnedIn_41 : decode c_M_isTurnedIn 41 = .ok (.iload 8, 2) := by decide +kernel
theorem d_M_isTurnedIn_43 : decode c_M_isTurnedIn 43 = .ok (.ishr, 1) := by decide +kernel
theorem d_M_isTurnedIn_44 : decode c_M_isTurnedIn 44 = .ok (.iconst 1, 1) := by decide +kernel
theorem d_M_isTurnedIn_45 : decode c_M_isTurnedIn 45 = .ok (.iand, 1) := by decide +kernel
theorem d_M_isTurnedIn_46 : decode c_M_isTurnedIn 46 = .ok (.aload_n 0, 1) := by decide +kernel
theorem d_M_isTurnedIn_47 : decode c_M_isTurnedIn 47 = .ok (.getfield 54, 3) := by decide +kernel
theorem d_M_isTurnedIn_50 : decode c_M_isTurnedIn 50 = .ok (.iload 8, 2) := by decide +kernel
theorem d_M_isTurnedIn_52 : decode c_M_isTurnedIn 52 = .ok (.iaload, 1) := by decide +kernel
theorem d_M_isTurnedIn_53 : decode c_M_isTurnedIn 53 = .ok (.ishl, 1) := by decide +kernel
theorem d_M_isTurnedIn_54 : decode c_M_isTurnedIn 54 = .ok (.ior, 1) := by decide +kernel
theorem d_M_isTurnedIn_55 : decode c_M_isTurnedIn 55 = .ok (.istore 7, 2) := by decide +kernel
theorem d_M_isTurnedIn_57 : decode c_M_isTurnedIn 57 = .ok (.iinc 8 1, 3) := by decide +kernel
theorem d_M_isTurnedIn_60 : decode c_M_isTurnedIn 60 = .ok (.goto (-29), 3) := by decide +kernel
theorem d_M_isTurnedIn_63 : decode c_M_isTurnedIn 63 = .ok (.lload 4, 2) := by decide +kernel
theorem d_M_isTurnedIn_65 : decode c_M_isTurnedIn 65 = .ok (.iload 7, 2) := by decide +kernel
theorem d_M_isTurnedIn_67 : decode c_M_isTurnedIn 67 = .ok (.lshr, 1) := by decide +kernel
theorem d_M_isTurnedIn_68 : decode c_M_isTurnedIn 68 = .ok (.lconst 1, 1) := by decide +kernel
theorem d_M_isTurnedIn_69 : decode c_M_isTurnedIn 69 = .ok (.land, 1) := by decide +kernel
theorem d_M_isTurnedIn_70 : decode c_M_isTurnedIn 70 = .ok (.lconst 0, 1) := by decide +kernel
theorem d_M_isTurnedIn_71 : decode c_M_isTurnedIn 71 = .ok (.lcmp, 1) := by decide +kernel
theorem d_M_isTurnedIn_72 : decode c_M_isTurnedIn 72 = .ok (.ifCond .ne 5, 3) := by decide +kernel
theorem d_M_isTurnedIn_75 : decode c_M_isTurnedIn 75 = .ok (.iconst 0, 1) := by decide +kernel
theorem d_M_isTurnedIn_76 : decode c_M_isTurnedIn 76 = .ok (.ireturn, 1) := by decide +kernel
theorem d_M_isTurnedIn_77 : decode c_M_isTurnedIn 77 = .ok (.iinc 6 1, 3) := by decide +kernel
theorem d_M_isTurnedIn_80 : decode c_M_isTurnedIn 80 = .ok (.goto (-77), 3) := by decide +kernel
theorem d_M_isTurnedIn_83 : decode c_M_isTurnedIn 83 = .ok (.iconst 1, 1) := by decide +kernel
theorem d_M_isTurnedIn_84 : decode c_M_isTurnedIn 84 = .ok (.ireturn, 1) := by decide +kernel
theorem d_M_turns_0 : decode c_M_turns 0 = .ok (.iconst 0, 1) := by decide +kernel
theorem d_M_turns_1 : decode c_M_turns 1 = .ok (.istore 7, 2) := by decide +kernel
theorem d_M_turns_3 : decode c_M_turns 3 = .ok (.aload_n 0, 1) := by decide +kernel
theorem d_M_turns_4 : decode c_M_turns 4 = .ok (.iload_n 1, 1) := by decide +kernel
theorem d_M_turns_5 : decode c_M_turns 5 = .ok (.invokevirtual 265, 3) := by decide +kernel
theorem d_M_turns_8 : decode c_M_turns 8 = .ok (.lload_n 2, 1) := by decide +kernel
theorem d_M_turns_9 : decode c_M_turns 9 = .ok (.invokestatic 281, 3) := by decide +kernel
theorem d_M_turns_12 : decode c_M_turns 12 = .ok (.lload 4, 2) := by decide +kernel
theorem d_M_turns_14 : decode c_M_turns 14 = .ok (.invokestatic 281, 3) := by decide +kernel
theorem d_M_turns_17 : decode c_M_turns 17 = .ok (.if_icmp .gt 7, 3) := by decide +kernel
theorem d_M_turns_20 : decode c_M_turns 20 = .ok (.iconst 1, 1) := by decide +kernel
theorem d_M_turns_21 : decode c_M_turns 21 = .ok (.goto 4, 3) := by decide +kernel
theorem d_M_turns_24 : decode c_M_turns 24 = .ok (.iconst 0, 1) := by decide +kernel
theorem d_M_turns_25 : decode c_M_turns 25 = .ok (.istore 8, 2) := by decide +kernel
theorem d_M_turns_27 : decode c_M_turns 27 = .ok (.iload 8, 2) := by decide +kernel
theorem d_M_turns_29 : decode c_M_turns 29 = .ok (.ifCond .eq 47, 3) := by decide +kernel
theorem d_M_turns_32 : decode c_M_turns 32 = .ok (.iload 7, 2) := by decide +kernel
theorem d_M_turns_34 : decode c_M_turns 34 = .ok (.aload_n 0, 1) := by decide +kernel
theorem d_M_turns_35 : decode c_M_turns 35 = .ok (.iload_n 1, 1) := by decide +kernel
theorem d_M_turns_36 : decode c_M_turns 36 = .ok (.lload_n 2, 1) := by decide +kernel
theorem d_M_turns_37 : decode c_M_turns 37 = .ok (.lload 4, 2) := by decide +kernel
theorem d_M_turns_39 : decode c_M_turns 39 = .ok (.invokevirtual 296, 3) := by decide +kernel
theorem d_M_turns_42 : decode c_M_turns 42 = .ok (.invokestatic 188, 3) := by decide +kernel
theorem d_M_turns_45 : decode c_M_turns 45 = .ok (.iadd, 1) := by decide +kernel
theorem d_M_turns_46 : decode c_M_turns 46 = .ok (.istore 7, 2) := by decide +kernel
theorem d_M_turns_48 : decode c_M_turns 48 = .ok (.iload 6, 2) := by decide +kernel
theorem d_M_turns_50 : decode c_M_turns 50 = .ok (.ifCond .ne 8, 3) := by decide +kernel
theorem d_M_turns_53 : decode c_M_turns 53 = .ok (.iload 7, 2) := by decide +kernel
theorem d_M_turns_55 : decode c_M_turns 55 = .ok (.ifCond .ne 15, 3) := by decide +kernel
theorem d_M_turns_58 : decode c_M_turns 58 = .ok (.aload_n 0, 1) := by decide +kernel
theorem d_M_turns_59 : decode c_M_turns 59 = .ok (.iload_n 1, 1) := by decide +kernel
theorem d_M_turns_60 : decode c_M_turns 60 = .ok (.invokevirtual 271, 3) := by decide +kernel
theorem d_M_turns_63 : decode c_M_turns 63 = .ok (.ifCond .eq 7, 3) := by decide +kernel
theorem d_M_turns_66 : decode c_M_turns 66 = .ok (.iconst 1, 1) := by decide +kernel
theorem d_M_turns_67 : decode c_M_turns 67 = .ok (.goto 4, 3) := by decide +kernel
theorem d_M_turns_70 : decode c_M_turns 70 = .ok (.iconst 0, 1) := by decide +kernel
theorem d_M_turns_71 : decode c_M_turns 71 = .ok (.istore 8, 2) := by decide +kernel
theorem d_M_turns_73 : decode c_M_turns 73 = .ok (.goto (-46), 3) := by decide +kernel
theorem d_M_turns_76 : decode c_M_turns 76 = .ok (.iload 7, 2) := by decide +kernel
theorem d_M_turns_78 : decode c_M_turns 78 = .ok (.ireturn, 1) := by decide +kernel
theorem d_M_within_0 : decode c_M_within 0 = .ok (.aload_n 0, 1) := by decide +kernel
theorem d_M_within_1 : decode c_M_within 1 = .ok (.iconst 0, 1) := by decide +kernel
theorem d_M_within_2 : decode c_M_within 2 = .ok (.putfield 69, 3) := by decide +kernel
theorem d_M_within_5 : decode c_M_within 5 = .ok (.iload_n 1, 1) := by decide +kernel
theorem d_M_within_6 : decode c_M_within 6 = .ok (.invokestatic 151, 3) := by decide +kernel
theorem d_M_within_9 : decode c_M_within 9 = .ok (.ifCond .eq 10, 3) := by decide +kernel
theorem d_M_within_12 : decode c_M_within 12 = .ok (.iload_n 2, 1) := by decide +kernel
theorem d_M_within_13 : decode c_M_within 13 = .ok (.invokestatic 151, 3) := by decide +kernel
theorem d_M_within_16 : decode c_M_within 16 = .ok (.ifCond .ne 5, 3) := by decide +kernel
theorem d_M_within_19 : decode c_M_within 19 = .ok (.iconst (-1), 1) := by decide +kernel
theorem d_M_within_20 : decode c_M_within 20 = .ok (.ireturn, 1) := by decide +kernel
theorem d_M_within_21 : decode c_M_within 21 = .ok (.aload_n 0, 1) := by decide +kernel
theorem d_M_within_22 : decode c_M_within 22 = .ok (.getfield 13, 3) := by decide +kernel
theorem d_M_within_25 : decode c_M_within 25 = .ok (.iload_n 1, 1) := by decide +kernel
theorem d_M_within_26 : decode c_M_within 26 = .ok (.iaload, 1) := by decide +kernel
theorem d_M_within_27 : decode c_M_within 27 = .ok (.aload_n 0, 1) := by decide +kernel
theorem d_M_within_28 : decode c_M_within 28 = .ok (.getfield 13, 3) := by decide +kernel
theorem d_M_within_31 : decode c_M_within 31 = .ok (.iload_n 2, 1) := by decide +kernel
theorem d_M_within_32 : decode c_M_within 32 = .ok (.iaload, 1) := by decide +kernel
theorem d_M_within_33 : decode c_M_within 33 = .ok (.if_icmp .eq 6, 3) := by decide +kernel
theorem d_M_within_36 : decode c_M_within 36 = .ok (.bipush (-2), 2) := by decide +kernel
theorem d_M_within_38 : decode c_M_within 38 = .ok (.ireturn, 1) := by decide +kernel
theorem d_M_within_39 : decode c_M_within 39 = .ok (.aload_n 0, 1) := by decide +kernel
theorem d_M_within_40 : decode c_M_within 40 = .ok (.getfield 13, 3) := by decide +kernel
theorem d_M_within_43 : decode c_M_within 43 = .ok (.iload_n 1, 1) := by decide +kernel
theorem d_M_within_44 : decode c_M_within 44 = .ok (.iaload, 1) := by decide +kernel
theorem d_M_within_45 : decode c_M_within 45 = .ok (.bipush 6, 2) := by decide +kernel
theorem d_M_within_47 : decode c_M_within 47 = .ok (.if_icmp .le 6, 3) := by decide +kernel
theorem d_M_within_50 : decode c_M_within 50 = .ok (.bipush (-3), 2) := by decide +kernel
theorem d_M_within_52 : decode c_M_within 52 = .ok (.ireturn, 1) := by decide +kernel
theorem d_M_within_53 : decode c_M_within 53 = .ok (.aload_n 0, 1) := by decide +kernel
theorem d_M_within_54 : decode c_M_within 54 = .ok (.aload_n 0, 1) := by decide +kernel
theorem d_M_within_55 : decode c_M_within 55 = .ok (.getfield 13, 3) := by decide +kernel
theorem d_M_within_58 : decode c_M_within 58 = .ok (.iload_n 1, 1) := by decide +kernel
theorem d_M_within_59 : decode c_M_within 59 = .ok (.iaload, 1) := by decide +kernel
theorem d_M_within_60 : decode c_M_within 60 = .ok (.aload_n 0, 1) := by decide +kernel
theorem d_M_within_61 : decode c_M_within 61 = .ok (.iload_n 1, 1) := by decide +kernel
theorem d_M_within_62 : decode c_M_within 62 = .ok (.invokevirtual 300, 3) := by decide +kernel
theorem d_M_within_65 : decode c_M_within 65 = .ok (.aload_n 0, 1) := by decide +kernel
theorem d_M_within_66 : decode c_M_within 66 = .ok (.iload_n 2, 1) := by decide +kernel
theorem d_M_within_67 : decode c_M_within 67 = .ok (.invokevirtual 300, 3) := by decide +kernel
theorem d_M_within_70 : decode c_M_within 70 = .ok (.iconst 1, 1) := by decide +kernel
theorem d_M_within_71 : decode c_M_within 71 = .ok (.invokevirtual 303, 3) := by decide +kernel
theorem d_M_within_74 : decode c_M_within 74 = .ok (.istore_n 3, 1) := by decide +kernel
theorem d_M_within_75 : decode c_M_within 75 = .ok (.aload_n 0, 1) := by decide +kernel
theorem d_M_within_76 : decode c_M_within 76 = .ok (.iload_n 3, 1) := by decide +kernel
theorem d_M_within_77 : decode c_M_within 77 = .ok (.i2l, 1) := by decide +kernel
theorem d_M_within_78 : decode c_M_within 78 = .ok (.invokevirtual 221, 3) := by decide +kernel
theorem d_M_within_81 : decode c_M_within 81 = .ok (.iload_n 3, 1) := by decide +kernel
theorem d_M_within_82 : decode c_M_within 82 = .ok (.ifCond .le 7, 3) := by decide +kernel
theorem d_M_within_85 : decode c_M_within 85 = .ok (.iconst 1, 1) := by decide +kernel
theorem d_M_within_86 : decode c_M_within 86 = .ok (.goto 4, 3) := by decide +kernel
theorem d_M_within_89 : decode c_M_within 89 = .ok (.iconst 0, 1) := by decide +kernel
theorem d_M_within_90 : decode c_M_within 90 = .ok (.invokestatic 188, 3) := by decide +kernel
theorem d_M_within_93 : decode c_M_within 93 = .ok (.ireturn, 1) := by decide +kernel
theorem d_M_isDone_0 : decode c_M_isDone 0 = .ok (.iconst 0, 1) := by decide +kernel
theorem d_M_isDone_1 : decode c_M_isDone 1 = .ok (.istore_n 2, 1) := by decide +kernel
theorem d_M_isDone_2 : decode c_M_isDone 2 = .ok (.iconst 0, 1) := by decide +kernel
theorem d_M_isDone_3 : decode c_M_isDone 3 = .ok (.istore_n 3, 1) := by decide +kernel
theorem d_M_isDone_4 : decode c_M_isDone 4 = .ok (.iload_n 3, 1) := by decide +kernel
theorem d_M_isDone_5 : decode c_M_isDone 5 = .ok (.aload_n 0, 1) := by decide +kernel
theorem d_M_isDone_6 : decode c_M_isDone 6 = .ok (.getfield 322, 3) := by decide +kernel
theorem d_M_isDone_9 : decode c_M_isDone 9 = .ok (.if_icmp .ge 34, 3) := by decide +kernel
theorem d_M_isDone_12 : decode c_M_isDone 12 = .ok (.iload_n 2, 1) := by decide +kernel
theorem d_M_isDone_13 : decode c_M_isDone 13 = .ok (.ifCond .ne 18, 3) := by decide +kernel
theorem d_M_isDone_16 : decode c_M_isDone 16 = .ok (.aload_n 0, 1) := by decide +kernel
theorem d_M_isDone_17 : decode c_M_isDone 17 = .ok (.getfield 60, 3) := by decide +kernel
theorem d_M_isDone_20 : decode c_M_isDone 20 = .ok (.iload_n 3, 1) := by decide +kernel
theorem d_M_isDone_21 : decode c_M_isDone 21 = .ok (.laload, 1) := by decide +kernel
theorem d_M_isDone_22 : decode c_M_isDone 22 = .ok (.invokestatic 281, 3) := by decide +kernel
theorem d_M_isDone_25 : decode c_M_isDone 25 = .ok (.iload_n 1, 1) := by decide +kernel
theorem d_M_isDone_26 : decode c_M_isDone 26 = .ok (.iconst 1, 1) := by decide +kernel
theorem d_M_isDone_27 : decode c_M_isDone 27 = .ok (.iadd, 1) := by decide +kernel
theorem d_M_isDone_28 : decode c_M_isDone 28 = .ok (.if_icmp .ne 7, 3) := by decide +kernel
theorem d_M_isDone_31 : decode c_M_isDone 31 = .ok (.iconst 1, 1) := by decide +kernel
theorem d_M_isDone_32 : decode c_M_isDone 32 = .ok (.goto 4, 3) := by decide +kernel
theorem d_M_isDone_35 : decode c_M_isDone 35 = .ok (.iconst 0, 1) := by decide +kernel
theorem d_M_isDone_36 : decode c_M_isDone 36 = .ok (.istore_n 2, 1) := by decide +kernel
theorem d_M_isDone_37 : decode c_M_isDone 37 = .ok (.iinc 3 1, 3) := by decide +kernel
theorem d_M_isDone_40 : decode c_M_isDone 40 = .ok (.goto (-36), 3) := by decide +kernel
theorem d_M_isDone_43 : decode c_M_isDone 43 = .ok (.iload_n 2, 1) := by decide +kernel
theorem d_M_isDone_44 : decode c_M_isDone 44 = .ok (.ireturn, 1) := by decide +kernel
theorem d_M_comparedAll_0 : decode c_M_comparedAll 0 = .ok (.lconst 0, 1) := by decide +kernel
theorem d_M_comparedAll_1 : decode c_M_comparedAll 1 = .ok (.lstore 5, 2) := by decide +kernel
theorem d_M_comparedAll_3 : decode c_M_comparedAll 3 = .ok (.iconst 0, 1) := by decide +kernel
theorem d_M_comparedAll_4 : decode c_M_comparedAll 4 = .ok (.istore 7, 2) := by decide +kernel
theorem d_M_comparedAll_6 : decode c_M_comparedAll 6 = .ok (.iload 7, 2) := by decide +kernel
theorem d_M_comparedAll_8 : decode c_M_comparedAll 8 = .ok (.iconst 1, 1) := by decide +kernel
theorem d_M_comparedAll_9 : decode c_M_comparedAll 9 = .ok (.iload_n 0, 1) := by decide +kernel
theorem d_M_comparedAll_10 : decode c_M_comparedAll 10 = .ok (.ishl, 1) := by decide +kernel
theorem d_M_comparedAll_11 : decode c_M_comparedAll 11 = .ok (.if_icmp .ge 29, 3) := by decide +kernel
theorem d_M_comparedAll_14 : decode c_M_comparedAll 14 = .ok (.lload 5, 2) := by decide +kernel
theorem d_M_comparedAll_16 : decode c_M_comparedAll 16 = .ok (.lload_n 1, 1) := by decide +kernel
theorem d_M_comparedAll_17 : decode c_M_comparedAll 17 = .ok (.iload 7, 2) := by decide +kernel
theorem d_M_comparedAll_19 : decode c_M_comparedAll 19 = .ok (.lshr, 1) := by decide +kernel
theorem d_M_comparedAll_20 : decode c_M_comparedAll 20 = .ok (.lconst 1, 1) := by decide +kernel
theorem d_M_comparedAll_21 : decode c_M_comparedAll 21 = .ok (.land, 1) := by decide +kernel
theorem d_M_comparedAll_22 : decode c_M_comparedAll 22 = .ok (.iload 7, 2) := by decide +kernel
theorem d_M_comparedAll_24 : decode c_M_comparedAll 24 = .ok (.iload_n 3, 1) := by decide +kernel
theorem d_M_comparedAll_25 : decode c_M_comparedAll 25 = .ok (.iload 4, 2) := by decide +kernel
theorem d_M_comparedAll_27 : decode c_M_comparedAll 27 = .ok (.invokestatic 293, 3) := by decide +kernel
theorem d_M_comparedAll_30 : decode c_M_comparedAll 30 = .ok (.lshl, 1) := by decide +kernel
theorem d_M_comparedAll_31 : decode c_M_comparedAll 31 = .ok (.lor, 1) := by decide +kernel
theorem d_M_comparedAll_32 : decode c_M_comparedAll 32 = .ok (.lstore 5, 2) := by decide +kernel
theorem d_M_comparedAll_34 : decode c_M_comparedAll 34 = .ok (.iinc 7 1, 3) := by decide +kernel
theorem d_M_comparedAll_37 : decode c_M_comparedAll 37 = .ok (.goto (-31), 3) := by decide +kernel
theorem d_M_comparedAll_40 : decode c_M_comparedAll 40 = .ok (.lload 5, 2) := by decide +kernel
theorem d_M_comparedAll_42 : decode c_M_comparedAll 42 = .ok (.lreturn, 1) := by decide +kernel
theorem d_M_layered_0 : decode c_M_layered 0 = .ok (.lload_n 1, 1) := by decide +kernel
theorem d_M_layered_1 : decode c_M_layered 1 = .ok (.lstore 4, 2) := by decide +kernel
theorem d_M_layered_3 : decode c_M_layered 3 = .ok (.iconst 0, 1) := by decide +kernel
theorem d_M_layered_4 : decode c_M_layered 4 = .ok (.istore 6, 2) := by decide +kernel
theorem d_M_layered_6 : decode c_M_layered 6 = .ok (.iconst 0, 1) := by decide +kernel
theorem d_M_layered_7 : decode c_M_layered 7 = .ok (.istore 7, 2) := by decide +kernel
theorem d_M_layered_9 : decode c_M_layered 9 = .ok (.iconst 0, 1) := by decide +kernel
theorem d_M_layered_10 : decode c_M_layered 10 = .ok (.istore 8, 2) := by decide +kernel
theorem d_M_layered_12 : decode c_M_layered 12 = .ok (.iload 8, 2) := by decide +kernel
theorem d_M_layered_14 : decode c_M_layered 14 = .ok (.iload_n 0, 1) := by decide +kernel
theorem d_M_layered_15 : decode c_M_layered 15 = .ok (.if_icmp .ge 83, 3) := by decide +kernel
theorem d_M_layered_18 : decode c_M_layered 18 = .ok (.iload 8, 2) := by decide +kernel
theorem d_M_layered_20 : decode c_M_layered 20 = .ok (.iconst 1, 1) := by decide +kernel
theorem d_M_layered_21 : decode c_M_layered 21 = .ok (.iadd, 1) := by decide +kernel
theorem d_M_layered_22 : decode c_M_layered 22 = .ok (.istore 9, 2) := by decide +kernel
theorem d_M_layered_24 : decode c_M_layered 24 = .ok (.iload 9, 2) := by decide +kernel
theorem d_M_layered_26 : decode c_M_layered 26 = .ok (.iload_n 0, 1) := by decide +kernel
theorem d_M_layered_27 : decode c_M_layered 27 = .ok (.if_icmp .ge 65, 3) := by decide +kernel
theorem d_M_layered_30 : decode c_M_layered 30 = .ok (.iload_n 3, 1) := by decide +kernel
theorem d_M_layered_31 : decode c_M_layered 31 = .ok (.iload 7, 2) := by decide +kernel
theorem d_M_layered_33 : decode c_M_layered 33 = .ok (.ishr, 1) := by decide +kernel
theorem d_M_layered_34 : decode c_M_layered 34 = .ok (.iconst 1, 1) := by decide +kernel
theorem d_M_layered_35 : decode c_M_layered 35 = .ok (.iand, 1) := by decide +kernel
theorem d_M_layered_36 : decode c_M_layered 36 = .ok (.iconst 1, 1) := by decide +kernel
theorem d_M_layered_37 : decode c_M_layered 37 = .ok (.if_icmp .ne 46, 3) := by decide +kernel
theorem d_M_layered_40 : decode c_M_layered 40 = .ok (.iload 6, 2) := by decide +kernel
theorem d_M_layered_42 : decode c_M_layered 42 = .ok (.iconst 1, 1) := by decide +kernel
theorem d_M_layered_43 : decode c_M_layered 43 = .ok (.iload 8, 2) := by decide +kernel
theorem d_M_layered_45 : decode c_M_layered 45 = .ok (.ishl, 1) := by decide +kernel
theorem d_M_layered_46 : decode c_M_layered 46 = .ok (.iconst 1, 1) := by decide +kernel
theorem d_M_layered_47 : decode c_M_layered 47 = .ok (.iload 9, 2) := by decide +kernel
theorem d_M_layered_49 : decode c_M_layered 49 = .ok (.ishl, 1) := by decide +kernel
theorem d_M_layered_50 : decode c_M_layered 50 = .ok (.ior, 1) := by decide +kernel
theorem d_M_layered_51 : decode c_M_layered 51 = .ok (.iand, 1) := by decide +kernel
theorem d_M_layered_52 : decode c_M_layered 52 = .ok (.ifCond .eq 5, 3) := by decide +kernel
theorem d_M_layered_55 : decode c_M_layered 55 = .ok (.lconst 0, 1) := by decide +kernel
theorem d_M_layered_56 : decode c_M_layered 56 = .ok (.lreturn, 1) := by decide +kernel
theorem d_M_layered_57 : decode c_M_layered 57 = .ok (.iload 6, 2) := by decide +kernel
theorem d_M_layered_59 : decode c_M_layered 59 = .ok (.iconst 1, 1) := by decide +kernel
theorem d_M_layered_60 : decode c_M_layered 60 = .ok (.iload 8, 2) := by decide +kernel
theorem d_M_layered_62 : decode c_M_layered 62 = .ok (.ishl, 1) := by decide +kernel
theorem d_M_layered_63 : decode c_M_layered 63 = .ok (.iconst 1, 1) := by decide +kernel
theorem d_M_layered_64 : decode c_M_layered 64 = .ok (.iload 9, 2) := by decide +kernel
theorem d_M_layered_66 : decode c_M_layered 66 = .ok (.ishl, 1) := by decide +kernel
theorem d_M_layered_67 : decode c_M_layered 67 = .ok (.ior, 1) := by decide +kernel
theorem d_M_layered_68 : decode c_M_layered 68 = .ok (.ior, 1) := by decide +kernel
theorem d_M_layered_69 : decode c_M_layered 69 = .ok (.istore 6, 2) := by decide +kernel
theorem d_M_layered_71 : decode c_M_layered 71 = .ok (.iload_n 0, 1) := by decide +kernel
theorem d_M_layered_72 : decode c_M_layered 72 = .ok (.lload 4, 2) := by decide +kernel
theorem d_M_layered_74 : decode c_M_layered 74 = .ok (.iload 8, 2) := by decide +kernel
theorem d_M_layered_76 : decode c_M_layered 76 = .ok (.iload 9, 2) := by decide +kernel
theorem d_M_layered_78 : decode c_M_layered 78 = .ok (.invokestatic 310, 3) := by decide +kernel
theorem d_M_layered_81 : decode c_M_layered 81 = .ok (.lstore 4, 2) := by decide +kernel
theorem d_M_layered_83 : decode c_M_layered 83 = .ok (.iinc 7 1, 3) := by decide +kernel
theorem d_M_layered_86 : decode c_M_layered 86 = .ok (.iinc 9 1, 3) := by decide +kernel
theorem d_M_layered_89 : decode c_M_layered 89 = .ok (.goto (-65), 3) := by decide +kernel
theorem d_M_layered_92 : decode c_M_layered 92 = .ok (.iinc 8 1, 3) := by decide +kernel
theorem d_M_layered_95 : decode c_M_layered 95 = .ok (.goto (-83), 3) := by decide +kernel
theorem d_M_layered_98 : decode c_M_layered 98 = .ok (.lload 4, 2) := by decide +kernel
theorem d_M_layered_100 : decode c_M_layered 100 = .ok (.lreturn, 1) := by decide +kernel
theorem d_M_offers_0 : decode c_M_offers 0 = .ok (.iconst 0, 1) := by decide +kernel
theorem d_M_offers_1 : decode c_M_offers 1 = .ok (.istore 4, 2) := by decide +kernel
theorem d_M_offers_3 : decode c_M_offers 3 = .ok (.iload 4, 2) := by decide +kernel
theorem d_M_offers_5 : decode c_M_offers 5 = .ok (.aload_n 0, 1) := by decide +kernel
theorem d_M_offers_6 : decode c_M_offers 6 = .ok (.getfield 307, 3) := by decide +kernel
theorem d_M_offers_9 : decode c_M_offers 9 = .ok (.if_icmp .ge 27, 3) := by decide +kernel
theorem d_M_offers_12 : decode c_M_offers 12 = .ok (.aload_n 0, 1) := by decide +kernel
theorem d_M_offers_13 : decode c_M_offers 13 = .ok (.iload_n 1, 1) := by decide +kernel
theorem d_M_offers_14 : decode c_M_offers 14 = .ok (.aload_n 0, 1) := by decide +kernel
theorem d_M_offers_15 : decode c_M_offers 15 = .ok (.getfield 63, 3) := by decide +kernel
theorem d_M_offers_18 : decode c_M_offers 18 = .ok (.iload 4, 2) := by decide +kernel
theorem d_M_offers_20 : decode c_M_offers 20 = .ok (.laload, 1) := by decide +kernel
theorem d_M_offers_21 : decode c_M_offers 21 = .ok (.lload_n 2, 1) := by decide +kernel
theorem d_M_offers_22 : decode c_M_offers 22 = .ok (.iconst 0, 1) := by decide +kernel
theorem d_M_offers_23 : decode c_M_offers 23 = .ok (.invokevirtual 303, 3) := by decide +kernel
theorem d_M_offers_26 : decode c_M_offers 26 = .ok (.ifCond .le 4, 3) := by decide +kernel
theorem d_M_offers_29 : decode c_M_offers 29 = .ok (.return_, 1) := by decide +kernel
theorem d_M_offers_30 : decode c_M_offers 30 = .ok (.iinc 4 1, 3) := by decide +kernel
theorem d_M_offers_33 : decode c_M_offers 33 = .ok (.goto (-30), 3) := by decide +kernel
theorem d_M_offers_36 : decode c_M_offers 36 = .ok (.iconst 0, 1) := by decide +kernel
theorem d_M_offers_37 : decode c_M_offers 37 = .ok (.istore 4, 2) := by decide +kernel
theorem d_M_offers_39 : decode c_M_offers 39 = .ok (.iconst 0, 1) := by decide +kernel
theorem d_M_offers_40 : decode c_M_offers 40 = .ok (.istore 5, 2) := by decide +kernel
theorem d_M_offers_42 : decode c_M_offers 42 = .ok (.iload 5, 2) := by decide +kernel
theorem d_M_offers_44 : decode c_M_offers 44 = .ok (.aload_n 0, 1) := by decide +kernel
theorem d_M_offers_45 : decode c_M_offers 45 = .ok (.getfield 307, 3) := by decide +kernel
theorem d_M_offers_48 : decode c_M_offers 48 = .ok (.if_icmp .ge 46, 3) := by decide +kernel
theorem d_M_offers_51 : decode c_M_offers 51 = .ok (.aload_n 0, 1) := by decide +kernel
theorem d_M_offers_52 : decode c_M_offers 52 = .ok (.iload_n 1, 1) := by decide +kernel
theorem d_M_offers_53 : decode c_M_offers 53 = .ok (.lload_n 2, 1) := by decide +kernel
theorem d_M_offers_54 : decode c_M_offers 54 = .ok (.aload_n 0, 1) := by decide +kernel
theorem d_M_offers_55 : decode c_M_offers 55 = .ok (.getfield 63, 3) := by decide +kernel
theorem d_M_offers_58 : decode c_M_offers 58 = .ok (.iload 5, 2) := by decide +kernel
theorem d_M_offers_60 : decode c_M_offers 60 = .ok (.laload, 1) := by decide +kernel
theorem d_M_offers_61 : decode c_M_offers 61 = .ok (.iconst 0, 1) := by decide +kernel
theorem d_M_offers_62 : decode c_M_offers 62 = .ok (.invokevirtual 303, 3) := by decide +kernel
theorem d_M_offers_65 : decode c_M_offers 65 = .ok (.ifCond .le 6, 3) := by decide +kernel
theorem d_M_offers_68 : decode c_M_offers 68 = .ok (.goto 20, 3) := by decide +kernel
theorem d_M_offers_71 : decode c_M_offers 71 = .ok (.aload_n 0, 1) := by decide +kernel
theorem d_M_offers_72 : decode c_M_offers 72 = .ok (.getfield 63, 3) := by decide +kernel
theorem d_M_offers_75 : decode c_M_offers 75 = .ok (.iload 4, 2) := by decide +kernel
theorem d_M_offers_77 : decode c_M_offers 77 = .ok (.aload_n 0, 1) := by decide +kernel
theorem d_M_offers_78 : decode c_M_offers 78 = .ok (.getfield 63, 3) := by decide +kernel
theorem d_M_offers_81 : decode c_M_offers 81 = .ok (.iload 5, 2) := by decide +kernel
theorem d_M_offers_83 : decode c_M_offers 83 = .ok (.laload, 1) := by decide +kernel
theorem d_M_offers_84 : decode c_M_offers 84 = .ok (.lastore, 1) := by decide +kernel
theorem d_M_offers_85 : decode c_M_offers 85 = .ok (.iinc 4 1, 3) := by decide +kernel
theorem d_M_offers_88 : decode c_M_offers 88 = .ok (.iinc 5 1, 3) := by decide +kernel
theorem d_M_offers_91 : decode c_M_offers 91 = .ok (.goto (-49), 3) := by decide +kernel
theorem d_M_offers_94 : decode c_M_offers 94 = .ok (.aload_n 0, 1) := by decide +kernel
theorem d_M_offers_95 : decode c_M_offers 95 = .ok (.getfield 63, 3) := by decide +kernel
theorem d_M_offers_98 : decode c_M_offers 98 = .ok (.iload 4, 2) := by decide +kernel
theorem d_M_offers_100 : decode c_M_offers 100 = .ok (.lload_n 2, 1) := by decide +kernel
theorem d_M_offers_101 : decode c_M_offers 101 = .ok (.lastore, 1) := by decide +kernel
theorem d_M_offers_102 : decode c_M_offers 102 = .ok (.aload_n 0, 1) := by decide +kernel
theorem d_M_offers_103 : decode c_M_offers 103 = .ok (.iload 4, 2) := by decide +kernel
theorem d_M_offers_105 : decode c_M_offers 105 = .ok (.iconst 1, 1) := by decide +kernel
theorem d_M_offers_106 : decode c_M_offers 106 = .ok (.iadd, 1) := by decide +kernel
theorem d_M_offers_107 : decode c_M_offers 107 = .ok (.putfield 307, 3) := by decide +kernel
theorem d_M_offers_110 : decode c_M_offers 110 = .ok (.return_, 1) := by decide +kernel
theorem d_M_offersLayers_0 : decode c_M_offersLayers 0 = .ok (.iconst 1, 1) := by decide +kernel
theorem d_M_offersLayers_1 : decode c_M_offersLayers 1 = .ok (.istore 4, 2) := by decide +kernel
theorem d_M_offersLayers_3 : decode c_M_offersLayers 3 = .ok (.iload 4, 2) := by decide +kernel
theorem d_M_offersLayers_5 : decode c_M_offersLayers 5 = .ok (.iconst 1, 1) := by decide +kernel
theorem d_M_offersLayers_6 : decode c_M_offersLayers 6 = .ok (.iload_n 1, 1) := by decide +kernel
theorem d_M_offersLayers_7 : decode c_M_offersLayers 7 = .ok (.iload_n 1, 1) := by decide +kernel
theorem d_M_offersLayers_8 : decode c_M_offersLayers 8 = .ok (.iconst 1, 1) := by decide +kernel
theorem d_M_offersLayers_9 : decode c_M_offersLayers 9 = .ok (.isub, 1) := by decide +kernel
theorem d_M_offersLayers_10 : decode c_M_offersLayers 10 = .ok (.imul, 1) := by decide +kernel
theorem d_M_offersLayers_11 : decode c_M_offersLayers 11 = .ok (.iconst 2, 1) := by decide +kernel
theorem d_M_offersLayers_12 : decode c_M_offersLayers 12 = .ok (.idiv, 1) := by decide +kernel
theorem d_M_offersLayers_13 : decode c_M_offersLayers 13 = .ok (.ishl, 1) := by decide +kernel
theorem d_M_offersLayers_14 : decode c_M_offersLayers 14 = .ok (.if_icmp .ge 32, 3) := by decide +kernel
theorem d_M_offersLayers_17 : decode c_M_offersLayers 17 = .ok (.iload_n 1, 1) := by decide +kernel
theorem d_M_offersLayers_18 : decode c_M_offersLayers 18 = .ok (.lload_n 2, 1) := by decide +kernel
theorem d_M_offersLayers_19 : decode c_M_offersLayers 19 = .ok (.iload 4, 2) := by decide +kernel
theorem d_M_offersLayers_21 : decode c_M_offersLayers 21 = .ok (.invokestatic 318, 3) := by decide +kernel
theorem d_M_offersLayers_24 : decode c_M_offersLayers 24 = .ok (.lstore 5, 2) := by decide +kernel
theorem d_M_offersLayers_26 : decode c_M_offersLayers 26 = .ok (.lload 5, 2) := by decide +kernel
theorem d_M_offersLayers_28 : decode c_M_offersLayers 28 = .ok (.lconst 0, 1) := by decide +kernel
theorem d_M_offersLayers_29 : decode c_M_offersLayers 29 = .ok (.lcmp, 1) := by decide +kernel
theorem d_M_offersLayers_30 : decode c_M_offersLayers 30 = .ok (.ifCond .eq 10, 3) := by decide +kernel
theorem d_M_offersLayers_33 : decode c_M_offersLayers 33 = .ok (.aload_n 0, 1) := by decide +kernel
theorem d_M_offersLayers_34 : decode c_M_offersLayers 34 = .ok (.iload_n 1, 1) := by decide +kernel
theorem d_M_offersLayers_35 : decode c_M_offersLayers 35 = .ok (.lload 5, 2) := by decide +kernel
theorem d_M_offersLayers_37 : decode c_M_offersLayers 37 = .ok (.invokevirtual 314, 3) := by decide +kernel
theorem d_M_offersLayers_40 : decode c_M_offersLayers 40 = .ok (.iinc 4 1, 3) := by decide +kernel
theorem d_M_offersLayers_43 : decode c_M_offersLayers 43 = .ok (.goto (-40), 3) := by decide +kernel
theorem d_M_offersLayers_46 : decode c_M_offersLayers 46 = .ok (.return_, 1) := by decide +kernel
theorem d_M_offersEach_0 : decode c_M_offersEach 0 = .ok (.iconst 0, 1) := by decide +kernel
theorem d_M_offersEach_1 : decode c_M_offersEach 1 = .ok (.istore 4, 2) := by decide +kernel
theorem d_M_offersEach_3 : decode c_M_offersEach 3 = .ok (.iload 4, 2) := by decide +kernel
theorem d_M_offersEach_5 : decode c_M_offersEach 5 = .ok (.iload_n 1, 1) := by decide +kernel
theorem d_M_offersEach_6 : decode c_M_offersEach 6 = .ok (.if_icmp .ge 41, 3) := by decide +kernel
theorem d_M_offersEach_9 : decode c_M_offersEach 9 = .ok (.iload 4, 2) := by decide +kernel
theorem d_M_offersEach_11 : decode c_M_offersEach 11 = .ok (.iconst 1, 1) := by decide +kernel
theorem d_M_offersEach_12 : decode c_M_offersEach 12 = .ok (.iadd, 1) := by decide +kernel
theorem d_M_offersEach_13 : decode c_M_offersEach 13 = .ok (.istore 5, 2) := by decide +kernel
theorem d_M_offersEach_15 : decode c_M_offersEach 15 = .ok (.iload 5, 2) := by decide +kernel
theorem d_M_offersEach_17 : decode c_M_offersEach 17 = .ok (.iload_n 1, 1) := by decide +kernel
theorem d_M_offersEach_18 : decode c_M_offersEach 18 = .ok (.if_icmp .ge 23, 3) := by decide +kernel
theorem d_M_offersEach_21 : decode c_M_offersEach 21 = .ok (.aload_n 0, 1) := by decide +kernel
theorem d_M_offersEach_22 : decode c_M_offersEach 22 = .ok (.iload_n 1, 1) := by decide +kernel
theorem d_M_offersEach_23 : decode c_M_offersEach 23 = .ok (.iload_n 1, 1) := by decide +kernel
theorem d_M_offersEach_24 : decode c_M_offersEach 24 = .ok (.lload_n 2, 1) := by decide +kernel
theorem d_M_offersEach_25 : decode c_M_offersEach 25 = .ok (.iload 4, 2) := by decide +kernel
theorem d_M_offersEach_27 : decode c_M_offersEach 27 = .ok (.iload 5, 2) := by decide +kernel
theorem d_M_offersEach_29 : decode c_M_offersEach 29 = .ok (.invokestatic 310, 3) := by decide +kernel
theorem d_M_offersEach_32 : decode c_M_offersEach 32 = .ok (.invokevirtual 314, 3) := by decide +kernel
theorem d_M_offersEach_35 : decode c_M_offersEach 35 = .ok (.iinc 5 1, 3) := by decide +kernel
theorem d_M_offersEach_38 : decode c_M_offersEach 38 = .ok (.goto (-23), 3) := by decide +kernel
theorem d_M_offersEach_41 : decode c_M_offersEach 41 = .ok (.iinc 4 1, 3) := by decide +kernel
theorem d_M_offersEach_44 : decode c_M_offersEach 44 = .ok (.goto (-41), 3) := by decide +kernel
theorem d_M_offersEach_47 : decode c_M_offersEach 47 = .ok (.return_, 1) := by decide +kernel
theorem d_M_fewest_0 : decode c_M_fewest 0 = .ok (.aload_n 0, 1) := by decide +kernel
theorem d_M_fewest_1 : decode c_M_fewest 1 = .ok (.getfield 60, 3) := by decide +kernel
theorem d_M_fewest_4 : decode c_M_fewest 4 = .ok (.iconst 0, 1) := by decide +kernel
theorem d_M_fewest_5 : decode c_M_fewest 5 = .ok (.lconst 1, 1) := by decide +kernel
theorem d_M_fewest_6 : decode c_M_fewest 6 = .ok (.iconst 1, 1) := by decide +kernel
theorem d_M_fewest_7 : decode c_M_fewest 7 = .ok (.iload_n 1, 1) := by decide +kernel
theorem d_M_fewest_8 : decode c_M_fewest 8 = .ok (.ishl, 1) := by decide +kernel
theorem d_M_fewest_9 : decode c_M_fewest 9 = .ok (.lshl, 1) := by decide +kernel
theorem d_M_fewest_10 : decode c_M_fewest 10 = .ok (.lconst 1, 1) := by decide +kernel
theorem d_M_fewest_11 : decode c_M_fewest 11 = .ok (.lsub, 1) := by decide +kernel
theorem d_M_fewest_12 : decode c_M_fewest 12 = .ok (.lastore, 1) := by decide +kernel
theorem d_M_fewest_13 : decode c_M_fewest 13 = .ok (.aload_n 0, 1) := by decide +kernel
theorem d_M_fewest_14 : decode c_M_fewest 14 = .ok (.iconst 1, 1) := by decide +kernel
theorem d_M_fewest_15 : decode c_M_fewest 15 = .ok (.putfield 322, 3) := by decide +kernel
theorem d_M_fewest_18 : decode c_M_fewest 18 = .ok (.aload_n 0, 1) := by decide +kernel
theorem d_M_fewest_19 : decode c_M_fewest 19 = .ok (.iconst 0, 1) := by decide +kernel
theorem d_M_fewest_20 : decode c_M_fewest 20 = .ok (.putfield 73, 3) := by decide +kernel
theorem d_M_fewest_23 : decode c_M_fewest 23 = .ok (.aload_n 0, 1) := by decide +kernel
theorem d_M_fewest_24 : decode c_M_fewest 24 = .ok (.iload_n 1, 1) := by decide +kernel
theorem d_M_fewest_25 : decode c_M_fewest 25 = .ok (.invokevirtual 325, 3) := by decide +kernel
theorem d_M_fewest_28 : decode c_M_fewest 28 = .ok (.ifCond .ne 91, 3) := by decide +kernel
theorem d_M_fewest_31 : decode c_M_fewest 31 = .ok (.aload_n 0, 1) := by decide +kernel
theorem d_M_fewest_32 : decode c_M_fewest 32 = .ok (.iconst 0, 1) := by decide +kernel
theorem d_M_fewest_33 : decode c_M_fewest 33 = .ok (.putfield 307, 3) := by decide +kernel
theorem d_M_fewest_36 : decode c_M_fewest 36 = .ok (.iconst 0, 1) := by decide +kernel
theorem d_M_fewest_37 : decode c_M_fewest 37 = .ok (.istore_n 3, 1) := by decide +kernel
theorem d_M_fewest_38 : decode c_M_fewest 38 = .ok (.iload_n 3, 1) := by decide +kernel
theorem d_M_fewest_39 : decode c_M_fewest 39 = .ok (.aload_n 0, 1) := by decide +kernel
theorem d_M_fewest_40 : decode c_M_fewest 40 = .ok (.getfield 322, 3) := by decide +kernel
theorem d_M_fewest_43 : decode c_M_fewest 43 = .ok (.if_icmp .ge 38, 3) := by decide +kernel
theorem d_M_fewest_46 : decode c_M_fewest 46 = .ok (.iload_n 2, 1) := by decide +kernel
theorem d_M_fewest_47 : decode c_M_fewest 47 = .ok (.ifCond .eq 17, 3) := by decide +kernel
theorem d_M_fewest_50 : decode c_M_fewest 50 = .ok (.aload_n 0, 1) := by decide +kernel
theorem d_M_fewest_51 : decode c_M_fewest 51 = .ok (.iload_n 1, 1) := by decide +kernel
theorem d_M_fewest_52 : decode c_M_fewest 52 = .ok (.aload_n 0, 1) := by decide +kernel
theorem d_M_fewest_53 : decode c_M_fewest 53 = .ok (.getfield 60, 3) := by decide +kernel
theorem d_M_fewest_56 : decode c_M_fewest 56 = .ok (.iload_n 3, 1) := by decide +kernel
theorem d_M_fewest_57 : decode c_M_fewest 57 = .ok (.laload, 1) := by decide +kernel
theorem d_M_fewest_58 : decode c_M_fewest 58 = .ok (.invokevirtual 328, 3) := by decide +kernel
theorem d_M_fewest_61 : decode c_M_fewest 61 = .ok (.goto 14, 3) := by decide +kernel
theorem d_M_fewest_64 : decode c_M_fewest 64 = .ok (.aload_n 0, 1) := by decide +kernel
theorem d_M_fewest_65 : decode c_M_fewest 65 = .ok (.iload_n 1, 1) := by decide +kernel
theorem d_M_fewest_66 : decode c_M_fewest 66 = .ok (.aload_n 0, 1) := by decide +kernel
theorem d_M_fewest_67 : decode c_M_fewest 67 = .ok (.getfield 60, 3) := by decide +kernel
theorem d_M_fewest_70 : decode c_M_fewest 70 = .ok (.iload_n 3, 1) := by decide +kernel
theorem d_M_fewest_71 : decode c_M_fewest 71 = .ok (.laload, 1) := by decide +kernel
theorem d_M_fewest_72 : decode c_M_fewest 72 = .ok (.invokevirtual 331, 3) := by decide +kernel
theorem d_M_fewest_75 : decode c_M_fewest 75 = .ok (.iinc 3 1, 3) := by decide +kernel
theorem d_M_fewest_78 : decode c_M_fewest 78 = .ok (.goto (-40), 3) := by decide +kernel
theorem d_M_fewest_81 : decode c_M_fewest 81 = .ok (.aload_n 0, 1) := by decide +kernel
theorem d_M_fewest_82 : decode c_M_fewest 82 = .ok (.getfield 60, 3) := by decide +kernel
theorem d_M_fewest_85 : decode c_M_fewest 85 = .ok (.astore_n 3, 1) := by decide +kernel
theorem d_M_fewest_86 : decode c_M_fewest 86 = .ok (.aload_n 0, 1) := by decide +kernel
theorem d_M_fewest_87 : decode c_M_fewest 87 = .ok (.aload_n 0, 1) := by decide +kernel
theorem d_M_fewest_88 : decode c_M_fewest 88 = .ok (.getfield 63, 3) := by decide +kernel
theorem d_M_fewest_91 : decode c_M_fewest 91 = .ok (.putfield 60, 3) := by decide +kernel
theorem d_M_fewest_94 : decode c_M_fewest 94 = .ok (.aload_n 0, 1) := by decide +kernel
theorem d_M_fewest_95 : decode c_M_fewest 95 = .ok (.aload_n 3, 1) := by decide +kernel
theorem d_M_fewest_96 : decode c_M_fewest 96 = .ok (.putfield 63, 3) := by decide +kernel
theorem d_M_fewest_99 : decode c_M_fewest 99 = .ok (.aload_n 0, 1) := by decide +kernel
theorem d_M_fewest_100 : decode c_M_fewest 100 = .ok (.aload_n 0, 1) := by decide +kernel
theorem d_M_fewest_101 : decode c_M_fewest 101 = .ok (.getfield 307, 3) := by decide +kernel
theorem d_M_fewest_104 : decode c_M_fewest 104 = .ok (.putfield 322, 3) := by decide +kernel
theorem d_M_fewest_107 : decode c_M_fewest 107 = .ok (.aload_n 0, 1) := by decide +kernel
theorem d_M_fewest_108 : decode c_M_fewest 108 = .ok (.aload_n 0, 1) := by decide +kernel
theorem d_M_fewest_109 : decode c_M_fewest 109 = .ok (.getfield 322, 3) := by decide +kernel
theorem d_M_fewest_112 : decode c_M_fewest 112 = .ok (.i2l, 1) := by decide +kernel
theorem d_M_fewest_113 : decode c_M_fewest 113 = .ok (.invokevirtual 76, 3) := by decide +kernel
theorem d_M_fewest_116 : decode c_M_fewest 116 = .ok (.goto (-93), 3) := by decide +kernel
theorem d_M_fewest_119 : decode c_M_fewest 119 = .ok (.aload_n 0, 1) := by decide +kernel
theorem d_M_fewest_120 : decode c_M_fewest 120 = .ok (.getfield 73, 3) := by decide +kernel
theorem d_M_fewest_123 : decode c_M_fewest 123 = .ok (.ireturn, 1) := by decide +kernel
theorem d_M_least_0 : decode c_M_least 0 = .ok (.aload_n 0, 1) := by decide +kernel
theorem d_M_least_1 : decode c_M_least 1 = .ok (.iconst 0, 1) := by decide +kernel
theorem d_M_least_2 : decode c_M_least 2 = .ok (.putfield 69, 3) := by decide +kernel
theorem d_M_least_5 : decode c_M_least 5 = .ok (.iload_n 1, 1) := by decide +kernel
theorem d_M_least_6 : decode c_M_least 6 = .ok (.i2l, 1) := by decide +kernel
theorem d_M_least_7 : decode c_M_least 7 = .ok (.lconst 1, 1) := by decide +kernel
theorem d_M_least_8 : decode c_M_least 8 = .ok (.ldc2_w 334, 3) := by decide +kernel
theorem d_M_least_11 : decode c_M_least 11 = .ok (.invokestatic 82, 3) := by decide +kernel
theorem d_M_least_14 : decode c_M_least 14 = .ok (.ifCond .eq 12, 3) := by decide +kernel
theorem d_M_least_17 : decode c_M_least 17 = .ok (.aload_n 0, 1) := by decide +kernel
theorem d_M_least_18 : decode c_M_least 18 = .ok (.iload_n 1, 1) := by decide +kernel
theorem d_M_least_19 : decode c_M_least 19 = .ok (.iconst 0, 1) := by decide +kernel
theorem d_M_least_20 : decode c_M_least 20 = .ok (.invokevirtual 336, 3) := by decide +kernel
theorem d_M_least_23 : decode c_M_least 23 = .ok (.goto 4, 3) := by decide +kernel
theorem d_M_least_26 : decode c_M_least 26 = .ok (.iconst (-1), 1) := by decide +kernel
theorem d_M_least_27 : decode c_M_least 27 = .ok (.ireturn, 1) := by decide +kernel
theorem d_M_shallow_0 : decode c_M_shallow 0 = .ok (.aload_n 0, 1) := by decide +kernel
theorem d_M_shallow_1 : decode c_M_shallow 1 = .ok (.iconst 0, 1) := by decide +kernel
theorem d_M_shallow_2 : decode c_M_shallow 2 = .ok (.putfield 69, 3) := by decide +kernel
theorem d_M_shallow_5 : decode c_M_shallow 5 = .ok (.iload_n 1, 1) := by decide +kernel
theorem d_M_shallow_6 : decode c_M_shallow 6 = .ok (.i2l, 1) := by decide +kernel
theorem d_M_shallow_7 : decode c_M_shallow 7 = .ok (.lconst 1, 1) := by decide +kernel
theorem d_M_shallow_8 : decode c_M_shallow 8 = .ok (.ldc2_w 334, 3) := by decide +kernel
theorem d_M_shallow_11 : decode c_M_shallow 11 = .ok (.invokestatic 82, 3) := by decide +kernel
theorem d_M_shallow_14 : decode c_M_shallow 14 = .ok (.ifCond .eq 12, 3) := by decide +kernel
theorem d_M_shallow_17 : decode c_M_shallow 17 = .ok (.aload_n 0, 1) := by decide +kernel
theorem d_M_shallow_18 : decode c_M_shallow 18 = .ok (.iload_n 1, 1) := by decide +kernel
theorem d_M_shallow_19 : decode c_M_shallow 19 = .ok (.iconst 1, 1) := by decide +kernel
theorem d_M_shallow_20 : decode c_M_shallow 20 = .ok (.invokevirtual 336, 3) := by decide +kernel
theorem d_M_shallow_23 : decode c_M_shallow 23 = .ok (.goto 4, 3) := by decide +kernel
theorem d_M_shallow_26 : decode c_M_shallow 26 = .ok (.iconst (-1), 1) := by decide +kernel
theorem d_M_shallow_27 : decode c_M_shallow 27 = .ok (.ireturn, 1) := by decide +kernel
theorem d_M_canBe_0 : decode c_M_canBe 0 = .ok (.lload_n 2, 1) := by decide +kernel
theorem d_M_canBe_1 : decode c_M_canBe 1 = .ok (.invokestatic 281, 3) := by decide +kernel
theorem d_M_canBe_4 : decode c_M_canBe 4 = .ok (.iload_n 1, 1) := by decide +kernel
theorem d_M_canBe_5 : decode c_M_canBe 5 = .ok (.iconst 1, 1) := by decide +kernel
theorem d_M_canBe_6 : decode c_M_canBe 6 = .ok (.iadd, 1) := by decide +kernel
theorem d_M_canBe_7 : decode c_M_canBe 7 = .ok (.if_icmp .ne 14, 3) := by decide +kernel
theorem d_M_canBe_10 : decode c_M_canBe 10 = .ok (.iload 5, 2) := by decide +kernel
theorem d_M_canBe_12 : decode c_M_canBe 12 = .ok (.ifCond .ne 7, 3) := by decide +kernel
theorem d_M_canBe_15 : decode c_M_canBe 15 = .ok (.iconst 1, 1) := by decide +kernel
theorem d_M_canBe_16 : decode c_M_canBe 16 = .ok (.goto 4, 3) := by decide +kernel
theorem d_M_canBe_19 : decode c_M_canBe 19 = .ok (.iconst 0, 1) := by decide +kernel
theorem d_M_canBe_20 : decode c_M_canBe 20 = .ok (.ireturn, 1) := by decide +kernel
theorem d_M_canBe_21 : decode c_M_canBe 21 = .ok (.iconst 0, 1) := by decide +kernel
theorem d_M_canBe_22 : decode c_M_canBe 22 = .ok (.istore 6, 2) := by decide +kernel
theorem d_M_canBe_24 : decode c_M_canBe 24 = .ok (.iload 6, 2) := by decide +kernel
theorem d_M_canBe_26 : decode c_M_canBe 26 = .ok (.iload_n 1, 1) := by decide +kernel
theorem d_M_canBe_27 : decode c_M_canBe 27 = .ok (.if_icmp .ge 74, 3) := by decide +kernel
theorem d_M_canBe_30 : decode c_M_canBe 30 = .ok (.iload 5, 2) := by decide +kernel
theorem d_M_canBe_32 : decode c_M_canBe 32 = .ok (.ifCond .le 69, 3) := by decide +kernel
theorem d_M_canBe_35 : decode c_M_canBe 35 = .ok (.iload 6, 2) := by decide +kernel
theorem d_M_canBe_37 : decode c_M_canBe 37 = .ok (.iconst 1, 1) := by decide +kernel
theorem d_M_canBe_38 : decode c_M_canBe 38 = .ok (.iadd, 1) := by decide +kernel
theorem d_M_canBe_39 : decode c_M_canBe 39 = .ok (.istore 7, 2) := by decide +kernel
theorem d_M_canBe_41 : decode c_M_canBe 41 = .ok (.iload 7, 2) := by decide +kernel
theorem d_M_canBe_43 : decode c_M_canBe 43 = .ok (.iload_n 1, 1) := by decide +kernel
theorem d_M_canBe_44 : decode c_M_canBe 44 = .ok (.if_icmp .ge 51, 3) := by decide +kernel
theorem d_M_canBe_47 : decode c_M_canBe 47 = .ok (.aload_n 0, 1) := by decide +kernel
theorem d_M_canBe_48 : decode c_M_canBe 48 = .ok (.getfield 66, 3) := by decide +kernel
theorem d_M_canBe_51 : decode c_M_canBe 51 = .ok (.iload 4, 2) := by decide +kernel
theorem d_M_canBe_53 : decode c_M_canBe 53 = .ok (.bipush 10, 2) := by decide +kernel
theorem d_M_canBe_55 : decode c_M_canBe 55 = .ok (.iload 6, 2) := by decide +kernel
theorem d_M_canBe_57 : decode c_M_canBe 57 = .ok (.imul, 1) := by decide +kernel
theorem d_M_canBe_58 : decode c_M_canBe 58 = .ok (.iload 7, 2) := by decide +kernel
theorem d_M_canBe_60 : decode c_M_canBe 60 = .ok (.iadd, 1) := by decide +kernel
theorem d_M_canBe_61 : decode c_M_canBe 61 = .ok (.iastore, 1) := by decide +kernel
theorem d_M_canBe_62 : decode c_M_canBe 62 = .ok (.aload_n 0, 1) := by decide +kernel
theorem d_M_canBe_63 : decode c_M_canBe 63 = .ok (.iload_n 1, 1) := by decide +kernel
theorem d_M_canBe_64 : decode c_M_canBe 64 = .ok (.iload_n 1, 1) := by decide +kernel
theorem d_M_canBe_65 : decode c_M_canBe 65 = .ok (.lload_n 2, 1) := by decide +kernel
theorem d_M_canBe_66 : decode c_M_canBe 66 = .ok (.iload 6, 2) := by decide +kernel
theorem d_M_canBe_68 : decode c_M_canBe 68 = .ok (.iload 7, 2) := by decide +kernel
theorem d_M_canBe_70 : decode c_M_canBe 70 = .ok (.invokestatic 310, 3) := by decide +kernel
theorem d_M_canBe_73 : decode c_M_canBe 73 = .ok (.iload 4, 2) := by decide +kernel
theorem d_M_canBe_75 : decode c_M_canBe 75 = .ok (.iconst 1, 1) := by decide +kernel
theorem d_M_canBe_76 : decode c_M_canBe 76 = .ok (.iadd, 1) := by decide +kernel
theorem d_M_canBe_77 : decode c_M_canBe 77 = .ok (.iload 5, 2) := by decide +kernel
theorem d_M_canBe_79 : decode c_M_canBe 79 = .ok (.iconst 1, 1) := by decide +kernel
theorem d_M_canBe_80 : decode c_M_canBe 80 = .ok (.isub, 1) := by decide +kernel
theorem d_M_canBe_81 : decode c_M_canBe 81 = .ok (.invokevirtual 340, 3) := by decide +kernel
theorem d_M_canBe_84 : decode c_M_canBe 84 = .ok (.ifCond .eq 5, 3) := by decide +kernel
theorem d_M_canBe_87 : decode c_M_canBe 87 = .ok (.iconst 1, 1) := by decide +kernel
theorem d_M_canBe_88 : decode c_M_canBe 88 = .ok (.ireturn, 1) := by decide +kernel
theorem d_M_canBe_89 : decode c_M_canBe 89 = .ok (.iinc 7 1, 3) := by decide +kernel
theorem d_M_canBe_92 : decode c_M_canBe 92 = .ok (.goto (-51), 3) := by decide +kernel
theorem d_M_canBe_95 : decode c_M_canBe 95 = .ok (.iinc 6 1, 3) := by decide +kernel
theorem d_M_canBe_98 : decode c_M_canBe 98 = .ok (.goto (-74), 3) := by decide +kernel
theorem d_M_canBe_101 : decode c_M_canBe 101 = .ok (.iconst 0, 1) := by decide +kernel
theorem d_M_canBe_102 : decode c_M_canBe 102 = .ok (.ireturn, 1) := by decide +kernel
theorem d_M_rest_0 : decode c_M_rest 0 = .ok (.aload_n 0, 1) := by decide +kernel
theorem d_M_rest_1 : decode c_M_rest 1 = .ok (.iconst 0, 1) := by decide +kernel
theorem d_M_rest_2 : decode c_M_rest 2 = .ok (.putfield 69, 3) := by decide +kernel
theorem d_M_rest_5 : decode c_M_rest 5 = .ok (.iload_n 1, 1) := by decide +kernel
theorem d_M_rest_6 : decode c_M_rest 6 = .ok (.invokestatic 151, 3) := by decide +kernel
theorem d_M_rest_9 : decode c_M_rest 9 = .ok (.ifCond .ne 5, 3) := by decide +kernel
theorem d_M_rest_12 : decode c_M_rest 12 = .ok (.iconst (-1), 1) := by decide +kernel
theorem d_M_rest_13 : decode c_M_rest 13 = .ok (.ireturn, 1) := by decide +kernel
theorem d_M_rest_14 : decode c_M_rest 14 = .ok (.aload_n 0, 1) := by decide +kernel
theorem d_M_rest_15 : decode c_M_rest 15 = .ok (.getfield 13, 3) := by decide +kernel
theorem d_M_rest_18 : decode c_M_rest 18 = .ok (.iload_n 1, 1) := by decide +kernel
theorem d_M_rest_19 : decode c_M_rest 19 = .ok (.iaload, 1) := by decide +kernel
theorem d_M_rest_20 : decode c_M_rest 20 = .ok (.iconst 4, 1) := by decide +kernel
theorem d_M_rest_21 : decode c_M_rest 21 = .ok (.if_icmp .le 6, 3) := by decide +kernel
theorem d_M_rest_24 : decode c_M_rest 24 = .ok (.bipush (-2), 2) := by decide +kernel
theorem d_M_rest_26 : decode c_M_rest 26 = .ok (.ireturn, 1) := by decide +kernel
theorem d_M_rest_27 : decode c_M_rest 27 = .ok (.aload_n 0, 1) := by decide +kernel
theorem d_M_rest_28 : decode c_M_rest 28 = .ok (.iload_n 1, 1) := by decide +kernel
theorem d_M_rest_29 : decode c_M_rest 29 = .ok (.invokevirtual 300, 3) := by decide +kernel
theorem d_M_rest_32 : decode c_M_rest 32 = .ok (.lstore_n 2, 1) := by decide +kernel
theorem d_M_rest_33 : decode c_M_rest 33 = .ok (.iconst 0, 1) := by decide +kernel
theorem d_M_rest_34 : decode c_M_rest 34 = .ok (.istore 4, 2) := by decide +kernel
theorem d_M_rest_36 : decode c_M_rest 36 = .ok (.aload_n 0, 1) := by decide +kernel
theorem d_M_rest_37 : decode c_M_rest 37 = .ok (.aload_n 0, 1) := by decide +kernel
theorem d_M_rest_38 : decode c_M_rest 38 = .ok (.getfield 13, 3) := by decide +kernel
theorem d_M_rest_41 : decode c_M_rest 41 = .ok (.iload_n 1, 1) := by decide +kernel
theorem d_M_rest_42 : decode c_M_rest 42 = .ok (.iaload, 1) := by decide +kernel
theorem d_M_rest_43 : decode c_M_rest 43 = .ok (.lload_n 2, 1) := by decide +kernel
theorem d_M_rest_44 : decode c_M_rest 44 = .ok (.iconst 0, 1) := by decide +kernel
theorem d_M_rest_45 : decode c_M_rest 45 = .ok (.iload 4, 2) := by decide +kernel
theorem d_M_rest_47 : decode c_M_rest 47 = .ok (.invokevirtual 340, 3) := by decide +kernel
theorem d_M_rest_50 : decode c_M_rest 50 = .ok (.ifCond .ne 9, 3) := by decide +kernel
theorem d_M_rest_53 : decode c_M_rest 53 = .ok (.iinc 4 1, 3) := by decide +kernel
theorem d_M_rest_56 : decode c_M_rest 56 = .ok (.goto (-20), 3) := by decide +kernel
theorem d_M_rest_59 : decode c_M_rest 59 = .ok (.aload_n 0, 1) := by decide +kernel
theorem d_M_rest_60 : decode c_M_rest 60 = .ok (.iconst 0, 1) := by decide +kernel
theorem d_M_rest_61 : decode c_M_rest 61 = .ok (.putfield 73, 3) := by decide +kernel
theorem d_M_rest_64 : decode c_M_rest 64 = .ok (.iconst 0, 1) := by decide +kernel
theorem d_M_rest_65 : decode c_M_rest 65 = .ok (.istore 5, 2) := by decide +kernel
theorem d_M_rest_67 : decode c_M_rest 67 = .ok (.iload 5, 2) := by decide +kernel
theorem d_M_rest_69 : decode c_M_rest 69 = .ok (.iload 4, 2) := by decide +kernel
theorem d_M_rest_71 : decode c_M_rest 71 = .ok (.if_icmp .ge 21, 3) := by decide +kernel
theorem d_M_rest_74 : decode c_M_rest 74 = .ok (.aload_n 0, 1) := by decide +kernel
theorem d_M_rest_75 : decode c_M_rest 75 = .ok (.aload_n 0, 1) := by decide +kernel
theorem d_M_rest_76 : decode c_M_rest 76 = .ok (.getfield 66, 3) := by decide +kernel
theorem d_M_rest_79 : decode c_M_rest 79 = .ok (.iload 5, 2) := by decide +kernel
theorem d_M_rest_81 : decode c_M_rest 81 = .ok (.iaload, 1) := by decide +kernel
theorem d_M_rest_82 : decode c_M_rest 82 = .ok (.i2l, 1) := by decide +kernel
theorem d_M_rest_83 : decode c_M_rest 83 = .ok (.invokevirtual 76, 3) := by decide +kernel
theorem d_M_rest_86 : decode c_M_rest 86 = .ok (.iinc 5 1, 3) := by decide +kernel
theorem d_M_rest_89 : decode c_M_rest 89 = .ok (.goto (-22), 3) := by decide +kernel
theorem d_M_rest_92 : decode c_M_rest 92 = .ok (.iload 4, 2) := by decide +kernel
theorem d_M_rest_94 : decode c_M_rest 94 = .ok (.ireturn, 1) := by decide +kernel

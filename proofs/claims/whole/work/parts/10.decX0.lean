theorem d_X_sign_0 : decode c_X_sign 0 = .ok (.aload_n 0, 1) := by decide +kernel
theorem d_X_sign_1 : decode c_X_sign 1 = .ok (.getfield 30, 3) := by decide +kernel
theorem d_X_sign_4 : decode c_X_sign 4 = .ok (.iload_n 1, 1) := by decide +kernel
theorem d_X_sign_5 : decode c_X_sign 5 = .ok (.invokevirtual 89, 3) := by decide +kernel
theorem d_X_sign_8 : decode c_X_sign 8 = .ok (.ifCond .eq 13, 3) := by decide +kernel
theorem d_X_sign_11 : decode c_X_sign 11 = .ok (.aload_n 0, 1) := by decide +kernel
theorem d_X_sign_12 : decode c_X_sign 12 = .ok (.getfield 30, 3) := by decide +kernel
theorem d_X_sign_15 : decode c_X_sign 15 = .ok (.getfield 93, 3) := by decide +kernel
theorem d_X_sign_18 : decode c_X_sign 18 = .ok (.goto 4, 3) := by decide +kernel
theorem d_X_sign_21 : decode c_X_sign 21 = .ok (.iconst (-1), 1) := by decide +kernel
theorem d_X_sign_22 : decode c_X_sign 22 = .ok (.ireturn, 1) := by decide +kernel
theorem d_X_end_0 : decode c_X_end 0 = .ok (.iload_n 1, 1) := by decide +kernel
theorem d_X_end_1 : decode c_X_end 1 = .ok (.ifCond .lt 14, 3) := by decide +kernel
theorem d_X_end_4 : decode c_X_end 4 = .ok (.iload_n 1, 1) := by decide +kernel
theorem d_X_end_5 : decode c_X_end 5 = .ok (.aload_n 0, 1) := by decide +kernel
theorem d_X_end_6 : decode c_X_end 6 = .ok (.getfield 30, 3) := by decide +kernel
theorem d_X_end_9 : decode c_X_end 9 = .ok (.getfield 93, 3) := by decide +kernel
theorem d_X_end_12 : decode c_X_end 12 = .ok (.if_icmp .le 5, 3) := by decide +kernel
theorem d_X_end_15 : decode c_X_end 15 = .ok (.iconst 0, 1) := by decide +kernel
theorem d_X_end_16 : decode c_X_end 16 = .ok (.ireturn, 1) := by decide +kernel
theorem d_X_end_17 : decode c_X_end 17 = .ok (.aload_n 0, 1) := by decide +kernel
theorem d_X_end_18 : decode c_X_end 18 = .ok (.getfield 30, 3) := by decide +kernel
theorem d_X_end_21 : decode c_X_end 21 = .ok (.iload_n 1, 1) := by decide +kernel
theorem d_X_end_22 : decode c_X_end 22 = .ok (.putfield 93, 3) := by decide +kernel
theorem d_X_end_25 : decode c_X_end 25 = .ok (.iconst 1, 1) := by decide +kernel
theorem d_X_end_26 : decode c_X_end 26 = .ok (.ireturn, 1) := by decide +kernel
theorem d_X_isWires_0 : decode c_X_isWires 0 = .ok (.iload_n 0, 1) := by decide +kernel
theorem d_X_isWires_1 : decode c_X_isWires 1 = .ok (.iconst 2, 1) := by decide +kernel
theorem d_X_isWires_2 : decode c_X_isWires 2 = .ok (.if_icmp .lt 13, 3) := by decide +kernel
theorem d_X_isWires_5 : decode c_X_isWires 5 = .ok (.iload_n 0, 1) := by decide +kernel
theorem d_X_isWires_6 : decode c_X_isWires 6 = .ok (.bipush 8, 2) := by decide +kernel
theorem d_X_isWires_8 : decode c_X_isWires 8 = .ok (.if_icmp .gt 7, 3) := by decide +kernel
theorem d_X_isWires_11 : decode c_X_isWires 11 = .ok (.iconst 1, 1) := by decide +kernel
theorem d_X_isWires_12 : decode c_X_isWires 12 = .ok (.goto 4, 3) := by decide +kernel
theorem d_X_isWires_15 : decode c_X_isWires 15 = .ok (.iconst 0, 1) := by decide +kernel
theorem d_X_isWires_16 : decode c_X_isWires 16 = .ok (.ireturn, 1) := by decide +kernel
theorem d_X_readNet_0 : decode c_X_readNet 0 = .ok (.aload_n 0, 1) := by decide +kernel
theorem d_X_readNet_1 : decode c_X_readNet 1 = .ok (.getfield 30, 3) := by decide +kernel
theorem d_X_readNet_4 : decode c_X_readNet 4 = .ok (.iconst 0, 1) := by decide +kernel
theorem d_X_readNet_5 : decode c_X_readNet 5 = .ok (.invokevirtual 338, 3) := by decide +kernel
theorem d_X_readNet_8 : decode c_X_readNet 8 = .ok (.istore_n 1, 1) := by decide +kernel
theorem d_X_readNet_9 : decode c_X_readNet 9 = .ok (.iload_n 1, 1) := by decide +kernel
theorem d_X_readNet_10 : decode c_X_readNet 10 = .ok (.invokestatic 124, 3) := by decide +kernel
theorem d_X_readNet_13 : decode c_X_readNet 13 = .ok (.ifCond .ne 5, 3) := by decide +kernel
theorem d_X_readNet_16 : decode c_X_readNet 16 = .ok (.iconst 0, 1) := by decide +kernel
theorem d_X_readNet_17 : decode c_X_readNet 17 = .ok (.ireturn, 1) := by decide +kernel
theorem d_X_readNet_18 : decode c_X_readNet 18 = .ok (.aload_n 0, 1) := by decide +kernel
theorem d_X_readNet_19 : decode c_X_readNet 19 = .ok (.getfield 30, 3) := by decide +kernel
theorem d_X_readNet_22 : decode c_X_readNet 22 = .ok (.iconst 1, 1) := by decide +kernel
theorem d_X_readNet_23 : decode c_X_readNet 23 = .ok (.invokevirtual 341, 3) := by decide +kernel
theorem d_X_readNet_26 : decode c_X_readNet 26 = .ok (.bipush 58, 2) := by decide +kernel
theorem d_X_readNet_28 : decode c_X_readNet 28 = .ok (.if_icmp .eq 5, 3) := by decide +kernel
theorem d_X_readNet_31 : decode c_X_readNet 31 = .ok (.iconst 1, 1) := by decide +kernel
theorem d_X_readNet_32 : decode c_X_readNet 32 = .ok (.ireturn, 1) := by decide +kernel
theorem d_X_readNet_33 : decode c_X_readNet 33 = .ok (.aload_n 0, 1) := by decide +kernel
theorem d_X_readNet_34 : decode c_X_readNet 34 = .ok (.getfield 16, 3) := by decide +kernel
theorem d_X_readNet_37 : decode c_X_readNet 37 = .ok (.iload_n 1, 1) := by decide +kernel
theorem d_X_readNet_38 : decode c_X_readNet 38 = .ok (.invokevirtual 127, 3) := by decide +kernel
theorem d_X_readNet_41 : decode c_X_readNet 41 = .ok (.aload_n 0, 1) := by decide +kernel
theorem d_X_readNet_42 : decode c_X_readNet 42 = .ok (.getfield 23, 3) := by decide +kernel
theorem d_X_readNet_45 : decode c_X_readNet 45 = .ok (.iload_n 1, 1) := by decide +kernel
theorem d_X_readNet_46 : decode c_X_readNet 46 = .ok (.invokevirtual 204, 3) := by decide +kernel
theorem d_X_readNet_49 : decode c_X_readNet 49 = .ok (.aload_n 0, 1) := by decide +kernel
theorem d_X_readNet_50 : decode c_X_readNet 50 = .ok (.getfield 30, 3) := by decide +kernel
theorem d_X_readNet_53 : decode c_X_readNet 53 = .ok (.getfield 93, 3) := by decide +kernel
theorem d_X_readNet_56 : decode c_X_readNet 56 = .ok (.iconst 2, 1) := by decide +kernel
theorem d_X_readNet_57 : decode c_X_readNet 57 = .ok (.if_icmp .ne 5, 3) := by decide +kernel
theorem d_X_readNet_60 : decode c_X_readNet 60 = .ok (.iconst (-1), 1) := by decide +kernel
theorem d_X_readNet_61 : decode c_X_readNet 61 = .ok (.ireturn, 1) := by decide +kernel
theorem d_X_readNet_62 : decode c_X_readNet 62 = .ok (.iconst 2, 1) := by decide +kernel
theorem d_X_readNet_63 : decode c_X_readNet 63 = .ok (.istore_n 2, 1) := by decide +kernel
theorem d_X_readNet_64 : decode c_X_readNet 64 = .ok (.iconst 1, 1) := by decide +kernel
theorem d_X_readNet_65 : decode c_X_readNet 65 = .ok (.istore_n 3, 1) := by decide +kernel
theorem d_X_readNet_66 : decode c_X_readNet 66 = .ok (.iload_n 3, 1) := by decide +kernel
theorem d_X_readNet_67 : decode c_X_readNet 67 = .ok (.bipush 60, 2) := by decide +kernel
theorem d_X_readNet_69 : decode c_X_readNet 69 = .ok (.if_icmp .gt 123, 3) := by decide +kernel
theorem d_X_readNet_72 : decode c_X_readNet 72 = .ok (.aload_n 0, 1) := by decide +kernel
theorem d_X_readNet_73 : decode c_X_readNet 73 = .ok (.getfield 30, 3) := by decide +kernel
theorem d_X_readNet_76 : decode c_X_readNet 76 = .ok (.iload_n 2, 1) := by decide +kernel
theorem d_X_readNet_77 : decode c_X_readNet 77 = .ok (.invokevirtual 338, 3) := by decide +kernel
theorem d_X_readNet_80 : decode c_X_readNet 80 = .ok (.istore 4, 2) := by decide +kernel
theorem d_X_readNet_82 : decode c_X_readNet 82 = .ok (.aload_n 0, 1) := by decide +kernel
theorem d_X_readNet_83 : decode c_X_readNet 83 = .ok (.getfield 16, 3) := by decide +kernel
theorem d_X_readNet_86 : decode c_X_readNet 86 = .ok (.iload 4, 2) := by decide +kernel
theorem d_X_readNet_88 : decode c_X_readNet 88 = .ok (.invokevirtual 163, 3) := by decide +kernel
theorem d_X_readNet_91 : decode c_X_readNet 91 = .ok (.ifCond .ne 5, 3) := by decide +kernel
theorem d_X_readNet_94 : decode c_X_readNet 94 = .ok (.iload_n 2, 1) := by decide +kernel
theorem d_X_readNet_95 : decode c_X_readNet 95 = .ok (.ireturn, 1) := by decide +kernel
theorem d_X_readNet_96 : decode c_X_readNet 96 = .ok (.aload_n 0, 1) := by decide +kernel
theorem d_X_readNet_97 : decode c_X_readNet 97 = .ok (.getfield 30, 3) := by decide +kernel
theorem d_X_readNet_100 : decode c_X_readNet 100 = .ok (.iload_n 2, 1) := by decide +kernel
theorem d_X_readNet_101 : decode c_X_readNet 101 = .ok (.iconst 1, 1) := by decide +kernel
theorem d_X_readNet_102 : decode c_X_readNet 102 = .ok (.iadd, 1) := by decide +kernel
theorem d_X_readNet_103 : decode c_X_readNet 103 = .ok (.invokevirtual 338, 3) := by decide +kernel
theorem d_X_readNet_106 : decode c_X_readNet 106 = .ok (.istore 5, 2) := by decide +kernel
theorem d_X_readNet_108 : decode c_X_readNet 108 = .ok (.aload_n 0, 1) := by decide +kernel
theorem d_X_readNet_109 : decode c_X_readNet 109 = .ok (.getfield 16, 3) := by decide +kernel
theorem d_X_readNet_112 : decode c_X_readNet 112 = .ok (.iload 5, 2) := by decide +kernel
theorem d_X_readNet_114 : decode c_X_readNet 114 = .ok (.invokevirtual 163, 3) := by decide +kernel
theorem d_X_readNet_117 : decode c_X_readNet 117 = .ok (.ifCond .eq 10, 3) := by decide +kernel
theorem d_X_readNet_120 : decode c_X_readNet 120 = .ok (.iload 4, 2) := by decide +kernel
theorem d_X_readNet_122 : decode c_X_readNet 122 = .ok (.iload 5, 2) := by decide +kernel
theorem d_X_readNet_124 : decode c_X_readNet 124 = .ok (.if_icmp .ne 7, 3) := by decide +kernel
theorem d_X_readNet_127 : decode c_X_readNet 127 = .ok (.iload_n 2, 1) := by decide +kernel
theorem d_X_readNet_128 : decode c_X_readNet 128 = .ok (.iconst 1, 1) := by decide +kernel
theorem d_X_readNet_129 : decode c_X_readNet 129 = .ok (.iadd, 1) := by decide +kernel
theorem d_X_readNet_130 : decode c_X_readNet 130 = .ok (.ireturn, 1) := by decide +kernel
theorem d_X_readNet_131 : decode c_X_readNet 131 = .ok (.aload_n 0, 1) := by decide +kernel
theorem d_X_readNet_132 : decode c_X_readNet 132 = .ok (.getfield 23, 3) := by decide +kernel
theorem d_X_readNet_135 : decode c_X_readNet 135 = .ok (.iload 4, 2) := by decide +kernel
theorem d_X_readNet_137 : decode c_X_readNet 137 = .ok (.iload 5, 2) := by decide +kernel
theorem d_X_readNet_139 : decode c_X_readNet 139 = .ok (.aload_n 0, 1) := by decide +kernel
theorem d_X_readNet_140 : decode c_X_readNet 140 = .ok (.getfield 16, 3) := by decide +kernel
theorem d_X_readNet_143 : decode c_X_readNet 143 = .ok (.invokevirtual 344, 3) := by decide +kernel
theorem d_X_readNet_146 : decode c_X_readNet 146 = .ok (.iinc 2 2, 3) := by decide +kernel
theorem d_X_readNet_149 : decode c_X_readNet 149 = .ok (.iload_n 2, 1) := by decide +kernel
theorem d_X_readNet_150 : decode c_X_readNet 150 = .ok (.aload_n 0, 1) := by decide +kernel
theorem d_X_readNet_151 : decode c_X_readNet 151 = .ok (.getfield 30, 3) := by decide +kernel
theorem d_X_readNet_154 : decode c_X_readNet 154 = .ok (.getfield 93, 3) := by decide +kernel
theorem d_X_readNet_157 : decode c_X_readNet 157 = .ok (.if_icmp .ne 5, 3) := by decide +kernel
theorem d_X_readNet_160 : decode c_X_readNet 160 = .ok (.iconst (-1), 1) := by decide +kernel
theorem d_X_readNet_161 : decode c_X_readNet 161 = .ok (.ireturn, 1) := by decide +kernel
theorem d_X_readNet_162 : decode c_X_readNet 162 = .ok (.aload_n 0, 1) := by decide +kernel
theorem d_X_readNet_163 : decode c_X_readNet 163 = .ok (.getfield 30, 3) := by decide +kernel
theorem d_X_readNet_166 : decode c_X_readNet 166 = .ok (.iload_n 2, 1) := by decide +kernel
theorem d_X_readNet_167 : decode c_X_readNet 167 = .ok (.invokevirtual 341, 3) := by decide +kernel
theorem d_X_readNet_170 : decode c_X_readNet 170 = .ok (.bipush 44, 2) := by decide +kernel
theorem d_X_readNet_172 : decode c_X_readNet 172 = .ok (.if_icmp .ne 9, 3) := by decide +kernel
theorem d_X_readNet_175 : decode c_X_readNet 175 = .ok (.iload_n 3, 1) := by decide +kernel
theorem d_X_readNet_176 : decode c_X_readNet 176 = .ok (.bipush 60, 2) := by decide +kernel
theorem d_X_readNet_178 : decode c_X_readNet 178 = .ok (.if_icmp .ne 5, 3) := by decide +kernel
theorem d_X_readNet_181 : decode c_X_readNet 181 = .ok (.iload_n 2, 1) := by decide +kernel
theorem d_X_readNet_182 : decode c_X_readNet 182 = .ok (.ireturn, 1) := by decide +kernel
theorem d_X_readNet_183 : decode c_X_readNet 183 = .ok (.iinc 2 1, 3) := by decide +kernel
theorem d_X_readNet_186 : decode c_X_readNet 186 = .ok (.iinc 3 1, 3) := by decide +kernel
theorem d_X_readNet_189 : decode c_X_readNet 189 = .ok (.goto (-123), 3) := by decide +kernel
theorem d_X_readNet_192 : decode c_X_readNet 192 = .ok (.iload_n 2, 1) := by decide +kernel
theorem d_X_readNet_193 : decode c_X_readNet 193 = .ok (.ireturn, 1) := by decide +kernel
theorem d_X_isNet_0 : decode c_X_isNet 0 = .ok (.iload_n 0, 1) := by decide +kernel
theorem d_X_isNet_1 : decode c_X_isNet 1 = .ok (.ifCond .lt 12, 3) := by decide +kernel
theorem d_X_isNet_4 : decode c_X_isNet 4 = .ok (.iload_n 0, 1) := by decide +kernel
theorem d_X_isNet_5 : decode c_X_isNet 5 = .ok (.iconst 4, 1) := by decide +kernel
theorem d_X_isNet_6 : decode c_X_isNet 6 = .ok (.if_icmp .ge 7, 3) := by decide +kernel
theorem d_X_isNet_9 : decode c_X_isNet 9 = .ok (.iconst 1, 1) := by decide +kernel
theorem d_X_isNet_10 : decode c_X_isNet 10 = .ok (.goto 4, 3) := by decide +kernel
theorem d_X_isNet_13 : decode c_X_isNet 13 = .ok (.iconst 0, 1) := by decide +kernel
theorem d_X_isNet_14 : decode c_X_isNet 14 = .ok (.ireturn, 1) := by decide +kernel
theorem d_X_net_0 : decode c_X_net 0 = .ok (.aload_n 0, 1) := by decide +kernel
theorem d_X_net_1 : decode c_X_net 1 = .ok (.invokevirtual 97, 3) := by decide +kernel
theorem d_X_net_4 : decode c_X_net 4 = .ok (.istore_n 2, 1) := by decide +kernel
theorem d_X_net_5 : decode c_X_net 5 = .ok (.aload_n 0, 1) := by decide +kernel
theorem d_X_net_6 : decode c_X_net 6 = .ok (.getfield 30, 3) := by decide +kernel
theorem d_X_net_9 : decode c_X_net 9 = .ok (.iconst 0, 1) := by decide +kernel
theorem d_X_net_10 : decode c_X_net 10 = .ok (.putfield 93, 3) := by decide +kernel
theorem d_X_net_13 : decode c_X_net 13 = .ok (.iload_n 2, 1) := by decide +kernel
theorem d_X_net_14 : decode c_X_net 14 = .ok (.ifCond .lt 8, 3) := by decide +kernel
theorem d_X_net_17 : decode c_X_net 17 = .ok (.bipush (-21), 2) := by decide +kernel
theorem d_X_net_19 : decode c_X_net 19 = .ok (.iload_n 2, 1) := by decide +kernel
theorem d_X_net_20 : decode c_X_net 20 = .ok (.isub, 1) := by decide +kernel
theorem d_X_net_21 : decode c_X_net 21 = .ok (.ireturn, 1) := by decide +kernel
theorem d_X_net_22 : decode c_X_net 22 = .ok (.iload_n 1, 1) := by decide +kernel
theorem d_X_net_23 : decode c_X_net 23 = .ok (.invokestatic 101, 3) := by decide +kernel
theorem d_X_net_26 : decode c_X_net 26 = .ok (.ifCond .ne 5, 3) := by decide +kernel
theorem d_X_net_29 : decode c_X_net 29 = .ok (.iconst (-1), 1) := by decide +kernel
theorem d_X_net_30 : decode c_X_net 30 = .ok (.ireturn, 1) := by decide +kernel
theorem d_X_net_31 : decode c_X_net 31 = .ok (.aload_n 0, 1) := by decide +kernel
theorem d_X_net_32 : decode c_X_net 32 = .ok (.getfield 11, 3) := by decide +kernel
theorem d_X_net_35 : decode c_X_net 35 = .ok (.iload_n 1, 1) := by decide +kernel
theorem d_X_net_36 : decode c_X_net 36 = .ok (.aaload, 1) := by decide +kernel
theorem d_X_net_37 : decode c_X_net 37 = .ok (.aload_n 0, 1) := by decide +kernel
theorem d_X_net_38 : decode c_X_net 38 = .ok (.getfield 16, 3) := by decide +kernel
theorem d_X_net_41 : decode c_X_net 41 = .ok (.invokevirtual 104, 3) := by decide +kernel
theorem d_X_net_44 : decode c_X_net 44 = .ok (.aload_n 0, 1) := by decide +kernel
theorem d_X_net_45 : decode c_X_net 45 = .ok (.getfield 37, 3) := by decide +kernel
theorem d_X_net_48 : decode c_X_net 48 = .ok (.invokevirtual 108, 3) := by decide +kernel
theorem d_X_net_51 : decode c_X_net 51 = .ok (.iconst 0, 1) := by decide +kernel
theorem d_X_net_52 : decode c_X_net 52 = .ok (.istore_n 3, 1) := by decide +kernel
theorem d_X_net_53 : decode c_X_net 53 = .ok (.iload_n 3, 1) := by decide +kernel
theorem d_X_net_54 : decode c_X_net 54 = .ok (.aload_n 0, 1) := by decide +kernel
theorem d_X_net_55 : decode c_X_net 55 = .ok (.getfield 16, 3) := by decide +kernel
theorem d_X_net_58 : decode c_X_net 58 = .ok (.getfield 111, 3) := by decide +kernel
theorem d_X_net_61 : decode c_X_net 61 = .ok (.if_icmp .ge 25, 3) := by decide +kernel
theorem d_X_net_64 : decode c_X_net 64 = .ok (.aload_n 0, 1) := by decide +kernel
theorem d_X_net_65 : decode c_X_net 65 = .ok (.getfield 37, 3) := by decide +kernel
theorem d_X_net_68 : decode c_X_net 68 = .ok (.aload_n 0, 1) := by decide +kernel
theorem d_X_net_69 : decode c_X_net 69 = .ok (.getfield 23, 3) := by decide +kernel
theorem d_X_net_72 : decode c_X_net 72 = .ok (.iload_n 3, 1) := by decide +kernel
theorem d_X_net_73 : decode c_X_net 73 = .ok (.invokevirtual 114, 3) := by decide +kernel
theorem d_X_net_76 : decode c_X_net 76 = .ok (.i2l, 1) := by decide +kernel
theorem d_X_net_77 : decode c_X_net 77 = .ok (.invokevirtual 118, 3) := by decide +kernel
theorem d_X_net_80 : decode c_X_net 80 = .ok (.iinc 3 1, 3) := by decide +kernel
theorem d_X_net_83 : decode c_X_net 83 = .ok (.goto (-30), 3) := by decide +kernel
theorem d_X_net_86 : decode c_X_net 86 = .ok (.aload_n 0, 1) := by decide +kernel
theorem d_X_net_87 : decode c_X_net 87 = .ok (.getfield 16, 3) := by decide +kernel
theorem d_X_net_90 : decode c_X_net 90 = .ok (.getfield 121, 3) := by decide +kernel
theorem d_X_net_93 : decode c_X_net 93 = .ok (.ireturn, 1) := by decide +kernel
theorem d_X_makeBubbles_0 : decode c_X_makeBubbles 0 = .ok (.aload_n 0, 1) := by decide +kernel
theorem d_X_makeBubbles_1 : decode c_X_makeBubbles 1 = .ok (.getfield 111, 3) := by decide +kernel
theorem d_X_makeBubbles_4 : decode c_X_makeBubbles 4 = .ok (.istore_n 1, 1) := by decide +kernel
theorem d_X_makeBubbles_5 : decode c_X_makeBubbles 5 = .ok (.iconst 0, 1) := by decide +kernel
theorem d_X_makeBubbles_6 : decode c_X_makeBubbles 6 = .ok (.istore_n 2, 1) := by decide +kernel
theorem d_X_makeBubbles_7 : decode c_X_makeBubbles 7 = .ok (.iload_n 2, 1) := by decide +kernel
theorem d_X_makeBubbles_8 : decode c_X_makeBubbles 8 = .ok (.iload_n 1, 1) := by decide +kernel
theorem d_X_makeBubbles_9 : decode c_X_makeBubbles 9 = .ok (.iconst 2, 1) := by decide +kernel
theorem d_X_makeBubbles_10 : decode c_X_makeBubbles 10 = .ok (.isub, 1) := by decide +kernel
theorem d_X_makeBubbles_11 : decode c_X_makeBubbles 11 = .ok (.if_icmp .gt 35, 3) := by decide +kernel
theorem d_X_makeBubbles_14 : decode c_X_makeBubbles 14 = .ok (.iconst 0, 1) := by decide +kernel
theorem d_X_makeBubbles_15 : decode c_X_makeBubbles 15 = .ok (.istore_n 3, 1) := by decide +kernel
theorem d_X_makeBubbles_16 : decode c_X_makeBubbles 16 = .ok (.iload_n 3, 1) := by decide +kernel
theorem d_X_makeBubbles_17 : decode c_X_makeBubbles 17 = .ok (.iload_n 1, 1) := by decide +kernel
theorem d_X_makeBubbles_18 : decode c_X_makeBubbles 18 = .ok (.iconst 2, 1) := by decide +kernel
theorem d_X_makeBubbles_19 : decode c_X_makeBubbles 19 = .ok (.isub, 1) := by decide +kernel
theorem d_X_makeBubbles_20 : decode c_X_makeBubbles 20 = .ok (.iload_n 2, 1) := by decide +kernel
theorem d_X_makeBubbles_21 : decode c_X_makeBubbles 21 = .ok (.isub, 1) := by decide +kernel
theorem d_X_makeBubbles_22 : decode c_X_makeBubbles 22 = .ok (.if_icmp .gt 18, 3) := by decide +kernel
theorem d_X_makeBubbles_25 : decode c_X_makeBubbles 25 = .ok (.aload_n 0, 1) := by decide +kernel
theorem d_X_makeBubbles_26 : decode c_X_makeBubbles 26 = .ok (.iload_n 3, 1) := by decide +kernel
theorem d_X_makeBubbles_27 : decode c_X_makeBubbles 27 = .ok (.iload_n 3, 1) := by decide +kernel
theorem d_X_makeBubbles_28 : decode c_X_makeBubbles 28 = .ok (.iconst 1, 1) := by decide +kernel
theorem d_X_makeBubbles_29 : decode c_X_makeBubbles 29 = .ok (.iadd, 1) := by decide +kernel
theorem d_X_makeBubbles_30 : decode c_X_makeBubbles 30 = .ok (.invokevirtual 154, 3) := by decide +kernel
theorem d_X_makeBubbles_33 : decode c_X_makeBubbles 33 = .ok (.pop, 1) := by decide +kernel
theorem d_X_makeBubbles_34 : decode c_X_makeBubbles 34 = .ok (.iinc 3 1, 3) := by decide +kernel
theorem d_X_makeBubbles_37 : decode c_X_makeBubbles 37 = .ok (.goto (-21), 3) := by decide +kernel
theorem d_X_makeBubbles_40 : decode c_X_makeBubbles 40 = .ok (.iinc 2 1, 3) := by decide +kernel
theorem d_X_makeBubbles_43 : decode c_X_makeBubbles 43 = .ok (.goto (-36), 3) := by decide +kernel
theorem d_X_makeBubbles_46 : decode c_X_makeBubbles 46 = .ok (.return_, 1) := by decide +kernel
theorem d_X_makeInsertions_0 : decode c_X_makeInsertions 0 = .ok (.iconst 1, 1) := by decide +kernel
theorem d_X_makeInsertions_1 : decode c_X_makeInsertions 1 = .ok (.istore_n 1, 1) := by decide +kernel
theorem d_X_makeInsertions_2 : decode c_X_makeInsertions 2 = .ok (.iload_n 1, 1) := by decide +kernel
theorem d_X_makeInsertions_3 : decode c_X_makeInsertions 3 = .ok (.aload_n 0, 1) := by decide +kernel
theorem d_X_makeInsertions_4 : decode c_X_makeInsertions 4 = .ok (.getfield 111, 3) := by decide +kernel
theorem d_X_makeInsertions_7 : decode c_X_makeInsertions 7 = .ok (.if_icmp .ge 32, 3) := by decide +kernel
theorem d_X_makeInsertions_10 : decode c_X_makeInsertions 10 = .ok (.iload_n 1, 1) := by decide +kernel
theorem d_X_makeInsertions_11 : decode c_X_makeInsertions 11 = .ok (.iconst 1, 1) := by decide +kernel
theorem d_X_makeInsertions_12 : decode c_X_makeInsertions 12 = .ok (.isub, 1) := by decide +kernel
theorem d_X_makeInsertions_13 : decode c_X_makeInsertions 13 = .ok (.istore_n 2, 1) := by decide +kernel
theorem d_X_makeInsertions_14 : decode c_X_makeInsertions 14 = .ok (.iload_n 2, 1) := by decide +kernel
theorem d_X_makeInsertions_15 : decode c_X_makeInsertions 15 = .ok (.ifCond .lt 18, 3) := by decide +kernel
theorem d_X_makeInsertions_18 : decode c_X_makeInsertions 18 = .ok (.aload_n 0, 1) := by decide +kernel
theorem d_X_makeInsertions_19 : decode c_X_makeInsertions 19 = .ok (.iload_n 2, 1) := by decide +kernel
theorem d_X_makeInsertions_20 : decode c_X_makeInsertions 20 = .ok (.iload_n 2, 1) := by decide +kernel
theorem d_X_makeInsertions_21 : decode c_X_makeInsertions 21 = .ok (.iconst 1, 1) := by decide +kernel
theorem d_X_makeInsertions_22 : decode c_X_makeInsertions 22 = .ok (.iadd, 1) := by decide +kernel
theorem d_X_makeInsertions_23 : decode c_X_makeInsertions 23 = .ok (.invokevirtual 154, 3) := by decide +kernel
theorem d_X_makeInsertions_26 : decode c_X_makeInsertions 26 = .ok (.pop, 1) := by decide +kernel
theorem d_X_makeInsertions_27 : decode c_X_makeInsertions 27 = .ok (.iinc 2 (-1), 3) := by decide +kernel
theorem d_X_makeInsertions_30 : decode c_X_makeInsertions 30 = .ok (.goto (-16), 3) := by decide +kernel
theorem d_X_makeInsertions_33 : decode c_X_makeInsertions 33 = .ok (.iinc 1 1, 3) := by decide +kernel
theorem d_X_makeInsertions_36 : decode c_X_makeInsertions 36 = .ok (.goto (-34), 3) := by decide +kernel
theorem d_X_makeInsertions_39 : decode c_X_makeInsertions 39 = .ok (.return_, 1) := by decide +kernel
theorem d_X_makeBricks_0 : decode c_X_makeBricks 0 = .ok (.iconst 0, 1) := by decide +kernel
theorem d_X_makeBricks_1 : decode c_X_makeBricks 1 = .ok (.istore_n 1, 1) := by decide +kernel
theorem d_X_makeBricks_2 : decode c_X_makeBricks 2 = .ok (.iload_n 1, 1) := by decide +kernel
theorem d_X_makeBricks_3 : decode c_X_makeBricks 3 = .ok (.aload_n 0, 1) := by decide +kernel
theorem d_X_makeBricks_4 : decode c_X_makeBricks 4 = .ok (.getfield 111, 3) := by decide +kernel
theorem d_X_makeBricks_7 : decode c_X_makeBricks 7 = .ok (.if_icmp .ge 38, 3) := by decide +kernel
theorem d_X_makeBricks_10 : decode c_X_makeBricks 10 = .ok (.iload_n 1, 1) := by decide +kernel
theorem d_X_makeBricks_11 : decode c_X_makeBricks 11 = .ok (.iconst 2, 1) := by decide +kernel
theorem d_X_makeBricks_12 : decode c_X_makeBricks 12 = .ok (.irem, 1) := by decide +kernel
theorem d_X_makeBricks_13 : decode c_X_makeBricks 13 = .ok (.istore_n 2, 1) := by decide +kernel
theorem d_X_makeBricks_14 : decode c_X_makeBricks 14 = .ok (.iload_n 2, 1) := by decide +kernel
theorem d_X_makeBricks_15 : decode c_X_makeBricks 15 = .ok (.aload_n 0, 1) := by decide +kernel
theorem d_X_makeBricks_16 : decode c_X_makeBricks 16 = .ok (.getfield 111, 3) := by decide +kernel
theorem d_X_makeBricks_19 : decode c_X_makeBricks 19 = .ok (.iconst 1, 1) := by decide +kernel
theorem d_X_makeBricks_20 : decode c_X_makeBricks 20 = .ok (.isub, 1) := by decide +kernel
theorem d_X_makeBricks_21 : decode c_X_makeBricks 21 = .ok (.if_icmp .ge 18, 3) := by decide +kernel
theorem d_X_makeBricks_24 : decode c_X_makeBricks 24 = .ok (.aload_n 0, 1) := by decide +kernel
theorem d_X_makeBricks_25 : decode c_X_makeBricks 25 = .ok (.iload_n 2, 1) := by decide +kernel
theorem d_X_makeBricks_26 : decode c_X_makeBricks 26 = .ok (.iload_n 2, 1) := by decide +kernel
theorem d_X_makeBricks_27 : decode c_X_makeBricks 27 = .ok (.iconst 1, 1) := by decide +kernel
theorem d_X_makeBricks_28 : decode c_X_makeBricks 28 = .ok (.iadd, 1) := by decide +kernel
theorem d_X_makeBricks_29 : decode c_X_makeBricks 29 = .ok (.invokevirtual 154, 3) := by decide +kernel
theorem d_X_makeBricks_32 : decode c_X_makeBricks 32 = .ok (.pop, 1) := by decide +kernel
theorem d_X_makeBricks_33 : decode c_X_makeBricks 33 = .ok (.iinc 2 2, 3) := by decide +kernel
theorem d_X_makeBricks_36 : decode c_X_makeBricks 36 = .ok (.goto (-22), 3) := by decide +kernel
theorem d_X_makeBricks_39 : decode c_X_makeBricks 39 = .ok (.iinc 1 1, 3) := by decide +kernel
theorem d_X_makeBricks_42 : decode c_X_makeBricks 42 = .ok (.goto (-40), 3) := by decide +kernel
theorem d_X_makeBricks_45 : decode c_X_makeBricks 45 = .ok (.return_, 1) := by decide +kernel
theorem d_X_appendStride_0 : decode c_X_appendStride 0 = .ok (.iconst 0, 1) := by decide +kernel
theorem d_X_appendStride_1 : decode c_X_appendStride 1 = .ok (.istore 4, 2) := by decide +kernel
theorem d_X_appendStride_3 : decode c_X_appendStride 3 = .ok (.iload 4, 2) := by decide +kernel
theorem d_X_appendStride_5 : decode c_X_appendStride 5 = .ok (.aload_n 0, 1) := by decide +kernel
theorem d_X_appendStride_6 : decode c_X_appendStride 6 = .ok (.getfield 111, 3) := by decide +kernel
theorem d_X_appendStride_9 : decode c_X_appendStride 9 = .ok (.iload_n 3, 1) := by decide +kernel
theorem d_X_appendStride_10 : decode c_X_appendStride 10 = .ok (.isub, 1) := by decide +kernel
theorem d_X_appendStride_11 : decode c_X_appendStride 11 = .ok (.if_icmp .ge 28, 3) := by decide +kernel
theorem d_X_appendStride_14 : decode c_X_appendStride 14 = .ok (.iload 4, 2) := by decide +kernel
theorem d_X_appendStride_16 : decode c_X_appendStride 16 = .ok (.iload_n 1, 1) := by decide +kernel
theorem d_X_appendStride_17 : decode c_X_appendStride 17 = .ok (.iand, 1) := by decide +kernel
theorem d_X_appendStride_18 : decode c_X_appendStride 18 = .ok (.iload_n 2, 1) := by decide +kernel
theorem d_X_appendStride_19 : decode c_X_appendStride 19 = .ok (.if_icmp .ne 14, 3) := by decide +kernel
theorem d_X_appendStride_22 : decode c_X_appendStride 22 = .ok (.aload_n 0, 1) := by decide +kernel
theorem d_X_appendStride_23 : decode c_X_appendStride 23 = .ok (.iload 4, 2) := by decide +kernel
theorem d_X_appendStride_25 : decode c_X_appendStride 25 = .ok (.iload 4, 2) := by decide +kernel
theorem d_X_appendStride_27 : decode c_X_appendStride 27 = .ok (.iload_n 3, 1) := by decide +kernel
theorem d_X_appendStride_28 : decode c_X_appendStride 28 = .ok (.iadd, 1) := by decide +kernel
theorem d_X_appendStride_29 : decode c_X_appendStride 29 = .ok (.invokevirtual 154, 3) := by decide +kernel
theorem d_X_appendStride_32 : decode c_X_appendStride 32 = .ok (.pop, 1) := by decide +kernel
theorem d_X_appendStride_33 : decode c_X_appendStride 33 = .ok (.iinc 4 1, 3) := by decide +kernel
theorem d_X_appendStride_36 : decode c_X_appendStride 36 = .ok (.goto (-33), 3) := by decide +kernel
theorem d_X_appendStride_39 : decode c_X_appendStride 39 = .ok (.return_, 1) := by decide +kernel
theorem d_X_makeMergeExchange_0 : decode c_X_makeMergeExchange 0 = .ok (.iconst 1, 1) := by decide +kernel
theorem d_X_makeMergeExchange_1 : decode c_X_makeMergeExchange 1 = .ok (.istore_n 1, 1) := by decide +kernel
theorem d_X_makeMergeExchange_2 : decode c_X_makeMergeExchange 2 = .ok (.iload_n 1, 1) := by decide +kernel
theorem d_X_makeMergeExchange_3 : decode c_X_makeMergeExchange 3 = .ok (.aload_n 0, 1) := by decide +kernel
theorem d_X_makeMergeExchange_4 : decode c_X_makeMergeExchange 4 = .ok (.getfield 111, 3) := by decide +kernel
theorem d_X_makeMergeExchange_7 : decode c_X_makeMergeExchange 7 = .ok (.if_icmp .ge 16, 3) := by decide +kernel
theorem d_X_makeMergeExchange_10 : decode c_X_makeMergeExchange 10 = .ok (.iload_n 1, 1) := by decide +kernel
theorem d_X_makeMergeExchange_11 : decode c_X_makeMergeExchange 11 = .ok (.bipush 8, 2) := by decide +kernel
theorem d_X_makeMergeExchange_13 : decode c_X_makeMergeExchange 13 = .ok (.if_icmp .ge 10, 3) := by decide +kernel
theorem d_X_makeMergeExchange_16 : decode c_X_makeMergeExchange 16 = .ok (.iload_n 1, 1) := by decide +kernel
theorem d_X_makeMergeExchange_17 : decode c_X_makeMergeExchange 17 = .ok (.iconst 2, 1) := by decide +kernel
theorem d_X_makeMergeExchange_18 : decode c_X_makeMergeExchange 18 = .ok (.imul, 1) := by decide +kernel
theorem d_X_makeMergeExchange_19 : decode c_X_makeMergeExchange 19 = .ok (.istore_n 1, 1) := by decide +kernel
theorem d_X_makeMergeExchange_20 : decode c_X_makeMergeExchange 20 = .ok (.goto (-18), 3) := by decide +kernel
theorem d_X_makeMergeExchange_23 : decode c_X_makeMergeExchange 23 = .ok (.iload_n 1, 1) := by decide +kernel
theorem d_X_makeMergeExchange_24 : decode c_X_makeMergeExchange 24 = .ok (.iconst 2, 1) := by decide +kernel
theorem d_X_makeMergeExchange_25 : decode c_X_makeMergeExchange 25 = .ok (.idiv, 1) := by decide +kernel
theorem d_X_makeMergeExchange_26 : decode c_X_makeMergeExchange 26 = .ok (.istore_n 2, 1) := by decide +kernel
theorem d_X_makeMergeExchange_27 : decode c_X_makeMergeExchange 27 = .ok (.iload_n 2, 1) := by decide +kernel
theorem d_X_makeMergeExchange_28 : decode c_X_makeMergeExchange 28 = .ok (.ifCond .le 42, 3) := by decide +kernel
theorem d_X_makeMergeExchange_31 : decode c_X_makeMergeExchange 31 = .ok (.aload_n 0, 1) := by decide +kernel
theorem d_X_makeMergeExchange_32 : decode c_X_makeMergeExchange 32 = .ok (.iload_n 2, 1) := by decide +kernel
theorem d_X_makeMergeExchange_33 : decode c_X_makeMergeExchange 33 = .ok (.iconst 0, 1) := by decide +kernel
theorem d_X_makeMergeExchange_34 : decode c_X_makeMergeExchange 34 = .ok (.iload_n 2, 1) := by decide +kernel
theorem d_X_makeMergeExchange_35 : decode c_X_makeMergeExchange 35 = .ok (.invokestatic 349, 3) := by decide +kernel
theorem d_X_makeMergeExchange_38 : decode c_X_makeMergeExchange 38 = .ok (.iload_n 1, 1) := by decide +kernel
theorem d_X_makeMergeExchange_39 : decode c_X_makeMergeExchange 39 = .ok (.iconst 2, 1) := by decide +kernel
theorem d_X_makeMergeExchange_40 : decode c_X_makeMergeExchange 40 = .ok (.idiv, 1) := by decide +kernel
theorem d_X_makeMergeExchange_41 : decode c_X_makeMergeExchange 41 = .ok (.istore_n 3, 1) := by decide +kernel
theorem d_X_makeMergeExchange_42 : decode c_X_makeMergeExchange 42 = .ok (.iload_n 3, 1) := by decide +kernel
theorem d_X_makeMergeExchange_43 : decode c_X_makeMergeExchange 43 = .ok (.iload_n 2, 1) := by decide +kernel
theorem d_X_makeMergeExchange_44 : decode c_X_makeMergeExchange 44 = .ok (.if_icmp .le 19, 3) := by decide +kernel
theorem d_X_makeMergeExchange_47 : decode c_X_makeMergeExchange 47 = .ok (.aload_n 0, 1) := by decide +kernel
theorem d_X_makeMergeExchange_48 : decode c_X_makeMergeExchange 48 = .ok (.iload_n 2, 1) := by decide +kernel
theorem d_X_makeMergeExchange_49 : decode c_X_makeMergeExchange 49 = .ok (.iload_n 2, 1) := by decide +kernel
theorem d_X_makeMergeExchange_50 : decode c_X_makeMergeExchange 50 = .ok (.iload_n 3, 1) := by decide +kernel
theorem d_X_makeMergeExchange_51 : decode c_X_makeMergeExchange 51 = .ok (.iload_n 2, 1) := by decide +kernel
theorem d_X_makeMergeExchange_52 : decode c_X_makeMergeExchange 52 = .ok (.isub, 1) := by decide +kernel
theorem d_X_makeMergeExchange_53 : decode c_X_makeMergeExchange 53 = .ok (.invokestatic 349, 3) := by decide +kernel
theorem d_X_makeMergeExchange_56 : decode c_X_makeMergeExchange 56 = .ok (.iload_n 3, 1) := by decide +kernel
theorem d_X_makeMergeExchange_57 : decode c_X_makeMergeExchange 57 = .ok (.iconst 2, 1) := by decide +kernel
theorem d_X_makeMergeExchange_58 : decode c_X_makeMergeExchange 58 = .ok (.idiv, 1) := by decide +kernel
theorem d_X_makeMergeExchange_59 : decode c_X_makeMergeExchange 59 = .ok (.istore_n 3, 1) := by decide +kernel
theorem d_X_makeMergeExchange_60 : decode c_X_makeMergeExchange 60 = .ok (.goto (-18), 3) := by decide +kernel
theorem d_X_makeMergeExchange_63 : decode c_X_makeMergeExchange 63 = .ok (.iload_n 2, 1) := by decide +kernel
theorem d_X_makeMergeExchange_64 : decode c_X_makeMergeExchange 64 = .ok (.iconst 2, 1) := by decide +kernel
theorem d_X_makeMergeExchange_65 : decode c_X_makeMergeExchange 65 = .ok (.idiv, 1) := by decide +kernel
theorem d_X_makeMergeExchange_66 : decode c_X_makeMergeExchange 66 = .ok (.istore_n 2, 1) := by decide +kernel
theorem d_X_makeMergeExchange_67 : decode c_X_makeMergeExchange 67 = .ok (.goto (-40), 3) := by decide +kernel
theorem d_X_makeMergeExchange_70 : decode c_X_makeMergeExchange 70 = .ok (.return_, 1) := by decide +kernel
theorem d_X_makes_0 : decode c_X_makes 0 = .ok (.iload_n 1, 1) := by decide +kernel
theorem d_X_makes_1 : decode c_X_makes 1 = .ok (.invokestatic 101, 3) := by decide +kernel
theorem d_X_makes_4 : decode c_X_makes 4 = .ok (.ifCond .eq 19, 3) := by decide +kernel
theorem d_X_makes_7 : decode c_X_makes 7 = .ok (.iload_n 2, 1) := by decide +kernel
theorem d_X_makes_8 : decode c_X_makes 8 = .ok (.invokestatic 124, 3) := by decide +kernel
theorem d_X_makes_11 : decode c_X_makes 11 = .ok (.ifCond .eq 12, 3) := by decide +kernel
theorem d_X_makes_14 : decode c_X_makes 14 = .ok (.iload_n 3, 1) := by decide +kernel
theorem d_X_makes_15 : decode c_X_makes 15 = .ok (.ifCond .lt 8, 3) := by decide +kernel
theorem d_X_makes_18 : decode c_X_makes 18 = .ok (.iload_n 3, 1) := by decide +kernel
theorem d_X_makes_19 : decode c_X_makes 19 = .ok (.iconst 5, 1) := by decide +kernel
theorem d_X_makes_20 : decode c_X_makes 20 = .ok (.if_icmp .lt 5, 3) := by decide +kernel
theorem d_X_makes_23 : decode c_X_makes 23 = .ok (.iconst (-1), 1) := by decide +kernel
theorem d_X_makes_24 : decode c_X_makes 24 = .ok (.ireturn, 1) := by decide +kernel
theorem d_X_makes_25 : decode c_X_makes 25 = .ok (.aload_n 0, 1) := by decide +kernel
theorem d_X_makes_26 : decode c_X_makes 26 = .ok (.getfield 11, 3) := by decide +kernel
theorem d_X_makes_29 : decode c_X_makes 29 = .ok (.iload_n 1, 1) := by decide +kernel
theorem d_X_makes_30 : decode c_X_makes 30 = .ok (.aaload, 1) := by decide +kernel
theorem d_X_makes_31 : decode c_X_makes 31 = .ok (.astore 4, 2) := by decide +kernel
theorem d_X_makes_33 : decode c_X_makes 33 = .ok (.aload 4, 2) := by decide +kernel
theorem d_X_makes_35 : decode c_X_makes 35 = .ok (.iload_n 2, 1) := by decide +kernel
theorem d_X_makes_36 : decode c_X_makes 36 = .ok (.invokevirtual 127, 3) := by decide +kernel
theorem d_X_makes_39 : decode c_X_makes 39 = .ok (.iload_n 3, 1) := by decide +kernel
theorem d_X_makes_40 : decode c_X_makes 40 = .ok (.tableswitch 64 1 4 #[32, 40, 48, 56], 32) := by decide +kernel
theorem d_X_makes_72 : decode c_X_makes 72 = .ok (.aload 4, 2) := by decide +kernel
theorem d_X_makes_74 : decode c_X_makes 74 = .ok (.invokestatic 130, 3) := by decide +kernel
theorem d_X_makes_77 : decode c_X_makes 77 = .ok (.goto 27, 3) := by decide +kernel
theorem d_X_makes_80 : decode c_X_makes 80 = .ok (.aload 4, 2) := by decide +kernel
theorem d_X_makes_82 : decode c_X_makes 82 = .ok (.invokestatic 133, 3) := by decide +kernel
theorem d_X_makes_85 : decode c_X_makes 85 = .ok (.goto 19, 3) := by decide +kernel
theorem d_X_makes_88 : decode c_X_makes 88 = .ok (.aload 4, 2) := by decide +kernel
theorem d_X_makes_90 : decode c_X_makes 90 = .ok (.invokestatic 136, 3) := by decide +kernel
theorem d_X_makes_93 : decode c_X_makes 93 = .ok (.goto 11, 3) := by decide +kernel
theorem d_X_makes_96 : decode c_X_makes 96 = .ok (.aload 4, 2) := by decide +kernel
theorem d_X_makes_98 : decode c_X_makes 98 = .ok (.invokestatic 139, 3) := by decide +kernel
theorem d_X_makes_101 : decode c_X_makes 101 = .ok (.goto 3, 3) := by decide +kernel
theorem d_X_makes_104 : decode c_X_makes 104 = .ok (.aload 4, 2) := by decide +kernel
theorem d_X_makes_106 : decode c_X_makes 106 = .ok (.getfield 121, 3) := by decide +kernel
theorem d_X_makes_109 : decode c_X_makes 109 = .ok (.ireturn, 1) := by decide +kernel
theorem d_X_nextState_0 : decode c_X_nextState 0 = .ok (.iload_n 0, 1) := by decide +kernel
theorem d_X_nextState_1 : decode c_X_nextState 1 = .ok (.ldc_w 348, 3) := by decide +kernel
theorem d_X_nextState_4 : decode c_X_nextState 4 = .ok (.imul, 1) := by decide +kernel
theorem d_X_nextState_5 : decode c_X_nextState 5 = .ok (.sipush 12345, 3) := by decide +kernel
theorem d_X_nextState_8 : decode c_X_nextState 8 = .ok (.iadd, 1) := by decide +kernel
theorem d_X_nextState_9 : decode c_X_nextState 9 = .ok (.ireturn, 1) := by decide +kernel
theorem d_X_judge_0 : decode c_X_judge 0 = .ok (.aload_n 0, 1) := by decide +kernel
theorem d_X_judge_1 : decode c_X_judge 1 = .ok (.getfield 51, 3) := by decide +kernel
theorem d_X_judge_4 : decode c_X_judge 4 = .ok (.aload_n 1, 1) := by decide +kernel
theorem d_X_judge_5 : decode c_X_judge 5 = .ok (.getfield 111, 3) := by decide +kernel
theorem d_X_judge_8 : decode c_X_judge 8 = .ok (.invokevirtual 266, 3) := by decide +kernel
theorem d_X_judge_11 : decode c_X_judge 11 = .ok (.iload_n 2, 1) := by decide +kernel
theorem d_X_judge_12 : decode c_X_judge 12 = .ok (.ifCond .ge 19, 3) := by decide +kernel
theorem d_X_judge_15 : decode c_X_judge 15 = .ok (.aload_n 0, 1) := by decide +kernel
theorem d_X_judge_16 : decode c_X_judge 16 = .ok (.getfield 51, 3) := by decide +kernel
theorem d_X_judge_19 : decode c_X_judge 19 = .ok (.aload_n 1, 1) := by decide +kernel
theorem d_X_judge_20 : decode c_X_judge 20 = .ok (.iconst 0, 1) := by decide +kernel
theorem d_X_judge_21 : decode c_X_judge 21 = .ok (.aload_n 1, 1) := by decide +kernel
theorem d_X_judge_22 : decode c_X_judge 22 = .ok (.getfield 121, 3) := by decide +kernel
theorem d_X_judge_25 : decode c_X_judge 25 = .ok (.invokevirtual 285, 3) := by decide +kernel
theorem d_X_judge_28 : decode c_X_judge 28 = .ok (.goto 28, 3) := by decide +kernel
theorem d_X_judge_31 : decode c_X_judge 31 = .ok (.aload_n 0, 1) := by decide +kernel
theorem d_X_judge_32 : decode c_X_judge 32 = .ok (.getfield 51, 3) := by decide +kernel
theorem d_X_judge_35 : decode c_X_judge 35 = .ok (.aload_n 1, 1) := by decide +kernel
theorem d_X_judge_36 : decode c_X_judge 36 = .ok (.iconst 0, 1) := by decide +kernel
theorem d_X_judge_37 : decode c_X_judge 37 = .ok (.iload_n 2, 1) := by decide +kernel
theorem d_X_judge_38 : decode c_X_judge 38 = .ok (.invokevirtual 285, 3) := by decide +kernel
theorem d_X_judge_41 : decode c_X_judge 41 = .ok (.aload_n 0, 1) := by decide +kernel
theorem d_X_judge_42 : decode c_X_judge 42 = .ok (.getfield 51, 3) := by decide +kernel
theorem d_X_judge_45 : decode c_X_judge 45 = .ok (.aload_n 1, 1) := by decide +kernel
theorem d_X_judge_46 : decode c_X_judge 46 = .ok (.iload_n 2, 1) := by decide +kernel
theorem d_X_judge_47 : decode c_X_judge 47 = .ok (.iconst 1, 1) := by decide +kernel
theorem d_X_judge_48 : decode c_X_judge 48 = .ok (.iadd, 1) := by decide +kernel
theorem d_X_judge_49 : decode c_X_judge 49 = .ok (.aload_n 1, 1) := by decide +kernel
theorem d_X_judge_50 : decode c_X_judge 50 = .ok (.getfield 121, 3) := by decide +kernel
theorem d_X_judge_53 : decode c_X_judge 53 = .ok (.invokevirtual 285, 3) := by decide +kernel
theorem d_X_judge_56 : decode c_X_judge 56 = .ok (.aload_n 0, 1) := by decide +kernel
theorem d_X_judge_57 : decode c_X_judge 57 = .ok (.getfield 51, 3) := by decide +kernel
theorem d_X_judge_60 : decode c_X_judge 60 = .ok (.aload_n 0, 1) := by decide +kernel
theorem d_X_judge_61 : decode c_X_judge 61 = .ok (.getfield 61, 3) := by decide +kernel
theorem d_X_judge_64 : decode c_X_judge 64 = .ok (.invokevirtual 292, 3) := by decide +kernel
theorem d_X_judge_67 : decode c_X_judge 67 = .ok (.return_, 1) := by decide +kernel
theorem d_X_draws_0 : decode c_X_draws 0 = .ok (.iload_n 1, 1) := by decide +kernel
theorem d_X_draws_1 : decode c_X_draws 1 = .ok (.invokestatic 101, 3) := by decide +kernel
theorem d_X_draws_4 : decode c_X_draws 4 = .ok (.ifCond .eq 20, 3) := by decide +kernel
theorem d_X_draws_7 : decode c_X_draws 7 = .ok (.iload_n 2, 1) := by decide +kernel
theorem d_X_draws_8 : decode c_X_draws 8 = .ok (.invokestatic 124, 3) := by decide +kernel
theorem d_X_draws_11 : decode c_X_draws 11 = .ok (.ifCond .eq 13, 3) := by decide +kernel
theorem d_X_draws_14 : decode c_X_draws 14 = .ok (.iload_n 3, 1) := by decide +kernel
theorem d_X_draws_15 : decode c_X_draws 15 = .ok (.ifCond .lt 9, 3) := by decide +kernel
theorem d_X_draws_18 : decode c_X_draws 18 = .ok (.iload_n 3, 1) := by decide +kernel
theorem d_X_draws_19 : decode c_X_draws 19 = .ok (.bipush 60, 2) := by decide +kernel
theorem d_X_draws_21 : decode c_X_draws 21 = .ok (.if_icmp .le 5, 3) := by decide +kernel
theorem d_X_draws_24 : decode c_X_draws 24 = .ok (.iconst (-1), 1) := by decide +kernel
theorem d_X_draws_25 : decode c_X_draws 25 = .ok (.ireturn, 1) := by decide +kernel
theorem d_X_draws_26 : decode c_X_draws 26 = .ok (.aload_n 0, 1) := by decide +kernel
theorem d_X_draws_27 : decode c_X_draws 27 = .ok (.getfield 11, 3) := by decide +kernel
theorem d_X_draws_30 : decode c_X_draws 30 = .ok (.iload_n 1, 1) := by decide +kernel
theorem d_X_draws_31 : decode c_X_draws 31 = .ok (.aaload, 1) := by decide +kernel
theorem d_X_draws_32 : decode c_X_draws 32 = .ok (.astore 5, 2) := by decide +kernel
theorem d_X_draws_34 : decode c_X_draws 34 = .ok (.aload 5, 2) := by decide +kernel
theorem d_X_draws_36 : decode c_X_draws 36 = .ok (.iload_n 2, 1) := by decide +kernel
theorem d_X_draws_37 : decode c_X_draws 37 = .ok (.invokevirtual 127, 3) := by decide +kernel
theorem d_X_draws_40 : decode c_X_draws 40 = .ok (.iload 4, 2) := by decide +kernel
theorem d_X_draws_42 : decode c_X_draws 42 = .ok (.istore 6, 2) := by decide +kernel
theorem d_X_draws_44 : decode c_X_draws 44 = .ok (.iconst 0, 1) := by decide +kernel
theorem d_X_draws_45 : decode c_X_draws 45 = .ok (.istore 7, 2) := by decide +kernel
theorem d_X_draws_47 : decode c_X_draws 47 = .ok (.iload 7, 2) := by decide +kernel
theorem d_X_draws_49 : decode c_X_draws 49 = .ok (.iload_n 3, 1) := by decide +kernel
theorem d_X_draws_50 : decode c_X_draws 50 = .ok (.if_icmp .ge 73, 3) := by decide +kernel
theorem d_X_draws_53 : decode c_X_draws 53 = .ok (.iload 6, 2) := by decide +kernel
theorem d_X_draws_55 : decode c_X_draws 55 = .ok (.invokestatic 142, 3) := by decide +kernel
theorem d_X_draws_58 : decode c_X_draws 58 = .ok (.istore 6, 2) := by decide +kernel
theorem d_X_draws_60 : decode c_X_draws 60 = .ok (.iload 6, 2) := by decide +kernel
theorem d_X_draws_62 : decode c_X_draws 62 = .ok (.bipush 16, 2) := by decide +kernel
theorem d_X_draws_64 : decode c_X_draws 64 = .ok (.iushr, 1) := by decide +kernel
theorem d_X_draws_65 : decode c_X_draws 65 = .ok (.iload_n 2, 1) := by decide +kernel
theorem d_X_draws_66 : decode c_X_draws 66 = .ok (.irem, 1) := by decide +kernel
theorem d_X_draws_67 : decode c_X_draws 67 = .ok (.istore 8, 2) := by decide +kernel
theorem d_X_draws_69 : decode c_X_draws 69 = .ok (.iload 6, 2) := by decide +kernel
theorem d_X_draws_71 : decode c_X_draws 71 = .ok (.invokestatic 142, 3) := by decide +kernel
theorem d_X_draws_74 : decode c_X_draws 74 = .ok (.istore 6, 2) := by decide +kernel
theorem d_X_draws_76 : decode c_X_draws 76 = .ok (.iload 6, 2) := by decide +kernel
theorem d_X_draws_78 : decode c_X_draws 78 = .ok (.bipush 16, 2) := by decide +kernel
theorem d_X_draws_80 : decode c_X_draws 80 = .ok (.iushr, 1) := by decide +kernel
theorem d_X_draws_81 : decode c_X_draws 81 = .ok (.iload_n 2, 1) := by decide +kernel
theorem d_X_draws_82 : decode c_X_draws 82 = .ok (.iconst 1, 1) := by decide +kernel
theorem d_X_draws_83 : decode c_X_draws 83 = .ok (.isub, 1) := by decide +kernel
theorem d_X_draws_84 : decode c_X_draws 84 = .ok (.irem, 1) := by decide +kernel
theorem d_X_draws_85 : decode c_X_draws 85 = .ok (.istore 9, 2) := by decide +kernel
theorem d_X_draws_87 : decode c_X_draws 87 = .ok (.iload 9, 2) := by decide +kernel
theorem d_X_draws_89 : decode c_X_draws 89 = .ok (.iload 8, 2) := by decide +kernel
theorem d_X_draws_91 : decode c_X_draws 91 = .ok (.if_icmp .lt 6, 3) := by decide +kernel
theorem d_X_draws_94 : decode c_X_draws 94 = .ok (.iinc 9 1, 3) := by decide +kernel
theorem d_X_draws_97 : decode c_X_draws 97 = .ok (.aload 5, 2) := by decide +kernel
theorem d_X_draws_99 : decode c_X_draws 99 = .ok (.iload 8, 2) := by decide +kernel
theorem d_X_draws_101 : decode c_X_draws 101 = .ok (.iload 9, 2) := by decide +kernel
theorem d_X_draws_103 : decode c_X_draws 103 = .ok (.invokestatic 145, 3) := by decide +kernel
theorem d_X_draws_106 : decode c_X_draws 106 = .ok (.iload 8, 2) := by decide +kernel
theorem d_X_draws_108 : decode c_X_draws 108 = .ok (.iload 9, 2) := by decide +kernel
theorem d_X_draws_110 : decode c_X_draws 110 = .ok (.invokestatic 151, 3) := by decide +kernel
theorem d_X_draws_113 : decode c_X_draws 113 = .ok (.invokevirtual 154, 3) := by decide +kernel
theorem d_X_draws_116 : decode c_X_draws 116 = .ok (.pop, 1) := by decide +kernel
theorem d_X_draws_117 : decode c_X_draws 117 = .ok (.iinc 7 1, 3) := by decide +kernel
theorem d_X_draws_120 : decode c_X_draws 120 = .ok (.goto (-73), 3) := by decide +kernel
theorem d_X_draws_123 : decode c_X_draws 123 = .ok (.aload_n 0, 1) := by decide +kernel
theorem d_X_draws_124 : decode c_X_draws 124 = .ok (.aload 5, 2) := by decide +kernel
theorem d_X_draws_126 : decode c_X_draws 126 = .ok (.iconst (-1), 1) := by decide +kernel
theorem d_X_draws_127 : decode c_X_draws 127 = .ok (.invokevirtual 157, 3) := by decide +kernel
theorem d_X_draws_130 : decode c_X_draws 130 = .ok (.aload_n 0, 1) := by decide +kernel
theorem d_X_draws_131 : decode c_X_draws 131 = .ok (.getfield 61, 3) := by decide +kernel
theorem d_X_draws_134 : decode c_X_draws 134 = .ok (.invokevirtual 161, 3) := by decide +kernel
theorem d_X_draws_137 : decode c_X_draws 137 = .ok (.ireturn, 1) := by decide +kernel
theorem d_X_adds_0 : decode c_X_adds 0 = .ok (.iload_n 1, 1) := by decide +kernel
theorem d_X_adds_1 : decode c_X_adds 1 = .ok (.invokestatic 101, 3) := by decide +kernel
theorem d_X_adds_4 : decode c_X_adds 4 = .ok (.ifCond .eq 34, 3) := by decide +kernel
theorem d_X_adds_7 : decode c_X_adds 7 = .ok (.aload_n 0, 1) := by decide +kernel
theorem d_X_adds_8 : decode c_X_adds 8 = .ok (.getfield 11, 3) := by decide +kernel
theorem d_X_adds_11 : decode c_X_adds 11 = .ok (.iload_n 1, 1) := by decide +kernel
theorem d_X_adds_12 : decode c_X_adds 12 = .ok (.aaload, 1) := by decide +kernel
theorem d_X_adds_13 : decode c_X_adds 13 = .ok (.iload_n 2, 1) := by decide +kernel
theorem d_X_adds_14 : decode c_X_adds 14 = .ok (.invokevirtual 163, 3) := by decide +kernel
theorem d_X_adds_17 : decode c_X_adds 17 = .ok (.ifCond .eq 21, 3) := by decide +kernel
theorem d_X_adds_20 : decode c_X_adds 20 = .ok (.aload_n 0, 1) := by decide +kernel
theorem d_X_adds_21 : decode c_X_adds 21 = .ok (.getfield 11, 3) := by decide +kernel
theorem d_X_adds_24 : decode c_X_adds 24 = .ok (.iload_n 1, 1) := by decide +kernel
theorem d_X_adds_25 : decode c_X_adds 25 = .ok (.aaload, 1) := by decide +kernel
theorem d_X_adds_26 : decode c_X_adds 26 = .ok (.iload_n 3, 1) := by decide +kernel
theorem d_X_adds_27 : decode c_X_adds 27 = .ok (.invokevirtual 163, 3) := by decide +kernel
theorem d_X_adds_30 : decode c_X_adds 30 = .ok (.ifCond .eq 8, 3) := by decide +kernel
theorem d_X_adds_33 : decode c_X_adds 33 = .ok (.iload_n 2, 1) := by decide +kernel
theorem d_X_adds_34 : decode c_X_adds 34 = .ok (.iload_n 3, 1) := by decide +kernel
theorem d_X_adds_35 : decode c_X_adds 35 = .ok (.if_icmp .lt 5, 3) := by decide +kernel
theorem d_X_adds_38 : decode c_X_adds 38 = .ok (.iconst (-1), 1) := by decide +kernel
theorem d_X_adds_39 : decode c_X_adds 39 = .ok (.ireturn, 1) := by decide +kernel
theorem d_X_adds_40 : decode c_X_adds 40 = .ok (.aload_n 0, 1) := by decide +kernel
theorem d_X_adds_41 : decode c_X_adds 41 = .ok (.getfield 11, 3) := by decide +kernel
theorem d_X_adds_44 : decode c_X_adds 44 = .ok (.iload_n 1, 1) := by decide +kernel
theorem d_X_adds_45 : decode c_X_adds 45 = .ok (.aaload, 1) := by decide +kernel
theorem d_X_adds_46 : decode c_X_adds 46 = .ok (.iload_n 2, 1) := by decide +kernel
theorem d_X_adds_47 : decode c_X_adds 47 = .ok (.iload_n 3, 1) := by decide +kernel
theorem d_X_adds_48 : decode c_X_adds 48 = .ok (.invokevirtual 154, 3) := by decide +kernel
theorem d_X_adds_51 : decode c_X_adds 51 = .ok (.ifCond .eq 15, 3) := by decide +kernel
theorem d_X_adds_54 : decode c_X_adds 54 = .ok (.aload_n 0, 1) := by decide +kernel
theorem d_X_adds_55 : decode c_X_adds 55 = .ok (.getfield 11, 3) := by decide +kernel
theorem d_X_adds_58 : decode c_X_adds 58 = .ok (.iload_n 1, 1) := by decide +kernel
theorem d_X_adds_59 : decode c_X_adds 59 = .ok (.aaload, 1) := by decide +kernel
theorem d_X_adds_60 : decode c_X_adds 60 = .ok (.getfield 121, 3) := by decide +kernel
theorem d_X_adds_63 : decode c_X_adds 63 = .ok (.goto 4, 3) := by decide +kernel
theorem d_X_adds_66 : decode c_X_adds 66 = .ok (.iconst (-1), 1) := by decide +kernel
theorem d_X_adds_67 : decode c_X_adds 67 = .ok (.ireturn, 1) := by decide +kernel
theorem d_X_isComparer_0 : decode c_X_isComparer 0 = .ok (.iload_n 1, 1) := by decide +kernel
theorem d_X_isComparer_1 : decode c_X_isComparer 1 = .ok (.invokestatic 101, 3) := by decide +kernel
theorem d_X_isComparer_4 : decode c_X_isComparer 4 = .ok (.ifCond .eq 24, 3) := by decide +kernel
theorem d_X_isComparer_7 : decode c_X_isComparer 7 = .ok (.iload_n 2, 1) := by decide +kernel
theorem d_X_isComparer_8 : decode c_X_isComparer 8 = .ok (.ifCond .lt 20, 3) := by decide +kernel
theorem d_X_isComparer_11 : decode c_X_isComparer 11 = .ok (.iload_n 2, 1) := by decide +kernel
theorem d_X_isComparer_12 : decode c_X_isComparer 12 = .ok (.aload_n 0, 1) := by decide +kernel
theorem d_X_isComparer_13 : decode c_X_isComparer 13 = .ok (.getfield 11, 3) := by decide +kernel
theorem d_X_isComparer_16 : decode c_X_isComparer 16 = .ok (.iload_n 1, 1) := by decide +kernel
theorem d_X_isComparer_17 : decode c_X_isComparer 17 = .ok (.aaload, 1) := by decide +kernel
theorem d_X_isComparer_18 : decode c_X_isComparer 18 = .ok (.getfield 121, 3) := by decide +kernel
theorem d_X_isComparer_21 : decode c_X_isComparer 21 = .ok (.if_icmp .ge 7, 3) := by decide +kernel
theorem d_X_isComparer_24 : decode c_X_isComparer 24 = .ok (.iconst 1, 1) := by decide +kernel
theorem d_X_isComparer_25 : decode c_X_isComparer 25 = .ok (.goto 4, 3) := by decide +kernel
theorem d_X_isComparer_28 : decode c_X_isComparer 28 = .ok (.iconst 0, 1) := by decide +kernel
theorem d_X_isComparer_29 : decode c_X_isComparer 29 = .ok (.ireturn, 1) := by decide +kernel
theorem d_X_drops_0 : decode c_X_drops 0 = .ok (.aload_n 0, 1) := by decide +kernel
theorem d_X_drops_1 : decode c_X_drops 1 = .ok (.iload_n 1, 1) := by decide +kernel
theorem d_X_drops_2 : decode c_X_drops 2 = .ok (.iload_n 2, 1) := by decide +kernel
theorem d_X_drops_3 : decode c_X_drops 3 = .ok (.invokevirtual 166, 3) := by decide +kernel
theorem d_X_drops_6 : decode c_X_drops 6 = .ok (.ifCond .ne 5, 3) := by decide +kernel
theorem d_X_drops_9 : decode c_X_drops 9 = .ok (.iconst (-1), 1) := by decide +kernel
theorem d_X_drops_10 : decode c_X_drops 10 = .ok (.ireturn, 1) := by decide +kernel
theorem d_X_drops_11 : decode c_X_drops 11 = .ok (.aload_n 0, 1) := by decide +kernel
theorem d_X_drops_12 : decode c_X_drops 12 = .ok (.getfield 11, 3) := by decide +kernel
theorem d_X_drops_15 : decode c_X_drops 15 = .ok (.iload_n 1, 1) := by decide +kernel
theorem d_X_drops_16 : decode c_X_drops 16 = .ok (.aaload, 1) := by decide +kernel
theorem d_X_drops_17 : decode c_X_drops 17 = .ok (.iload_n 2, 1) := by decide +kernel
theorem d_X_drops_18 : decode c_X_drops 18 = .ok (.invokevirtual 169, 3) := by decide +kernel
theorem d_X_drops_21 : decode c_X_drops 21 = .ok (.aload_n 0, 1) := by decide +kernel
theorem d_X_drops_22 : decode c_X_drops 22 = .ok (.getfield 11, 3) := by decide +kernel
theorem d_X_drops_25 : decode c_X_drops 25 = .ok (.iload_n 1, 1) := by decide +kernel
theorem d_X_drops_26 : decode c_X_drops 26 = .ok (.aaload, 1) := by decide +kernel
theorem d_X_drops_27 : decode c_X_drops 27 = .ok (.getfield 121, 3) := by decide +kernel
theorem d_X_drops_30 : decode c_X_drops 30 = .ok (.ireturn, 1) := by decide +kernel
theorem d_X_swaps_0 : decode c_X_swaps 0 = .ok (.aload_n 0, 1) := by decide +kernel
theorem d_X_swaps_1 : decode c_X_swaps 1 = .ok (.iload_n 1, 1) := by decide +kernel
theorem d_X_swaps_2 : decode c_X_swaps 2 = .ok (.iload_n 2, 1) := by decide +kernel
theorem d_X_swaps_3 : decode c_X_swaps 3 = .ok (.invokevirtual 166, 3) := by decide +kernel
theorem d_X_swaps_6 : decode c_X_swaps 6 = .ok (.ifCond .eq 18, 3) := by decide +kernel
theorem d_X_swaps_9 : decode c_X_swaps 9 = .ok (.iload_n 2, 1) := by decide +kernel
theorem d_X_swaps_10 : decode c_X_swaps 10 = .ok (.iconst 1, 1) := by decide +kernel
theorem d_X_swaps_11 : decode c_X_swaps 11 = .ok (.iadd, 1) := by decide +kernel
theorem d_X_swaps_12 : decode c_X_swaps 12 = .ok (.aload_n 0, 1) := by decide +kernel
theorem d_X_swaps_13 : decode c_X_swaps 13 = .ok (.getfield 11, 3) := by decide +kernel
theorem d_X_swaps_16 : decode c_X_swaps 16 = .ok (.iload_n 1, 1) := by decide +kernel
theorem d_X_swaps_17 : decode c_X_swaps 17 = .ok (.aaload, 1) := by decide +kernel
theorem d_X_swaps_18 : decode c_X_swaps 18 = .ok (.getfield 121, 3) := by decide +kernel
theorem d_X_swaps_21 : decode c_X_swaps 21 = .ok (.if_icmp .lt 5, 3) := by decide +kernel
theorem d_X_swaps_24 : decode c_X_swaps 24 = .ok (.iconst (-1), 1) := by decide +kernel
theorem d_X_swaps_25 : decode c_X_swaps 25 = .ok (.ireturn, 1) := by decide +kernel
theorem d_X_swaps_26 : decode c_X_swaps 26 = .ok (.aload_n 0, 1) := by decide +kernel
theorem d_X_swaps_27 : decode c_X_swaps 27 = .ok (.getfield 11, 3) := by decide +kernel
theorem d_X_swaps_30 : decode c_X_swaps 30 = .ok (.iload_n 1, 1) := by decide +kernel
theorem d_X_swaps_31 : decode c_X_swaps 31 = .ok (.aaload, 1) := by decide +kernel
theorem d_X_swaps_32 : decode c_X_swaps 32 = .ok (.iload_n 2, 1) := by decide +kernel
theorem d_X_swaps_33 : decode c_X_swaps 33 = .ok (.invokevirtual 172, 3) := by decide +kernel
theorem d_X_swaps_36 : decode c_X_swaps 36 = .ok (.ifCond .eq 7, 3) := by decide +kernel
theorem d_X_swaps_39 : decode c_X_swaps 39 = .ok (.iconst 1, 1) := by decide +kernel
theorem d_X_swaps_40 : decode c_X_swaps 40 = .ok (.goto 4, 3) := by decide +kernel
theorem d_X_swaps_43 : decode c_X_swaps 43 = .ok (.iconst 0, 1) := by decide +kernel
theorem d_X_swaps_44 : decode c_X_swaps 44 = .ok (.ireturn, 1) := by decide +kernel
theorem d_X_copies_0 : decode c_X_copies 0 = .ok (.iload_n 1, 1) := by decide +kernel
theorem d_X_copies_1 : decode c_X_copies 1 = .ok (.invokestatic 101, 3) := by decide +kernel
theorem d_X_copies_4 : decode c_X_copies 4 = .ok (.ifCond .eq 10, 3) := by decide +kernel
theorem d_X_copies_7 : decode c_X_copies 7 = .ok (.iload_n 2, 1) := by decide +kernel
theorem d_X_copies_8 : decode c_X_copies 8 = .ok (.invokestatic 101, 3) := by decide +kernel
theorem d_X_copies_11 : decode c_X_copies 11 = .ok (.ifCond .ne 5, 3) := by decide +kernel
theorem d_X_copies_14 : decode c_X_copies 14 = .ok (.iconst (-1), 1) := by decide +kernel
theorem d_X_copies_15 : decode c_X_copies 15 = .ok (.ireturn, 1) := by decide +kernel
theorem d_X_copies_16 : decode c_X_copies 16 = .ok (.aload_n 0, 1) := by decide +kernel
theorem d_X_copies_17 : decode c_X_copies 17 = .ok (.getfield 11, 3) := by decide +kernel
theorem d_X_copies_20 : decode c_X_copies 20 = .ok (.iload_n 2, 1) := by decide +kernel
theorem d_X_copies_21 : decode c_X_copies 21 = .ok (.aaload, 1) := by decide +kernel
theorem d_X_copies_22 : decode c_X_copies 22 = .ok (.aload_n 0, 1) := by decide +kernel
theorem d_X_copies_23 : decode c_X_copies 23 = .ok (.getfield 11, 3) := by decide +kernel
theorem d_X_copies_26 : decode c_X_copies 26 = .ok (.iload_n 1, 1) := by decide +kernel
theorem d_X_copies_27 : decode c_X_copies 27 = .ok (.aaload, 1) := by decide +kernel
theorem d_X_copies_28 : decode c_X_copies 28 = .ok (.invokevirtual 104, 3) := by decide +kernel
theorem d_X_copies_31 : decode c_X_copies 31 = .ok (.aload_n 0, 1) := by decide +kernel
theorem d_X_copies_32 : decode c_X_copies 32 = .ok (.getfield 11, 3) := by decide +kernel
theorem d_X_copies_35 : decode c_X_copies 35 = .ok (.iload_n 2, 1) := by decide +kernel
theorem d_X_copies_36 : decode c_X_copies 36 = .ok (.aaload, 1) := by decide +kernel
theorem d_X_copies_37 : decode c_X_copies 37 = .ok (.getfield 121, 3) := by decide +kernel
theorem d_X_copies_40 : decode c_X_copies 40 = .ok (.ireturn, 1) := by decide +kernel
theorem d_X_joins_0 : decode c_X_joins 0 = .ok (.iload_n 1, 1) := by decide +kernel
theorem d_X_joins_1 : decode c_X_joins 1 = .ok (.invokestatic 101, 3) := by decide +kernel
theorem d_X_joins_4 : decode c_X_joins 4 = .ok (.ifCond .eq 10, 3) := by decide +kernel
theorem d_X_joins_7 : decode c_X_joins 7 = .ok (.iload_n 2, 1) := by decide +kernel
theorem d_X_joins_8 : decode c_X_joins 8 = .ok (.invokestatic 101, 3) := by decide +kernel
theorem d_X_joins_11 : decode c_X_joins 11 = .ok (.ifCond .ne 5, 3) := by decide +kernel
theorem d_X_joins_14 : decode c_X_joins 14 = .ok (.iconst (-1), 1) := by decide +kernel
theorem d_X_joins_15 : decode c_X_joins 15 = .ok (.ireturn, 1) := by decide +kernel
theorem d_X_joins_16 : decode c_X_joins 16 = .ok (.aload_n 0, 1) := by decide +kernel
theorem d_X_joins_17 : decode c_X_joins 17 = .ok (.getfield 11, 3) := by decide +kernel
theorem d_X_joins_20 : decode c_X_joins 20 = .ok (.iload_n 1, 1) := by decide +kernel
theorem d_X_joins_21 : decode c_X_joins 21 = .ok (.aaload, 1) := by decide +kernel
theorem d_X_joins_22 : decode c_X_joins 22 = .ok (.astore_n 3, 1) := by decide +kernel
theorem d_X_joins_23 : decode c_X_joins 23 = .ok (.aload_n 0, 1) := by decide +kernel
theorem d_X_joins_24 : decode c_X_joins 24 = .ok (.getfield 11, 3) := by decide +kernel
theorem d_X_joins_27 : decode c_X_joins 27 = .ok (.iload_n 2, 1) := by decide +kernel
theorem d_X_joins_28 : decode c_X_joins 28 = .ok (.aaload, 1) := by decide +kernel
theorem d_X_joins_29 : decode c_X_joins 29 = .ok (.astore 4, 2) := by decide +kernel
theorem d_X_joins_31 : decode c_X_joins 31 = .ok (.aload_n 3, 1) := by decide +kernel
theorem d_X_joins_32 : decode c_X_joins 32 = .ok (.getfield 111, 3) := by decide +kernel
theorem d_X_joins_35 : decode c_X_joins 35 = .ok (.aload 4, 2) := by decide +kernel
theorem d_X_joins_37 : decode c_X_joins 37 = .ok (.getfield 111, 3) := by decide +kernel
theorem d_X_joins_40 : decode c_X_joins 40 = .ok (.if_icmp .eq 6, 3) := by decide +kernel
theorem d_X_joins_43 : decode c_X_joins 43 = .ok (.bipush (-2), 2) := by decide +kernel
theorem d_X_joins_45 : decode c_X_joins 45 = .ok (.ireturn, 1) := by decide +kernel
theorem d_X_joins_46 : decode c_X_joins 46 = .ok (.aload 4, 2) := by decide +kernel
theorem d_X_joins_48 : decode c_X_joins 48 = .ok (.getfield 121, 3) := by decide +kernel
theorem d_X_joins_51 : decode c_X_joins 51 = .ok (.istore 5, 2) := by decide +kernel
theorem d_X_joins_53 : decode c_X_joins 53 = .ok (.aload_n 3, 1) := by decide +kernel
theorem d_X_joins_54 : decode c_X_joins 54 = .ok (.getfield 121, 3) := by decide +kernel
theorem d_X_joins_57 : decode c_X_joins 57 = .ok (.iload 5, 2) := by decide +kernel
theorem d_X_joins_59 : decode c_X_joins 59 = .ok (.iadd, 1) := by decide +kernel
theorem d_X_joins_60 : decode c_X_joins 60 = .ok (.bipush 60, 2) := by decide +kernel
theorem d_X_joins_62 : decode c_X_joins 62 = .ok (.if_icmp .le 6, 3) := by decide +kernel
theorem d_X_joins_65 : decode c_X_joins 65 = .ok (.bipush (-3), 2) := by decide +kernel
theorem d_X_joins_67 : decode c_X_joins 67 = .ok (.ireturn, 1) := by decide +kernel
theorem d_X_joins_68 : decode c_X_joins 68 = .ok (.iconst 0, 1) := by decide +kernel
theorem d_X_joins_69 : decode c_X_joins 69 = .ok (.istore 6, 2) := by decide +kernel
theorem d_X_joins_71 : decode c_X_joins 71 = .ok (.iload 6, 2) := by decide +kernel
theorem d_X_joins_73 : decode c_X_joins 73 = .ok (.iload 5, 2) := by decide +kernel
theorem d_X_joins_75 : decode c_X_joins 75 = .ok (.if_icmp .ge 30, 3) := by decide +kernel
theorem d_X_joins_78 : decode c_X_joins 78 = .ok (.aload_n 3, 1) := by decide +kernel
theorem d_X_joins_79 : decode c_X_joins 79 = .ok (.aload 4, 2) := by decide +kernel
theorem d_X_joins_81 : decode c_X_joins 81 = .ok (.getfield 175, 3) := by decide +kernel
theorem d_X_joins_84 : decode c_X_joins 84 = .ok (.iload 6, 2) := by decide +kernel
theorem d_X_joins_86 : decode c_X_joins 86 = .ok (.iaload, 1) := by decide +kernel
theorem d_X_joins_87 : decode c_X_joins 87 = .ok (.aload 4, 2) := by decide +kernel
theorem d_X_joins_89 : decode c_X_joins 89 = .ok (.getfield 178, 3) := by decide +kernel
theorem d_X_joins_92 : decode c_X_joins 92 = .ok (.iload 6, 2) := by decide +kernel
theorem d_X_joins_94 : decode c_X_joins 94 = .ok (.iaload, 1) := by decide +kernel
theorem d_X_joins_95 : decode c_X_joins 95 = .ok (.invokevirtual 154, 3) := by decide +kernel
theorem d_X_joins_98 : decode c_X_joins 98 = .ok (.pop, 1) := by decide +kernel
theorem d_X_joins_99 : decode c_X_joins 99 = .ok (.iinc 6 1, 3) := by decide +kernel
theorem d_X_joins_102 : decode c_X_joins 102 = .ok (.goto (-31), 3) := by decide +kernel
theorem d_X_joins_105 : decode c_X_joins 105 = .ok (.aload_n 3, 1) := by decide +kernel
theorem d_X_joins_106 : decode c_X_joins 106 = .ok (.getfield 121, 3) := by decide +kernel
theorem d_X_joins_109 : decode c_X_joins 109 = .ok (.ireturn, 1) := by decide +kernel
theorem d_X_flips_0 : decode c_X_flips 0 = .ok (.iload_n 1, 1) := by decide +kernel
theorem d_X_flips_1 : decode c_X_flips 1 = .ok (.invokestatic 101, 3) := by decide +kernel
theorem d_X_flips_4 : decode c_X_flips 4 = .ok (.ifCond .ne 5, 3) := by decide +kernel
theorem d_X_flips_7 : decode c_X_flips 7 = .ok (.iconst (-1), 1) := by decide +kernel
theorem d_X_flips_8 : decode c_X_flips 8 = .ok (.ireturn, 1) := by decide +kernel
theorem d_X_flips_9 : decode c_X_flips 9 = .ok (.aload_n 0, 1) := by decide +kernel
theorem d_X_flips_10 : decode c_X_flips 10 = .ok (.getfield 11, 3) := by decide +kernel
theorem d_X_flips_13 : decode c_X_flips 13 = .ok (.iload_n 1, 1) := by decide +kernel
theorem d_X_flips_14 : decode c_X_flips 14 = .ok (.aaload, 1) := by decide +kernel
theorem d_X_flips_15 : decode c_X_flips 15 = .ok (.invokevirtual 181, 3) := by decide +kernel
theorem d_X_flips_18 : decode c_X_flips 18 = .ok (.aload_n 0, 1) := by decide +kernel
theorem d_X_flips_19 : decode c_X_flips 19 = .ok (.getfield 11, 3) := by decide +kernel
theorem d_X_flips_22 : decode c_X_flips 22 = .ok (.iload_n 1, 1) := by decide +kernel
theorem d_X_flips_23 : decode c_X_flips 23 = .ok (.aaload, 1) := by decide +kernel
theorem d_X_flips_24 : decode c_X_flips 24 = .ok (.getfield 121, 3) := by decide +kernel
theorem d_X_flips_27 : decode c_X_flips 27 = .ok (.ireturn, 1) := by decide +kernel
theorem d_X_mirrors_0 : decode c_X_mirrors 0 = .ok (.iload_n 1, 1) := by decide +kernel
theorem d_X_mirrors_1 : decode c_X_mirrors 1 = .ok (.invokestatic 101, 3) := by decide +kernel
theorem d_X_mirrors_4 : decode c_X_mirrors 4 = .ok (.ifCond .ne 5, 3) := by decide +kernel
theorem d_X_mirrors_7 : decode c_X_mirrors 7 = .ok (.iconst (-1), 1) := by decide +kernel
theorem d_X_mirrors_8 : decode c_X_mirrors 8 = .ok (.ireturn, 1) := by decide +kernel
theorem d_X_mirrors_9 : decode c_X_mirrors 9 = .ok (.aload_n 0, 1) := by decide +kernel
theorem d_X_mirrors_10 : decode c_X_mirrors 10 = .ok (.getfield 11, 3) := by decide +kernel
theorem d_X_mirrors_13 : decode c_X_mirrors 13 = .ok (.iload_n 1, 1) := by decide +kernel
theorem d_X_mirrors_14 : decode c_X_mirrors 14 = .ok (.aaload, 1) := by decide +kernel
theorem d_X_mirrors_15 : decode c_X_mirrors 15 = .ok (.invokevirtual 184, 3) := by decide +kernel
theorem d_X_mirrors_18 : decode c_X_mirrors 18 = .ok (.aload_n 0, 1) := by decide +kernel
theorem d_X_mirrors_19 : decode c_X_mirrors 19 = .ok (.getfield 11, 3) := by decide +kernel
theorem d_X_mirrors_22 : decode c_X_mirrors 22 = .ok (.iload_n 1, 1) := by decide +kernel
theorem d_X_mirrors_23 : decode c_X_mirrors 23 = .ok (.aaload, 1) := by decide +kernel
theorem d_X_mirrors_24 : decode c_X_mirrors 24 = .ok (.getfield 121, 3) := by decide +kernel
theorem d_X_mirrors_27 : decode c_X_mirrors 27 = .ok (.ireturn, 1) := by decide +kernel
theorem d_X_appendLayer_0 : decode c_X_appendLayer 0 = .ok (.iconst 0, 1) := by decide +kernel
theorem d_X_appendLayer_1 : decode c_X_appendLayer 1 = .ok (.istore_n 3, 1) := by decide +kernel
theorem d_X_appendLayer_2 : decode c_X_appendLayer 2 = .ok (.iload_n 3, 1) := by decide +kernel
theorem d_X_appendLayer_3 : decode c_X_appendLayer 3 = .ok (.aload_n 1, 1) := by decide +kernel
theorem d_X_appendLayer_4 : decode c_X_appendLayer 4 = .ok (.getfield 111, 3) := by decide +kernel
theorem d_X_appendLayer_7 : decode c_X_appendLayer 7 = .ok (.if_icmp .ge 68, 3) := by decide +kernel
theorem d_X_appendLayer_10 : decode c_X_appendLayer 10 = .ok (.iconst 0, 1) := by decide +kernel
theorem d_X_appendLayer_11 : decode c_X_appendLayer 11 = .ok (.istore 4, 2) := by decide +kernel
theorem d_X_appendLayer_13 : decode c_X_appendLayer 13 = .ok (.iload 4, 2) := by decide +kernel
theorem d_X_appendLayer_15 : decode c_X_appendLayer 15 = .ok (.aload_n 1, 1) := by decide +kernel
theorem d_X_appendLayer_16 : decode c_X_appendLayer 16 = .ok (.getfield 121, 3) := by decide +kernel
theorem d_X_appendLayer_19 : decode c_X_appendLayer 19 = .ok (.if_icmp .ge 50, 3) := by decide +kernel
theorem d_X_appendLayer_22 : decode c_X_appendLayer 22 = .ok (.aload_n 0, 1) := by decide +kernel
theorem d_X_appendLayer_23 : decode c_X_appendLayer 23 = .ok (.getfield 44, 3) := by decide +kernel
theorem d_X_appendLayer_26 : decode c_X_appendLayer 26 = .ok (.getfield 211, 3) := by decide +kernel
theorem d_X_appendLayer_29 : decode c_X_appendLayer 29 = .ok (.iload 4, 2) := by decide +kernel
theorem d_X_appendLayer_31 : decode c_X_appendLayer 31 = .ok (.iaload, 1) := by decide +kernel
theorem d_X_appendLayer_32 : decode c_X_appendLayer 32 = .ok (.iload_n 2, 1) := by decide +kernel
theorem d_X_appendLayer_33 : decode c_X_appendLayer 33 = .ok (.if_icmp .ne 30, 3) := by decide +kernel
theorem d_X_appendLayer_36 : decode c_X_appendLayer 36 = .ok (.aload_n 1, 1) := by decide +kernel
theorem d_X_appendLayer_37 : decode c_X_appendLayer 37 = .ok (.getfield 175, 3) := by decide +kernel
theorem d_X_appendLayer_40 : decode c_X_appendLayer 40 = .ok (.iload 4, 2) := by decide +kernel
theorem d_X_appendLayer_42 : decode c_X_appendLayer 42 = .ok (.iaload, 1) := by decide +kernel
theorem d_X_appendLayer_43 : decode c_X_appendLayer 43 = .ok (.iload_n 3, 1) := by decide +kernel
theorem d_X_appendLayer_44 : decode c_X_appendLayer 44 = .ok (.if_icmp .ne 19, 3) := by decide +kernel
theorem d_X_appendLayer_47 : decode c_X_appendLayer 47 = .ok (.aload_n 0, 1) := by decide +kernel
theorem d_X_appendLayer_48 : decode c_X_appendLayer 48 = .ok (.getfield 16, 3) := by decide +kernel
theorem d_X_appendLayer_51 : decode c_X_appendLayer 51 = .ok (.iload_n 3, 1) := by decide +kernel
theorem d_X_appendLayer_52 : decode c_X_appendLayer 52 = .ok (.aload_n 1, 1) := by decide +kernel
theorem d_X_appendLayer_53 : decode c_X_appendLayer 53 = .ok (.getfield 178, 3) := by decide +kernel
theorem d_X_appendLayer_56 : decode c_X_appendLayer 56 = .ok (.iload 4, 2) := by decide +kernel
theorem d_X_appendLayer_58 : decode c_X_appendLayer 58 = .ok (.iaload, 1) := by decide +kernel
theorem d_X_appendLayer_59 : decode c_X_appendLayer 59 = .ok (.invokevirtual 154, 3) := by decide +kernel
theorem d_X_appendLayer_62 : decode c_X_appendLayer 62 = .ok (.pop, 1) := by decide +kernel
theorem d_X_appendLayer_63 : decode c_X_appendLayer 63 = .ok (.iinc 4 1, 3) := by decide +kernel
theorem d_X_appendLayer_66 : decode c_X_appendLayer 66 = .ok (.goto (-53), 3) := by decide +kernel
theorem d_X_appendLayer_69 : decode c_X_appendLayer 69 = .ok (.iinc 3 1, 3) := by decide +kernel
theorem d_X_appendLayer_72 : decode c_X_appendLayer 72 = .ok (.goto (-70), 3) := by decide +kernel
theorem d_X_appendLayer_75 : decode c_X_appendLayer 75 = .ok (.return_, 1) := by decide +kernel
theorem d_X_lays_0 : decode c_X_lays 0 = .ok (.iload_n 1, 1) := by decide +kernel
theorem d_X_lays_1 : decode c_X_lays 1 = .ok (.invokestatic 101, 3) := by decide +kernel
theorem d_X_lays_4 : decode c_X_lays 4 = .ok (.ifCond .ne 5, 3) := by decide +kernel
theorem d_X_lays_7 : decode c_X_lays 7 = .ok (.iconst (-1), 1) := by decide +kernel
theorem d_X_lays_8 : decode c_X_lays 8 = .ok (.ireturn, 1) := by decide +kernel
theorem d_X_lays_9 : decode c_X_lays 9 = .ok (.aload_n 0, 1) := by decide +kernel
theorem d_X_lays_10 : decode c_X_lays 10 = .ok (.getfield 11, 3) := by decide +kernel
theorem d_X_lays_13 : decode c_X_lays 13 = .ok (.iload_n 1, 1) := by decide +kernel
theorem d_X_lays_14 : decode c_X_lays 14 = .ok (.aaload, 1) := by decide +kernel
theorem d_X_lays_15 : decode c_X_lays 15 = .ok (.astore_n 2, 1) := by decide +kernel
theorem d_X_lays_16 : decode c_X_lays 16 = .ok (.aload_n 0, 1) := by decide +kernel
theorem d_X_lays_17 : decode c_X_lays 17 = .ok (.getfield 44, 3) := by decide +kernel
theorem d_X_lays_20 : decode c_X_lays 20 = .ok (.aload_n 2, 1) := by decide +kernel
theorem d_X_lays_21 : decode c_X_lays 21 = .ok (.invokevirtual 187, 3) := by decide +kernel
theorem d_X_lays_24 : decode c_X_lays 24 = .ok (.aload_n 0, 1) := by decide +kernel
theorem d_X_lays_25 : decode c_X_lays 25 = .ok (.getfield 16, 3) := by decide +kernel
theorem d_X_lays_28 : decode c_X_lays 28 = .ok (.aload_n 2, 1) := by decide +kernel
theorem d_X_lays_29 : decode c_X_lays 29 = .ok (.getfield 111, 3) := by decide +kernel
theorem d_X_lays_32 : decode c_X_lays 32 = .ok (.invokevirtual 127, 3) := by decide +kernel
theorem d_X_lays_35 : decode c_X_lays 35 = .ok (.iconst 1, 1) := by decide +kernel
theorem d_X_lays_36 : decode c_X_lays 36 = .ok (.istore_n 3, 1) := by decide +kernel
theorem d_X_lays_37 : decode c_X_lays 37 = .ok (.iload_n 3, 1) := by decide +kernel
theorem d_X_lays_38 : decode c_X_lays 38 = .ok (.aload_n 0, 1) := by decide +kernel
theorem d_X_lays_39 : decode c_X_lays 39 = .ok (.getfield 44, 3) := by decide +kernel
theorem d_X_lays_42 : decode c_X_lays 42 = .ok (.getfield 190, 3) := by decide +kernel
theorem d_X_lays_45 : decode c_X_lays 45 = .ok (.if_icmp .gt 15, 3) := by decide +kernel
theorem d_X_lays_48 : decode c_X_lays 48 = .ok (.aload_n 0, 1) := by decide +kernel
theorem d_X_lays_49 : decode c_X_lays 49 = .ok (.aload_n 2, 1) := by decide +kernel
theorem d_X_lays_50 : decode c_X_lays 50 = .ok (.iload_n 3, 1) := by decide +kernel
theorem d_X_lays_51 : decode c_X_lays 51 = .ok (.invokevirtual 193, 3) := by decide +kernel
theorem d_X_lays_54 : decode c_X_lays 54 = .ok (.iinc 3 1, 3) := by decide +kernel
theorem d_X_lays_57 : decode c_X_lays 57 = .ok (.goto (-20), 3) := by decide +kernel
theorem d_X_lays_60 : decode c_X_lays 60 = .ok (.aload_n 2, 1) := by decide +kernel
theorem d_X_lays_61 : decode c_X_lays 61 = .ok (.aload_n 0, 1) := by decide +kernel
theorem d_X_lays_62 : decode c_X_lays 62 = .ok (.getfield 16, 3) := by decide +kernel
theorem d_X_lays_65 : decode c_X_lays 65 = .ok (.invokevirtual 196, 3) := by decide +kernel
theorem d_X_lays_68 : decode c_X_lays 68 = .ok (.istore_n 3, 1) := by decide +kernel
theorem d_X_lays_69 : decode c_X_lays 69 = .ok (.aload_n 2, 1) := by decide +kernel
theorem d_X_lays_70 : decode c_X_lays 70 = .ok (.aload_n 0, 1) := by decide +kernel
theorem d_X_lays_71 : decode c_X_lays 71 = .ok (.getfield 16, 3) := by decide +kernel
theorem d_X_lays_74 : decode c_X_lays 74 = .ok (.invokevirtual 104, 3) := by decide +kernel
theorem d_X_lays_77 : decode c_X_lays 77 = .ok (.iload_n 3, 1) := by decide +kernel
theorem d_X_lays_78 : decode c_X_lays 78 = .ok (.ireturn, 1) := by decide +kernel
theorem d_X_nameLines_0 : decode c_X_nameLines 0 = .ok (.iconst 0, 1) := by decide +kernel
theorem d_X_nameLines_1 : decode c_X_nameLines 1 = .ok (.istore_n 3, 1) := by decide +kernel
theorem d_X_nameLines_2 : decode c_X_nameLines 2 = .ok (.iload_n 3, 1) := by decide +kernel
theorem d_X_nameLines_3 : decode c_X_nameLines 3 = .ok (.iload_n 1, 1) := by decide +kernel
theorem d_X_nameLines_4 : decode c_X_nameLines 4 = .ok (.if_icmp .ge 27, 3) := by decide +kernel
theorem d_X_nameLines_7 : decode c_X_nameLines 7 = .ok (.aload_n 0, 1) := by decide +kernel
theorem d_X_nameLines_8 : decode c_X_nameLines 8 = .ok (.getfield 76, 3) := by decide +kernel
theorem d_X_nameLines_11 : decode c_X_nameLines 11 = .ok (.iload_n 3, 1) := by decide +kernel
theorem d_X_nameLines_12 : decode c_X_nameLines 12 = .ok (.iload_n 3, 1) := by decide +kernel
theorem d_X_nameLines_13 : decode c_X_nameLines 13 = .ok (.iload_n 2, 1) := by decide +kernel
theorem d_X_nameLines_14 : decode c_X_nameLines 14 = .ok (.if_icmp .gt 7, 3) := by decide +kernel
theorem d_X_nameLines_17 : decode c_X_nameLines 17 = .ok (.iload_n 3, 1) := by decide +kernel
theorem d_X_nameLines_18 : decode c_X_nameLines 18 = .ok (.goto 6, 3) := by decide +kernel
theorem d_X_nameLines_21 : decode c_X_nameLines 21 = .ok (.iload_n 3, 1) := by decide +kernel
theorem d_X_nameLines_22 : decode c_X_nameLines 22 = .ok (.iconst 1, 1) := by decide +kernel
theorem d_X_nameLines_23 : decode c_X_nameLines 23 = .ok (.isub, 1) := by decide +kernel
theorem d_X_nameLines_24 : decode c_X_nameLines 24 = .ok (.iastore, 1) := by decide +kernel
theorem d_X_nameLines_25 : decode c_X_nameLines 25 = .ok (.iinc 3 1, 3) := by decide +kernel
theorem d_X_nameLines_28 : decode c_X_nameLines 28 = .ok (.goto (-26), 3) := by decide +kernel
theorem d_X_nameLines_31 : decode c_X_nameLines 31 = .ok (.return_, 1) := by decide +kernel
theorem d_X_cutAt_0 : decode c_X_cutAt 0 = .ok (.iload_n 1, 1) := by decide +kernel
theorem d_X_cutAt_1 : decode c_X_cutAt 1 = .ok (.iload_n 3, 1) := by decide +kernel
theorem d_X_cutAt_2 : decode c_X_cutAt 2 = .ok (.if_icmp .eq 33, 3) := by decide +kernel
theorem d_X_cutAt_5 : decode c_X_cutAt 5 = .ok (.iload_n 2, 1) := by decide +kernel
theorem d_X_cutAt_6 : decode c_X_cutAt 6 = .ok (.iload_n 3, 1) := by decide +kernel
theorem d_X_cutAt_7 : decode c_X_cutAt 7 = .ok (.if_icmp .eq 28, 3) := by decide +kernel
theorem d_X_cutAt_10 : decode c_X_cutAt 10 = .ok (.aload_n 0, 1) := by decide +kernel
theorem d_X_cutAt_11 : decode c_X_cutAt 11 = .ok (.getfield 23, 3) := by decide +kernel
theorem d_X_cutAt_14 : decode c_X_cutAt 14 = .ok (.aload_n 0, 1) := by decide +kernel
theorem d_X_cutAt_15 : decode c_X_cutAt 15 = .ok (.getfield 76, 3) := by decide +kernel
theorem d_X_cutAt_18 : decode c_X_cutAt 18 = .ok (.iload_n 1, 1) := by decide +kernel
theorem d_X_cutAt_19 : decode c_X_cutAt 19 = .ok (.iaload, 1) := by decide +kernel
theorem d_X_cutAt_20 : decode c_X_cutAt 20 = .ok (.aload_n 0, 1) := by decide +kernel
theorem d_X_cutAt_21 : decode c_X_cutAt 21 = .ok (.getfield 76, 3) := by decide +kernel
theorem d_X_cutAt_24 : decode c_X_cutAt 24 = .ok (.iload_n 2, 1) := by decide +kernel
theorem d_X_cutAt_25 : decode c_X_cutAt 25 = .ok (.iaload, 1) := by decide +kernel
theorem d_X_cutAt_26 : decode c_X_cutAt 26 = .ok (.aload_n 0, 1) := by decide +kernel
theorem d_X_cutAt_27 : decode c_X_cutAt 27 = .ok (.getfield 16, 3) := by decide +kernel
theorem d_X_cutAt_30 : decode c_X_cutAt 30 = .ok (.invokevirtual 344, 3) := by decide +kernel
theorem d_X_cutAt_33 : decode c_X_cutAt 33 = .ok (.iload_n 3, 1) := by decide +kernel
theorem d_X_cutAt_34 : decode c_X_cutAt 34 = .ok (.ireturn, 1) := by decide +kernel
theorem d_X_cutAt_35 : decode c_X_cutAt 35 = .ok (.iload_n 3, 1) := by decide +kernel
theorem d_X_cutAt_36 : decode c_X_cutAt 36 = .ok (.iload 4, 2) := by decide +kernel
theorem d_X_cutAt_38 : decode c_X_cutAt 38 = .ok (.ifCond .eq 7, 3) := by decide +kernel
theorem d_X_cutAt_41 : decode c_X_cutAt 41 = .ok (.iload_n 1, 1) := by decide +kernel
theorem d_X_cutAt_42 : decode c_X_cutAt 42 = .ok (.goto 4, 3) := by decide +kernel
theorem d_X_cutAt_45 : decode c_X_cutAt 45 = .ok (.iload_n 2, 1) := by decide +kernel
theorem d_X_cutAt_46 : decode c_X_cutAt 46 = .ok (.if_icmp .eq 5, 3) := by decide +kernel
theorem d_X_cutAt_49 : decode c_X_cutAt 49 = .ok (.iload_n 3, 1) := by decide +kernel
theorem d_X_cutAt_50 : decode c_X_cutAt 50 = .ok (.ireturn, 1) := by decide +kernel
theorem d_X_cutAt_51 : decode c_X_cutAt 51 = .ok (.iload 4, 2) := by decide +kernel
theorem d_X_cutAt_53 : decode c_X_cutAt 53 = .ok (.ifCond .eq 7, 3) := by decide +kernel
theorem d_X_cutAt_56 : decode c_X_cutAt 56 = .ok (.iload_n 2, 1) := by decide +kernel
theorem d_X_cutAt_57 : decode c_X_cutAt 57 = .ok (.goto 4, 3) := by decide +kernel
theorem d_X_cutAt_60 : decode c_X_cutAt 60 = .ok (.iload_n 1, 1) := by decide +kernel
theorem d_X_cutAt_61 : decode c_X_cutAt 61 = .ok (.istore 5, 2) := by decide +kernel
theorem d_X_cutAt_63 : decode c_X_cutAt 63 = .ok (.aload_n 0, 1) := by decide +kernel
theorem d_X_cutAt_64 : decode c_X_cutAt 64 = .ok (.getfield 76, 3) := by decide +kernel
theorem d_X_cutAt_67 : decode c_X_cutAt 67 = .ok (.iload_n 3, 1) := by decide +kernel
theorem d_X_cutAt_68 : decode c_X_cutAt 68 = .ok (.aload_n 0, 1) := by decide +kernel
theorem d_X_cutAt_69 : decode c_X_cutAt 69 = .ok (.getfield 76, 3) := by decide +kernel
theorem d_X_cutAt_72 : decode c_X_cutAt 72 = .ok (.iload 5, 2) := by decide +kernel
theorem d_X_cutAt_74 : decode c_X_cutAt 74 = .ok (.iaload, 1) := by decide +kernel
theorem d_X_cutAt_75 : decode c_X_cutAt 75 = .ok (.iastore, 1) := by decide +kernel
theorem d_X_cutAt_76 : decode c_X_cutAt 76 = .ok (.iload 5, 2) := by decide +kernel
theorem d_X_cutAt_78 : decode c_X_cutAt 78 = .ok (.ireturn, 1) := by decide +kernel
theorem d_X_cuts_0 : decode c_X_cuts 0 = .ok (.iload_n 1, 1) := by decide +kernel
theorem d_X_cuts_1 : decode c_X_cuts 1 = .ok (.invokestatic 101, 3) := by decide +kernel
theorem d_X_cuts_4 : decode c_X_cuts 4 = .ok (.ifCond .eq 24, 3) := by decide +kernel
theorem d_X_cuts_7 : decode c_X_cuts 7 = .ok (.iload 4, 2) := by decide +kernel
theorem d_X_cuts_9 : decode c_X_cuts 9 = .ok (.invokestatic 101, 3) := by decide +kernel
theorem d_X_cuts_12 : decode c_X_cuts 12 = .ok (.ifCond .eq 16, 3) := by decide +kernel
theorem d_X_cuts_15 : decode c_X_cuts 15 = .ok (.aload_n 0, 1) := by decide +kernel
theorem d_X_cuts_16 : decode c_X_cuts 16 = .ok (.getfield 11, 3) := by decide +kernel
theorem d_X_cuts_19 : decode c_X_cuts 19 = .ok (.iload_n 1, 1) := by decide +kernel
theorem d_X_cuts_20 : decode c_X_cuts 20 = .ok (.aaload, 1) := by decide +kernel
theorem d_X_cuts_21 : decode c_X_cuts 21 = .ok (.iload_n 2, 1) := by decide +kernel
theorem d_X_cuts_22 : decode c_X_cuts 22 = .ok (.invokevirtual 163, 3) := by decide +kernel
theorem d_X_cuts_25 : decode c_X_cuts 25 = .ok (.ifCond .ne 5, 3) := by decide +kernel
theorem d_X_cuts_28 : decode c_X_cuts 28 = .ok (.iconst (-1), 1) := by decide +kernel
theorem d_X_cuts_29 : decode c_X_cuts 29 = .ok (.ireturn, 1) := by decide +kernel
theorem d_X_cuts_30 : decode c_X_cuts 30 = .ok (.aload_n 0, 1) := by decide +kernel
theorem d_X_cuts_31 : decode c_X_cuts 31 = .ok (.getfield 11, 3) := by decide +kernel
theorem d_X_cuts_34 : decode c_X_cuts 34 = .ok (.iload_n 1, 1) := by decide +kernel
theorem d_X_cuts_35 : decode c_X_cuts 35 = .ok (.aaload, 1) := by decide +kernel
theorem d_X_cuts_36 : decode c_X_cuts 36 = .ok (.astore 5, 2) := by decide +kernel
theorem d_X_cuts_38 : decode c_X_cuts 38 = .ok (.aload 5, 2) := by decide +kernel
theorem d_X_cuts_40 : decode c_X_cuts 40 = .ok (.getfield 111, 3) := by decide +kernel
theorem d_X_cuts_43 : decode c_X_cuts 43 = .ok (.iconst 2, 1) := by decide +kernel
theorem d_X_cuts_44 : decode c_X_cuts 44 = .ok (.if_icmp .gt 6, 3) := by decide +kernel
theorem d_X_cuts_47 : decode c_X_cuts 47 = .ok (.bipush (-2), 2) := by decide +kernel
theorem d_X_cuts_49 : decode c_X_cuts 49 = .ok (.ireturn, 1) := by decide +kernel
theorem d_X_cuts_50 : decode c_X_cuts 50 = .ok (.aload_n 0, 1) := by decide +kernel
theorem d_X_cuts_51 : decode c_X_cuts 51 = .ok (.aload 5, 2) := by decide +kernel
theorem d_X_cuts_53 : decode c_X_cuts 53 = .ok (.getfield 111, 3) := by decide +kernel
theorem d_X_cuts_56 : decode c_X_cuts 56 = .ok (.iload_n 2, 1) := by decide +kernel
theorem d_X_cuts_57 : decode c_X_cuts 57 = .ok (.invokevirtual 200, 3) := by decide +kernel
theorem d_X_cuts_60 : decode c_X_cuts 60 = .ok (.aload_n 0, 1) := by decide +kernel
theorem d_X_cuts_61 : decode c_X_cuts 61 = .ok (.getfield 23, 3) := by decide +kernel
theorem d_X_cuts_64 : decode c_X_cuts 64 = .ok (.aload 5, 2) := by decide +kernel
theorem d_X_cuts_66 : decode c_X_cuts 66 = .ok (.getfield 111, 3) := by decide +kernel
theorem d_X_cuts_69 : decode c_X_cuts 69 = .ok (.iconst 1, 1) := by decide +kernel
theorem d_X_cuts_70 : decode c_X_cuts 70 = .ok (.isub, 1) := by decide +kernel
theorem d_X_cuts_71 : decode c_X_cuts 71 = .ok (.invokevirtual 204, 3) := by decide +kernel
theorem d_X_cuts_74 : decode c_X_cuts 74 = .ok (.aload_n 0, 1) := by decide +kernel
theorem d_X_cuts_75 : decode c_X_cuts 75 = .ok (.getfield 16, 3) := by decide +kernel
theorem d_X_cuts_78 : decode c_X_cuts 78 = .ok (.aload 5, 2) := by decide +kernel
theorem d_X_cuts_80 : decode c_X_cuts 80 = .ok (.getfield 111, 3) := by decide +kernel
theorem d_X_cuts_83 : decode c_X_cuts 83 = .ok (.iconst 1, 1) := by decide +kernel
theorem d_X_cuts_84 : decode c_X_cuts 84 = .ok (.isub, 1) := by decide +kernel
theorem d_X_cuts_85 : decode c_X_cuts 85 = .ok (.invokevirtual 127, 3) := by decide +kernel
theorem d_X_cuts_88 : decode c_X_cuts 88 = .ok (.iload_n 2, 1) := by decide +kernel
theorem d_X_cuts_89 : decode c_X_cuts 89 = .ok (.istore 6, 2) := by decide +kernel
theorem d_X_cuts_91 : decode c_X_cuts 91 = .ok (.iconst 0, 1) := by decide +kernel
theorem d_X_cuts_92 : decode c_X_cuts 92 = .ok (.istore 7, 2) := by decide +kernel
theorem d_X_cuts_94 : decode c_X_cuts 94 = .ok (.iload 7, 2) := by decide +kernel
theorem d_X_cuts_96 : decode c_X_cuts 96 = .ok (.aload 5, 2) := by decide +kernel
theorem d_X_cuts_98 : decode c_X_cuts 98 = .ok (.getfield 121, 3) := by decide +kernel
theorem d_X_cuts_101 : decode c_X_cuts 101 = .ok (.if_icmp .ge 34, 3) := by decide +kernel
theorem d_X_cuts_104 : decode c_X_cuts 104 = .ok (.aload_n 0, 1) := by decide +kernel
theorem d_X_cuts_105 : decode c_X_cuts 105 = .ok (.aload 5, 2) := by decide +kernel
theorem d_X_cuts_107 : decode c_X_cuts 107 = .ok (.getfield 175, 3) := by decide +kernel
theorem d_X_cuts_110 : decode c_X_cuts 110 = .ok (.iload 7, 2) := by decide +kernel
theorem d_X_cuts_112 : decode c_X_cuts 112 = .ok (.iaload, 1) := by decide +kernel
theorem d_X_cuts_113 : decode c_X_cuts 113 = .ok (.aload 5, 2) := by decide +kernel
theorem d_X_cuts_115 : decode c_X_cuts 115 = .ok (.getfield 178, 3) := by decide +kernel
theorem d_X_cuts_118 : decode c_X_cuts 118 = .ok (.iload 7, 2) := by decide +kernel
theorem d_X_cuts_120 : decode c_X_cuts 120 = .ok (.iaload, 1) := by decide +kernel
theorem d_X_cuts_121 : decode c_X_cuts 121 = .ok (.iload 6, 2) := by decide +kernel
theorem d_X_cuts_123 : decode c_X_cuts 123 = .ok (.iload_n 3, 1) := by decide +kernel
theorem d_X_cuts_124 : decode c_X_cuts 124 = .ok (.invokevirtual 207, 3) := by decide +kernel
theorem d_X_cuts_127 : decode c_X_cuts 127 = .ok (.istore 6, 2) := by decide +kernel
theorem d_X_cuts_129 : decode c_X_cuts 129 = .ok (.iinc 7 1, 3) := by decide +kernel
theorem d_X_cuts_132 : decode c_X_cuts 132 = .ok (.goto (-38), 3) := by decide +kernel
theorem d_X_cuts_135 : decode c_X_cuts 135 = .ok (.aload_n 0, 1) := by decide +kernel
theorem d_X_cuts_136 : decode c_X_cuts 136 = .ok (.getfield 11, 3) := by decide +kernel
theorem d_X_cuts_139 : decode c_X_cuts 139 = .ok (.iload 4, 2) := by decide +kernel
theorem d_X_cuts_141 : decode c_X_cuts 141 = .ok (.aaload, 1) := by decide +kernel
theorem d_X_cuts_142 : decode c_X_cuts 142 = .ok (.aload_n 0, 1) := by decide +kernel
theorem d_X_cuts_143 : decode c_X_cuts 143 = .ok (.getfield 16, 3) := by decide +kernel
theorem d_X_cuts_146 : decode c_X_cuts 146 = .ok (.invokevirtual 104, 3) := by decide +kernel
theorem d_X_cuts_149 : decode c_X_cuts 149 = .ok (.aload_n 0, 1) := by decide +kernel
theorem d_X_cuts_150 : decode c_X_cuts 150 = .ok (.getfield 37, 3) := by decide +kernel
theorem d_X_cuts_153 : decode c_X_cuts 153 = .ok (.invokevirtual 108, 3) := by decide +kernel
theorem d_X_cuts_156 : decode c_X_cuts 156 = .ok (.aload_n 0, 1) := by decide +kernel
theorem d_X_cuts_157 : decode c_X_cuts 157 = .ok (.getfield 37, 3) := by decide +kernel
theorem d_X_cuts_160 : decode c_X_cuts 160 = .ok (.iload 6, 2) := by decide +kernel
theorem d_X_cuts_162 : decode c_X_cuts 162 = .ok (.i2l, 1) := by decide +kernel
theorem d_X_cuts_163 : decode c_X_cuts 163 = .ok (.invokevirtual 118, 3) := by decide +kernel
theorem d_X_cuts_166 : decode c_X_cuts 166 = .ok (.aload_n 0, 1) := by decide +kernel
theorem d_X_cuts_167 : decode c_X_cuts 167 = .ok (.getfield 16, 3) := by decide +kernel
theorem d_X_cuts_170 : decode c_X_cuts 170 = .ok (.getfield 121, 3) := by decide +kernel
theorem d_X_cuts_173 : decode c_X_cuts 173 = .ok (.ireturn, 1) := by decide +kernel

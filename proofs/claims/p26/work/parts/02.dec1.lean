theorem dX0_init_0 : decode cX0_init 0 = .ok (.aload_n 0, 1) := by decide +kernel
theorem dX0_init_1 : decode cX0_init 1 = .ok (.invokespecial 3, 3) := by decide +kernel
theorem dX0_init_4 : decode cX0_init 4 = .ok (.aload_n 0, 1) := by decide +kernel
theorem dX0_init_5 : decode cX0_init 5 = .ok (.iconst 5, 1) := by decide +kernel
theorem dX0_init_6 : decode cX0_init 6 = .ok (.newarray .int, 2) := by decide +kernel
theorem dX0_init_8 : decode cX0_init 8 = .ok (.putfield 9, 3) := by decide +kernel
theorem dX0_init_11 : decode cX0_init 11 = .ok (.aload_n 0, 1) := by decide +kernel
theorem dX0_init_12 : decode cX0_init 12 = .ok (.iconst 0, 1) := by decide +kernel
theorem dX0_init_13 : decode cX0_init 13 = .ok (.putfield 15, 3) := by decide +kernel
theorem dX0_init_16 : decode cX0_init 16 = .ok (.aload_n 0, 1) := by decide +kernel
theorem dX0_init_17 : decode cX0_init 17 = .ok (.bipush (-4), 2) := by decide +kernel
theorem dX0_init_19 : decode cX0_init 19 = .ok (.putfield 19, 3) := by decide +kernel
theorem dX0_init_22 : decode cX0_init 22 = .ok (.aload_n 0, 1) := by decide +kernel
theorem dX0_init_23 : decode cX0_init 23 = .ok (.aload_n 1, 1) := by decide +kernel
theorem dX0_init_24 : decode cX0_init 24 = .ok (.putfield 22, 3) := by decide +kernel
theorem dX0_init_27 : decode cX0_init 27 = .ok (.aload_n 0, 1) := by decide +kernel
theorem dX0_init_28 : decode cX0_init 28 = .ok (.new 26, 3) := by decide +kernel
theorem dX0_init_31 : decode cX0_init 31 = .ok (.dup, 1) := by decide +kernel
theorem dX0_init_32 : decode cX0_init 32 = .ok (.aload_n 1, 1) := by decide +kernel
theorem dX0_init_33 : decode cX0_init 33 = .ok (.bipush 9, 2) := by decide +kernel
theorem dX0_init_35 : decode cX0_init 35 = .ok (.invokespecial 28, 3) := by decide +kernel
theorem dX0_init_38 : decode cX0_init 38 = .ok (.putfield 31, 3) := by decide +kernel
theorem dX0_init_41 : decode cX0_init 41 = .ok (.return_, 1) := by decide +kernel
theorem dX0_pass_0 : decode cX0_pass 0 = .ok (.aload_n 0, 1) := by decide +kernel
theorem dX0_pass_1 : decode cX0_pass 1 = .ok (.getfield 31, 3) := by decide +kernel
theorem dX0_pass_4 : decode cX0_pass 4 = .ok (.iload_n 1, 1) := by decide +kernel
theorem dX0_pass_5 : decode cX0_pass 5 = .ok (.iconst 1, 1) := by decide +kernel
theorem dX0_pass_6 : decode cX0_pass 6 = .ok (.iadd, 1) := by decide +kernel
theorem dX0_pass_7 : decode cX0_pass 7 = .ok (.invokevirtual 35, 3) := by decide +kernel
theorem dX0_pass_10 : decode cX0_pass 10 = .ok (.astore 4, 2) := by decide +kernel
theorem dX0_pass_12 : decode cX0_pass 12 = .ok (.aload 4, 2) := by decide +kernel
theorem dX0_pass_14 : decode cX0_pass 14 = .ok (.aload_n 0, 1) := by decide +kernel
theorem dX0_pass_15 : decode cX0_pass 15 = .ok (.getfield 31, 3) := by decide +kernel
theorem dX0_pass_18 : decode cX0_pass 18 = .ok (.iload_n 1, 1) := by decide +kernel
theorem dX0_pass_19 : decode cX0_pass 19 = .ok (.invokevirtual 35, 3) := by decide +kernel
theorem dX0_pass_22 : decode cX0_pass 22 = .ok (.invokevirtual 39, 3) := by decide +kernel
theorem dX0_pass_25 : decode cX0_pass 25 = .ok (.iload_n 2, 1) := by decide +kernel
theorem dX0_pass_26 : decode cX0_pass 26 = .ok (.bipush (-4), 2) := by decide +kernel
theorem dX0_pass_28 : decode cX0_pass 28 = .ok (.if_icmp .eq 10, 3) := by decide +kernel
theorem dX0_pass_31 : decode cX0_pass 31 = .ok (.aload 4, 2) := by decide +kernel
theorem dX0_pass_33 : decode cX0_pass 33 = .ok (.iload_n 2, 1) := by decide +kernel
theorem dX0_pass_34 : decode cX0_pass 34 = .ok (.iload_n 3, 1) := by decide +kernel
theorem dX0_pass_35 : decode cX0_pass 35 = .ok (.invokevirtual 45, 3) := by decide +kernel
theorem dX0_pass_38 : decode cX0_pass 38 = .ok (.aload 4, 2) := by decide +kernel
theorem dX0_pass_40 : decode cX0_pass 40 = .ok (.invokevirtual 49, 3) := by decide +kernel
theorem dX0_pass_43 : decode cX0_pass 43 = .ok (.aload 4, 2) := by decide +kernel
theorem dX0_pass_45 : decode cX0_pass 45 = .ok (.areturn, 1) := by decide +kernel
theorem dX0_daysToWell_0 : decode cX0_daysToWell 0 = .ok (.aload_n 0, 1) := by decide +kernel
theorem dX0_daysToWell_1 : decode cX0_daysToWell 1 = .ok (.getfield 31, 3) := by decide +kernel
theorem dX0_daysToWell_4 : decode cX0_daysToWell 4 = .ok (.iconst 0, 1) := by decide +kernel
theorem dX0_daysToWell_5 : decode cX0_daysToWell 5 = .ok (.invokevirtual 35, 3) := by decide +kernel
theorem dX0_daysToWell_8 : decode cX0_daysToWell 8 = .ok (.aload_n 1, 1) := by decide +kernel
theorem dX0_daysToWell_9 : decode cX0_daysToWell 9 = .ok (.invokevirtual 39, 3) := by decide +kernel
theorem dX0_daysToWell_12 : decode cX0_daysToWell 12 = .ok (.iconst 0, 1) := by decide +kernel
theorem dX0_daysToWell_13 : decode cX0_daysToWell 13 = .ok (.istore_n 3, 1) := by decide +kernel
theorem dX0_daysToWell_14 : decode cX0_daysToWell 14 = .ok (.iload_n 3, 1) := by decide +kernel
theorem dX0_daysToWell_15 : decode cX0_daysToWell 15 = .ok (.iconst 5, 1) := by decide +kernel
theorem dX0_daysToWell_16 : decode cX0_daysToWell 16 = .ok (.if_icmp .gt 22, 3) := by decide +kernel
theorem dX0_daysToWell_19 : decode cX0_daysToWell 19 = .ok (.aload_n 0, 1) := by decide +kernel
theorem dX0_daysToWell_20 : decode cX0_daysToWell 20 = .ok (.iconst 0, 1) := by decide +kernel
theorem dX0_daysToWell_21 : decode cX0_daysToWell 21 = .ok (.iload_n 3, 1) := by decide +kernel
theorem dX0_daysToWell_22 : decode cX0_daysToWell 22 = .ok (.iload_n 2, 1) := by decide +kernel
theorem dX0_daysToWell_23 : decode cX0_daysToWell 23 = .ok (.iconst 0, 1) := by decide +kernel
theorem dX0_daysToWell_24 : decode cX0_daysToWell 24 = .ok (.invokevirtual 52, 3) := by decide +kernel
theorem dX0_daysToWell_27 : decode cX0_daysToWell 27 = .ok (.ifCond .eq 5, 3) := by decide +kernel
theorem dX0_daysToWell_30 : decode cX0_daysToWell 30 = .ok (.iload_n 3, 1) := by decide +kernel
theorem dX0_daysToWell_31 : decode cX0_daysToWell 31 = .ok (.ireturn, 1) := by decide +kernel
theorem dX0_daysToWell_32 : decode cX0_daysToWell 32 = .ok (.iinc 3 1, 3) := by decide +kernel
theorem dX0_daysToWell_35 : decode cX0_daysToWell 35 = .ok (.goto (-21), 3) := by decide +kernel
theorem dX0_daysToWell_38 : decode cX0_daysToWell 38 = .ok (.bipush (-4), 2) := by decide +kernel
theorem dX0_daysToWell_40 : decode cX0_daysToWell 40 = .ok (.ireturn, 1) := by decide +kernel
theorem dX0_comesToWell_0 : decode cX0_comesToWell 0 = .ok (.aload_n 0, 1) := by decide +kernel
theorem dX0_comesToWell_1 : decode cX0_comesToWell 1 = .ok (.getfield 31, 3) := by decide +kernel
theorem dX0_comesToWell_4 : decode cX0_comesToWell 4 = .ok (.iload_n 1, 1) := by decide +kernel
theorem dX0_comesToWell_5 : decode cX0_comesToWell 5 = .ok (.invokevirtual 35, 3) := by decide +kernel
theorem dX0_comesToWell_8 : decode cX0_comesToWell 8 = .ok (.astore 5, 2) := by decide +kernel
theorem dX0_comesToWell_10 : decode cX0_comesToWell 10 = .ok (.iload_n 1, 1) := by decide +kernel
theorem dX0_comesToWell_11 : decode cX0_comesToWell 11 = .ok (.iload_n 2, 1) := by decide +kernel
theorem dX0_comesToWell_12 : decode cX0_comesToWell 12 = .ok (.if_icmp .ge 8, 3) := by decide +kernel
theorem dX0_comesToWell_15 : decode cX0_comesToWell 15 = .ok (.iload_n 1, 1) := by decide +kernel
theorem dX0_comesToWell_16 : decode cX0_comesToWell 16 = .ok (.iconst 5, 1) := by decide +kernel
theorem dX0_comesToWell_17 : decode cX0_comesToWell 17 = .ok (.if_icmp .lt 16, 3) := by decide +kernel
theorem dX0_comesToWell_20 : decode cX0_comesToWell 20 = .ok (.aload_n 0, 1) := by decide +kernel
theorem dX0_comesToWell_21 : decode cX0_comesToWell 21 = .ok (.iload 4, 2) := by decide +kernel
theorem dX0_comesToWell_23 : decode cX0_comesToWell 23 = .ok (.putfield 15, 3) := by decide +kernel
theorem dX0_comesToWell_26 : decode cX0_comesToWell 26 = .ok (.aload 5, 2) := by decide +kernel
theorem dX0_comesToWell_28 : decode cX0_comesToWell 28 = .ok (.iload_n 3, 1) := by decide +kernel
theorem dX0_comesToWell_29 : decode cX0_comesToWell 29 = .ok (.invokevirtual 56, 3) := by decide +kernel
theorem dX0_comesToWell_32 : decode cX0_comesToWell 32 = .ok (.ireturn, 1) := by decide +kernel
theorem dX0_comesToWell_33 : decode cX0_comesToWell 33 = .ok (.aload 5, 2) := by decide +kernel
theorem dX0_comesToWell_35 : decode cX0_comesToWell 35 = .ok (.invokevirtual 60, 3) := by decide +kernel
theorem dX0_comesToWell_38 : decode cX0_comesToWell 38 = .ok (.ifCond .eq 5, 3) := by decide +kernel
theorem dX0_comesToWell_41 : decode cX0_comesToWell 41 = .ok (.iconst 0, 1) := by decide +kernel
theorem dX0_comesToWell_42 : decode cX0_comesToWell 42 = .ok (.ireturn, 1) := by decide +kernel
theorem dX0_comesToWell_43 : decode cX0_comesToWell 43 = .ok (.aload 5, 2) := by decide +kernel
theorem dX0_comesToWell_45 : decode cX0_comesToWell 45 = .ok (.iload_n 3, 1) := by decide +kernel
theorem dX0_comesToWell_46 : decode cX0_comesToWell 46 = .ok (.invokevirtual 64, 3) := by decide +kernel
theorem dX0_comesToWell_49 : decode cX0_comesToWell 49 = .ok (.istore 6, 2) := by decide +kernel
theorem dX0_comesToWell_51 : decode cX0_comesToWell 51 = .ok (.iload_n 1, 1) := by decide +kernel
theorem dX0_comesToWell_52 : decode cX0_comesToWell 52 = .ok (.iload_n 2, 1) := by decide +kernel
theorem dX0_comesToWell_53 : decode cX0_comesToWell 53 = .ok (.iconst 1, 1) := by decide +kernel
theorem dX0_comesToWell_54 : decode cX0_comesToWell 54 = .ok (.isub, 1) := by decide +kernel
theorem dX0_comesToWell_55 : decode cX0_comesToWell 55 = .ok (.if_icmp .ne 7, 3) := by decide +kernel
theorem dX0_comesToWell_58 : decode cX0_comesToWell 58 = .ok (.iconst 1, 1) := by decide +kernel
theorem dX0_comesToWell_59 : decode cX0_comesToWell 59 = .ok (.goto 4, 3) := by decide +kernel
theorem dX0_comesToWell_62 : decode cX0_comesToWell 62 = .ok (.iconst 0, 1) := by decide +kernel
theorem dX0_comesToWell_63 : decode cX0_comesToWell 63 = .ok (.istore 7, 2) := by decide +kernel
theorem dX0_comesToWell_65 : decode cX0_comesToWell 65 = .ok (.aload 5, 2) := by decide +kernel
theorem dX0_comesToWell_67 : decode cX0_comesToWell 67 = .ok (.invokevirtual 68, 3) := by decide +kernel
theorem dX0_comesToWell_70 : decode cX0_comesToWell 70 = .ok (.iload_n 3, 1) := by decide +kernel
theorem dX0_comesToWell_71 : decode cX0_comesToWell 71 = .ok (.if_icmp .eq 46, 3) := by decide +kernel
theorem dX0_comesToWell_74 : decode cX0_comesToWell 74 = .ok (.iload 7, 2) := by decide +kernel
theorem dX0_comesToWell_76 : decode cX0_comesToWell 76 = .ok (.ifCond .ne 39, 3) := by decide +kernel
theorem dX0_comesToWell_79 : decode cX0_comesToWell 79 = .ok (.aload_n 0, 1) := by decide +kernel
theorem dX0_comesToWell_80 : decode cX0_comesToWell 80 = .ok (.iload_n 1, 1) := by decide +kernel
theorem dX0_comesToWell_81 : decode cX0_comesToWell 81 = .ok (.bipush (-4), 2) := by decide +kernel
theorem dX0_comesToWell_83 : decode cX0_comesToWell 83 = .ok (.bipush (-4), 2) := by decide +kernel
theorem dX0_comesToWell_85 : decode cX0_comesToWell 85 = .ok (.invokevirtual 71, 3) := by decide +kernel
theorem dX0_comesToWell_88 : decode cX0_comesToWell 88 = .ok (.iload_n 3, 1) := by decide +kernel
theorem dX0_comesToWell_89 : decode cX0_comesToWell 89 = .ok (.invokevirtual 64, 3) := by decide +kernel
theorem dX0_comesToWell_92 : decode cX0_comesToWell 92 = .ok (.iload 6, 2) := by decide +kernel
theorem dX0_comesToWell_94 : decode cX0_comesToWell 94 = .ok (.if_icmp .ne 21, 3) := by decide +kernel
theorem dX0_comesToWell_97 : decode cX0_comesToWell 97 = .ok (.aload_n 0, 1) := by decide +kernel
theorem dX0_comesToWell_98 : decode cX0_comesToWell 98 = .ok (.iload_n 1, 1) := by decide +kernel
theorem dX0_comesToWell_99 : decode cX0_comesToWell 99 = .ok (.iconst 1, 1) := by decide +kernel
theorem dX0_comesToWell_100 : decode cX0_comesToWell 100 = .ok (.iadd, 1) := by decide +kernel
theorem dX0_comesToWell_101 : decode cX0_comesToWell 101 = .ok (.iload_n 2, 1) := by decide +kernel
theorem dX0_comesToWell_102 : decode cX0_comesToWell 102 = .ok (.iload_n 3, 1) := by decide +kernel
theorem dX0_comesToWell_103 : decode cX0_comesToWell 103 = .ok (.iload 4, 2) := by decide +kernel
theorem dX0_comesToWell_105 : decode cX0_comesToWell 105 = .ok (.invokevirtual 52, 3) := by decide +kernel
theorem dX0_comesToWell_108 : decode cX0_comesToWell 108 = .ok (.ifCond .eq 7, 3) := by decide +kernel
theorem dX0_comesToWell_111 : decode cX0_comesToWell 111 = .ok (.iconst 1, 1) := by decide +kernel
theorem dX0_comesToWell_112 : decode cX0_comesToWell 112 = .ok (.goto 4, 3) := by decide +kernel
theorem dX0_comesToWell_115 : decode cX0_comesToWell 115 = .ok (.iconst 0, 1) := by decide +kernel
theorem dX0_comesToWell_116 : decode cX0_comesToWell 116 = .ok (.ireturn, 1) := by decide +kernel
theorem dX0_comesToWell_117 : decode cX0_comesToWell 117 = .ok (.iconst 0, 1) := by decide +kernel
theorem dX0_comesToWell_118 : decode cX0_comesToWell 118 = .ok (.istore 8, 2) := by decide +kernel
theorem dX0_comesToWell_120 : decode cX0_comesToWell 120 = .ok (.iload 8, 2) := by decide +kernel
theorem dX0_comesToWell_122 : decode cX0_comesToWell 122 = .ok (.bipush 10, 2) := by decide +kernel
theorem dX0_comesToWell_124 : decode cX0_comesToWell 124 = .ok (.aload_n 0, 1) := by decide +kernel
theorem dX0_comesToWell_125 : decode cX0_comesToWell 125 = .ok (.getfield 22, 3) := by decide +kernel
theorem dX0_comesToWell_128 : decode cX0_comesToWell 128 = .ok (.getfield 75, 3) := by decide +kernel
theorem dX0_comesToWell_131 : decode cX0_comesToWell 131 = .ok (.imul, 1) := by decide +kernel
theorem dX0_comesToWell_132 : decode cX0_comesToWell 132 = .ok (.if_icmp .ge 118, 3) := by decide +kernel
theorem dX0_comesToWell_135 : decode cX0_comesToWell 135 = .ok (.iload 8, 2) := by decide +kernel
theorem dX0_comesToWell_137 : decode cX0_comesToWell 137 = .ok (.bipush 99, 2) := by decide +kernel
theorem dX0_comesToWell_139 : decode cX0_comesToWell 139 = .ok (.if_icmp .ge 111, 3) := by decide +kernel
theorem dX0_comesToWell_142 : decode cX0_comesToWell 142 = .ok (.iload 8, 2) := by decide +kernel
theorem dX0_comesToWell_144 : decode cX0_comesToWell 144 = .ok (.bipush 10, 2) := by decide +kernel
theorem dX0_comesToWell_146 : decode cX0_comesToWell 146 = .ok (.idiv, 1) := by decide +kernel
theorem dX0_comesToWell_147 : decode cX0_comesToWell 147 = .ok (.istore 9, 2) := by decide +kernel
theorem dX0_comesToWell_149 : decode cX0_comesToWell 149 = .ok (.aload 5, 2) := by decide +kernel
theorem dX0_comesToWell_151 : decode cX0_comesToWell 151 = .ok (.iload 9, 2) := by decide +kernel
theorem dX0_comesToWell_153 : decode cX0_comesToWell 153 = .ok (.iload 8, 2) := by decide +kernel
theorem dX0_comesToWell_155 : decode cX0_comesToWell 155 = .ok (.bipush 10, 2) := by decide +kernel
theorem dX0_comesToWell_157 : decode cX0_comesToWell 157 = .ok (.irem, 1) := by decide +kernel
theorem dX0_comesToWell_158 : decode cX0_comesToWell 158 = .ok (.invokevirtual 80, 3) := by decide +kernel
theorem dX0_comesToWell_161 : decode cX0_comesToWell 161 = .ok (.istore 10, 2) := by decide +kernel
theorem dX0_comesToWell_163 : decode cX0_comesToWell 163 = .ok (.iload 10, 2) := by decide +kernel
theorem dX0_comesToWell_165 : decode cX0_comesToWell 165 = .ok (.bipush (-4), 2) := by decide +kernel
theorem dX0_comesToWell_167 : decode cX0_comesToWell 167 = .ok (.if_icmp .eq 77, 3) := by decide +kernel
theorem dX0_comesToWell_170 : decode cX0_comesToWell 170 = .ok (.iload 7, 2) := by decide +kernel
theorem dX0_comesToWell_172 : decode cX0_comesToWell 172 = .ok (.ifCond .eq 28, 3) := by decide +kernel
theorem dX0_comesToWell_175 : decode cX0_comesToWell 175 = .ok (.iload 10, 2) := by decide +kernel
theorem dX0_comesToWell_177 : decode cX0_comesToWell 177 = .ok (.aload_n 0, 1) := by decide +kernel
theorem dX0_comesToWell_178 : decode cX0_comesToWell 178 = .ok (.getfield 22, 3) := by decide +kernel
theorem dX0_comesToWell_181 : decode cX0_comesToWell 181 = .ok (.getfield 84, 3) := by decide +kernel
theorem dX0_comesToWell_184 : decode cX0_comesToWell 184 = .ok (.if_icmp .ne 60, 3) := by decide +kernel
theorem dX0_comesToWell_187 : decode cX0_comesToWell 187 = .ok (.aload 5, 2) := by decide +kernel
theorem dX0_comesToWell_189 : decode cX0_comesToWell 189 = .ok (.iload 9, 2) := by decide +kernel
theorem dX0_comesToWell_191 : decode cX0_comesToWell 191 = .ok (.invokevirtual 87, 3) := by decide +kernel
theorem dX0_comesToWell_194 : decode cX0_comesToWell 194 = .ok (.ifCond .eq 6, 3) := by decide +kernel
theorem dX0_comesToWell_197 : decode cX0_comesToWell 197 = .ok (.goto 47, 3) := by decide +kernel
theorem dX0_comesToWell_200 : decode cX0_comesToWell 200 = .ok (.aload_n 0, 1) := by decide +kernel
theorem dX0_comesToWell_201 : decode cX0_comesToWell 201 = .ok (.iload_n 1, 1) := by decide +kernel
theorem dX0_comesToWell_202 : decode cX0_comesToWell 202 = .ok (.iload 9, 2) := by decide +kernel
theorem dX0_comesToWell_204 : decode cX0_comesToWell 204 = .ok (.iload 10, 2) := by decide +kernel
theorem dX0_comesToWell_206 : decode cX0_comesToWell 206 = .ok (.invokevirtual 71, 3) := by decide +kernel
theorem dX0_comesToWell_209 : decode cX0_comesToWell 209 = .ok (.iload_n 3, 1) := by decide +kernel
theorem dX0_comesToWell_210 : decode cX0_comesToWell 210 = .ok (.invokevirtual 64, 3) := by decide +kernel
theorem dX0_comesToWell_213 : decode cX0_comesToWell 213 = .ok (.iload 6, 2) := by decide +kernel
theorem dX0_comesToWell_215 : decode cX0_comesToWell 215 = .ok (.if_icmp .ne 29, 3) := by decide +kernel
theorem dX0_comesToWell_218 : decode cX0_comesToWell 218 = .ok (.aload_n 0, 1) := by decide +kernel
theorem dX0_comesToWell_219 : decode cX0_comesToWell 219 = .ok (.iload_n 1, 1) := by decide +kernel
theorem dX0_comesToWell_220 : decode cX0_comesToWell 220 = .ok (.iconst 1, 1) := by decide +kernel
theorem dX0_comesToWell_221 : decode cX0_comesToWell 221 = .ok (.iadd, 1) := by decide +kernel
theorem dX0_comesToWell_222 : decode cX0_comesToWell 222 = .ok (.iload_n 2, 1) := by decide +kernel
theorem dX0_comesToWell_223 : decode cX0_comesToWell 223 = .ok (.iload_n 3, 1) := by decide +kernel
theorem dX0_comesToWell_224 : decode cX0_comesToWell 224 = .ok (.iload 4, 2) := by decide +kernel
theorem dX0_comesToWell_226 : decode cX0_comesToWell 226 = .ok (.iconst 1, 1) := by decide +kernel
theorem dX0_comesToWell_227 : decode cX0_comesToWell 227 = .ok (.iadd, 1) := by decide +kernel
theorem dX0_comesToWell_228 : decode cX0_comesToWell 228 = .ok (.invokevirtual 52, 3) := by decide +kernel
theorem dX0_comesToWell_231 : decode cX0_comesToWell 231 = .ok (.ifCond .eq 13, 3) := by decide +kernel
theorem dX0_comesToWell_234 : decode cX0_comesToWell 234 = .ok (.aload_n 0, 1) := by decide +kernel
theorem dX0_comesToWell_235 : decode cX0_comesToWell 235 = .ok (.iload 4, 2) := by decide +kernel
theorem dX0_comesToWell_237 : decode cX0_comesToWell 237 = .ok (.iload 8, 2) := by decide +kernel
theorem dX0_comesToWell_239 : decode cX0_comesToWell 239 = .ok (.invokevirtual 90, 3) := by decide +kernel
theorem dX0_comesToWell_242 : decode cX0_comesToWell 242 = .ok (.iconst 1, 1) := by decide +kernel
theorem dX0_comesToWell_243 : decode cX0_comesToWell 243 = .ok (.ireturn, 1) := by decide +kernel
theorem dX0_comesToWell_244 : decode cX0_comesToWell 244 = .ok (.iinc 8 1, 3) := by decide +kernel
theorem dX0_comesToWell_247 : decode cX0_comesToWell 247 = .ok (.goto (-127), 3) := by decide +kernel
theorem dX0_comesToWell_250 : decode cX0_comesToWell 250 = .ok (.iload 7, 2) := by decide +kernel
theorem dX0_comesToWell_252 : decode cX0_comesToWell 252 = .ok (.ifCond .ne 47, 3) := by decide +kernel
theorem dX0_comesToWell_255 : decode cX0_comesToWell 255 = .ok (.aload_n 0, 1) := by decide +kernel
theorem dX0_comesToWell_256 : decode cX0_comesToWell 256 = .ok (.iload_n 1, 1) := by decide +kernel
theorem dX0_comesToWell_257 : decode cX0_comesToWell 257 = .ok (.bipush (-4), 2) := by decide +kernel
theorem dX0_comesToWell_259 : decode cX0_comesToWell 259 = .ok (.bipush (-4), 2) := by decide +kernel
theorem dX0_comesToWell_261 : decode cX0_comesToWell 261 = .ok (.invokevirtual 71, 3) := by decide +kernel
theorem dX0_comesToWell_264 : decode cX0_comesToWell 264 = .ok (.iload_n 3, 1) := by decide +kernel
theorem dX0_comesToWell_265 : decode cX0_comesToWell 265 = .ok (.invokevirtual 64, 3) := by decide +kernel
theorem dX0_comesToWell_268 : decode cX0_comesToWell 268 = .ok (.iload 6, 2) := by decide +kernel
theorem dX0_comesToWell_270 : decode cX0_comesToWell 270 = .ok (.if_icmp .ne 29, 3) := by decide +kernel
theorem dX0_comesToWell_273 : decode cX0_comesToWell 273 = .ok (.aload_n 0, 1) := by decide +kernel
theorem dX0_comesToWell_274 : decode cX0_comesToWell 274 = .ok (.iload_n 1, 1) := by decide +kernel
theorem dX0_comesToWell_275 : decode cX0_comesToWell 275 = .ok (.iconst 1, 1) := by decide +kernel
theorem dX0_comesToWell_276 : decode cX0_comesToWell 276 = .ok (.iadd, 1) := by decide +kernel
theorem dX0_comesToWell_277 : decode cX0_comesToWell 277 = .ok (.iload_n 2, 1) := by decide +kernel
theorem dX0_comesToWell_278 : decode cX0_comesToWell 278 = .ok (.iload_n 3, 1) := by decide +kernel
theorem dX0_comesToWell_279 : decode cX0_comesToWell 279 = .ok (.iload 4, 2) := by decide +kernel
theorem dX0_comesToWell_281 : decode cX0_comesToWell 281 = .ok (.iconst 1, 1) := by decide +kernel
theorem dX0_comesToWell_282 : decode cX0_comesToWell 282 = .ok (.iadd, 1) := by decide +kernel
theorem dX0_comesToWell_283 : decode cX0_comesToWell 283 = .ok (.invokevirtual 52, 3) := by decide +kernel
theorem dX0_comesToWell_286 : decode cX0_comesToWell 286 = .ok (.ifCond .eq 13, 3) := by decide +kernel
theorem dX0_comesToWell_289 : decode cX0_comesToWell 289 = .ok (.aload_n 0, 1) := by decide +kernel
theorem dX0_comesToWell_290 : decode cX0_comesToWell 290 = .ok (.iload 4, 2) := by decide +kernel
theorem dX0_comesToWell_292 : decode cX0_comesToWell 292 = .ok (.bipush 99, 2) := by decide +kernel
theorem dX0_comesToWell_294 : decode cX0_comesToWell 294 = .ok (.invokevirtual 90, 3) := by decide +kernel
theorem dX0_comesToWell_297 : decode cX0_comesToWell 297 = .ok (.iconst 1, 1) := by decide +kernel
theorem dX0_comesToWell_298 : decode cX0_comesToWell 298 = .ok (.ireturn, 1) := by decide +kernel
theorem dX0_comesToWell_299 : decode cX0_comesToWell 299 = .ok (.iconst 0, 1) := by decide +kernel
theorem dX0_comesToWell_300 : decode cX0_comesToWell 300 = .ok (.ireturn, 1) := by decide +kernel
theorem dX0_note_0 : decode cX0_note 0 = .ok (.iload_n 1, 1) := by decide +kernel
theorem dX0_note_1 : decode cX0_note 1 = .ok (.ifCond .lt 19, 3) := by decide +kernel
theorem dX0_note_4 : decode cX0_note 4 = .ok (.iload_n 1, 1) := by decide +kernel
theorem dX0_note_5 : decode cX0_note 5 = .ok (.aload_n 0, 1) := by decide +kernel
theorem dX0_note_6 : decode cX0_note 6 = .ok (.getfield 9, 3) := by decide +kernel
theorem dX0_note_9 : decode cX0_note 9 = .ok (.arraylength, 1) := by decide +kernel
theorem dX0_note_10 : decode cX0_note 10 = .ok (.if_icmp .ge 10, 3) := by decide +kernel
theorem dX0_note_13 : decode cX0_note 13 = .ok (.aload_n 0, 1) := by decide +kernel
theorem dX0_note_14 : decode cX0_note 14 = .ok (.getfield 9, 3) := by decide +kernel
theorem dX0_note_17 : decode cX0_note 17 = .ok (.iload_n 1, 1) := by decide +kernel
theorem dX0_note_18 : decode cX0_note 18 = .ok (.iload_n 2, 1) := by decide +kernel
theorem dX0_note_19 : decode cX0_note 19 = .ok (.iastore, 1) := by decide +kernel
theorem dX0_note_20 : decode cX0_note 20 = .ok (.return_, 1) := by decide +kernel
theorem dX0_onOwnDay_0 : decode cX0_onOwnDay 0 = .ok (.iload_n 1, 1) := by decide +kernel
theorem dX0_onOwnDay_1 : decode cX0_onOwnDay 1 = .ok (.ifCond .lt 29, 3) := by decide +kernel
theorem dX0_onOwnDay_4 : decode cX0_onOwnDay 4 = .ok (.iload_n 1, 1) := by decide +kernel
theorem dX0_onOwnDay_5 : decode cX0_onOwnDay 5 = .ok (.aload_n 0, 1) := by decide +kernel
theorem dX0_onOwnDay_6 : decode cX0_onOwnDay 6 = .ok (.getfield 15, 3) := by decide +kernel
theorem dX0_onOwnDay_9 : decode cX0_onOwnDay 9 = .ok (.if_icmp .ge 21, 3) := by decide +kernel
theorem dX0_onOwnDay_12 : decode cX0_onOwnDay 12 = .ok (.iload_n 1, 1) := by decide +kernel
theorem dX0_onOwnDay_13 : decode cX0_onOwnDay 13 = .ok (.aload_n 0, 1) := by decide +kernel
theorem dX0_onOwnDay_14 : decode cX0_onOwnDay 14 = .ok (.getfield 9, 3) := by decide +kernel
theorem dX0_onOwnDay_17 : decode cX0_onOwnDay 17 = .ok (.arraylength, 1) := by decide +kernel
theorem dX0_onOwnDay_18 : decode cX0_onOwnDay 18 = .ok (.if_icmp .ge 12, 3) := by decide +kernel
theorem dX0_onOwnDay_21 : decode cX0_onOwnDay 21 = .ok (.aload_n 0, 1) := by decide +kernel
theorem dX0_onOwnDay_22 : decode cX0_onOwnDay 22 = .ok (.getfield 9, 3) := by decide +kernel
theorem dX0_onOwnDay_25 : decode cX0_onOwnDay 25 = .ok (.iload_n 1, 1) := by decide +kernel
theorem dX0_onOwnDay_26 : decode cX0_onOwnDay 26 = .ok (.iaload, 1) := by decide +kernel
theorem dX0_onOwnDay_27 : decode cX0_onOwnDay 27 = .ok (.goto 5, 3) := by decide +kernel
theorem dX0_onOwnDay_30 : decode cX0_onOwnDay 30 = .ok (.bipush (-4), 2) := by decide +kernel
theorem dX0_onOwnDay_32 : decode cX0_onOwnDay 32 = .ok (.ireturn, 1) := by decide +kernel
theorem dX0_worthBehind_0 : decode cX0_worthBehind 0 = .ok (.aload_n 0, 1) := by decide +kernel
theorem dX0_worthBehind_1 : decode cX0_worthBehind 1 = .ok (.getfield 31, 3) := by decide +kernel
theorem dX0_worthBehind_4 : decode cX0_worthBehind 4 = .ok (.iconst 0, 1) := by decide +kernel
theorem dX0_worthBehind_5 : decode cX0_worthBehind 5 = .ok (.invokevirtual 35, 3) := by decide +kernel
theorem dX0_worthBehind_8 : decode cX0_worthBehind 8 = .ok (.aload_n 1, 1) := by decide +kernel
theorem dX0_worthBehind_9 : decode cX0_worthBehind 9 = .ok (.invokevirtual 39, 3) := by decide +kernel
theorem dX0_worthBehind_12 : decode cX0_worthBehind 12 = .ok (.aload_n 0, 1) := by decide +kernel
theorem dX0_worthBehind_13 : decode cX0_worthBehind 13 = .ok (.iconst 0, 1) := by decide +kernel
theorem dX0_worthBehind_14 : decode cX0_worthBehind 14 = .ok (.iload_n 2, 1) := by decide +kernel
theorem dX0_worthBehind_15 : decode cX0_worthBehind 15 = .ok (.invokevirtual 93, 3) := by decide +kernel
theorem dX0_worthBehind_18 : decode cX0_worthBehind 18 = .ok (.ireturn, 1) := by decide +kernel
theorem dX0_worthFrom_0 : decode cX0_worthFrom 0 = .ok (.aload_n 0, 1) := by decide +kernel
theorem dX0_worthFrom_1 : decode cX0_worthFrom 1 = .ok (.getfield 31, 3) := by decide +kernel
theorem dX0_worthFrom_4 : decode cX0_worthFrom 4 = .ok (.iload_n 1, 1) := by decide +kernel
theorem dX0_worthFrom_5 : decode cX0_worthFrom 5 = .ok (.invokevirtual 35, 3) := by decide +kernel
theorem dX0_worthFrom_8 : decode cX0_worthFrom 8 = .ok (.astore_n 3, 1) := by decide +kernel
theorem dX0_worthFrom_9 : decode cX0_worthFrom 9 = .ok (.iload_n 1, 1) := by decide +kernel
theorem dX0_worthFrom_10 : decode cX0_worthFrom 10 = .ok (.iload_n 2, 1) := by decide +kernel
theorem dX0_worthFrom_11 : decode cX0_worthFrom 11 = .ok (.if_icmp .ge 15, 3) := by decide +kernel
theorem dX0_worthFrom_14 : decode cX0_worthFrom 14 = .ok (.iload_n 1, 1) := by decide +kernel
theorem dX0_worthFrom_15 : decode cX0_worthFrom 15 = .ok (.iconst 3, 1) := by decide +kernel
theorem dX0_worthFrom_16 : decode cX0_worthFrom 16 = .ok (.if_icmp .ge 10, 3) := by decide +kernel
theorem dX0_worthFrom_19 : decode cX0_worthFrom 19 = .ok (.aload_n 3, 1) := by decide +kernel
theorem dX0_worthFrom_20 : decode cX0_worthFrom 20 = .ok (.invokevirtual 60, 3) := by decide +kernel
theorem dX0_worthFrom_23 : decode cX0_worthFrom 23 = .ok (.ifCond .eq 8, 3) := by decide +kernel
theorem dX0_worthFrom_26 : decode cX0_worthFrom 26 = .ok (.aload_n 3, 1) := by decide +kernel
theorem dX0_worthFrom_27 : decode cX0_worthFrom 27 = .ok (.invokevirtual 96, 3) := by decide +kernel
theorem dX0_worthFrom_30 : decode cX0_worthFrom 30 = .ok (.ireturn, 1) := by decide +kernel
theorem dX0_worthFrom_31 : decode cX0_worthFrom 31 = .ok (.aload_n 3, 1) := by decide +kernel
theorem dX0_worthFrom_32 : decode cX0_worthFrom 32 = .ok (.invokevirtual 68, 3) := by decide +kernel
theorem dX0_worthFrom_35 : decode cX0_worthFrom 35 = .ok (.ifCond .ne 7, 3) := by decide +kernel
theorem dX0_worthFrom_38 : decode cX0_worthFrom 38 = .ok (.iconst 1, 1) := by decide +kernel
theorem dX0_worthFrom_39 : decode cX0_worthFrom 39 = .ok (.goto 4, 3) := by decide +kernel
theorem dX0_worthFrom_42 : decode cX0_worthFrom 42 = .ok (.iconst 0, 1) := by decide +kernel
theorem dX0_worthFrom_43 : decode cX0_worthFrom 43 = .ok (.istore 4, 2) := by decide +kernel
theorem dX0_worthFrom_45 : decode cX0_worthFrom 45 = .ok (.bipush (-4), 2) := by decide +kernel
theorem dX0_worthFrom_47 : decode cX0_worthFrom 47 = .ok (.istore 5, 2) := by decide +kernel
theorem dX0_worthFrom_49 : decode cX0_worthFrom 49 = .ok (.iconst 0, 1) := by decide +kernel
theorem dX0_worthFrom_50 : decode cX0_worthFrom 50 = .ok (.istore 6, 2) := by decide +kernel
theorem dX0_worthFrom_52 : decode cX0_worthFrom 52 = .ok (.iconst 0, 1) := by decide +kernel
theorem dX0_worthFrom_53 : decode cX0_worthFrom 53 = .ok (.istore 7, 2) := by decide +kernel
theorem dX0_worthFrom_55 : decode cX0_worthFrom 55 = .ok (.iload 7, 2) := by decide +kernel
theorem dX0_worthFrom_57 : decode cX0_worthFrom 57 = .ok (.bipush 99, 2) := by decide +kernel
theorem dX0_worthFrom_59 : decode cX0_worthFrom 59 = .ok (.if_icmp .gt 126, 3) := by decide +kernel
theorem dX0_worthFrom_62 : decode cX0_worthFrom 62 = .ok (.iload 7, 2) := by decide +kernel
theorem dX0_worthFrom_64 : decode cX0_worthFrom 64 = .ok (.bipush 99, 2) := by decide +kernel
theorem dX0_worthFrom_66 : decode cX0_worthFrom 66 = .ok (.if_icmp .ne 8, 3) := by decide +kernel
theorem dX0_worthFrom_69 : decode cX0_worthFrom 69 = .ok (.bipush (-4), 2) := by decide +kernel
theorem dX0_worthFrom_71 : decode cX0_worthFrom 71 = .ok (.goto 17, 3) := by decide +kernel
theorem dX0_worthFrom_74 : decode cX0_worthFrom 74 = .ok (.aload_n 3, 1) := by decide +kernel
theorem dX0_worthFrom_75 : decode cX0_worthFrom 75 = .ok (.iload 7, 2) := by decide +kernel
theorem dX0_worthFrom_77 : decode cX0_worthFrom 77 = .ok (.bipush 10, 2) := by decide +kernel
theorem dX0_worthFrom_79 : decode cX0_worthFrom 79 = .ok (.idiv, 1) := by decide +kernel
theorem dX0_worthFrom_80 : decode cX0_worthFrom 80 = .ok (.iload 7, 2) := by decide +kernel
theorem dX0_worthFrom_82 : decode cX0_worthFrom 82 = .ok (.bipush 10, 2) := by decide +kernel
theorem dX0_worthFrom_84 : decode cX0_worthFrom 84 = .ok (.irem, 1) := by decide +kernel
theorem dX0_worthFrom_85 : decode cX0_worthFrom 85 = .ok (.invokevirtual 80, 3) := by decide +kernel
theorem dX0_worthFrom_88 : decode cX0_worthFrom 88 = .ok (.istore 8, 2) := by decide +kernel
theorem dX0_worthFrom_90 : decode cX0_worthFrom 90 = .ok (.iload 8, 2) := by decide +kernel
theorem dX0_worthFrom_92 : decode cX0_worthFrom 92 = .ok (.bipush (-4), 2) := by decide +kernel
theorem dX0_worthFrom_94 : decode cX0_worthFrom 94 = .ok (.if_icmp .ne 13, 3) := by decide +kernel
theorem dX0_worthFrom_97 : decode cX0_worthFrom 97 = .ok (.iload 7, 2) := by decide +kernel
theorem dX0_worthFrom_99 : decode cX0_worthFrom 99 = .ok (.bipush 99, 2) := by decide +kernel
theorem dX0_worthFrom_101 : decode cX0_worthFrom 101 = .ok (.if_icmp .eq 6, 3) := by decide +kernel
theorem dX0_worthFrom_104 : decode cX0_worthFrom 104 = .ok (.goto 75, 3) := by decide +kernel
theorem dX0_worthFrom_107 : decode cX0_worthFrom 107 = .ok (.aload_n 0, 1) := by decide +kernel
theorem dX0_worthFrom_108 : decode cX0_worthFrom 108 = .ok (.iload_n 1, 1) := by decide +kernel
theorem dX0_worthFrom_109 : decode cX0_worthFrom 109 = .ok (.iload 7, 2) := by decide +kernel
theorem dX0_worthFrom_111 : decode cX0_worthFrom 111 = .ok (.bipush 99, 2) := by decide +kernel
theorem dX0_worthFrom_113 : decode cX0_worthFrom 113 = .ok (.if_icmp .ne 8, 3) := by decide +kernel
theorem dX0_worthFrom_116 : decode cX0_worthFrom 116 = .ok (.bipush (-4), 2) := by decide +kernel
theorem dX0_worthFrom_118 : decode cX0_worthFrom 118 = .ok (.goto 8, 3) := by decide +kernel
theorem dX0_worthFrom_121 : decode cX0_worthFrom 121 = .ok (.iload 7, 2) := by decide +kernel
theorem dX0_worthFrom_123 : decode cX0_worthFrom 123 = .ok (.bipush 10, 2) := by decide +kernel
theorem dX0_worthFrom_125 : decode cX0_worthFrom 125 = .ok (.idiv, 1) := by decide +kernel
theorem dX0_worthFrom_126 : decode cX0_worthFrom 126 = .ok (.iload 8, 2) := by decide +kernel
theorem dX0_worthFrom_128 : decode cX0_worthFrom 128 = .ok (.invokevirtual 71, 3) := by decide +kernel
theorem dX0_worthFrom_131 : decode cX0_worthFrom 131 = .ok (.pop, 1) := by decide +kernel
theorem dX0_worthFrom_132 : decode cX0_worthFrom 132 = .ok (.aload_n 0, 1) := by decide +kernel
theorem dX0_worthFrom_133 : decode cX0_worthFrom 133 = .ok (.iload_n 1, 1) := by decide +kernel
theorem dX0_worthFrom_134 : decode cX0_worthFrom 134 = .ok (.iconst 1, 1) := by decide +kernel
theorem dX0_worthFrom_135 : decode cX0_worthFrom 135 = .ok (.iadd, 1) := by decide +kernel
theorem dX0_worthFrom_136 : decode cX0_worthFrom 136 = .ok (.iload_n 2, 1) := by decide +kernel
theorem dX0_worthFrom_137 : decode cX0_worthFrom 137 = .ok (.invokevirtual 93, 3) := by decide +kernel
theorem dX0_worthFrom_140 : decode cX0_worthFrom 140 = .ok (.istore 9, 2) := by decide +kernel
theorem dX0_worthFrom_142 : decode cX0_worthFrom 142 = .ok (.iload 5, 2) := by decide +kernel
theorem dX0_worthFrom_144 : decode cX0_worthFrom 144 = .ok (.bipush (-4), 2) := by decide +kernel
theorem dX0_worthFrom_146 : decode cX0_worthFrom 146 = .ok (.if_icmp .eq 25, 3) := by decide +kernel
theorem dX0_worthFrom_149 : decode cX0_worthFrom 149 = .ok (.iload 4, 2) := by decide +kernel
theorem dX0_worthFrom_151 : decode cX0_worthFrom 151 = .ok (.ifCond .eq 13, 3) := by decide +kernel
theorem dX0_worthFrom_154 : decode cX0_worthFrom 154 = .ok (.iload 9, 2) := by decide +kernel
theorem dX0_worthFrom_156 : decode cX0_worthFrom 156 = .ok (.iload 6, 2) := by decide +kernel
theorem dX0_worthFrom_158 : decode cX0_worthFrom 158 = .ok (.if_icmp .le 21, 3) := by decide +kernel
theorem dX0_worthFrom_161 : decode cX0_worthFrom 161 = .ok (.goto 10, 3) := by decide +kernel
theorem dX0_worthFrom_164 : decode cX0_worthFrom 164 = .ok (.iload 9, 2) := by decide +kernel
theorem dX0_worthFrom_166 : decode cX0_worthFrom 166 = .ok (.iload 6, 2) := by decide +kernel
theorem dX0_worthFrom_168 : decode cX0_worthFrom 168 = .ok (.if_icmp .ge 11, 3) := by decide +kernel
theorem dX0_worthFrom_171 : decode cX0_worthFrom 171 = .ok (.iload 7, 2) := by decide +kernel
theorem dX0_worthFrom_173 : decode cX0_worthFrom 173 = .ok (.istore 5, 2) := by decide +kernel
theorem dX0_worthFrom_175 : decode cX0_worthFrom 175 = .ok (.iload 9, 2) := by decide +kernel
theorem dX0_worthFrom_177 : decode cX0_worthFrom 177 = .ok (.istore 6, 2) := by decide +kernel
theorem dX0_worthFrom_179 : decode cX0_worthFrom 179 = .ok (.iinc 7 1, 3) := by decide +kernel
theorem dX0_worthFrom_182 : decode cX0_worthFrom 182 = .ok (.goto (-127), 3) := by decide +kernel
theorem dX0_worthFrom_185 : decode cX0_worthFrom 185 = .ok (.aload_n 0, 1) := by decide +kernel
theorem dX0_worthFrom_186 : decode cX0_worthFrom 186 = .ok (.iload 5, 2) := by decide +kernel
theorem dX0_worthFrom_188 : decode cX0_worthFrom 188 = .ok (.putfield 19, 3) := by decide +kernel
theorem dX0_worthFrom_191 : decode cX0_worthFrom 191 = .ok (.iload 6, 2) := by decide +kernel
theorem dX0_worthFrom_193 : decode cX0_worthFrom 193 = .ok (.ireturn, 1) := by decide +kernel
theorem dX0_staying_0 : decode cX0_staying 0 = .ok (.aload_n 0, 1) := by decide +kernel
theorem dX0_staying_1 : decode cX0_staying 1 = .ok (.getfield 31, 3) := by decide +kernel
theorem dX0_staying_4 : decode cX0_staying 4 = .ok (.iconst 0, 1) := by decide +kernel
theorem dX0_staying_5 : decode cX0_staying 5 = .ok (.invokevirtual 35, 3) := by decide +kernel
theorem dX0_staying_8 : decode cX0_staying 8 = .ok (.aload_n 1, 1) := by decide +kernel
theorem dX0_staying_9 : decode cX0_staying 9 = .ok (.invokevirtual 39, 3) := by decide +kernel
theorem dX0_staying_12 : decode cX0_staying 12 = .ok (.aload_n 0, 1) := by decide +kernel
theorem dX0_staying_13 : decode cX0_staying 13 = .ok (.iconst 0, 1) := by decide +kernel
theorem dX0_staying_14 : decode cX0_staying 14 = .ok (.iload_n 2, 1) := by decide +kernel
theorem dX0_staying_15 : decode cX0_staying 15 = .ok (.iload_n 3, 1) := by decide +kernel
theorem dX0_staying_16 : decode cX0_staying 16 = .ok (.iload 4, 2) := by decide +kernel
theorem dX0_staying_18 : decode cX0_staying 18 = .ok (.invokevirtual 99, 3) := by decide +kernel
theorem dX0_staying_21 : decode cX0_staying 21 = .ok (.lreturn, 1) := by decide +kernel
theorem dX0_stayingFrom_0 : decode cX0_stayingFrom 0 = .ok (.aload_n 0, 1) := by decide +kernel
theorem dX0_stayingFrom_1 : decode cX0_stayingFrom 1 = .ok (.getfield 31, 3) := by decide +kernel
theorem dX0_stayingFrom_4 : decode cX0_stayingFrom 4 = .ok (.iload_n 1, 1) := by decide +kernel
theorem dX0_stayingFrom_5 : decode cX0_stayingFrom 5 = .ok (.invokevirtual 35, 3) := by decide +kernel
theorem dX0_stayingFrom_8 : decode cX0_stayingFrom 8 = .ok (.astore 5, 2) := by decide +kernel
theorem dX0_stayingFrom_10 : decode cX0_stayingFrom 10 = .ok (.aload 5, 2) := by decide +kernel
theorem dX0_stayingFrom_12 : decode cX0_stayingFrom 12 = .ok (.iload_n 2, 1) := by decide +kernel
theorem dX0_stayingFrom_13 : decode cX0_stayingFrom 13 = .ok (.invokevirtual 103, 3) := by decide +kernel
theorem dX0_stayingFrom_16 : decode cX0_stayingFrom 16 = .ok (.ifCond .eq 5, 3) := by decide +kernel
theorem dX0_stayingFrom_19 : decode cX0_stayingFrom 19 = .ok (.lconst 0, 1) := by decide +kernel
theorem dX0_stayingFrom_20 : decode cX0_stayingFrom 20 = .ok (.lreturn, 1) := by decide +kernel
theorem dX0_stayingFrom_21 : decode cX0_stayingFrom 21 = .ok (.iload_n 1, 1) := by decide +kernel
theorem dX0_stayingFrom_22 : decode cX0_stayingFrom 22 = .ok (.iload_n 3, 1) := by decide +kernel
theorem dX0_stayingFrom_23 : decode cX0_stayingFrom 23 = .ok (.if_icmp .ge 9, 3) := by decide +kernel
theorem dX0_stayingFrom_26 : decode cX0_stayingFrom 26 = .ok (.iload_n 1, 1) := by decide +kernel
theorem dX0_stayingFrom_27 : decode cX0_stayingFrom 27 = .ok (.bipush 8, 2) := by decide +kernel
theorem dX0_stayingFrom_29 : decode cX0_stayingFrom 29 = .ok (.if_icmp .lt 5, 3) := by decide +kernel
theorem dX0_stayingFrom_32 : decode cX0_stayingFrom 32 = .ok (.lconst 1, 1) := by decide +kernel
theorem dX0_stayingFrom_33 : decode cX0_stayingFrom 33 = .ok (.lreturn, 1) := by decide +kernel
theorem dX0_stayingFrom_34 : decode cX0_stayingFrom 34 = .ok (.aload_n 0, 1) := by decide +kernel
theorem dX0_stayingFrom_35 : decode cX0_stayingFrom 35 = .ok (.getfield 31, 3) := by decide +kernel
theorem dX0_stayingFrom_38 : decode cX0_stayingFrom 38 = .ok (.iload_n 1, 1) := by decide +kernel
theorem dX0_stayingFrom_39 : decode cX0_stayingFrom 39 = .ok (.iconst 1, 1) := by decide +kernel
theorem dX0_stayingFrom_40 : decode cX0_stayingFrom 40 = .ok (.iadd, 1) := by decide +kernel
theorem dX0_stayingFrom_41 : decode cX0_stayingFrom 41 = .ok (.invokevirtual 35, 3) := by decide +kernel
theorem dX0_stayingFrom_44 : decode cX0_stayingFrom 44 = .ok (.astore 6, 2) := by decide +kernel
theorem dX0_stayingFrom_46 : decode cX0_stayingFrom 46 = .ok (.lconst 0, 1) := by decide +kernel
theorem dX0_stayingFrom_47 : decode cX0_stayingFrom 47 = .ok (.lstore 7, 2) := by decide +kernel
theorem dX0_stayingFrom_49 : decode cX0_stayingFrom 49 = .ok (.iload 4, 2) := by decide +kernel
theorem dX0_stayingFrom_51 : decode cX0_stayingFrom 51 = .ok (.bipush 10, 2) := by decide +kernel
theorem dX0_stayingFrom_53 : decode cX0_stayingFrom 53 = .ok (.if_icmp .ge 38, 3) := by decide +kernel
theorem dX0_stayingFrom_56 : decode cX0_stayingFrom 56 = .ok (.aload 6, 2) := by decide +kernel
theorem dX0_stayingFrom_58 : decode cX0_stayingFrom 58 = .ok (.aload 5, 2) := by decide +kernel
theorem dX0_stayingFrom_60 : decode cX0_stayingFrom 60 = .ok (.invokevirtual 39, 3) := by decide +kernel
theorem dX0_stayingFrom_63 : decode cX0_stayingFrom 63 = .ok (.aload 6, 2) := by decide +kernel
theorem dX0_stayingFrom_65 : decode cX0_stayingFrom 65 = .ok (.invokevirtual 49, 3) := by decide +kernel
theorem dX0_stayingFrom_68 : decode cX0_stayingFrom 68 = .ok (.lload 7, 2) := by decide +kernel
theorem dX0_stayingFrom_70 : decode cX0_stayingFrom 70 = .ok (.bipush 10, 2) := by decide +kernel
theorem dX0_stayingFrom_72 : decode cX0_stayingFrom 72 = .ok (.iload 4, 2) := by decide +kernel
theorem dX0_stayingFrom_74 : decode cX0_stayingFrom 74 = .ok (.isub, 1) := by decide +kernel
theorem dX0_stayingFrom_75 : decode cX0_stayingFrom 75 = .ok (.i2l, 1) := by decide +kernel
theorem dX0_stayingFrom_76 : decode cX0_stayingFrom 76 = .ok (.aload_n 0, 1) := by decide +kernel
theorem dX0_stayingFrom_77 : decode cX0_stayingFrom 77 = .ok (.iload_n 1, 1) := by decide +kernel
theorem dX0_stayingFrom_78 : decode cX0_stayingFrom 78 = .ok (.iconst 1, 1) := by decide +kernel
theorem dX0_stayingFrom_79 : decode cX0_stayingFrom 79 = .ok (.iadd, 1) := by decide +kernel
theorem dX0_stayingFrom_80 : decode cX0_stayingFrom 80 = .ok (.iload_n 2, 1) := by decide +kernel
theorem dX0_stayingFrom_81 : decode cX0_stayingFrom 81 = .ok (.iload_n 3, 1) := by decide +kernel
theorem dX0_stayingFrom_82 : decode cX0_stayingFrom 82 = .ok (.iload 4, 2) := by decide +kernel
theorem dX0_stayingFrom_84 : decode cX0_stayingFrom 84 = .ok (.invokevirtual 99, 3) := by decide +kernel
theorem dX0_stayingFrom_87 : decode cX0_stayingFrom 87 = .ok (.lmul, 1) := by decide +kernel
theorem dX0_stayingFrom_88 : decode cX0_stayingFrom 88 = .ok (.ladd, 1) := by decide +kernel
theorem dX0_stayingFrom_89 : decode cX0_stayingFrom 89 = .ok (.lstore 7, 2) := by decide +kernel
theorem dX0_stayingFrom_91 : decode cX0_stayingFrom 91 = .ok (.iload 4, 2) := by decide +kernel
theorem dX0_stayingFrom_93 : decode cX0_stayingFrom 93 = .ok (.ifCond .le 45, 3) := by decide +kernel
theorem dX0_stayingFrom_96 : decode cX0_stayingFrom 96 = .ok (.aload 6, 2) := by decide +kernel
theorem dX0_stayingFrom_98 : decode cX0_stayingFrom 98 = .ok (.aload 5, 2) := by decide +kernel
theorem dX0_stayingFrom_100 : decode cX0_stayingFrom 100 = .ok (.invokevirtual 39, 3) := by decide +kernel
theorem dX0_stayingFrom_103 : decode cX0_stayingFrom 103 = .ok (.aload 6, 2) := by decide +kernel
theorem dX0_stayingFrom_105 : decode cX0_stayingFrom 105 = .ok (.invokevirtual 106, 3) := by decide +kernel
theorem dX0_stayingFrom_108 : decode cX0_stayingFrom 108 = .ok (.aload 6, 2) := by decide +kernel
theorem dX0_stayingFrom_110 : decode cX0_stayingFrom 110 = .ok (.invokevirtual 109, 3) := by decide +kernel
theorem dX0_stayingFrom_113 : decode cX0_stayingFrom 113 = .ok (.aload 6, 2) := by decide +kernel
theorem dX0_stayingFrom_115 : decode cX0_stayingFrom 115 = .ok (.invokevirtual 112, 3) := by decide +kernel
theorem dX0_stayingFrom_118 : decode cX0_stayingFrom 118 = .ok (.lload 7, 2) := by decide +kernel
theorem dX0_stayingFrom_120 : decode cX0_stayingFrom 120 = .ok (.iload 4, 2) := by decide +kernel
theorem dX0_stayingFrom_122 : decode cX0_stayingFrom 122 = .ok (.i2l, 1) := by decide +kernel
theorem dX0_stayingFrom_123 : decode cX0_stayingFrom 123 = .ok (.aload_n 0, 1) := by decide +kernel
theorem dX0_stayingFrom_124 : decode cX0_stayingFrom 124 = .ok (.iload_n 1, 1) := by decide +kernel
theorem dX0_stayingFrom_125 : decode cX0_stayingFrom 125 = .ok (.iconst 1, 1) := by decide +kernel
theorem dX0_stayingFrom_126 : decode cX0_stayingFrom 126 = .ok (.iadd, 1) := by decide +kernel
theorem dX0_stayingFrom_127 : decode cX0_stayingFrom 127 = .ok (.iload_n 2, 1) := by decide +kernel
theorem dX0_stayingFrom_128 : decode cX0_stayingFrom 128 = .ok (.iload_n 3, 1) := by decide +kernel
theorem dX0_stayingFrom_129 : decode cX0_stayingFrom 129 = .ok (.iload 4, 2) := by decide +kernel
theorem dX0_stayingFrom_131 : decode cX0_stayingFrom 131 = .ok (.invokevirtual 99, 3) := by decide +kernel
theorem dX0_stayingFrom_134 : decode cX0_stayingFrom 134 = .ok (.lmul, 1) := by decide +kernel
theorem dX0_stayingFrom_135 : decode cX0_stayingFrom 135 = .ok (.ladd, 1) := by decide +kernel
theorem dX0_stayingFrom_136 : decode cX0_stayingFrom 136 = .ok (.lstore 7, 2) := by decide +kernel
theorem dX0_stayingFrom_138 : decode cX0_stayingFrom 138 = .ok (.lload 7, 2) := by decide +kernel
theorem dX0_stayingFrom_140 : decode cX0_stayingFrom 140 = .ok (.lreturn, 1) := by decide +kernel
theorem dX1_init_0 : decode cX1_init 0 = .ok (.aload_n 0, 1) := by decide +kernel
theorem dX1_init_1 : decode cX1_init 1 = .ok (.invokespecial 3, 3) := by decide +kernel
theorem dX1_init_4 : decode cX1_init 4 = .ok (.aload_n 0, 1) := by decide +kernel
theorem dX1_init_5 : decode cX1_init 5 = .ok (.iconst 0, 1) := by decide +kernel
theorem dX1_init_6 : decode cX1_init 6 = .ok (.putfield 9, 3) := by decide +kernel
theorem dX1_init_9 : decode cX1_init 9 = .ok (.aload_n 0, 1) := by decide +kernel
theorem dX1_init_10 : decode cX1_init 10 = .ok (.iconst 0, 1) := by decide +kernel
theorem dX1_init_11 : decode cX1_init 11 = .ok (.putfield 15, 3) := by decide +kernel
theorem dX1_init_14 : decode cX1_init 14 = .ok (.aload_n 0, 1) := by decide +kernel
theorem dX1_init_15 : decode cX1_init 15 = .ok (.iconst 0, 1) := by decide +kernel
theorem dX1_init_16 : decode cX1_init 16 = .ok (.putfield 18, 3) := by decide +kernel
theorem dX1_init_19 : decode cX1_init 19 = .ok (.aload_n 0, 1) := by decide +kernel
theorem dX1_init_20 : decode cX1_init 20 = .ok (.iconst 0, 1) := by decide +kernel
theorem dX1_init_21 : decode cX1_init 21 = .ok (.putfield 21, 3) := by decide +kernel
theorem dX1_init_24 : decode cX1_init 24 = .ok (.aload_n 0, 1) := by decide +kernel
theorem dX1_init_25 : decode cX1_init 25 = .ok (.bipush (-4), 2) := by decide +kernel
theorem dX1_init_27 : decode cX1_init 27 = .ok (.putfield 24, 3) := by decide +kernel
theorem dX1_init_30 : decode cX1_init 30 = .ok (.aload_n 0, 1) := by decide +kernel
theorem dX1_init_31 : decode cX1_init 31 = .ok (.iconst 4, 1) := by decide +kernel
theorem dX1_init_32 : decode cX1_init 32 = .ok (.putfield 27, 3) := by decide +kernel
theorem dX1_init_35 : decode cX1_init 35 = .ok (.aload_n 0, 1) := by decide +kernel
theorem dX1_init_36 : decode cX1_init 36 = .ok (.iconst 0, 1) := by decide +kernel
theorem dX1_init_37 : decode cX1_init 37 = .ok (.putfield 30, 3) := by decide +kernel
theorem dX1_init_40 : decode cX1_init 40 = .ok (.aload_n 0, 1) := by decide +kernel
theorem dX1_init_41 : decode cX1_init 41 = .ok (.bipush 8, 2) := by decide +kernel
theorem dX1_init_43 : decode cX1_init 43 = .ok (.newarray .int, 2) := by decide +kernel
theorem dX1_init_45 : decode cX1_init 45 = .ok (.putfield 33, 3) := by decide +kernel
theorem dX1_init_48 : decode cX1_init 48 = .ok (.aload_n 0, 1) := by decide +kernel
theorem dX1_init_49 : decode cX1_init 49 = .ok (.bipush 9, 2) := by decide +kernel
theorem dX1_init_51 : decode cX1_init 51 = .ok (.newarray .int, 2) := by decide +kernel
theorem dX1_init_53 : decode cX1_init 53 = .ok (.putfield 37, 3) := by decide +kernel
theorem dX1_init_56 : decode cX1_init 56 = .ok (.return_, 1) := by decide +kernel
theorem dX1_clear_0 : decode cX1_clear 0 = .ok (.aload_n 0, 1) := by decide +kernel
theorem dX1_clear_1 : decode cX1_clear 1 = .ok (.iconst 0, 1) := by decide +kernel
theorem dX1_clear_2 : decode cX1_clear 2 = .ok (.putfield 9, 3) := by decide +kernel
theorem dX1_clear_5 : decode cX1_clear 5 = .ok (.aload_n 0, 1) := by decide +kernel
theorem dX1_clear_6 : decode cX1_clear 6 = .ok (.iconst 0, 1) := by decide +kernel
theorem dX1_clear_7 : decode cX1_clear 7 = .ok (.putfield 15, 3) := by decide +kernel
theorem dX1_clear_10 : decode cX1_clear 10 = .ok (.aload_n 0, 1) := by decide +kernel
theorem dX1_clear_11 : decode cX1_clear 11 = .ok (.iconst 0, 1) := by decide +kernel
theorem dX1_clear_12 : decode cX1_clear 12 = .ok (.putfield 18, 3) := by decide +kernel
theorem dX1_clear_15 : decode cX1_clear 15 = .ok (.aload_n 0, 1) := by decide +kernel
theorem dX1_clear_16 : decode cX1_clear 16 = .ok (.iconst 0, 1) := by decide +kernel
theorem dX1_clear_17 : decode cX1_clear 17 = .ok (.putfield 21, 3) := by decide +kernel
theorem dX1_clear_20 : decode cX1_clear 20 = .ok (.aload_n 0, 1) := by decide +kernel
theorem dX1_clear_21 : decode cX1_clear 21 = .ok (.bipush (-4), 2) := by decide +kernel
theorem dX1_clear_23 : decode cX1_clear 23 = .ok (.putfield 24, 3) := by decide +kernel
theorem dX1_clear_26 : decode cX1_clear 26 = .ok (.aload_n 0, 1) := by decide +kernel
theorem dX1_clear_27 : decode cX1_clear 27 = .ok (.iconst 4, 1) := by decide +kernel
theorem dX1_clear_28 : decode cX1_clear 28 = .ok (.putfield 27, 3) := by decide +kernel
theorem dX1_clear_31 : decode cX1_clear 31 = .ok (.aload_n 0, 1) := by decide +kernel
theorem dX1_clear_32 : decode cX1_clear 32 = .ok (.iconst 0, 1) := by decide +kernel
theorem dX1_clear_33 : decode cX1_clear 33 = .ok (.putfield 30, 3) := by decide +kernel
theorem dX1_clear_36 : decode cX1_clear 36 = .ok (.return_, 1) := by decide +kernel
theorem dX1_copyFrom_0 : decode cX1_copyFrom 0 = .ok (.aload_n 0, 1) := by decide +kernel
theorem dX1_copyFrom_1 : decode cX1_copyFrom 1 = .ok (.aload_n 1, 1) := by decide +kernel
theorem dX1_copyFrom_2 : decode cX1_copyFrom 2 = .ok (.getfield 9, 3) := by decide +kernel
theorem dX1_copyFrom_5 : decode cX1_copyFrom 5 = .ok (.putfield 9, 3) := by decide +kernel
theorem dX1_copyFrom_8 : decode cX1_copyFrom 8 = .ok (.aload_n 0, 1) := by decide +kernel
theorem dX1_copyFrom_9 : decode cX1_copyFrom 9 = .ok (.aload_n 1, 1) := by decide +kernel
theorem dX1_copyFrom_10 : decode cX1_copyFrom 10 = .ok (.getfield 15, 3) := by decide +kernel
theorem dX1_copyFrom_13 : decode cX1_copyFrom 13 = .ok (.putfield 15, 3) := by decide +kernel
theorem dX1_copyFrom_16 : decode cX1_copyFrom 16 = .ok (.aload_n 0, 1) := by decide +kernel
theorem dX1_copyFrom_17 : decode cX1_copyFrom 17 = .ok (.aload_n 1, 1) := by decide +kernel
theorem dX1_copyFrom_18 : decode cX1_copyFrom 18 = .ok (.getfield 18, 3) := by decide +kernel
theorem dX1_copyFrom_21 : decode cX1_copyFrom 21 = .ok (.putfield 18, 3) := by decide +kernel
theorem dX1_copyFrom_24 : decode cX1_copyFrom 24 = .ok (.aload_n 0, 1) := by decide +kernel
theorem dX1_copyFrom_25 : decode cX1_copyFrom 25 = .ok (.aload_n 1, 1) := by decide +kernel
theorem dX1_copyFrom_26 : decode cX1_copyFrom 26 = .ok (.getfield 21, 3) := by decide +kernel
theorem dX1_copyFrom_29 : decode cX1_copyFrom 29 = .ok (.putfield 21, 3) := by decide +kernel
theorem dX1_copyFrom_32 : decode cX1_copyFrom 32 = .ok (.aload_n 0, 1) := by decide +kernel
theorem dX1_copyFrom_33 : decode cX1_copyFrom 33 = .ok (.aload_n 1, 1) := by decide +kernel
theorem dX1_copyFrom_34 : decode cX1_copyFrom 34 = .ok (.getfield 24, 3) := by decide +kernel
theorem dX1_copyFrom_37 : decode cX1_copyFrom 37 = .ok (.putfield 24, 3) := by decide +kernel
theorem dX1_copyFrom_40 : decode cX1_copyFrom 40 = .ok (.aload_n 0, 1) := by decide +kernel
theorem dX1_copyFrom_41 : decode cX1_copyFrom 41 = .ok (.aload_n 1, 1) := by decide +kernel
theorem dX1_copyFrom_42 : decode cX1_copyFrom 42 = .ok (.getfield 27, 3) := by decide +kernel
theorem dX1_copyFrom_45 : decode cX1_copyFrom 45 = .ok (.putfield 27, 3) := by decide +kernel
theorem dX1_copyFrom_48 : decode cX1_copyFrom 48 = .ok (.aload_n 0, 1) := by decide +kernel
theorem dX1_copyFrom_49 : decode cX1_copyFrom 49 = .ok (.aload_n 1, 1) := by decide +kernel
theorem dX1_copyFrom_50 : decode cX1_copyFrom 50 = .ok (.getfield 30, 3) := by decide +kernel
theorem dX1_copyFrom_53 : decode cX1_copyFrom 53 = .ok (.putfield 30, 3) := by decide +kernel
theorem dX1_copyFrom_56 : decode cX1_copyFrom 56 = .ok (.aload_n 1, 1) := by decide +kernel
theorem dX1_copyFrom_57 : decode cX1_copyFrom 57 = .ok (.getfield 33, 3) := by decide +kernel
theorem dX1_copyFrom_60 : decode cX1_copyFrom 60 = .ok (.iconst 0, 1) := by decide +kernel
theorem dX1_copyFrom_61 : decode cX1_copyFrom 61 = .ok (.aload_n 0, 1) := by decide +kernel
theorem dX1_copyFrom_62 : decode cX1_copyFrom 62 = .ok (.getfield 33, 3) := by decide +kernel
theorem dX1_copyFrom_65 : decode cX1_copyFrom 65 = .ok (.iconst 0, 1) := by decide +kernel
theorem dX1_copyFrom_66 : decode cX1_copyFrom 66 = .ok (.bipush 8, 2) := by decide +kernel
theorem dX1_copyFrom_68 : decode cX1_copyFrom 68 = .ok (.invokestatic 40, 3) := by decide +kernel
theorem dX1_copyFrom_71 : decode cX1_copyFrom 71 = .ok (.aload_n 1, 1) := by decide +kernel
theorem dX1_copyFrom_72 : decode cX1_copyFrom 72 = .ok (.getfield 37, 3) := by decide +kernel
theorem dX1_copyFrom_75 : decode cX1_copyFrom 75 = .ok (.iconst 0, 1) := by decide +kernel
theorem dX1_copyFrom_76 : decode cX1_copyFrom 76 = .ok (.aload_n 0, 1) := by decide +kernel
theorem dX1_copyFrom_77 : decode cX1_copyFrom 77 = .ok (.getfield 37, 3) := by decide +kernel
theorem dX1_copyFrom_80 : decode cX1_copyFrom 80 = .ok (.iconst 0, 1) := by decide +kernel
theorem dX1_copyFrom_81 : decode cX1_copyFrom 81 = .ok (.bipush 9, 2) := by decide +kernel
theorem dX1_copyFrom_83 : decode cX1_copyFrom 83 = .ok (.invokestatic 40, 3) := by decide +kernel
theorem dX1_copyFrom_86 : decode cX1_copyFrom 86 = .ok (.return_, 1) := by decide +kernel
theorem dX1_hasSquare_0 : decode cX1_hasSquare 0 = .ok (.iload_n 1, 1) := by decide +kernel
theorem dX1_hasSquare_1 : decode cX1_hasSquare 1 = .ok (.ifCond .lt 21, 3) := by decide +kernel
theorem dX1_hasSquare_4 : decode cX1_hasSquare 4 = .ok (.iload_n 1, 1) := by decide +kernel
theorem dX1_hasSquare_5 : decode cX1_hasSquare 5 = .ok (.aload_n 0, 1) := by decide +kernel
theorem dX1_hasSquare_6 : decode cX1_hasSquare 6 = .ok (.getfield 9, 3) := by decide +kernel
theorem dX1_hasSquare_9 : decode cX1_hasSquare 9 = .ok (.if_icmp .ge 13, 3) := by decide +kernel
theorem dX1_hasSquare_12 : decode cX1_hasSquare 12 = .ok (.iload_n 1, 1) := by decide +kernel
theorem dX1_hasSquare_13 : decode cX1_hasSquare 13 = .ok (.bipush 36, 2) := by decide +kernel
theorem dX1_hasSquare_15 : decode cX1_hasSquare 15 = .ok (.if_icmp .ge 7, 3) := by decide +kernel
theorem dX1_hasSquare_18 : decode cX1_hasSquare 18 = .ok (.iconst 1, 1) := by decide +kernel
theorem dX1_hasSquare_19 : decode cX1_hasSquare 19 = .ok (.goto 4, 3) := by decide +kernel
theorem dX1_hasSquare_22 : decode cX1_hasSquare 22 = .ok (.iconst 0, 1) := by decide +kernel
theorem dX1_hasSquare_23 : decode cX1_hasSquare 23 = .ok (.ireturn, 1) := by decide +kernel
theorem dX1_hasBeast_0 : decode cX1_hasBeast 0 = .ok (.iload_n 1, 1) := by decide +kernel
theorem dX1_hasBeast_1 : decode cX1_hasBeast 1 = .ok (.ifCond .lt 21, 3) := by decide +kernel
theorem dX1_hasBeast_4 : decode cX1_hasBeast 4 = .ok (.iload_n 1, 1) := by decide +kernel
theorem dX1_hasBeast_5 : decode cX1_hasBeast 5 = .ok (.aload_n 0, 1) := by decide +kernel
theorem dX1_hasBeast_6 : decode cX1_hasBeast 6 = .ok (.getfield 21, 3) := by decide +kernel
theorem dX1_hasBeast_9 : decode cX1_hasBeast 9 = .ok (.if_icmp .ge 13, 3) := by decide +kernel
theorem dX1_hasBeast_12 : decode cX1_hasBeast 12 = .ok (.iload_n 1, 1) := by decide +kernel
theorem dX1_hasBeast_13 : decode cX1_hasBeast 13 = .ok (.bipush 8, 2) := by decide +kernel
theorem dX1_hasBeast_15 : decode cX1_hasBeast 15 = .ok (.if_icmp .ge 7, 3) := by decide +kernel
theorem dX1_hasBeast_18 : decode cX1_hasBeast 18 = .ok (.iconst 1, 1) := by decide +kernel
theorem dX1_hasBeast_19 : decode cX1_hasBeast 19 = .ok (.goto 4, 3) := by decide +kernel
theorem dX1_hasBeast_22 : decode cX1_hasBeast 22 = .ok (.iconst 0, 1) := by decide +kernel
theorem dX1_hasBeast_23 : decode cX1_hasBeast 23 = .ok (.ireturn, 1) := by decide +kernel
theorem dX1_villageOf_0 : decode cX1_villageOf 0 = .ok (.iload_n 1, 1) := by decide +kernel
theorem dX1_villageOf_1 : decode cX1_villageOf 1 = .ok (.ifCond .lt 26, 3) := by decide +kernel
theorem dX1_villageOf_4 : decode cX1_villageOf 4 = .ok (.iload_n 1, 1) := by decide +kernel
theorem dX1_villageOf_5 : decode cX1_villageOf 5 = .ok (.aload_n 0, 1) := by decide +kernel
theorem dX1_villageOf_6 : decode cX1_villageOf 6 = .ok (.getfield 21, 3) := by decide +kernel
theorem dX1_villageOf_9 : decode cX1_villageOf 9 = .ok (.if_icmp .ge 18, 3) := by decide +kernel
theorem dX1_villageOf_12 : decode cX1_villageOf 12 = .ok (.iload_n 1, 1) := by decide +kernel
theorem dX1_villageOf_13 : decode cX1_villageOf 13 = .ok (.bipush 8, 2) := by decide +kernel
theorem dX1_villageOf_15 : decode cX1_villageOf 15 = .ok (.if_icmp .ge 12, 3) := by decide +kernel
theorem dX1_villageOf_18 : decode cX1_villageOf 18 = .ok (.aload_n 0, 1) := by decide +kernel
theorem dX1_villageOf_19 : decode cX1_villageOf 19 = .ok (.getfield 33, 3) := by decide +kernel
theorem dX1_villageOf_22 : decode cX1_villageOf 22 = .ok (.iload_n 1, 1) := by decide +kernel
theorem dX1_villageOf_23 : decode cX1_villageOf 23 = .ok (.iaload, 1) := by decide +kernel
theorem dX1_villageOf_24 : decode cX1_villageOf 24 = .ok (.goto 5, 3) := by decide +kernel
theorem dX1_villageOf_27 : decode cX1_villageOf 27 = .ok (.bipush (-4), 2) := by decide +kernel
theorem dX1_villageOf_29 : decode cX1_villageOf 29 = .ok (.ireturn, 1) := by decide +kernel
theorem dX1_snowsOn_0 : decode cX1_snowsOn 0 = .ok (.aload_n 0, 1) := by decide +kernel
theorem dX1_snowsOn_1 : decode cX1_snowsOn 1 = .ok (.getfield 30, 3) := by decide +kernel
theorem dX1_snowsOn_4 : decode cX1_snowsOn 4 = .ok (.iconst 1, 1) := by decide +kernel
theorem dX1_snowsOn_5 : decode cX1_snowsOn 5 = .ok (.if_icmp .lt 16, 3) := by decide +kernel
theorem dX1_snowsOn_8 : decode cX1_snowsOn 8 = .ok (.aload_n 0, 1) := by decide +kernel
theorem dX1_snowsOn_9 : decode cX1_snowsOn 9 = .ok (.getfield 30, 3) := by decide +kernel
theorem dX1_snowsOn_12 : decode cX1_snowsOn 12 = .ok (.bipush 9, 2) := by decide +kernel
theorem dX1_snowsOn_14 : decode cX1_snowsOn 14 = .ok (.if_icmp .gt 7, 3) := by decide +kernel
theorem dX1_snowsOn_17 : decode cX1_snowsOn 17 = .ok (.iload_n 1, 1) := by decide +kernel
theorem dX1_snowsOn_18 : decode cX1_snowsOn 18 = .ok (.ifCond .ge 5, 3) := by decide +kernel
theorem dX1_snowsOn_21 : decode cX1_snowsOn 21 = .ok (.iconst 0, 1) := by decide +kernel
theorem dX1_snowsOn_22 : decode cX1_snowsOn 22 = .ok (.ireturn, 1) := by decide +kernel
theorem dX1_snowsOn_23 : decode cX1_snowsOn 23 = .ok (.aload_n 0, 1) := by decide +kernel
theorem dX1_snowsOn_24 : decode cX1_snowsOn 24 = .ok (.getfield 37, 3) := by decide +kernel
theorem dX1_snowsOn_27 : decode cX1_snowsOn 27 = .ok (.iload_n 1, 1) := by decide +kernel
theorem dX1_snowsOn_28 : decode cX1_snowsOn 28 = .ok (.aload_n 0, 1) := by decide +kernel
theorem dX1_snowsOn_29 : decode cX1_snowsOn 29 = .ok (.getfield 30, 3) := by decide +kernel
theorem dX1_snowsOn_32 : decode cX1_snowsOn 32 = .ok (.irem, 1) := by decide +kernel
theorem dX1_snowsOn_33 : decode cX1_snowsOn 33 = .ok (.iaload, 1) := by decide +kernel
theorem dX1_snowsOn_34 : decode cX1_snowsOn 34 = .ok (.iconst 1, 1) := by decide +kernel
theorem dX1_snowsOn_35 : decode cX1_snowsOn 35 = .ok (.if_icmp .ne 7, 3) := by decide +kernel
theorem dX1_snowsOn_38 : decode cX1_snowsOn 38 = .ok (.iconst 1, 1) := by decide +kernel
theorem dX1_snowsOn_39 : decode cX1_snowsOn 39 = .ok (.goto 4, 3) := by decide +kernel
theorem dX1_snowsOn_42 : decode cX1_snowsOn 42 = .ok (.iconst 0, 1) := by decide +kernel
theorem dX1_snowsOn_43 : decode cX1_snowsOn 43 = .ok (.ireturn, 1) := by decide +kernel
theorem dX1_beside_0 : decode cX1_beside 0 = .ok (.iload_n 1, 1) := by decide +kernel
theorem dX1_beside_1 : decode cX1_beside 1 = .ok (.ifCond .lt 19, 3) := by decide +kernel
theorem dX1_beside_4 : decode cX1_beside 4 = .ok (.iload_n 1, 1) := by decide +kernel
theorem dX1_beside_5 : decode cX1_beside 5 = .ok (.aload_n 0, 1) := by decide +kernel
theorem dX1_beside_6 : decode cX1_beside 6 = .ok (.getfield 9, 3) := by decide +kernel
theorem dX1_beside_9 : decode cX1_beside 9 = .ok (.if_icmp .ge 11, 3) := by decide +kernel
theorem dX1_beside_12 : decode cX1_beside 12 = .ok (.aload_n 0, 1) := by decide +kernel
theorem dX1_beside_13 : decode cX1_beside 13 = .ok (.getfield 15, 3) := by decide +kernel
theorem dX1_beside_16 : decode cX1_beside 16 = .ok (.iconst 1, 1) := by decide +kernel
theorem dX1_beside_17 : decode cX1_beside 17 = .ok (.if_icmp .ge 6, 3) := by decide +kernel
theorem dX1_beside_20 : decode cX1_beside 20 = .ok (.bipush (-4), 2) := by decide +kernel
theorem dX1_beside_22 : decode cX1_beside 22 = .ok (.ireturn, 1) := by decide +kernel
theorem dX1_beside_23 : decode cX1_beside 23 = .ok (.iload_n 2, 1) := by decide +kernel
theorem dX1_beside_24 : decode cX1_beside 24 = .ok (.tableswitch 119 0 3 #[32, 52, 76, 101], 32) := by decide +kernel
theorem dX1_beside_56 : decode cX1_beside 56 = .ok (.iload_n 1, 1) := by decide +kernel
theorem dX1_beside_57 : decode cX1_beside 57 = .ok (.aload_n 0, 1) := by decide +kernel
theorem dX1_beside_58 : decode cX1_beside 58 = .ok (.getfield 15, 3) := by decide +kernel
theorem dX1_beside_61 : decode cX1_beside 61 = .ok (.if_icmp .ge 8, 3) := by decide +kernel
theorem dX1_beside_64 : decode cX1_beside 64 = .ok (.bipush (-4), 2) := by decide +kernel
theorem dX1_beside_66 : decode cX1_beside 66 = .ok (.goto 9, 3) := by decide +kernel
theorem dX1_beside_69 : decode cX1_beside 69 = .ok (.iload_n 1, 1) := by decide +kernel
theorem dX1_beside_70 : decode cX1_beside 70 = .ok (.aload_n 0, 1) := by decide +kernel
theorem dX1_beside_71 : decode cX1_beside 71 = .ok (.getfield 15, 3) := by decide +kernel
theorem dX1_beside_74 : decode cX1_beside 74 = .ok (.isub, 1) := by decide +kernel
theorem dX1_beside_75 : decode cX1_beside 75 = .ok (.ireturn, 1) := by decide +kernel
theorem dX1_beside_76 : decode cX1_beside 76 = .ok (.iload_n 1, 1) := by decide +kernel
theorem dX1_beside_77 : decode cX1_beside 77 = .ok (.aload_n 0, 1) := by decide +kernel
theorem dX1_beside_78 : decode cX1_beside 78 = .ok (.getfield 15, 3) := by decide +kernel
theorem dX1_beside_81 : decode cX1_beside 81 = .ok (.irem, 1) := by decide +kernel
theorem dX1_beside_82 : decode cX1_beside 82 = .ok (.aload_n 0, 1) := by decide +kernel
theorem dX1_beside_83 : decode cX1_beside 83 = .ok (.getfield 15, 3) := by decide +kernel
theorem dX1_beside_86 : decode cX1_beside 86 = .ok (.iconst 1, 1) := by decide +kernel
theorem dX1_beside_87 : decode cX1_beside 87 = .ok (.isub, 1) := by decide +kernel
theorem dX1_beside_88 : decode cX1_beside 88 = .ok (.if_icmp .ne 8, 3) := by decide +kernel
theorem dX1_beside_91 : decode cX1_beside 91 = .ok (.bipush (-4), 2) := by decide +kernel
theorem dX1_beside_93 : decode cX1_beside 93 = .ok (.goto 6, 3) := by decide +kernel
theorem dX1_beside_96 : decode cX1_beside 96 = .ok (.iload_n 1, 1) := by decide +kernel
theorem dX1_beside_97 : decode cX1_beside 97 = .ok (.iconst 1, 1) := by decide +kernel
theorem dX1_beside_98 : decode cX1_beside 98 = .ok (.iadd, 1) := by decide +kernel
theorem dX1_beside_99 : decode cX1_beside 99 = .ok (.ireturn, 1) := by decide +kernel
theorem dX1_beside_100 : decode cX1_beside 100 = .ok (.iload_n 1, 1) := by decide +kernel
theorem dX1_beside_101 : decode cX1_beside 101 = .ok (.aload_n 0, 1) := by decide +kernel
theorem dX1_beside_102 : decode cX1_beside 102 = .ok (.getfield 15, 3) := by decide +kernel
theorem dX1_beside_105 : decode cX1_beside 105 = .ok (.iadd, 1) := by decide +kernel
theorem dX1_beside_106 : decode cX1_beside 106 = .ok (.aload_n 0, 1) := by decide +kernel
theorem dX1_beside_107 : decode cX1_beside 107 = .ok (.getfield 9, 3) := by decide +kernel
theorem dX1_beside_110 : decode cX1_beside 110 = .ok (.if_icmp .lt 8, 3) := by decide +kernel
theorem dX1_beside_113 : decode cX1_beside 113 = .ok (.bipush (-4), 2) := by decide +kernel
theorem dX1_beside_115 : decode cX1_beside 115 = .ok (.goto 9, 3) := by decide +kernel
theorem dX1_beside_118 : decode cX1_beside 118 = .ok (.iload_n 1, 1) := by decide +kernel
theorem dX1_beside_119 : decode cX1_beside 119 = .ok (.aload_n 0, 1) := by decide +kernel
theorem dX1_beside_120 : decode cX1_beside 120 = .ok (.getfield 15, 3) := by decide +kernel
theorem dX1_beside_123 : decode cX1_beside 123 = .ok (.iadd, 1) := by decide +kernel
theorem dX1_beside_124 : decode cX1_beside 124 = .ok (.ireturn, 1) := by decide +kernel
theorem dX1_beside_125 : decode cX1_beside 125 = .ok (.iload_n 1, 1) := by decide +kernel
theorem dX1_beside_126 : decode cX1_beside 126 = .ok (.aload_n 0, 1) := by decide +kernel
theorem dX1_beside_127 : decode cX1_beside 127 = .ok (.getfield 15, 3) := by decide +kernel
theorem dX1_beside_130 : decode cX1_beside 130 = .ok (.irem, 1) := by decide +kernel
theorem dX1_beside_131 : decode cX1_beside 131 = .ok (.ifCond .ne 8, 3) := by decide +kernel
theorem dX1_beside_134 : decode cX1_beside 134 = .ok (.bipush (-4), 2) := by decide +kernel
theorem dX1_beside_136 : decode cX1_beside 136 = .ok (.goto 6, 3) := by decide +kernel
theorem dX1_beside_139 : decode cX1_beside 139 = .ok (.iload_n 1, 1) := by decide +kernel
theorem dX1_beside_140 : decode cX1_beside 140 = .ok (.iconst 1, 1) := by decide +kernel
theorem dX1_beside_141 : decode cX1_beside 141 = .ok (.isub, 1) := by decide +kernel
theorem dX1_beside_142 : decode cX1_beside 142 = .ok (.ireturn, 1) := by decide +kernel
theorem dX1_beside_143 : decode cX1_beside 143 = .ok (.bipush (-4), 2) := by decide +kernel
theorem dX1_beside_145 : decode cX1_beside 145 = .ok (.ireturn, 1) := by decide +kernel
theorem dX1_turnsPawn_0 : decode cX1_turnsPawn 0 = .ok (.iload_n 1, 1) := by decide +kernel
theorem dX1_turnsPawn_1 : decode cX1_turnsPawn 1 = .ok (.ifCond .ne 19, 3) := by decide +kernel
theorem dX1_turnsPawn_4 : decode cX1_turnsPawn 4 = .ok (.iload_n 2, 1) := by decide +kernel
theorem dX1_turnsPawn_5 : decode cX1_turnsPawn 5 = .ok (.aload_n 0, 1) := by decide +kernel
theorem dX1_turnsPawn_6 : decode cX1_turnsPawn 6 = .ok (.getfield 15, 3) := by decide +kernel
theorem dX1_turnsPawn_9 : decode cX1_turnsPawn 9 = .ok (.if_icmp .ge 7, 3) := by decide +kernel
theorem dX1_turnsPawn_12 : decode cX1_turnsPawn 12 = .ok (.iconst 1, 1) := by decide +kernel
theorem dX1_turnsPawn_13 : decode cX1_turnsPawn 13 = .ok (.goto 25, 3) := by decide +kernel
theorem dX1_turnsPawn_16 : decode cX1_turnsPawn 16 = .ok (.iconst 0, 1) := by decide +kernel
theorem dX1_turnsPawn_17 : decode cX1_turnsPawn 17 = .ok (.goto 21, 3) := by decide +kernel
theorem dX1_turnsPawn_20 : decode cX1_turnsPawn 20 = .ok (.iload_n 2, 1) := by decide +kernel
theorem dX1_turnsPawn_21 : decode cX1_turnsPawn 21 = .ok (.aload_n 0, 1) := by decide +kernel
theorem dX1_turnsPawn_22 : decode cX1_turnsPawn 22 = .ok (.getfield 9, 3) := by decide +kernel
theorem dX1_turnsPawn_25 : decode cX1_turnsPawn 25 = .ok (.aload_n 0, 1) := by decide +kernel
theorem dX1_turnsPawn_26 : decode cX1_turnsPawn 26 = .ok (.getfield 15, 3) := by decide +kernel
theorem dX1_turnsPawn_29 : decode cX1_turnsPawn 29 = .ok (.isub, 1) := by decide +kernel
theorem dX1_turnsPawn_30 : decode cX1_turnsPawn 30 = .ok (.if_icmp .lt 7, 3) := by decide +kernel
theorem dX1_turnsPawn_33 : decode cX1_turnsPawn 33 = .ok (.iconst 1, 1) := by decide +kernel
theorem dX1_turnsPawn_34 : decode cX1_turnsPawn 34 = .ok (.goto 4, 3) := by decide +kernel
theorem dX1_turnsPawn_37 : decode cX1_turnsPawn 37 = .ok (.iconst 0, 1) := by decide +kernel
theorem dX1_turnsPawn_38 : decode cX1_turnsPawn 38 = .ok (.ireturn, 1) := by decide +kernel
theorem dX2_init_0 : decode cX2_init 0 = .ok (.aload_n 0, 1) := by decide +kernel
theorem dX2_init_1 : decode cX2_init 1 = .ok (.invokespecial 3, 3) := by decide +kernel
theorem dX2_init_4 : decode cX2_init 4 = .ok (.aload_n 0, 1) := by decide +kernel
theorem dX2_init_5 : decode cX2_init 5 = .ok (.bipush 36, 2) := by decide +kernel
theorem dX2_init_7 : decode cX2_init 7 = .ok (.newarray .int, 2) := by decide +kernel
theorem dX2_init_9 : decode cX2_init 9 = .ok (.putfield 9, 3) := by decide +kernel
theorem dX2_init_12 : decode cX2_init 12 = .ok (.aload_n 0, 1) := by decide +kernel
theorem dX2_init_13 : decode cX2_init 13 = .ok (.bipush 8, 2) := by decide +kernel
theorem dX2_init_15 : decode cX2_init 15 = .ok (.newarray .int, 2) := by decide +kernel
theorem dX2_init_17 : decode cX2_init 17 = .ok (.putfield 15, 3) := by decide +kernel
theorem dX2_init_20 : decode cX2_init 20 = .ok (.aload_n 0, 1) := by decide +kernel
theorem dX2_init_21 : decode cX2_init 21 = .ok (.bipush 8, 2) := by decide +kernel
theorem dX2_init_23 : decode cX2_init 23 = .ok (.newarray .int, 2) := by decide +kernel
theorem dX2_init_25 : decode cX2_init 25 = .ok (.putfield 18, 3) := by decide +kernel
theorem dX2_init_28 : decode cX2_init 28 = .ok (.aload_n 0, 1) := by decide +kernel
theorem dX2_init_29 : decode cX2_init 29 = .ok (.bipush 8, 2) := by decide +kernel
theorem dX2_init_31 : decode cX2_init 31 = .ok (.newarray .int, 2) := by decide +kernel
theorem dX2_init_33 : decode cX2_init 33 = .ok (.putfield 21, 3) := by decide +kernel
theorem dX2_init_36 : decode cX2_init 36 = .ok (.aload_n 0, 1) := by decide +kernel
theorem dX2_init_37 : decode cX2_init 37 = .ok (.iconst 0, 1) := by decide +kernel
theorem dX2_init_38 : decode cX2_init 38 = .ok (.putfield 24, 3) := by decide +kernel
theorem dX2_init_41 : decode cX2_init 41 = .ok (.aload_n 0, 1) := by decide +kernel
theorem dX2_init_42 : decode cX2_init 42 = .ok (.aload_n 1, 1) := by decide +kernel
theorem dX2_init_43 : decode cX2_init 43 = .ok (.putfield 28, 3) := by decide +kernel
theorem dX2_init_46 : decode cX2_init 46 = .ok (.return_, 1) := by decide +kernel
theorem dX2_copyFrom_0 : decode cX2_copyFrom 0 = .ok (.aload_n 1, 1) := by decide +kernel
theorem dX2_copyFrom_1 : decode cX2_copyFrom 1 = .ok (.getfield 9, 3) := by decide +kernel
theorem dX2_copyFrom_4 : decode cX2_copyFrom 4 = .ok (.iconst 0, 1) := by decide +kernel
theorem dX2_copyFrom_5 : decode cX2_copyFrom 5 = .ok (.aload_n 0, 1) := by decide +kernel
theorem dX2_copyFrom_6 : decode cX2_copyFrom 6 = .ok (.getfield 9, 3) := by decide +kernel
theorem dX2_copyFrom_9 : decode cX2_copyFrom 9 = .ok (.iconst 0, 1) := by decide +kernel
theorem dX2_copyFrom_10 : decode cX2_copyFrom 10 = .ok (.bipush 36, 2) := by decide +kernel
theorem dX2_copyFrom_12 : decode cX2_copyFrom 12 = .ok (.invokestatic 32, 3) := by decide +kernel
theorem dX2_copyFrom_15 : decode cX2_copyFrom 15 = .ok (.aload_n 1, 1) := by decide +kernel
theorem dX2_copyFrom_16 : decode cX2_copyFrom 16 = .ok (.getfield 15, 3) := by decide +kernel
theorem dX2_copyFrom_19 : decode cX2_copyFrom 19 = .ok (.iconst 0, 1) := by decide +kernel
theorem dX2_copyFrom_20 : decode cX2_copyFrom 20 = .ok (.aload_n 0, 1) := by decide +kernel
theorem dX2_copyFrom_21 : decode cX2_copyFrom 21 = .ok (.getfield 15, 3) := by decide +kernel
theorem dX2_copyFrom_24 : decode cX2_copyFrom 24 = .ok (.iconst 0, 1) := by decide +kernel
theorem dX2_copyFrom_25 : decode cX2_copyFrom 25 = .ok (.bipush 8, 2) := by decide +kernel
theorem dX2_copyFrom_27 : decode cX2_copyFrom 27 = .ok (.invokestatic 32, 3) := by decide +kernel
theorem dX2_copyFrom_30 : decode cX2_copyFrom 30 = .ok (.aload_n 1, 1) := by decide +kernel
theorem dX2_copyFrom_31 : decode cX2_copyFrom 31 = .ok (.getfield 18, 3) := by decide +kernel
theorem dX2_copyFrom_34 : decode cX2_copyFrom 34 = .ok (.iconst 0, 1) := by decide +kernel
theorem dX2_copyFrom_35 : decode cX2_copyFrom 35 = .ok (.aload_n 0, 1) := by decide +kernel
theorem dX2_copyFrom_36 : decode cX2_copyFrom 36 = .ok (.getfield 18, 3) := by decide +kernel
theorem dX2_copyFrom_39 : decode cX2_copyFrom 39 = .ok (.iconst 0, 1) := by decide +kernel
theorem dX2_copyFrom_40 : decode cX2_copyFrom 40 = .ok (.bipush 8, 2) := by decide +kernel
theorem dX2_copyFrom_42 : decode cX2_copyFrom 42 = .ok (.invokestatic 32, 3) := by decide +kernel
theorem dX2_copyFrom_45 : decode cX2_copyFrom 45 = .ok (.aload_n 1, 1) := by decide +kernel
theorem dX2_copyFrom_46 : decode cX2_copyFrom 46 = .ok (.getfield 21, 3) := by decide +kernel
theorem dX2_copyFrom_49 : decode cX2_copyFrom 49 = .ok (.iconst 0, 1) := by decide +kernel
theorem dX2_copyFrom_50 : decode cX2_copyFrom 50 = .ok (.aload_n 0, 1) := by decide +kernel
theorem dX2_copyFrom_51 : decode cX2_copyFrom 51 = .ok (.getfield 21, 3) := by decide +kernel
theorem dX2_copyFrom_54 : decode cX2_copyFrom 54 = .ok (.iconst 0, 1) := by decide +kernel
theorem dX2_copyFrom_55 : decode cX2_copyFrom 55 = .ok (.bipush 8, 2) := by decide +kernel
theorem dX2_copyFrom_57 : decode cX2_copyFrom 57 = .ok (.invokestatic 32, 3) := by decide +kernel
theorem dX2_copyFrom_60 : decode cX2_copyFrom 60 = .ok (.aload_n 0, 1) := by decide +kernel
theorem dX2_copyFrom_61 : decode cX2_copyFrom 61 = .ok (.aload_n 1, 1) := by decide +kernel
theorem dX2_copyFrom_62 : decode cX2_copyFrom 62 = .ok (.getfield 24, 3) := by decide +kernel
theorem dX2_copyFrom_65 : decode cX2_copyFrom 65 = .ok (.putfield 24, 3) := by decide +kernel
theorem dX2_copyFrom_68 : decode cX2_copyFrom 68 = .ok (.return_, 1) := by decide +kernel
theorem dX2_grassOn_0 : decode cX2_grassOn 0 = .ok (.iload_n 1, 1) := by decide +kernel
theorem dX2_grassOn_1 : decode cX2_grassOn 1 = .ok (.ifCond .lt 29, 3) := by decide +kernel
theorem dX2_grassOn_4 : decode cX2_grassOn 4 = .ok (.iload_n 1, 1) := by decide +kernel
theorem dX2_grassOn_5 : decode cX2_grassOn 5 = .ok (.aload_n 0, 1) := by decide +kernel
theorem dX2_grassOn_6 : decode cX2_grassOn 6 = .ok (.getfield 28, 3) := by decide +kernel
theorem dX2_grassOn_9 : decode cX2_grassOn 9 = .ok (.getfield 38, 3) := by decide +kernel
theorem dX2_grassOn_12 : decode cX2_grassOn 12 = .ok (.if_icmp .ge 18, 3) := by decide +kernel
theorem dX2_grassOn_15 : decode cX2_grassOn 15 = .ok (.iload_n 1, 1) := by decide +kernel
theorem dX2_grassOn_16 : decode cX2_grassOn 16 = .ok (.bipush 36, 2) := by decide +kernel
theorem dX2_grassOn_18 : decode cX2_grassOn 18 = .ok (.if_icmp .ge 12, 3) := by decide +kernel
theorem dX2_grassOn_21 : decode cX2_grassOn 21 = .ok (.aload_n 0, 1) := by decide +kernel
theorem dX2_grassOn_22 : decode cX2_grassOn 22 = .ok (.getfield 9, 3) := by decide +kernel
theorem dX2_grassOn_25 : decode cX2_grassOn 25 = .ok (.iload_n 1, 1) := by decide +kernel
theorem dX2_grassOn_26 : decode cX2_grassOn 26 = .ok (.iaload, 1) := by decide +kernel
theorem dX2_grassOn_27 : decode cX2_grassOn 27 = .ok (.goto 5, 3) := by decide +kernel
theorem dX2_grassOn_30 : decode cX2_grassOn 30 = .ok (.bipush 9, 2) := by decide +kernel
theorem dX2_grassOn_32 : decode cX2_grassOn 32 = .ok (.ireturn, 1) := by decide +kernel
theorem dX2_kindOf_0 : decode cX2_kindOf 0 = .ok (.iload_n 1, 1) := by decide +kernel
theorem dX2_kindOf_1 : decode cX2_kindOf 1 = .ok (.ifCond .lt 29, 3) := by decide +kernel
theorem dX2_kindOf_4 : decode cX2_kindOf 4 = .ok (.iload_n 1, 1) := by decide +kernel
theorem dX2_kindOf_5 : decode cX2_kindOf 5 = .ok (.aload_n 0, 1) := by decide +kernel
theorem dX2_kindOf_6 : decode cX2_kindOf 6 = .ok (.getfield 28, 3) := by decide +kernel
theorem dX2_kindOf_9 : decode cX2_kindOf 9 = .ok (.getfield 43, 3) := by decide +kernel
theorem dX2_kindOf_12 : decode cX2_kindOf 12 = .ok (.if_icmp .ge 18, 3) := by decide +kernel
theorem dX2_kindOf_15 : decode cX2_kindOf 15 = .ok (.iload_n 1, 1) := by decide +kernel
theorem dX2_kindOf_16 : decode cX2_kindOf 16 = .ok (.bipush 8, 2) := by decide +kernel
theorem dX2_kindOf_18 : decode cX2_kindOf 18 = .ok (.if_icmp .ge 12, 3) := by decide +kernel
theorem dX2_kindOf_21 : decode cX2_kindOf 21 = .ok (.aload_n 0, 1) := by decide +kernel
theorem dX2_kindOf_22 : decode cX2_kindOf 22 = .ok (.getfield 18, 3) := by decide +kernel
theorem dX2_kindOf_25 : decode cX2_kindOf 25 = .ok (.iload_n 1, 1) := by decide +kernel
theorem dX2_kindOf_26 : decode cX2_kindOf 26 = .ok (.iaload, 1) := by decide +kernel
theorem dX2_kindOf_27 : decode cX2_kindOf 27 = .ok (.goto 5, 3) := by decide +kernel
theorem dX2_kindOf_30 : decode cX2_kindOf 30 = .ok (.bipush (-4), 2) := by decide +kernel
theorem dX2_kindOf_32 : decode cX2_kindOf 32 = .ok (.ireturn, 1) := by decide +kernel
theorem dX2_placeOf_0 : decode cX2_placeOf 0 = .ok (.iload_n 1, 1) := by decide +kernel
theorem dX2_placeOf_1 : decode cX2_placeOf 1 = .ok (.ifCond .lt 29, 3) := by decide +kernel
theorem dX2_placeOf_4 : decode cX2_placeOf 4 = .ok (.iload_n 1, 1) := by decide +kernel
theorem dX2_placeOf_5 : decode cX2_placeOf 5 = .ok (.aload_n 0, 1) := by decide +kernel
theorem dX2_placeOf_6 : decode cX2_placeOf 6 = .ok (.getfield 28, 3) := by decide +kernel
theorem dX2_placeOf_9 : decode cX2_placeOf 9 = .ok (.getfield 43, 3) := by decide +kernel
theorem dX2_placeOf_12 : decode cX2_placeOf 12 = .ok (.if_icmp .ge 18, 3) := by decide +kernel
theorem dX2_placeOf_15 : decode cX2_placeOf 15 = .ok (.iload_n 1, 1) := by decide +kernel
theorem dX2_placeOf_16 : decode cX2_placeOf 16 = .ok (.bipush 8, 2) := by decide +kernel
theorem dX2_placeOf_18 : decode cX2_placeOf 18 = .ok (.if_icmp .ge 12, 3) := by decide +kernel
theorem dX2_placeOf_21 : decode cX2_placeOf 21 = .ok (.aload_n 0, 1) := by decide +kernel
theorem dX2_placeOf_22 : decode cX2_placeOf 22 = .ok (.getfield 15, 3) := by decide +kernel
theorem dX2_placeOf_25 : decode cX2_placeOf 25 = .ok (.iload_n 1, 1) := by decide +kernel
theorem dX2_placeOf_26 : decode cX2_placeOf 26 = .ok (.iaload, 1) := by decide +kernel
theorem dX2_placeOf_27 : decode cX2_placeOf 27 = .ok (.goto 5, 3) := by decide +kernel
theorem dX2_placeOf_30 : decode cX2_placeOf 30 = .ok (.bipush (-4), 2) := by decide +kernel
theorem dX2_placeOf_32 : decode cX2_placeOf 32 = .ok (.ireturn, 1) := by decide +kernel
theorem dX2_hungerOf_0 : decode cX2_hungerOf 0 = .ok (.iload_n 1, 1) := by decide +kernel
theorem dX2_hungerOf_1 : decode cX2_hungerOf 1 = .ok (.ifCond .lt 29, 3) := by decide +kernel
theorem dX2_hungerOf_4 : decode cX2_hungerOf 4 = .ok (.iload_n 1, 1) := by decide +kernel
theorem dX2_hungerOf_5 : decode cX2_hungerOf 5 = .ok (.aload_n 0, 1) := by decide +kernel
theorem dX2_hungerOf_6 : decode cX2_hungerOf 6 = .ok (.getfield 28, 3) := by decide +kernel
theorem dX2_hungerOf_9 : decode cX2_hungerOf 9 = .ok (.getfield 43, 3) := by decide +kernel
theorem dX2_hungerOf_12 : decode cX2_hungerOf 12 = .ok (.if_icmp .ge 18, 3) := by decide +kernel
theorem dX2_hungerOf_15 : decode cX2_hungerOf 15 = .ok (.iload_n 1, 1) := by decide +kernel
theorem dX2_hungerOf_16 : decode cX2_hungerOf 16 = .ok (.bipush 8, 2) := by decide +kernel
theorem dX2_hungerOf_18 : decode cX2_hungerOf 18 = .ok (.if_icmp .ge 12, 3) := by decide +kernel
theorem dX2_hungerOf_21 : decode cX2_hungerOf 21 = .ok (.aload_n 0, 1) := by decide +kernel
theorem dX2_hungerOf_22 : decode cX2_hungerOf 22 = .ok (.getfield 21, 3) := by decide +kernel
theorem dX2_hungerOf_25 : decode cX2_hungerOf 25 = .ok (.iload_n 1, 1) := by decide +kernel
theorem dX2_hungerOf_26 : decode cX2_hungerOf 26 = .ok (.iaload, 1) := by decide +kernel
theorem dX2_hungerOf_27 : decode cX2_hungerOf 27 = .ok (.goto 5, 3) := by decide +kernel
theorem dX2_hungerOf_30 : decode cX2_hungerOf 30 = .ok (.bipush (-4), 2) := by decide +kernel
theorem dX2_hungerOf_32 : decode cX2_hungerOf 32 = .ok (.ireturn, 1) := by decide +kernel
theorem dX2_isOff_0 : decode cX2_isOff 0 = .ok (.aload_n 0, 1) := by decide +kernel
theorem dX2_isOff_1 : decode cX2_isOff 1 = .ok (.iload_n 1, 1) := by decide +kernel
theorem dX2_isOff_2 : decode cX2_isOff 2 = .ok (.invokevirtual 46, 3) := by decide +kernel
theorem dX2_isOff_5 : decode cX2_isOff 5 = .ok (.bipush (-4), 2) := by decide +kernel
theorem dX2_isOff_7 : decode cX2_isOff 7 = .ok (.if_icmp .ne 7, 3) := by decide +kernel
theorem dX2_isOff_10 : decode cX2_isOff 10 = .ok (.iconst 1, 1) := by decide +kernel
theorem dX2_isOff_11 : decode cX2_isOff 11 = .ok (.goto 4, 3) := by decide +kernel
theorem dX2_isOff_14 : decode cX2_isOff 14 = .ok (.iconst 0, 1) := by decide +kernel
theorem dX2_isOff_15 : decode cX2_isOff 15 = .ok (.ireturn, 1) := by decide +kernel
theorem dX2_turn_0 : decode cX2_turn 0 = .ok (.aload_n 0, 1) := by decide +kernel
theorem dX2_turn_1 : decode cX2_turn 1 = .ok (.getfield 24, 3) := by decide +kernel
theorem dX2_turn_4 : decode cX2_turn 4 = .ok (.iconst 1, 1) := by decide +kernel
theorem dX2_turn_5 : decode cX2_turn 5 = .ok (.iand, 1) := by decide +kernel
theorem dX2_turn_6 : decode cX2_turn 6 = .ok (.ireturn, 1) := by decide +kernel
theorem dX2_snowing_0 : decode cX2_snowing 0 = .ok (.aload_n 0, 1) := by decide +kernel
theorem dX2_snowing_1 : decode cX2_snowing 1 = .ok (.getfield 28, 3) := by decide +kernel
theorem dX2_snowing_4 : decode cX2_snowing 4 = .ok (.aload_n 0, 1) := by decide +kernel
theorem dX2_snowing_5 : decode cX2_snowing 5 = .ok (.getfield 24, 3) := by decide +kernel
theorem dX2_snowing_8 : decode cX2_snowing 8 = .ok (.invokevirtual 50, 3) := by decide +kernel
theorem dX2_snowing_11 : decode cX2_snowing 11 = .ok (.ireturn, 1) := by decide +kernel
theorem dX2_occupant_0 : decode cX2_occupant 0 = .ok (.iload_n 1, 1) := by decide +kernel
theorem dX2_occupant_1 : decode cX2_occupant 1 = .ok (.ifCond .ge 6, 3) := by decide +kernel
theorem dX2_occupant_4 : decode cX2_occupant 4 = .ok (.bipush (-4), 2) := by decide +kernel
theorem dX2_occupant_6 : decode cX2_occupant 6 = .ok (.ireturn, 1) := by decide +kernel
theorem dX2_occupant_7 : decode cX2_occupant 7 = .ok (.iconst 0, 1) := by decide +kernel
theorem dX2_occupant_8 : decode cX2_occupant 8 = .ok (.istore_n 2, 1) := by decide +kernel
theorem dX2_occupant_9 : decode cX2_occupant 9 = .ok (.iload_n 2, 1) := by decide +kernel
theorem dX2_occupant_10 : decode cX2_occupant 10 = .ok (.aload_n 0, 1) := by decide +kernel
theorem dX2_occupant_11 : decode cX2_occupant 11 = .ok (.getfield 28, 3) := by decide +kernel
theorem dX2_occupant_14 : decode cX2_occupant 14 = .ok (.getfield 43, 3) := by decide +kernel
theorem dX2_occupant_17 : decode cX2_occupant 17 = .ok (.if_icmp .ge 27, 3) := by decide +kernel
theorem dX2_occupant_20 : decode cX2_occupant 20 = .ok (.iload_n 2, 1) := by decide +kernel
theorem dX2_occupant_21 : decode cX2_occupant 21 = .ok (.bipush 8, 2) := by decide +kernel
theorem dX2_occupant_23 : decode cX2_occupant 23 = .ok (.if_icmp .ge 21, 3) := by decide +kernel
theorem dX2_occupant_26 : decode cX2_occupant 26 = .ok (.aload_n 0, 1) := by decide +kernel
theorem dX2_occupant_27 : decode cX2_occupant 27 = .ok (.getfield 15, 3) := by decide +kernel
theorem dX2_occupant_30 : decode cX2_occupant 30 = .ok (.iload_n 2, 1) := by decide +kernel
theorem dX2_occupant_31 : decode cX2_occupant 31 = .ok (.iaload, 1) := by decide +kernel
theorem dX2_occupant_32 : decode cX2_occupant 32 = .ok (.iload_n 1, 1) := by decide +kernel
theorem dX2_occupant_33 : decode cX2_occupant 33 = .ok (.if_icmp .ne 5, 3) := by decide +kernel
theorem dX2_occupant_36 : decode cX2_occupant 36 = .ok (.iload_n 2, 1) := by decide +kernel
theorem dX2_occupant_37 : decode cX2_occupant 37 = .ok (.ireturn, 1) := by decide +kernel
theorem dX2_occupant_38 : decode cX2_occupant 38 = .ok (.iinc 2 1, 3) := by decide +kernel
theorem dX2_occupant_41 : decode cX2_occupant 41 = .ok (.goto (-32), 3) := by decide +kernel
theorem dX2_occupant_44 : decode cX2_occupant 44 = .ok (.bipush (-4), 2) := by decide +kernel
theorem dX2_occupant_46 : decode cX2_occupant 46 = .ok (.ireturn, 1) := by decide +kernel
theorem dX2_put_0 : decode cX2_put 0 = .ok (.aload_n 0, 1) := by decide +kernel
theorem dX2_put_1 : decode cX2_put 1 = .ok (.getfield 28, 3) := by decide +kernel
theorem dX2_put_4 : decode cX2_put 4 = .ok (.iload_n 1, 1) := by decide +kernel
theorem dX2_put_5 : decode cX2_put 5 = .ok (.invokevirtual 54, 3) := by decide +kernel
theorem dX2_put_8 : decode cX2_put 8 = .ok (.ifCond .eq 17, 3) := by decide +kernel
theorem dX2_put_11 : decode cX2_put 11 = .ok (.aload_n 0, 1) := by decide +kernel
theorem dX2_put_12 : decode cX2_put 12 = .ok (.getfield 15, 3) := by decide +kernel
theorem dX2_put_15 : decode cX2_put 15 = .ok (.iload_n 1, 1) := by decide +kernel
theorem dX2_put_16 : decode cX2_put 16 = .ok (.iload_n 2, 1) := by decide +kernel
theorem dX2_put_17 : decode cX2_put 17 = .ok (.iastore, 1) := by decide +kernel
theorem dX2_put_18 : decode cX2_put 18 = .ok (.aload_n 0, 1) := by decide +kernel
theorem dX2_put_19 : decode cX2_put 19 = .ok (.getfield 18, 3) := by decide +kernel
theorem dX2_put_22 : decode cX2_put 22 = .ok (.iload_n 1, 1) := by decide +kernel
theorem dX2_put_23 : decode cX2_put 23 = .ok (.iload_n 3, 1) := by decide +kernel
theorem dX2_put_24 : decode cX2_put 24 = .ok (.iastore, 1) := by decide +kernel
theorem dX2_put_25 : decode cX2_put 25 = .ok (.return_, 1) := by decide +kernel
theorem dX2_reach_0 : decode cX2_reach 0 = .ok (.aload_n 0, 1) := by decide +kernel
theorem dX2_reach_1 : decode cX2_reach 1 = .ok (.iload_n 1, 1) := by decide +kernel
theorem dX2_reach_2 : decode cX2_reach 2 = .ok (.invokevirtual 57, 3) := by decide +kernel
theorem dX2_reach_5 : decode cX2_reach 5 = .ok (.istore 4, 2) := by decide +kernel
theorem dX2_reach_7 : decode cX2_reach 7 = .ok (.aload_n 0, 1) := by decide +kernel
theorem dX2_reach_8 : decode cX2_reach 8 = .ok (.iload_n 1, 1) := by decide +kernel
theorem dX2_reach_9 : decode cX2_reach 9 = .ok (.invokevirtual 60, 3) := by decide +kernel
theorem dX2_reach_12 : decode cX2_reach 12 = .ok (.ifCond .ne 29, 3) := by decide +kernel
theorem dX2_reach_15 : decode cX2_reach 15 = .ok (.iload 4, 2) := by decide +kernel
theorem dX2_reach_17 : decode cX2_reach 17 = .ok (.iconst 2, 1) := by decide +kernel
theorem dX2_reach_18 : decode cX2_reach 18 = .ok (.if_icmp .ne 26, 3) := by decide +kernel
theorem dX2_reach_21 : decode cX2_reach 21 = .ok (.iload_n 2, 1) := by decide +kernel
theorem dX2_reach_22 : decode cX2_reach 22 = .ok (.aload_n 0, 1) := by decide +kernel
theorem dX2_reach_23 : decode cX2_reach 23 = .ok (.getfield 28, 3) := by decide +kernel
theorem dX2_reach_26 : decode cX2_reach 26 = .ok (.iload_n 1, 1) := by decide +kernel
theorem dX2_reach_27 : decode cX2_reach 27 = .ok (.invokevirtual 63, 3) := by decide +kernel
theorem dX2_reach_30 : decode cX2_reach 30 = .ok (.ifCond .ne 7, 3) := by decide +kernel
theorem dX2_reach_33 : decode cX2_reach 33 = .ok (.iconst 0, 1) := by decide +kernel
theorem dX2_reach_34 : decode cX2_reach 34 = .ok (.goto 4, 3) := by decide +kernel
theorem dX2_reach_37 : decode cX2_reach 37 = .ok (.iconst 2, 1) := by decide +kernel
theorem dX2_reach_38 : decode cX2_reach 38 = .ok (.if_icmp .eq 6, 3) := by decide +kernel
theorem dX2_reach_41 : decode cX2_reach 41 = .ok (.bipush (-4), 2) := by decide +kernel
theorem dX2_reach_43 : decode cX2_reach 43 = .ok (.ireturn, 1) := by decide +kernel
theorem dX2_reach_44 : decode cX2_reach 44 = .ok (.bipush (-4), 2) := by decide +kernel
theorem dX2_reach_46 : decode cX2_reach 46 = .ok (.istore 5, 2) := by decide +kernel
theorem dX2_reach_48 : decode cX2_reach 48 = .ok (.aload_n 0, 1) := by decide +kernel
theorem dX2_reach_49 : decode cX2_reach 49 = .ok (.getfield 28, 3) := by decide +kernel
theorem dX2_reach_52 : decode cX2_reach 52 = .ok (.aload_n 0, 1) := by decide +kernel
theorem dX2_reach_53 : decode cX2_reach 53 = .ok (.iload_n 1, 1) := by decide +kernel
theorem dX2_reach_54 : decode cX2_reach 54 = .ok (.invokevirtual 46, 3) := by decide +kernel
theorem dX2_reach_57 : decode cX2_reach 57 = .ok (.iload_n 2, 1) := by decide +kernel
theorem dX2_reach_58 : decode cX2_reach 58 = .ok (.invokevirtual 66, 3) := by decide +kernel
theorem dX2_reach_61 : decode cX2_reach 61 = .ok (.istore 6, 2) := by decide +kernel
theorem dX2_reach_63 : decode cX2_reach 63 = .ok (.iconst 0, 1) := by decide +kernel
theorem dX2_reach_64 : decode cX2_reach 64 = .ok (.istore 7, 2) := by decide +kernel
theorem dX2_reach_66 : decode cX2_reach 66 = .ok (.iload 7, 2) := by decide +kernel
theorem dX2_reach_68 : decode cX2_reach 68 = .ok (.bipush 6, 2) := by decide +kernel
theorem dX2_reach_70 : decode cX2_reach 70 = .ok (.if_icmp .ge 64, 3) := by decide +kernel
theorem dX2_reach_73 : decode cX2_reach 73 = .ok (.aload_n 0, 1) := by decide +kernel
theorem dX2_reach_74 : decode cX2_reach 74 = .ok (.iload_n 1, 1) := by decide +kernel
theorem dX2_reach_75 : decode cX2_reach 75 = .ok (.iload 6, 2) := by decide +kernel
theorem dX2_reach_77 : decode cX2_reach 77 = .ok (.iload_n 3, 1) := by decide +kernel
theorem dX2_reach_78 : decode cX2_reach 78 = .ok (.invokevirtual 70, 3) := by decide +kernel
theorem dX2_reach_81 : decode cX2_reach 81 = .ok (.ifCond .eq 53, 3) := by decide +kernel
theorem dX2_reach_84 : decode cX2_reach 84 = .ok (.iload 6, 2) := by decide +kernel
theorem dX2_reach_86 : decode cX2_reach 86 = .ok (.istore 5, 2) := by decide +kernel
theorem dX2_reach_88 : decode cX2_reach 88 = .ok (.iload 4, 2) := by decide +kernel
theorem dX2_reach_90 : decode cX2_reach 90 = .ok (.ifCond .ne 23, 3) := by decide +kernel
theorem dX2_reach_93 : decode cX2_reach 93 = .ok (.aload_n 0, 1) := by decide +kernel
theorem dX2_reach_94 : decode cX2_reach 94 = .ok (.iload 5, 2) := by decide +kernel
theorem dX2_reach_96 : decode cX2_reach 96 = .ok (.invokevirtual 74, 3) := by decide +kernel
theorem dX2_reach_99 : decode cX2_reach 99 = .ok (.ifCond .gt 14, 3) := by decide +kernel
theorem dX2_reach_102 : decode cX2_reach 102 = .ok (.aload_n 0, 1) := by decide +kernel
theorem dX2_reach_103 : decode cX2_reach 103 = .ok (.iload 5, 2) := by decide +kernel
theorem dX2_reach_105 : decode cX2_reach 105 = .ok (.invokevirtual 77, 3) := by decide +kernel
theorem dX2_reach_108 : decode cX2_reach 108 = .ok (.bipush (-4), 2) := by decide +kernel
theorem dX2_reach_110 : decode cX2_reach 110 = .ok (.if_icmp .eq 6, 3) := by decide +kernel
theorem dX2_reach_113 : decode cX2_reach 113 = .ok (.iload 5, 2) := by decide +kernel
theorem dX2_reach_115 : decode cX2_reach 115 = .ok (.ireturn, 1) := by decide +kernel
theorem dX2_reach_116 : decode cX2_reach 116 = .ok (.aload_n 0, 1) := by decide +kernel
theorem dX2_reach_117 : decode cX2_reach 117 = .ok (.getfield 28, 3) := by decide +kernel
theorem dX2_reach_120 : decode cX2_reach 120 = .ok (.iload 5, 2) := by decide +kernel
theorem dX2_reach_122 : decode cX2_reach 122 = .ok (.iload_n 2, 1) := by decide +kernel
theorem dX2_reach_123 : decode cX2_reach 123 = .ok (.invokevirtual 66, 3) := by decide +kernel
theorem dX2_reach_126 : decode cX2_reach 126 = .ok (.istore 6, 2) := by decide +kernel
theorem dX2_reach_128 : decode cX2_reach 128 = .ok (.iinc 7 1, 3) := by decide +kernel
theorem dX2_reach_131 : decode cX2_reach 131 = .ok (.goto (-65), 3) := by decide +kernel
theorem dX2_reach_134 : decode cX2_reach 134 = .ok (.iload 5, 2) := by decide +kernel
theorem dX2_reach_136 : decode cX2_reach 136 = .ok (.ireturn, 1) := by decide +kernel
theorem dX2_isOpen_0 : decode cX2_isOpen 0 = .ok (.aload_n 0, 1) := by decide +kernel
theorem dX2_isOpen_1 : decode cX2_isOpen 1 = .ok (.iload_n 2, 1) := by decide +kernel
theorem dX2_isOpen_2 : decode cX2_isOpen 2 = .ok (.invokevirtual 74, 3) := by decide +kernel
theorem dX2_isOpen_5 : decode cX2_isOpen 5 = .ok (.bipush 9, 2) := by decide +kernel
theorem dX2_isOpen_7 : decode cX2_isOpen 7 = .ok (.if_icmp .ne 5, 3) := by decide +kernel
theorem dX2_isOpen_10 : decode cX2_isOpen 10 = .ok (.iconst 0, 1) := by decide +kernel
theorem dX2_isOpen_11 : decode cX2_isOpen 11 = .ok (.ireturn, 1) := by decide +kernel
theorem dX2_isOpen_12 : decode cX2_isOpen 12 = .ok (.aload_n 0, 1) := by decide +kernel
theorem dX2_isOpen_13 : decode cX2_isOpen 13 = .ok (.getfield 28, 3) := by decide +kernel
theorem dX2_isOpen_16 : decode cX2_isOpen 16 = .ok (.iload_n 1, 1) := by decide +kernel
theorem dX2_isOpen_17 : decode cX2_isOpen 17 = .ok (.invokevirtual 63, 3) := by decide +kernel
theorem dX2_isOpen_20 : decode cX2_isOpen 20 = .ok (.istore 4, 2) := by decide +kernel
theorem dX2_isOpen_22 : decode cX2_isOpen 22 = .ok (.aload_n 0, 1) := by decide +kernel
theorem dX2_isOpen_23 : decode cX2_isOpen 23 = .ok (.iload_n 2, 1) := by decide +kernel
theorem dX2_isOpen_24 : decode cX2_isOpen 24 = .ok (.invokevirtual 77, 3) := by decide +kernel
theorem dX2_isOpen_27 : decode cX2_isOpen 27 = .ok (.istore 5, 2) := by decide +kernel
theorem dX2_isOpen_29 : decode cX2_isOpen 29 = .ok (.iload 5, 2) := by decide +kernel
theorem dX2_isOpen_31 : decode cX2_isOpen 31 = .ok (.bipush (-4), 2) := by decide +kernel
theorem dX2_isOpen_33 : decode cX2_isOpen 33 = .ok (.if_icmp .eq 32, 3) := by decide +kernel
theorem dX2_isOpen_36 : decode cX2_isOpen 36 = .ok (.iload_n 3, 1) := by decide +kernel
theorem dX2_isOpen_37 : decode cX2_isOpen 37 = .ok (.ifCond .ne 26, 3) := by decide +kernel
theorem dX2_isOpen_40 : decode cX2_isOpen 40 = .ok (.aload_n 0, 1) := by decide +kernel
theorem dX2_isOpen_41 : decode cX2_isOpen 41 = .ok (.iload_n 1, 1) := by decide +kernel
theorem dX2_isOpen_42 : decode cX2_isOpen 42 = .ok (.invokevirtual 57, 3) := by decide +kernel
theorem dX2_isOpen_45 : decode cX2_isOpen 45 = .ok (.iconst 2, 1) := by decide +kernel
theorem dX2_isOpen_46 : decode cX2_isOpen 46 = .ok (.if_icmp .eq 17, 3) := by decide +kernel
theorem dX2_isOpen_49 : decode cX2_isOpen 49 = .ok (.aload_n 0, 1) := by decide +kernel
theorem dX2_isOpen_50 : decode cX2_isOpen 50 = .ok (.getfield 28, 3) := by decide +kernel
theorem dX2_isOpen_53 : decode cX2_isOpen 53 = .ok (.iload 5, 2) := by decide +kernel
theorem dX2_isOpen_55 : decode cX2_isOpen 55 = .ok (.invokevirtual 63, 3) := by decide +kernel
theorem dX2_isOpen_58 : decode cX2_isOpen 58 = .ok (.iload 4, 2) := by decide +kernel
theorem dX2_isOpen_60 : decode cX2_isOpen 60 = .ok (.if_icmp .ne 5, 3) := by decide +kernel
theorem dX2_isOpen_63 : decode cX2_isOpen 63 = .ok (.iconst 0, 1) := by decide +kernel
theorem dX2_isOpen_64 : decode cX2_isOpen 64 = .ok (.ireturn, 1) := by decide +kernel
theorem dX2_isOpen_65 : decode cX2_isOpen 65 = .ok (.aload_n 0, 1) := by decide +kernel
theorem dX2_isOpen_66 : decode cX2_isOpen 66 = .ok (.iload_n 1, 1) := by decide +kernel
theorem dX2_isOpen_67 : decode cX2_isOpen 67 = .ok (.invokevirtual 57, 3) := by decide +kernel
theorem dX2_isOpen_70 : decode cX2_isOpen 70 = .ok (.iconst 3, 1) := by decide +kernel
theorem dX2_isOpen_71 : decode cX2_isOpen 71 = .ok (.if_icmp .ne 15, 3) := by decide +kernel
theorem dX2_isOpen_74 : decode cX2_isOpen 74 = .ok (.aload_n 0, 1) := by decide +kernel
theorem dX2_isOpen_75 : decode cX2_isOpen 75 = .ok (.iload_n 2, 1) := by decide +kernel
theorem dX2_isOpen_76 : decode cX2_isOpen 76 = .ok (.iconst 1, 1) := by decide +kernel
theorem dX2_isOpen_77 : decode cX2_isOpen 77 = .ok (.iload 4, 2) := by decide +kernel
theorem dX2_isOpen_79 : decode cX2_isOpen 79 = .ok (.isub, 1) := by decide +kernel
theorem dX2_isOpen_80 : decode cX2_isOpen 80 = .ok (.invokevirtual 80, 3) := by decide +kernel
theorem dX2_isOpen_83 : decode cX2_isOpen 83 = .ok (.ifCond .ne 7, 3) := by decide +kernel
theorem dX2_isOpen_86 : decode cX2_isOpen 86 = .ok (.iconst 1, 1) := by decide +kernel
theorem dX2_isOpen_87 : decode cX2_isOpen 87 = .ok (.goto 4, 3) := by decide +kernel
theorem dX2_isOpen_90 : decode cX2_isOpen 90 = .ok (.iconst 0, 1) := by decide +kernel
theorem dX2_isOpen_91 : decode cX2_isOpen 91 = .ok (.ireturn, 1) := by decide +kernel
theorem dX2_ramBeside_0 : decode cX2_ramBeside 0 = .ok (.aload_n 0, 1) := by decide +kernel
theorem dX2_ramBeside_1 : decode cX2_ramBeside 1 = .ok (.getfield 28, 3) := by decide +kernel
theorem dX2_ramBeside_4 : decode cX2_ramBeside 4 = .ok (.getfield 84, 3) := by decide +kernel
theorem dX2_ramBeside_7 : decode cX2_ramBeside 7 = .ok (.istore_n 3, 1) := by decide +kernel
theorem dX2_ramBeside_8 : decode cX2_ramBeside 8 = .ok (.iconst 0, 1) := by decide +kernel
theorem dX2_ramBeside_9 : decode cX2_ramBeside 9 = .ok (.istore 4, 2) := by decide +kernel
theorem dX2_ramBeside_11 : decode cX2_ramBeside 11 = .ok (.iload 4, 2) := by decide +kernel
theorem dX2_ramBeside_13 : decode cX2_ramBeside 13 = .ok (.aload_n 0, 1) := by decide +kernel
theorem dX2_ramBeside_14 : decode cX2_ramBeside 14 = .ok (.getfield 28, 3) := by decide +kernel
theorem dX2_ramBeside_17 : decode cX2_ramBeside 17 = .ok (.getfield 43, 3) := by decide +kernel
theorem dX2_ramBeside_20 : decode cX2_ramBeside 20 = .ok (.if_icmp .ge 101, 3) := by decide +kernel
theorem dX2_ramBeside_23 : decode cX2_ramBeside 23 = .ok (.iload 4, 2) := by decide +kernel
theorem dX2_ramBeside_25 : decode cX2_ramBeside 25 = .ok (.bipush 8, 2) := by decide +kernel
theorem dX2_ramBeside_27 : decode cX2_ramBeside 27 = .ok (.if_icmp .ge 94, 3) := by decide +kernel
theorem dX2_ramBeside_30 : decode cX2_ramBeside 30 = .ok (.iload_n 3, 1) := by decide +kernel
theorem dX2_ramBeside_31 : decode cX2_ramBeside 31 = .ok (.ifCond .le 90, 3) := by decide +kernel
theorem dX2_ramBeside_34 : decode cX2_ramBeside 34 = .ok (.aload_n 0, 1) := by decide +kernel
theorem dX2_ramBeside_35 : decode cX2_ramBeside 35 = .ok (.getfield 15, 3) := by decide +kernel
theorem dX2_ramBeside_38 : decode cX2_ramBeside 38 = .ok (.iload 4, 2) := by decide +kernel
theorem dX2_ramBeside_40 : decode cX2_ramBeside 40 = .ok (.iaload, 1) := by decide +kernel
theorem dX2_ramBeside_41 : decode cX2_ramBeside 41 = .ok (.ifCond .lt 74, 3) := by decide +kernel
theorem dX2_ramBeside_44 : decode cX2_ramBeside 44 = .ok (.aload_n 0, 1) := by decide +kernel
theorem dX2_ramBeside_45 : decode cX2_ramBeside 45 = .ok (.getfield 18, 3) := by decide +kernel
theorem dX2_ramBeside_48 : decode cX2_ramBeside 48 = .ok (.iload 4, 2) := by decide +kernel
theorem dX2_ramBeside_50 : decode cX2_ramBeside 50 = .ok (.iaload, 1) := by decide +kernel
theorem dX2_ramBeside_51 : decode cX2_ramBeside 51 = .ok (.ifCond .ne 64, 3) := by decide +kernel
theorem dX2_ramBeside_54 : decode cX2_ramBeside 54 = .ok (.aload_n 0, 1) := by decide +kernel
theorem dX2_ramBeside_55 : decode cX2_ramBeside 55 = .ok (.getfield 28, 3) := by decide +kernel
theorem dX2_ramBeside_58 : decode cX2_ramBeside 58 = .ok (.getfield 87, 3) := by decide +kernel
theorem dX2_ramBeside_61 : decode cX2_ramBeside 61 = .ok (.iload 4, 2) := by decide +kernel
theorem dX2_ramBeside_63 : decode cX2_ramBeside 63 = .ok (.iaload, 1) := by decide +kernel
theorem dX2_ramBeside_64 : decode cX2_ramBeside 64 = .ok (.iload_n 2, 1) := by decide +kernel
theorem dX2_ramBeside_65 : decode cX2_ramBeside 65 = .ok (.if_icmp .ne 50, 3) := by decide +kernel
theorem dX2_ramBeside_68 : decode cX2_ramBeside 68 = .ok (.aload_n 0, 1) := by decide +kernel
theorem dX2_ramBeside_69 : decode cX2_ramBeside 69 = .ok (.getfield 15, 3) := by decide +kernel
theorem dX2_ramBeside_72 : decode cX2_ramBeside 72 = .ok (.iload 4, 2) := by decide +kernel
theorem dX2_ramBeside_74 : decode cX2_ramBeside 74 = .ok (.iaload, 1) := by decide +kernel
theorem dX2_ramBeside_75 : decode cX2_ramBeside 75 = .ok (.iload_n 3, 1) := by decide +kernel
theorem dX2_ramBeside_76 : decode cX2_ramBeside 76 = .ok (.idiv, 1) := by decide +kernel
theorem dX2_ramBeside_77 : decode cX2_ramBeside 77 = .ok (.iload_n 1, 1) := by decide +kernel
theorem dX2_ramBeside_78 : decode cX2_ramBeside 78 = .ok (.iload_n 3, 1) := by decide +kernel
theorem dX2_ramBeside_79 : decode cX2_ramBeside 79 = .ok (.idiv, 1) := by decide +kernel
theorem dX2_ramBeside_80 : decode cX2_ramBeside 80 = .ok (.isub, 1) := by decide +kernel
theorem dX2_ramBeside_81 : decode cX2_ramBeside 81 = .ok (.invokestatic 90, 3) := by decide +kernel
theorem dX2_ramBeside_84 : decode cX2_ramBeside 84 = .ok (.istore 5, 2) := by decide +kernel
theorem dX2_ramBeside_86 : decode cX2_ramBeside 86 = .ok (.aload_n 0, 1) := by decide +kernel
theorem dX2_ramBeside_87 : decode cX2_ramBeside 87 = .ok (.getfield 15, 3) := by decide +kernel
theorem dX2_ramBeside_90 : decode cX2_ramBeside 90 = .ok (.iload 4, 2) := by decide +kernel
theorem dX2_ramBeside_92 : decode cX2_ramBeside 92 = .ok (.iaload, 1) := by decide +kernel
theorem dX2_ramBeside_93 : decode cX2_ramBeside 93 = .ok (.iload_n 3, 1) := by decide +kernel
theorem dX2_ramBeside_94 : decode cX2_ramBeside 94 = .ok (.irem, 1) := by decide +kernel
theorem dX2_ramBeside_95 : decode cX2_ramBeside 95 = .ok (.iload_n 1, 1) := by decide +kernel
theorem dX2_ramBeside_96 : decode cX2_ramBeside 96 = .ok (.iload_n 3, 1) := by decide +kernel
theorem dX2_ramBeside_97 : decode cX2_ramBeside 97 = .ok (.irem, 1) := by decide +kernel
theorem dX2_ramBeside_98 : decode cX2_ramBeside 98 = .ok (.isub, 1) := by decide +kernel
theorem dX2_ramBeside_99 : decode cX2_ramBeside 99 = .ok (.invokestatic 90, 3) := by decide +kernel
theorem dX2_ramBeside_102 : decode cX2_ramBeside 102 = .ok (.istore 6, 2) := by decide +kernel
theorem dX2_ramBeside_104 : decode cX2_ramBeside 104 = .ok (.iload 5, 2) := by decide +kernel
theorem dX2_ramBeside_106 : decode cX2_ramBeside 106 = .ok (.iload 6, 2) := by decide +kernel
theorem dX2_ramBeside_108 : decode cX2_ramBeside 108 = .ok (.iadd, 1) := by decide +kernel
theorem dX2_ramBeside_109 : decode cX2_ramBeside 109 = .ok (.iconst 1, 1) := by decide +kernel
theorem dX2_ramBeside_110 : decode cX2_ramBeside 110 = .ok (.if_icmp .ne 5, 3) := by decide +kernel
theorem dX2_ramBeside_113 : decode cX2_ramBeside 113 = .ok (.iconst 1, 1) := by decide +kernel
theorem dX2_ramBeside_114 : decode cX2_ramBeside 114 = .ok (.ireturn, 1) := by decide +kernel
theorem dX2_ramBeside_115 : decode cX2_ramBeside 115 = .ok (.iinc 4 1, 3) := by decide +kernel
theorem dX2_ramBeside_118 : decode cX2_ramBeside 118 = .ok (.goto (-107), 3) := by decide +kernel
theorem dX2_ramBeside_121 : decode cX2_ramBeside 121 = .ok (.iconst 0, 1) := by decide +kernel
theorem dX2_ramBeside_122 : decode cX2_ramBeside 122 = .ok (.ireturn, 1) := by decide +kernel
theorem dX2_driven_0 : decode cX2_driven 0 = .ok (.aload_n 0, 1) := by decide +kernel
theorem dX2_driven_1 : decode cX2_driven 1 = .ok (.getfield 28, 3) := by decide +kernel
theorem dX2_driven_4 : decode cX2_driven 4 = .ok (.iload_n 1, 1) := by decide +kernel
theorem dX2_driven_5 : decode cX2_driven 5 = .ok (.invokevirtual 63, 3) := by decide +kernel
theorem dX2_driven_8 : decode cX2_driven 8 = .ok (.aload_n 0, 1) := by decide +kernel
theorem dX2_driven_9 : decode cX2_driven 9 = .ok (.invokevirtual 95, 3) := by decide +kernel
theorem dX2_driven_12 : decode cX2_driven 12 = .ok (.if_icmp .ne 16, 3) := by decide +kernel
theorem dX2_driven_15 : decode cX2_driven 15 = .ok (.aload_n 0, 1) := by decide +kernel
theorem dX2_driven_16 : decode cX2_driven 16 = .ok (.iload_n 1, 1) := by decide +kernel
theorem dX2_driven_17 : decode cX2_driven 17 = .ok (.iload_n 2, 1) := by decide +kernel
theorem dX2_driven_18 : decode cX2_driven 18 = .ok (.aload_n 0, 1) := by decide +kernel
theorem dX2_driven_19 : decode cX2_driven 19 = .ok (.invokevirtual 99, 3) := by decide +kernel
theorem dX2_driven_22 : decode cX2_driven 22 = .ok (.invokevirtual 103, 3) := by decide +kernel
theorem dX2_driven_25 : decode cX2_driven 25 = .ok (.goto 5, 3) := by decide +kernel
theorem dX2_driven_28 : decode cX2_driven 28 = .ok (.bipush (-4), 2) := by decide +kernel
theorem dX2_driven_30 : decode cX2_driven 30 = .ok (.ireturn, 1) := by decide +kernel
theorem dX2_move_0 : decode cX2_move 0 = .ok (.aload_n 0, 1) := by decide +kernel
theorem dX2_move_1 : decode cX2_move 1 = .ok (.iload_n 2, 1) := by decide +kernel
theorem dX2_move_2 : decode cX2_move 2 = .ok (.invokevirtual 77, 3) := by decide +kernel
theorem dX2_move_5 : decode cX2_move 5 = .ok (.istore_n 3, 1) := by decide +kernel
theorem dX2_move_6 : decode cX2_move 6 = .ok (.aload_n 0, 1) := by decide +kernel
theorem dX2_move_7 : decode cX2_move 7 = .ok (.getfield 28, 3) := by decide +kernel
theorem dX2_move_10 : decode cX2_move 10 = .ok (.iload_n 3, 1) := by decide +kernel
theorem dX2_move_11 : decode cX2_move 11 = .ok (.invokevirtual 54, 3) := by decide +kernel
theorem dX2_move_14 : decode cX2_move 14 = .ok (.ifCond .eq 11, 3) := by decide +kernel
theorem dX2_move_17 : decode cX2_move 17 = .ok (.aload_n 0, 1) := by decide +kernel
theorem dX2_move_18 : decode cX2_move 18 = .ok (.getfield 15, 3) := by decide +kernel
theorem dX2_move_21 : decode cX2_move 21 = .ok (.iload_n 3, 1) := by decide +kernel
theorem dX2_move_22 : decode cX2_move 22 = .ok (.bipush (-4), 2) := by decide +kernel
theorem dX2_move_24 : decode cX2_move 24 = .ok (.iastore, 1) := by decide +kernel
theorem dX2_move_25 : decode cX2_move 25 = .ok (.aload_n 0, 1) := by decide +kernel
theorem dX2_move_26 : decode cX2_move 26 = .ok (.iload_n 1, 1) := by decide +kernel
theorem dX2_move_27 : decode cX2_move 27 = .ok (.invokevirtual 57, 3) := by decide +kernel
theorem dX2_move_30 : decode cX2_move 30 = .ok (.iconst 2, 1) := by decide +kernel
theorem dX2_move_31 : decode cX2_move 31 = .ok (.if_icmp .ne 26, 3) := by decide +kernel
theorem dX2_move_34 : decode cX2_move 34 = .ok (.aload_n 0, 1) := by decide +kernel
theorem dX2_move_35 : decode cX2_move 35 = .ok (.getfield 28, 3) := by decide +kernel
theorem dX2_move_38 : decode cX2_move 38 = .ok (.aload_n 0, 1) := by decide +kernel
theorem dX2_move_39 : decode cX2_move 39 = .ok (.getfield 28, 3) := by decide +kernel
theorem dX2_move_42 : decode cX2_move 42 = .ok (.iload_n 1, 1) := by decide +kernel
theorem dX2_move_43 : decode cX2_move 43 = .ok (.invokevirtual 63, 3) := by decide +kernel
theorem dX2_move_46 : decode cX2_move 46 = .ok (.iload_n 2, 1) := by decide +kernel
theorem dX2_move_47 : decode cX2_move 47 = .ok (.invokevirtual 107, 3) := by decide +kernel
theorem dX2_move_50 : decode cX2_move 50 = .ok (.ifCond .eq 7, 3) := by decide +kernel
theorem dX2_move_53 : decode cX2_move 53 = .ok (.iconst 1, 1) := by decide +kernel
theorem dX2_move_54 : decode cX2_move 54 = .ok (.goto 4, 3) := by decide +kernel
theorem dX2_move_57 : decode cX2_move 57 = .ok (.iconst 0, 1) := by decide +kernel
theorem dX2_move_58 : decode cX2_move 58 = .ok (.istore 4, 2) := by decide +kernel
theorem dX2_move_60 : decode cX2_move 60 = .ok (.aload_n 0, 1) := by decide +kernel
theorem dX2_move_61 : decode cX2_move 61 = .ok (.iload_n 1, 1) := by decide +kernel
theorem dX2_move_62 : decode cX2_move 62 = .ok (.iload_n 2, 1) := by decide +kernel
theorem dX2_move_63 : decode cX2_move 63 = .ok (.iload 4, 2) := by decide +kernel
theorem dX2_move_65 : decode cX2_move 65 = .ok (.ifCond .eq 7, 3) := by decide +kernel
theorem dX2_move_68 : decode cX2_move 68 = .ok (.iconst 1, 1) := by decide +kernel
theorem dX2_move_69 : decode cX2_move 69 = .ok (.goto 8, 3) := by decide +kernel
theorem dX2_move_72 : decode cX2_move 72 = .ok (.aload_n 0, 1) := by decide +kernel
theorem dX2_move_73 : decode cX2_move 73 = .ok (.iload_n 1, 1) := by decide +kernel
theorem dX2_move_74 : decode cX2_move 74 = .ok (.invokevirtual 57, 3) := by decide +kernel
theorem dX2_move_77 : decode cX2_move 77 = .ok (.invokevirtual 110, 3) := by decide +kernel
theorem dX2_move_80 : decode cX2_move 80 = .ok (.return_, 1) := by decide +kernel
theorem dX2_live_0 : decode cX2_live 0 = .ok (.iload_n 1, 1) := by decide +kernel
theorem dX2_live_1 : decode cX2_live 1 = .ok (.bipush 10, 2) := by decide +kernel
theorem dX2_live_3 : decode cX2_live 3 = .ok (.idiv, 1) := by decide +kernel
theorem dX2_live_4 : decode cX2_live 4 = .ok (.istore_n 2, 1) := by decide +kernel
theorem dX2_live_5 : decode cX2_live 5 = .ok (.iload_n 1, 1) := by decide +kernel
theorem dX2_live_6 : decode cX2_live 6 = .ok (.bipush 99, 2) := by decide +kernel
theorem dX2_live_8 : decode cX2_live 8 = .ok (.if_icmp .ne 8, 3) := by decide +kernel
theorem dX2_live_11 : decode cX2_live 11 = .ok (.bipush (-4), 2) := by decide +kernel
theorem dX2_live_13 : decode cX2_live 13 = .ok (.goto 12, 3) := by decide +kernel
theorem dX2_live_16 : decode cX2_live 16 = .ok (.aload_n 0, 1) := by decide +kernel
theorem dX2_live_17 : decode cX2_live 17 = .ok (.iload_n 2, 1) := by decide +kernel
theorem dX2_live_18 : decode cX2_live 18 = .ok (.iload_n 1, 1) := by decide +kernel
theorem dX2_live_19 : decode cX2_live 19 = .ok (.bipush 10, 2) := by decide +kernel
theorem dX2_live_21 : decode cX2_live 21 = .ok (.irem, 1) := by decide +kernel
theorem dX2_live_22 : decode cX2_live 22 = .ok (.invokevirtual 114, 3) := by decide +kernel
theorem dX2_live_25 : decode cX2_live 25 = .ok (.istore_n 3, 1) := by decide +kernel
theorem dX2_live_26 : decode cX2_live 26 = .ok (.iload_n 3, 1) := by decide +kernel
theorem dX2_live_27 : decode cX2_live 27 = .ok (.bipush (-4), 2) := by decide +kernel
theorem dX2_live_29 : decode cX2_live 29 = .ok (.if_icmp .eq 9, 3) := by decide +kernel
theorem dX2_live_32 : decode cX2_live 32 = .ok (.aload_n 0, 1) := by decide +kernel
theorem dX2_live_33 : decode cX2_live 33 = .ok (.iload_n 2, 1) := by decide +kernel
theorem dX2_live_34 : decode cX2_live 34 = .ok (.iload_n 3, 1) := by decide +kernel
theorem dX2_live_35 : decode cX2_live 35 = .ok (.invokevirtual 117, 3) := by decide +kernel
theorem dX2_live_38 : decode cX2_live 38 = .ok (.aload_n 0, 1) := by decide +kernel
theorem dX2_live_39 : decode cX2_live 39 = .ok (.invokevirtual 121, 3) := by decide +kernel
theorem dX2_live_42 : decode cX2_live 42 = .ok (.return_, 1) := by decide +kernel
theorem dX2_passDay_0 : decode cX2_passDay 0 = .ok (.aload_n 0, 1) := by decide +kernel
theorem dX2_passDay_1 : decode cX2_passDay 1 = .ok (.invokevirtual 124, 3) := by decide +kernel
theorem dX2_passDay_4 : decode cX2_passDay 4 = .ok (.aload_n 0, 1) := by decide +kernel
theorem dX2_passDay_5 : decode cX2_passDay 5 = .ok (.invokevirtual 127, 3) := by decide +kernel
theorem dX2_passDay_8 : decode cX2_passDay 8 = .ok (.return_, 1) := by decide +kernel
theorem dX2_graze_0 : decode cX2_graze 0 = .ok (.iconst 0, 1) := by decide +kernel
theorem dX2_graze_1 : decode cX2_graze 1 = .ok (.istore_n 1, 1) := by decide +kernel
theorem dX2_graze_2 : decode cX2_graze 2 = .ok (.iload_n 1, 1) := by decide +kernel
theorem dX2_graze_3 : decode cX2_graze 3 = .ok (.aload_n 0, 1) := by decide +kernel
theorem dX2_graze_4 : decode cX2_graze 4 = .ok (.getfield 28, 3) := by decide +kernel
theorem dX2_graze_7 : decode cX2_graze 7 = .ok (.getfield 43, 3) := by decide +kernel
theorem dX2_graze_10 : decode cX2_graze 10 = .ok (.if_icmp .ge 102, 3) := by decide +kernel
theorem dX2_graze_13 : decode cX2_graze 13 = .ok (.iload_n 1, 1) := by decide +kernel
theorem dX2_graze_14 : decode cX2_graze 14 = .ok (.bipush 8, 2) := by decide +kernel
theorem dX2_graze_16 : decode cX2_graze 16 = .ok (.if_icmp .ge 96, 3) := by decide +kernel
theorem dX2_graze_19 : decode cX2_graze 19 = .ok (.aload_n 0, 1) := by decide +kernel
theorem dX2_graze_20 : decode cX2_graze 20 = .ok (.getfield 15, 3) := by decide +kernel
theorem dX2_graze_23 : decode cX2_graze 23 = .ok (.iload_n 1, 1) := by decide +kernel
theorem dX2_graze_24 : decode cX2_graze 24 = .ok (.iaload, 1) := by decide +kernel
theorem dX2_graze_25 : decode cX2_graze 25 = .ok (.istore_n 2, 1) := by decide +kernel
theorem dX2_graze_26 : decode cX2_graze 26 = .ok (.iload_n 2, 1) := by decide +kernel
theorem dX2_graze_27 : decode cX2_graze 27 = .ok (.ifCond .lt 79, 3) := by decide +kernel
theorem dX2_graze_30 : decode cX2_graze 30 = .ok (.iload_n 2, 1) := by decide +kernel
theorem dX2_graze_31 : decode cX2_graze 31 = .ok (.bipush 36, 2) := by decide +kernel
theorem dX2_graze_33 : decode cX2_graze 33 = .ok (.if_icmp .lt 6, 3) := by decide +kernel
theorem dX2_graze_36 : decode cX2_graze 36 = .ok (.goto 70, 3) := by decide +kernel
theorem dX2_graze_39 : decode cX2_graze 39 = .ok (.aload_n 0, 1) := by decide +kernel
theorem dX2_graze_40 : decode cX2_graze 40 = .ok (.getfield 9, 3) := by decide +kernel
theorem dX2_graze_43 : decode cX2_graze 43 = .ok (.iload_n 2, 1) := by decide +kernel
theorem dX2_graze_44 : decode cX2_graze 44 = .ok (.iaload, 1) := by decide +kernel
theorem dX2_graze_45 : decode cX2_graze 45 = .ok (.ifCond .le 23, 3) := by decide +kernel
theorem dX2_graze_48 : decode cX2_graze 48 = .ok (.aload_n 0, 1) := by decide +kernel
theorem dX2_graze_49 : decode cX2_graze 49 = .ok (.getfield 9, 3) := by decide +kernel
theorem dX2_graze_52 : decode cX2_graze 52 = .ok (.iload_n 2, 1) := by decide +kernel
theorem dX2_graze_53 : decode cX2_graze 53 = .ok (.dup2, 1) := by decide +kernel
theorem dX2_graze_54 : decode cX2_graze 54 = .ok (.iaload, 1) := by decide +kernel
theorem dX2_graze_55 : decode cX2_graze 55 = .ok (.iconst 1, 1) := by decide +kernel
theorem dX2_graze_56 : decode cX2_graze 56 = .ok (.isub, 1) := by decide +kernel
theorem dX2_graze_57 : decode cX2_graze 57 = .ok (.iastore, 1) := by decide +kernel
theorem dX2_graze_58 : decode cX2_graze 58 = .ok (.aload_n 0, 1) := by decide +kernel
theorem dX2_graze_59 : decode cX2_graze 59 = .ok (.getfield 21, 3) := by decide +kernel
theorem dX2_graze_62 : decode cX2_graze 62 = .ok (.iload_n 1, 1) := by decide +kernel
theorem dX2_graze_63 : decode cX2_graze 63 = .ok (.iconst 0, 1) := by decide +kernel
theorem dX2_graze_64 : decode cX2_graze 64 = .ok (.iastore, 1) := by decide +kernel
theorem dX2_graze_65 : decode cX2_graze 65 = .ok (.goto 41, 3) := by decide +kernel
theorem dX2_graze_68 : decode cX2_graze 68 = .ok (.aload_n 0, 1) := by decide +kernel
theorem dX2_graze_69 : decode cX2_graze 69 = .ok (.getfield 21, 3) := by decide +kernel
theorem dX2_graze_72 : decode cX2_graze 72 = .ok (.iload_n 1, 1) := by decide +kernel
theorem dX2_graze_73 : decode cX2_graze 73 = .ok (.dup2, 1) := by decide +kernel
theorem dX2_graze_74 : decode cX2_graze 74 = .ok (.iaload, 1) := by decide +kernel
theorem dX2_graze_75 : decode cX2_graze 75 = .ok (.iconst 1, 1) := by decide +kernel
theorem dX2_graze_76 : decode cX2_graze 76 = .ok (.iadd, 1) := by decide +kernel
theorem dX2_graze_77 : decode cX2_graze 77 = .ok (.iastore, 1) := by decide +kernel
theorem dX2_graze_78 : decode cX2_graze 78 = .ok (.aload_n 0, 1) := by decide +kernel
theorem dX2_graze_79 : decode cX2_graze 79 = .ok (.getfield 15, 3) := by decide +kernel
theorem dX2_graze_82 : decode cX2_graze 82 = .ok (.iload_n 1, 1) := by decide +kernel
theorem dX2_graze_83 : decode cX2_graze 83 = .ok (.aload_n 0, 1) := by decide +kernel
theorem dX2_graze_84 : decode cX2_graze 84 = .ok (.getfield 21, 3) := by decide +kernel
theorem dX2_graze_87 : decode cX2_graze 87 = .ok (.iload_n 1, 1) := by decide +kernel
theorem dX2_graze_88 : decode cX2_graze 88 = .ok (.iaload, 1) := by decide +kernel
theorem dX2_graze_89 : decode cX2_graze 89 = .ok (.aload_n 0, 1) := by decide +kernel
theorem dX2_graze_90 : decode cX2_graze 90 = .ok (.getfield 28, 3) := by decide +kernel
theorem dX2_graze_93 : decode cX2_graze 93 = .ok (.getfield 130, 3) := by decide +kernel
theorem dX2_graze_96 : decode cX2_graze 96 = .ok (.if_icmp .le 8, 3) := by decide +kernel
theorem dX2_graze_99 : decode cX2_graze 99 = .ok (.bipush (-4), 2) := by decide +kernel
theorem dX2_graze_101 : decode cX2_graze 101 = .ok (.goto 4, 3) := by decide +kernel
theorem dX2_graze_104 : decode cX2_graze 104 = .ok (.iload_n 2, 1) := by decide +kernel
theorem dX2_graze_105 : decode cX2_graze 105 = .ok (.iastore, 1) := by decide +kernel
theorem dX2_graze_106 : decode cX2_graze 106 = .ok (.iinc 1 1, 3) := by decide +kernel
theorem dX2_graze_109 : decode cX2_graze 109 = .ok (.goto (-107), 3) := by decide +kernel
theorem dX2_graze_112 : decode cX2_graze 112 = .ok (.return_, 1) := by decide +kernel
theorem dX2_beginNextDay_0 : decode cX2_beginNextDay 0 = .ok (.aload_n 0, 1) := by decide +kernel
theorem dX2_beginNextDay_1 : decode cX2_beginNextDay 1 = .ok (.dup, 1) := by decide +kernel
theorem dX2_beginNextDay_2 : decode cX2_beginNextDay 2 = .ok (.getfield 24, 3) := by decide +kernel
theorem dX2_beginNextDay_5 : decode cX2_beginNextDay 5 = .ok (.iconst 1, 1) := by decide +kernel
theorem dX2_beginNextDay_6 : decode cX2_beginNextDay 6 = .ok (.iadd, 1) := by decide +kernel
theorem dX2_beginNextDay_7 : decode cX2_beginNextDay 7 = .ok (.putfield 24, 3) := by decide +kernel
theorem dX2_beginNextDay_10 : decode cX2_beginNextDay 10 = .ok (.aload_n 0, 1) := by decide +kernel
theorem dX2_beginNextDay_11 : decode cX2_beginNextDay 11 = .ok (.getfield 24, 3) := by decide +kernel
theorem dX2_beginNextDay_14 : decode cX2_beginNextDay 14 = .ok (.bipush 9, 2) := by decide +kernel
theorem dX2_beginNextDay_16 : decode cX2_beginNextDay 16 = .ok (.irem, 1) := by decide +kernel
theorem dX2_beginNextDay_17 : decode cX2_beginNextDay 17 = .ok (.ifCond .eq 4, 3) := by decide +kernel
theorem dX2_beginNextDay_20 : decode cX2_beginNextDay 20 = .ok (.return_, 1) := by decide +kernel
theorem dX2_beginNextDay_21 : decode cX2_beginNextDay 21 = .ok (.iconst 0, 1) := by decide +kernel
theorem dX2_beginNextDay_22 : decode cX2_beginNextDay 22 = .ok (.istore_n 1, 1) := by decide +kernel
theorem dX2_beginNextDay_23 : decode cX2_beginNextDay 23 = .ok (.iload_n 1, 1) := by decide +kernel
theorem dX2_beginNextDay_24 : decode cX2_beginNextDay 24 = .ok (.aload_n 0, 1) := by decide +kernel
theorem dX2_beginNextDay_25 : decode cX2_beginNextDay 25 = .ok (.getfield 28, 3) := by decide +kernel
theorem dX2_beginNextDay_28 : decode cX2_beginNextDay 28 = .ok (.getfield 38, 3) := by decide +kernel
theorem dX2_beginNextDay_31 : decode cX2_beginNextDay 31 = .ok (.if_icmp .ge 46, 3) := by decide +kernel
theorem dX2_beginNextDay_34 : decode cX2_beginNextDay 34 = .ok (.iload_n 1, 1) := by decide +kernel
theorem dX2_beginNextDay_35 : decode cX2_beginNextDay 35 = .ok (.bipush 36, 2) := by decide +kernel
theorem dX2_beginNextDay_37 : decode cX2_beginNextDay 37 = .ok (.if_icmp .ge 40, 3) := by decide +kernel
theorem dX2_beginNextDay_40 : decode cX2_beginNextDay 40 = .ok (.aload_n 0, 1) := by decide +kernel
theorem dX2_beginNextDay_41 : decode cX2_beginNextDay 41 = .ok (.getfield 9, 3) := by decide +kernel
theorem dX2_beginNextDay_44 : decode cX2_beginNextDay 44 = .ok (.iload_n 1, 1) := by decide +kernel
theorem dX2_beginNextDay_45 : decode cX2_beginNextDay 45 = .ok (.iaload, 1) := by decide +kernel
theorem dX2_beginNextDay_46 : decode cX2_beginNextDay 46 = .ok (.bipush 8, 2) := by decide +kernel
theorem dX2_beginNextDay_48 : decode cX2_beginNextDay 48 = .ok (.if_icmp .ge 23, 3) := by decide +kernel
theorem dX2_beginNextDay_51 : decode cX2_beginNextDay 51 = .ok (.aload_n 0, 1) := by decide +kernel
theorem dX2_beginNextDay_52 : decode cX2_beginNextDay 52 = .ok (.iload_n 1, 1) := by decide +kernel
theorem dX2_beginNextDay_53 : decode cX2_beginNextDay 53 = .ok (.invokevirtual 77, 3) := by decide +kernel
theorem dX2_beginNextDay_56 : decode cX2_beginNextDay 56 = .ok (.bipush (-4), 2) := by decide +kernel
theorem dX2_beginNextDay_58 : decode cX2_beginNextDay 58 = .ok (.if_icmp .ne 13, 3) := by decide +kernel
theorem dX2_beginNextDay_61 : decode cX2_beginNextDay 61 = .ok (.aload_n 0, 1) := by decide +kernel
theorem dX2_beginNextDay_62 : decode cX2_beginNextDay 62 = .ok (.getfield 9, 3) := by decide +kernel
theorem dX2_beginNextDay_65 : decode cX2_beginNextDay 65 = .ok (.iload_n 1, 1) := by decide +kernel
theorem dX2_beginNextDay_66 : decode cX2_beginNextDay 66 = .ok (.dup2, 1) := by decide +kernel
theorem dX2_beginNextDay_67 : decode cX2_beginNextDay 67 = .ok (.iaload, 1) := by decide +kernel
theorem dX2_beginNextDay_68 : decode cX2_beginNextDay 68 = .ok (.iconst 1, 1) := by decide +kernel
theorem dX2_beginNextDay_69 : decode cX2_beginNextDay 69 = .ok (.iadd, 1) := by decide +kernel
theorem dX2_beginNextDay_70 : decode cX2_beginNextDay 70 = .ok (.iastore, 1) := by decide +kernel
theorem dX2_beginNextDay_71 : decode cX2_beginNextDay 71 = .ok (.iinc 1 1, 3) := by decide +kernel
theorem dX2_beginNextDay_74 : decode cX2_beginNextDay 74 = .ok (.goto (-51), 3) := by decide +kernel
theorem dX2_beginNextDay_77 : decode cX2_beginNextDay 77 = .ok (.return_, 1) := by decide +kernel
theorem dX2_wolfComes_0 : decode cX2_wolfComes 0 = .ok (.iconst 0, 1) := by decide +kernel
theorem dX2_wolfComes_1 : decode cX2_wolfComes 1 = .ok (.istore_n 1, 1) := by decide +kernel
theorem dX2_wolfComes_2 : decode cX2_wolfComes 2 = .ok (.iload_n 1, 1) := by decide +kernel
theorem dX2_wolfComes_3 : decode cX2_wolfComes 3 = .ok (.aload_n 0, 1) := by decide +kernel
theorem dX2_wolfComes_4 : decode cX2_wolfComes 4 = .ok (.getfield 28, 3) := by decide +kernel
theorem dX2_wolfComes_7 : decode cX2_wolfComes 7 = .ok (.getfield 43, 3) := by decide +kernel
theorem dX2_wolfComes_10 : decode cX2_wolfComes 10 = .ok (.if_icmp .ge 48, 3) := by decide +kernel
theorem dX2_wolfComes_13 : decode cX2_wolfComes 13 = .ok (.iload_n 1, 1) := by decide +kernel
theorem dX2_wolfComes_14 : decode cX2_wolfComes 14 = .ok (.bipush 8, 2) := by decide +kernel
theorem dX2_wolfComes_16 : decode cX2_wolfComes 16 = .ok (.if_icmp .ge 42, 3) := by decide +kernel
theorem dX2_wolfComes_19 : decode cX2_wolfComes 19 = .ok (.aload_n 0, 1) := by decide +kernel
theorem dX2_wolfComes_20 : decode cX2_wolfComes 20 = .ok (.getfield 15, 3) := by decide +kernel
theorem dX2_wolfComes_23 : decode cX2_wolfComes 23 = .ok (.iload_n 1, 1) := by decide +kernel
theorem dX2_wolfComes_24 : decode cX2_wolfComes 24 = .ok (.iaload, 1) := by decide +kernel
theorem dX2_wolfComes_25 : decode cX2_wolfComes 25 = .ok (.bipush (-4), 2) := by decide +kernel
theorem dX2_wolfComes_27 : decode cX2_wolfComes 27 = .ok (.if_icmp .eq 25, 3) := by decide +kernel
theorem dX2_wolfComes_30 : decode cX2_wolfComes 30 = .ok (.aload_n 0, 1) := by decide +kernel
theorem dX2_wolfComes_31 : decode cX2_wolfComes 31 = .ok (.aload_n 0, 1) := by decide +kernel
theorem dX2_wolfComes_32 : decode cX2_wolfComes 32 = .ok (.getfield 15, 3) := by decide +kernel
theorem dX2_wolfComes_35 : decode cX2_wolfComes 35 = .ok (.iload_n 1, 1) := by decide +kernel
theorem dX2_wolfComes_36 : decode cX2_wolfComes 36 = .ok (.iaload, 1) := by decide +kernel
theorem dX2_wolfComes_37 : decode cX2_wolfComes 37 = .ok (.invokevirtual 133, 3) := by decide +kernel
theorem dX2_wolfComes_40 : decode cX2_wolfComes 40 = .ok (.ifCond .eq 12, 3) := by decide +kernel
theorem dX2_wolfComes_43 : decode cX2_wolfComes 43 = .ok (.aload_n 0, 1) := by decide +kernel
theorem dX2_wolfComes_44 : decode cX2_wolfComes 44 = .ok (.getfield 15, 3) := by decide +kernel
theorem dX2_wolfComes_47 : decode cX2_wolfComes 47 = .ok (.iload_n 1, 1) := by decide +kernel
theorem dX2_wolfComes_48 : decode cX2_wolfComes 48 = .ok (.bipush (-4), 2) := by decide +kernel
theorem dX2_wolfComes_50 : decode cX2_wolfComes 50 = .ok (.iastore, 1) := by decide +kernel
theorem dX2_wolfComes_51 : decode cX2_wolfComes 51 = .ok (.return_, 1) := by decide +kernel
theorem dX2_wolfComes_52 : decode cX2_wolfComes 52 = .ok (.iinc 1 1, 3) := by decide +kernel
theorem dX2_wolfComes_55 : decode cX2_wolfComes 55 = .ok (.goto (-53), 3) := by decide +kernel
theorem dX2_wolfComes_58 : decode cX2_wolfComes 58 = .ok (.return_, 1) := by decide +kernel
theorem dX2_bogBeside_0 : decode cX2_bogBeside 0 = .ok (.iconst 0, 1) := by decide +kernel
theorem dX2_bogBeside_1 : decode cX2_bogBeside 1 = .ok (.istore_n 2, 1) := by decide +kernel
theorem dX2_bogBeside_2 : decode cX2_bogBeside 2 = .ok (.iload_n 2, 1) := by decide +kernel
theorem dX2_bogBeside_3 : decode cX2_bogBeside 3 = .ok (.iconst 4, 1) := by decide +kernel
theorem dX2_bogBeside_4 : decode cX2_bogBeside 4 = .ok (.if_icmp .ge 37, 3) := by decide +kernel
theorem dX2_bogBeside_7 : decode cX2_bogBeside 7 = .ok (.aload_n 0, 1) := by decide +kernel
theorem dX2_bogBeside_8 : decode cX2_bogBeside 8 = .ok (.getfield 28, 3) := by decide +kernel
theorem dX2_bogBeside_11 : decode cX2_bogBeside 11 = .ok (.iload_n 1, 1) := by decide +kernel
theorem dX2_bogBeside_12 : decode cX2_bogBeside 12 = .ok (.iload_n 2, 1) := by decide +kernel
theorem dX2_bogBeside_13 : decode cX2_bogBeside 13 = .ok (.invokevirtual 66, 3) := by decide +kernel
theorem dX2_bogBeside_16 : decode cX2_bogBeside 16 = .ok (.istore_n 3, 1) := by decide +kernel
theorem dX2_bogBeside_17 : decode cX2_bogBeside 17 = .ok (.iload_n 3, 1) := by decide +kernel
theorem dX2_bogBeside_18 : decode cX2_bogBeside 18 = .ok (.bipush (-4), 2) := by decide +kernel
theorem dX2_bogBeside_20 : decode cX2_bogBeside 20 = .ok (.if_icmp .eq 15, 3) := by decide +kernel
theorem dX2_bogBeside_23 : decode cX2_bogBeside 23 = .ok (.aload_n 0, 1) := by decide +kernel
theorem dX2_bogBeside_24 : decode cX2_bogBeside 24 = .ok (.iload_n 3, 1) := by decide +kernel
theorem dX2_bogBeside_25 : decode cX2_bogBeside 25 = .ok (.invokevirtual 74, 3) := by decide +kernel
theorem dX2_bogBeside_28 : decode cX2_bogBeside 28 = .ok (.bipush 9, 2) := by decide +kernel
theorem dX2_bogBeside_30 : decode cX2_bogBeside 30 = .ok (.if_icmp .ne 5, 3) := by decide +kernel
theorem dX2_bogBeside_33 : decode cX2_bogBeside 33 = .ok (.iconst 1, 1) := by decide +kernel
theorem dX2_bogBeside_34 : decode cX2_bogBeside 34 = .ok (.ireturn, 1) := by decide +kernel
theorem dX2_bogBeside_35 : decode cX2_bogBeside 35 = .ok (.iinc 2 1, 3) := by decide +kernel
theorem dX2_bogBeside_38 : decode cX2_bogBeside 38 = .ok (.goto (-36), 3) := by decide +kernel
theorem dX2_bogBeside_41 : decode cX2_bogBeside 41 = .ok (.iconst 0, 1) := by decide +kernel
theorem dX2_bogBeside_42 : decode cX2_bogBeside 42 = .ok (.ireturn, 1) := by decide +kernel
theorem dX2_lost_0 : decode cX2_lost 0 = .ok (.iconst 0, 1) := by decide +kernel
theorem dX2_lost_1 : decode cX2_lost 1 = .ok (.istore_n 1, 1) := by decide +kernel
theorem dX2_lost_2 : decode cX2_lost 2 = .ok (.iconst 0, 1) := by decide +kernel
theorem dX2_lost_3 : decode cX2_lost 3 = .ok (.istore_n 2, 1) := by decide +kernel
theorem dX2_lost_4 : decode cX2_lost 4 = .ok (.iconst 0, 1) := by decide +kernel
theorem dX2_lost_5 : decode cX2_lost 5 = .ok (.istore_n 3, 1) := by decide +kernel
theorem dX2_lost_6 : decode cX2_lost 6 = .ok (.iload_n 3, 1) := by decide +kernel
theorem dX2_lost_7 : decode cX2_lost 7 = .ok (.aload_n 0, 1) := by decide +kernel
theorem dX2_lost_8 : decode cX2_lost 8 = .ok (.getfield 28, 3) := by decide +kernel
theorem dX2_lost_11 : decode cX2_lost 11 = .ok (.getfield 43, 3) := by decide +kernel
theorem dX2_lost_14 : decode cX2_lost 14 = .ok (.if_icmp .ge 68, 3) := by decide +kernel
theorem dX2_lost_17 : decode cX2_lost 17 = .ok (.iload_n 3, 1) := by decide +kernel
theorem dX2_lost_18 : decode cX2_lost 18 = .ok (.bipush 8, 2) := by decide +kernel
theorem dX2_lost_20 : decode cX2_lost 20 = .ok (.if_icmp .ge 62, 3) := by decide +kernel
theorem dX2_lost_23 : decode cX2_lost 23 = .ok (.aload_n 0, 1) := by decide +kernel
theorem dX2_lost_24 : decode cX2_lost 24 = .ok (.getfield 18, 3) := by decide +kernel
theorem dX2_lost_27 : decode cX2_lost 27 = .ok (.iload_n 3, 1) := by decide +kernel
theorem dX2_lost_28 : decode cX2_lost 28 = .ok (.iaload, 1) := by decide +kernel
theorem dX2_lost_29 : decode cX2_lost 29 = .ok (.iconst 3, 1) := by decide +kernel
theorem dX2_lost_30 : decode cX2_lost 30 = .ok (.if_icmp .ne 46, 3) := by decide +kernel
theorem dX2_lost_33 : decode cX2_lost 33 = .ok (.aload_n 0, 1) := by decide +kernel
theorem dX2_lost_34 : decode cX2_lost 34 = .ok (.getfield 28, 3) := by decide +kernel
theorem dX2_lost_37 : decode cX2_lost 37 = .ok (.iload_n 3, 1) := by decide +kernel
theorem dX2_lost_38 : decode cX2_lost 38 = .ok (.invokevirtual 63, 3) := by decide +kernel
theorem dX2_lost_41 : decode cX2_lost 41 = .ok (.ifCond .ne 7, 3) := by decide +kernel
theorem dX2_lost_44 : decode cX2_lost 44 = .ok (.iconst 1, 1) := by decide +kernel
theorem dX2_lost_45 : decode cX2_lost 45 = .ok (.goto 4, 3) := by decide +kernel
theorem dX2_lost_48 : decode cX2_lost 48 = .ok (.iconst 2, 1) := by decide +kernel
theorem dX2_lost_49 : decode cX2_lost 49 = .ok (.istore 4, 2) := by decide +kernel
theorem dX2_lost_51 : decode cX2_lost 51 = .ok (.iload_n 1, 1) := by decide +kernel
theorem dX2_lost_52 : decode cX2_lost 52 = .ok (.iload 4, 2) := by decide +kernel
theorem dX2_lost_54 : decode cX2_lost 54 = .ok (.ior, 1) := by decide +kernel
theorem dX2_lost_55 : decode cX2_lost 55 = .ok (.istore_n 1, 1) := by decide +kernel
theorem dX2_lost_56 : decode cX2_lost 56 = .ok (.iload_n 2, 1) := by decide +kernel
theorem dX2_lost_57 : decode cX2_lost 57 = .ok (.aload_n 0, 1) := by decide +kernel
theorem dX2_lost_58 : decode cX2_lost 58 = .ok (.getfield 15, 3) := by decide +kernel
theorem dX2_lost_61 : decode cX2_lost 61 = .ok (.iload_n 3, 1) := by decide +kernel
theorem dX2_lost_62 : decode cX2_lost 62 = .ok (.iaload, 1) := by decide +kernel
theorem dX2_lost_63 : decode cX2_lost 63 = .ok (.bipush (-4), 2) := by decide +kernel
theorem dX2_lost_65 : decode cX2_lost 65 = .ok (.if_icmp .ne 7, 3) := by decide +kernel
theorem dX2_lost_68 : decode cX2_lost 68 = .ok (.iconst 0, 1) := by decide +kernel
theorem dX2_lost_69 : decode cX2_lost 69 = .ok (.goto 5, 3) := by decide +kernel
theorem dX2_lost_72 : decode cX2_lost 72 = .ok (.iload 4, 2) := by decide +kernel
theorem dX2_lost_74 : decode cX2_lost 74 = .ok (.ior, 1) := by decide +kernel
theorem dX2_lost_75 : decode cX2_lost 75 = .ok (.istore_n 2, 1) := by decide +kernel
theorem dX2_lost_76 : decode cX2_lost 76 = .ok (.iinc 3 1, 3) := by decide +kernel
theorem dX2_lost_79 : decode cX2_lost 79 = .ok (.goto (-73), 3) := by decide +kernel
theorem dX2_lost_82 : decode cX2_lost 82 = .ok (.iload_n 1, 1) := by decide +kernel
theorem dX2_lost_83 : decode cX2_lost 83 = .ok (.iload_n 2, 1) := by decide +kernel
theorem dX2_lost_84 : decode cX2_lost 84 = .ok (.iconst (-1), 1) := by decide +kernel
theorem dX2_lost_85 : decode cX2_lost 85 = .ok (.ixor, 1) := by decide +kernel
theorem dX2_lost_86 : decode cX2_lost 86 = .ok (.iand, 1) := by decide +kernel
theorem dX2_lost_87 : decode cX2_lost 87 = .ok (.ireturn, 1) := by decide +kernel
theorem dX2_worth_0 : decode cX2_worth 0 = .ok (.iconst 0, 1) := by decide +kernel
theorem dX2_worth_1 : decode cX2_worth 1 = .ok (.istore_n 1, 1) := by decide +kernel
theorem dX2_worth_2 : decode cX2_worth 2 = .ok (.iconst 0, 1) := by decide +kernel
theorem dX2_worth_3 : decode cX2_worth 3 = .ok (.istore_n 2, 1) := by decide +kernel
theorem dX2_worth_4 : decode cX2_worth 4 = .ok (.iload_n 2, 1) := by decide +kernel
theorem dX2_worth_5 : decode cX2_worth 5 = .ok (.aload_n 0, 1) := by decide +kernel
theorem dX2_worth_6 : decode cX2_worth 6 = .ok (.getfield 28, 3) := by decide +kernel
theorem dX2_worth_9 : decode cX2_worth 9 = .ok (.getfield 43, 3) := by decide +kernel
theorem dX2_worth_12 : decode cX2_worth 12 = .ok (.if_icmp .ge 83, 3) := by decide +kernel
theorem dX2_worth_15 : decode cX2_worth 15 = .ok (.iload_n 2, 1) := by decide +kernel
theorem dX2_worth_16 : decode cX2_worth 16 = .ok (.bipush 8, 2) := by decide +kernel
theorem dX2_worth_18 : decode cX2_worth 18 = .ok (.if_icmp .ge 77, 3) := by decide +kernel
theorem dX2_worth_21 : decode cX2_worth 21 = .ok (.aload_n 0, 1) := by decide +kernel
theorem dX2_worth_22 : decode cX2_worth 22 = .ok (.getfield 18, 3) := by decide +kernel
theorem dX2_worth_25 : decode cX2_worth 25 = .ok (.iload_n 2, 1) := by decide +kernel
theorem dX2_worth_26 : decode cX2_worth 26 = .ok (.iaload, 1) := by decide +kernel
theorem dX2_worth_27 : decode cX2_worth 27 = .ok (.ifCond .lt 29, 3) := by decide +kernel
theorem dX2_worth_30 : decode cX2_worth 30 = .ok (.aload_n 0, 1) := by decide +kernel
theorem dX2_worth_31 : decode cX2_worth 31 = .ok (.getfield 18, 3) := by decide +kernel
theorem dX2_worth_34 : decode cX2_worth 34 = .ok (.iload_n 2, 1) := by decide +kernel
theorem dX2_worth_35 : decode cX2_worth 35 = .ok (.iaload, 1) := by decide +kernel
theorem dX2_worth_36 : decode cX2_worth 36 = .ok (.getstatic 136, 3) := by decide +kernel
theorem dX2_worth_39 : decode cX2_worth 39 = .ok (.arraylength, 1) := by decide +kernel
theorem dX2_worth_40 : decode cX2_worth 40 = .ok (.if_icmp .ge 16, 3) := by decide +kernel
theorem dX2_worth_43 : decode cX2_worth 43 = .ok (.getstatic 136, 3) := by decide +kernel
theorem dX2_worth_46 : decode cX2_worth 46 = .ok (.aload_n 0, 1) := by decide +kernel
theorem dX2_worth_47 : decode cX2_worth 47 = .ok (.getfield 18, 3) := by decide +kernel
theorem dX2_worth_50 : decode cX2_worth 50 = .ok (.iload_n 2, 1) := by decide +kernel
theorem dX2_worth_51 : decode cX2_worth 51 = .ok (.iaload, 1) := by decide +kernel
theorem dX2_worth_52 : decode cX2_worth 52 = .ok (.iaload, 1) := by decide +kernel
theorem dX2_worth_53 : decode cX2_worth 53 = .ok (.goto 4, 3) := by decide +kernel
theorem dX2_worth_56 : decode cX2_worth 56 = .ok (.iconst 0, 1) := by decide +kernel
theorem dX2_worth_57 : decode cX2_worth 57 = .ok (.istore_n 3, 1) := by decide +kernel
theorem dX2_worth_58 : decode cX2_worth 58 = .ok (.aload_n 0, 1) := by decide +kernel
theorem dX2_worth_59 : decode cX2_worth 59 = .ok (.getfield 15, 3) := by decide +kernel
theorem dX2_worth_62 : decode cX2_worth 62 = .ok (.iload_n 2, 1) := by decide +kernel
theorem dX2_worth_63 : decode cX2_worth 63 = .ok (.iaload, 1) := by decide +kernel
theorem dX2_worth_64 : decode cX2_worth 64 = .ok (.bipush (-4), 2) := by decide +kernel
theorem dX2_worth_66 : decode cX2_worth 66 = .ok (.if_icmp .eq 23, 3) := by decide +kernel
theorem dX2_worth_69 : decode cX2_worth 69 = .ok (.iload_n 1, 1) := by decide +kernel
theorem dX2_worth_70 : decode cX2_worth 70 = .ok (.aload_n 0, 1) := by decide +kernel
theorem dX2_worth_71 : decode cX2_worth 71 = .ok (.getfield 28, 3) := by decide +kernel
theorem dX2_worth_74 : decode cX2_worth 74 = .ok (.iload_n 2, 1) := by decide +kernel
theorem dX2_worth_75 : decode cX2_worth 75 = .ok (.invokevirtual 63, 3) := by decide +kernel
theorem dX2_worth_78 : decode cX2_worth 78 = .ok (.ifCond .ne 7, 3) := by decide +kernel
theorem dX2_worth_81 : decode cX2_worth 81 = .ok (.iload_n 3, 1) := by decide +kernel
theorem dX2_worth_82 : decode cX2_worth 82 = .ok (.goto 5, 3) := by decide +kernel
theorem dX2_worth_85 : decode cX2_worth 85 = .ok (.iload_n 3, 1) := by decide +kernel
theorem dX2_worth_86 : decode cX2_worth 86 = .ok (.ineg, 1) := by decide +kernel
theorem dX2_worth_87 : decode cX2_worth 87 = .ok (.iadd, 1) := by decide +kernel
theorem dX2_worth_88 : decode cX2_worth 88 = .ok (.istore_n 1, 1) := by decide +kernel
theorem dX2_worth_89 : decode cX2_worth 89 = .ok (.iinc 2 1, 3) := by decide +kernel
theorem dX2_worth_92 : decode cX2_worth 92 = .ok (.goto (-88), 3) := by decide +kernel
theorem dX2_worth_95 : decode cX2_worth 95 = .ok (.iload_n 1, 1) := by decide +kernel
theorem dX2_worth_96 : decode cX2_worth 96 = .ok (.ireturn, 1) := by decide +kernel
theorem dX2_staying_0 : decode cX2_staying 0 = .ok (.iconst 0, 1) := by decide +kernel
theorem dX2_staying_1 : decode cX2_staying 1 = .ok (.istore_n 2, 1) := by decide +kernel
theorem dX2_staying_2 : decode cX2_staying 2 = .ok (.iconst 0, 1) := by decide +kernel
theorem dX2_staying_3 : decode cX2_staying 3 = .ok (.istore_n 3, 1) := by decide +kernel
theorem dX2_staying_4 : decode cX2_staying 4 = .ok (.iload_n 3, 1) := by decide +kernel
theorem dX2_staying_5 : decode cX2_staying 5 = .ok (.aload_n 0, 1) := by decide +kernel
theorem dX2_staying_6 : decode cX2_staying 6 = .ok (.getfield 28, 3) := by decide +kernel
theorem dX2_staying_9 : decode cX2_staying 9 = .ok (.getfield 43, 3) := by decide +kernel
theorem dX2_staying_12 : decode cX2_staying 12 = .ok (.if_icmp .ge 41, 3) := by decide +kernel
theorem dX2_staying_15 : decode cX2_staying 15 = .ok (.iload_n 3, 1) := by decide +kernel
theorem dX2_staying_16 : decode cX2_staying 16 = .ok (.bipush 8, 2) := by decide +kernel
theorem dX2_staying_18 : decode cX2_staying 18 = .ok (.if_icmp .ge 35, 3) := by decide +kernel
theorem dX2_staying_21 : decode cX2_staying 21 = .ok (.aload_n 0, 1) := by decide +kernel
theorem dX2_staying_22 : decode cX2_staying 22 = .ok (.getfield 15, 3) := by decide +kernel
theorem dX2_staying_25 : decode cX2_staying 25 = .ok (.iload_n 3, 1) := by decide +kernel
theorem dX2_staying_26 : decode cX2_staying 26 = .ok (.iaload, 1) := by decide +kernel
theorem dX2_staying_27 : decode cX2_staying 27 = .ok (.bipush (-4), 2) := by decide +kernel
theorem dX2_staying_29 : decode cX2_staying 29 = .ok (.if_icmp .eq 18, 3) := by decide +kernel
theorem dX2_staying_32 : decode cX2_staying 32 = .ok (.aload_n 0, 1) := by decide +kernel
theorem dX2_staying_33 : decode cX2_staying 33 = .ok (.getfield 28, 3) := by decide +kernel
theorem dX2_staying_36 : decode cX2_staying 36 = .ok (.iload_n 3, 1) := by decide +kernel
theorem dX2_staying_37 : decode cX2_staying 37 = .ok (.invokevirtual 63, 3) := by decide +kernel
theorem dX2_staying_40 : decode cX2_staying 40 = .ok (.iload_n 1, 1) := by decide +kernel
theorem dX2_staying_41 : decode cX2_staying 41 = .ok (.if_icmp .ne 6, 3) := by decide +kernel
theorem dX2_staying_44 : decode cX2_staying 44 = .ok (.iinc 2 1, 3) := by decide +kernel
theorem dX2_staying_47 : decode cX2_staying 47 = .ok (.iinc 3 1, 3) := by decide +kernel
theorem dX2_staying_50 : decode cX2_staying 50 = .ok (.goto (-46), 3) := by decide +kernel
theorem dX2_staying_53 : decode cX2_staying 53 = .ok (.iload_n 2, 1) := by decide +kernel
theorem dX2_staying_54 : decode cX2_staying 54 = .ok (.ireturn, 1) := by decide +kernel
theorem dX2_allGrass_0 : decode cX2_allGrass 0 = .ok (.iconst 0, 1) := by decide +kernel
theorem dX2_allGrass_1 : decode cX2_allGrass 1 = .ok (.istore_n 1, 1) := by decide +kernel
theorem dX2_allGrass_2 : decode cX2_allGrass 2 = .ok (.iconst 0, 1) := by decide +kernel
theorem dX2_allGrass_3 : decode cX2_allGrass 3 = .ok (.istore_n 2, 1) := by decide +kernel
theorem dX2_allGrass_4 : decode cX2_allGrass 4 = .ok (.iload_n 2, 1) := by decide +kernel
theorem dX2_allGrass_5 : decode cX2_allGrass 5 = .ok (.aload_n 0, 1) := by decide +kernel
theorem dX2_allGrass_6 : decode cX2_allGrass 6 = .ok (.getfield 28, 3) := by decide +kernel
theorem dX2_allGrass_9 : decode cX2_allGrass 9 = .ok (.getfield 38, 3) := by decide +kernel
theorem dX2_allGrass_12 : decode cX2_allGrass 12 = .ok (.if_icmp .ge 39, 3) := by decide +kernel
theorem dX2_allGrass_15 : decode cX2_allGrass 15 = .ok (.iload_n 2, 1) := by decide +kernel
theorem dX2_allGrass_16 : decode cX2_allGrass 16 = .ok (.bipush 36, 2) := by decide +kernel
theorem dX2_allGrass_18 : decode cX2_allGrass 18 = .ok (.if_icmp .ge 33, 3) := by decide +kernel
theorem dX2_allGrass_21 : decode cX2_allGrass 21 = .ok (.iload_n 1, 1) := by decide +kernel
theorem dX2_allGrass_22 : decode cX2_allGrass 22 = .ok (.aload_n 0, 1) := by decide +kernel
theorem dX2_allGrass_23 : decode cX2_allGrass 23 = .ok (.getfield 9, 3) := by decide +kernel
theorem dX2_allGrass_26 : decode cX2_allGrass 26 = .ok (.iload_n 2, 1) := by decide +kernel
theorem dX2_allGrass_27 : decode cX2_allGrass 27 = .ok (.iaload, 1) := by decide +kernel
theorem dX2_allGrass_28 : decode cX2_allGrass 28 = .ok (.bipush 9, 2) := by decide +kernel
theorem dX2_allGrass_30 : decode cX2_allGrass 30 = .ok (.if_icmp .ne 7, 3) := by decide +kernel
theorem dX2_allGrass_33 : decode cX2_allGrass 33 = .ok (.iconst 0, 1) := by decide +kernel
theorem dX2_allGrass_34 : decode cX2_allGrass 34 = .ok (.goto 9, 3) := by decide +kernel
theorem dX2_allGrass_37 : decode cX2_allGrass 37 = .ok (.aload_n 0, 1) := by decide +kernel
theorem dX2_allGrass_38 : decode cX2_allGrass 38 = .ok (.getfield 9, 3) := by decide +kernel
theorem dX2_allGrass_41 : decode cX2_allGrass 41 = .ok (.iload_n 2, 1) := by decide +kernel
theorem dX2_allGrass_42 : decode cX2_allGrass 42 = .ok (.iaload, 1) := by decide +kernel
theorem dX2_allGrass_43 : decode cX2_allGrass 43 = .ok (.iadd, 1) := by decide +kernel
theorem dX2_allGrass_44 : decode cX2_allGrass 44 = .ok (.istore_n 1, 1) := by decide +kernel
theorem dX2_allGrass_45 : decode cX2_allGrass 45 = .ok (.iinc 2 1, 3) := by decide +kernel
theorem dX2_allGrass_48 : decode cX2_allGrass 48 = .ok (.goto (-44), 3) := by decide +kernel
theorem dX2_allGrass_51 : decode cX2_allGrass 51 = .ok (.iload_n 1, 1) := by decide +kernel
theorem dX2_allGrass_52 : decode cX2_allGrass 52 = .ok (.ireturn, 1) := by decide +kernel
theorem dX2_ramOnWell_0 : decode cX2_ramOnWell 0 = .ok (.aload_n 0, 1) := by decide +kernel
theorem dX2_ramOnWell_1 : decode cX2_ramOnWell 1 = .ok (.aload_n 0, 1) := by decide +kernel
theorem dX2_ramOnWell_2 : decode cX2_ramOnWell 2 = .ok (.getfield 28, 3) := by decide +kernel
theorem dX2_ramOnWell_5 : decode cX2_ramOnWell 5 = .ok (.getfield 139, 3) := by decide +kernel
theorem dX2_ramOnWell_8 : decode cX2_ramOnWell 8 = .ok (.invokevirtual 77, 3) := by decide +kernel
theorem dX2_ramOnWell_11 : decode cX2_ramOnWell 11 = .ok (.istore_n 2, 1) := by decide +kernel
theorem dX2_ramOnWell_12 : decode cX2_ramOnWell 12 = .ok (.iload_n 2, 1) := by decide +kernel
theorem dX2_ramOnWell_13 : decode cX2_ramOnWell 13 = .ok (.bipush (-4), 2) := by decide +kernel
theorem dX2_ramOnWell_15 : decode cX2_ramOnWell 15 = .ok (.if_icmp .eq 27, 3) := by decide +kernel
theorem dX2_ramOnWell_18 : decode cX2_ramOnWell 18 = .ok (.aload_n 0, 1) := by decide +kernel
theorem dX2_ramOnWell_19 : decode cX2_ramOnWell 19 = .ok (.iload_n 2, 1) := by decide +kernel
theorem dX2_ramOnWell_20 : decode cX2_ramOnWell 20 = .ok (.invokevirtual 57, 3) := by decide +kernel
theorem dX2_ramOnWell_23 : decode cX2_ramOnWell 23 = .ok (.ifCond .ne 19, 3) := by decide +kernel
theorem dX2_ramOnWell_26 : decode cX2_ramOnWell 26 = .ok (.aload_n 0, 1) := by decide +kernel
theorem dX2_ramOnWell_27 : decode cX2_ramOnWell 27 = .ok (.getfield 28, 3) := by decide +kernel
theorem dX2_ramOnWell_30 : decode cX2_ramOnWell 30 = .ok (.iload_n 2, 1) := by decide +kernel
theorem dX2_ramOnWell_31 : decode cX2_ramOnWell 31 = .ok (.invokevirtual 63, 3) := by decide +kernel
theorem dX2_ramOnWell_34 : decode cX2_ramOnWell 34 = .ok (.iload_n 1, 1) := by decide +kernel
theorem dX2_ramOnWell_35 : decode cX2_ramOnWell 35 = .ok (.if_icmp .ne 7, 3) := by decide +kernel
theorem dX2_ramOnWell_38 : decode cX2_ramOnWell 38 = .ok (.iconst 1, 1) := by decide +kernel
theorem dX2_ramOnWell_39 : decode cX2_ramOnWell 39 = .ok (.goto 4, 3) := by decide +kernel
theorem dX2_ramOnWell_42 : decode cX2_ramOnWell 42 = .ok (.iconst 0, 1) := by decide +kernel
theorem dX2_ramOnWell_43 : decode cX2_ramOnWell 43 = .ok (.ireturn, 1) := by decide +kernel
theorem dX3_init_0 : decode cX3_init 0 = .ok (.aload_n 0, 1) := by decide +kernel
theorem dX3_init_1 : decode cX3_init 1 = .ok (.invokespecial 3, 3) := by decide +kernel
theorem dX3_init_4 : decode cX3_init 4 = .ok (.aload_n 0, 1) := by decide +kernel
theorem dX3_init_5 : decode cX3_init 5 = .ok (.bipush 8, 2) := by decide +kernel
theorem dX3_init_7 : decode cX3_init 7 = .ok (.newarray .int, 2) := by decide +kernel
theorem dX3_init_9 : decode cX3_init 9 = .ok (.putfield 9, 3) := by decide +kernel
theorem dX3_init_12 : decode cX3_init 12 = .ok (.aload_n 0, 1) := by decide +kernel
theorem dX3_init_13 : decode cX3_init 13 = .ok (.iconst 0, 1) := by decide +kernel
theorem dX3_init_14 : decode cX3_init 14 = .ok (.putfield 15, 3) := by decide +kernel
theorem dX3_init_17 : decode cX3_init 17 = .ok (.aload_n 0, 1) := by decide +kernel
theorem dX3_init_18 : decode cX3_init 18 = .ok (.iconst 0, 1) := by decide +kernel
theorem dX3_init_19 : decode cX3_init 19 = .ok (.putfield 19, 3) := by decide +kernel
theorem dX3_init_22 : decode cX3_init 22 = .ok (.aload_n 0, 1) := by decide +kernel
theorem dX3_init_23 : decode cX3_init 23 = .ok (.aload_n 1, 1) := by decide +kernel
theorem dX3_init_24 : decode cX3_init 24 = .ok (.putfield 22, 3) := by decide +kernel
theorem dX3_init_27 : decode cX3_init 27 = .ok (.aload_n 0, 1) := by decide +kernel
theorem dX3_init_28 : decode cX3_init 28 = .ok (.new 26, 3) := by decide +kernel
theorem dX3_init_31 : decode cX3_init 31 = .ok (.dup, 1) := by decide +kernel
theorem dX3_init_32 : decode cX3_init 32 = .ok (.aload_n 1, 1) := by decide +kernel
theorem dX3_init_33 : decode cX3_init 33 = .ok (.bipush 8, 2) := by decide +kernel
theorem dX3_init_35 : decode cX3_init 35 = .ok (.invokespecial 28, 3) := by decide +kernel
theorem dX3_init_38 : decode cX3_init 38 = .ok (.putfield 31, 3) := by decide +kernel
theorem dX3_init_41 : decode cX3_init 41 = .ok (.return_, 1) := by decide +kernel
theorem dX3_slot_0 : decode cX3_slot 0 = .ok (.aload_n 0, 1) := by decide +kernel
theorem dX3_slot_1 : decode cX3_slot 1 = .ok (.getfield 19, 3) := by decide +kernel
theorem dX3_slot_4 : decode cX3_slot 4 = .ok (.iload_n 1, 1) := by decide +kernel
theorem dX3_slot_5 : decode cX3_slot 5 = .ok (.iadd, 1) := by decide +kernel
theorem dX3_slot_6 : decode cX3_slot 6 = .ok (.bipush 8, 2) := by decide +kernel
theorem dX3_slot_8 : decode cX3_slot 8 = .ok (.invokestatic 35, 3) := by decide +kernel
theorem dX3_slot_11 : decode cX3_slot 11 = .ok (.ireturn, 1) := by decide +kernel
theorem dX3_before_0 : decode cX3_before 0 = .ok (.aload_n 0, 1) := by decide +kernel
theorem dX3_before_1 : decode cX3_before 1 = .ok (.getfield 31, 3) := by decide +kernel
theorem dX3_before_4 : decode cX3_before 4 = .ok (.aload_n 0, 1) := by decide +kernel
theorem dX3_before_5 : decode cX3_before 5 = .ok (.iload_n 1, 1) := by decide +kernel
theorem dX3_before_6 : decode cX3_before 6 = .ok (.invokevirtual 41, 3) := by decide +kernel
theorem dX3_before_9 : decode cX3_before 9 = .ok (.invokevirtual 45, 3) := by decide +kernel
theorem dX3_before_12 : decode cX3_before 12 = .ok (.areturn, 1) := by decide +kernel
theorem dX3_add_0 : decode cX3_add 0 = .ok (.aload_n 0, 1) := by decide +kernel
theorem dX3_add_1 : decode cX3_add 1 = .ok (.getfield 15, 3) := by decide +kernel
theorem dX3_add_4 : decode cX3_add 4 = .ok (.bipush 8, 2) := by decide +kernel
theorem dX3_add_6 : decode cX3_add 6 = .ok (.if_icmp .lt 18, 3) := by decide +kernel
theorem dX3_add_9 : decode cX3_add 9 = .ok (.aload_n 0, 1) := by decide +kernel
theorem dX3_add_10 : decode cX3_add 10 = .ok (.aload_n 0, 1) := by decide +kernel
theorem dX3_add_11 : decode cX3_add 11 = .ok (.iconst 1, 1) := by decide +kernel
theorem dX3_add_12 : decode cX3_add 12 = .ok (.invokevirtual 41, 3) := by decide +kernel
theorem dX3_add_15 : decode cX3_add 15 = .ok (.putfield 19, 3) := by decide +kernel
theorem dX3_add_18 : decode cX3_add 18 = .ok (.aload_n 0, 1) := by decide +kernel
theorem dX3_add_19 : decode cX3_add 19 = .ok (.bipush 7, 2) := by decide +kernel
theorem dX3_add_21 : decode cX3_add 21 = .ok (.putfield 15, 3) := by decide +kernel
theorem dX3_add_24 : decode cX3_add 24 = .ok (.aload_n 0, 1) := by decide +kernel
theorem dX3_add_25 : decode cX3_add 25 = .ok (.aload_n 0, 1) := by decide +kernel
theorem dX3_add_26 : decode cX3_add 26 = .ok (.getfield 15, 3) := by decide +kernel
theorem dX3_add_29 : decode cX3_add 29 = .ok (.invokevirtual 41, 3) := by decide +kernel
theorem dX3_add_32 : decode cX3_add 32 = .ok (.istore_n 3, 1) := by decide +kernel
theorem dX3_add_33 : decode cX3_add 33 = .ok (.aload_n 0, 1) := by decide +kernel
theorem dX3_add_34 : decode cX3_add 34 = .ok (.getfield 31, 3) := by decide +kernel
theorem dX3_add_37 : decode cX3_add 37 = .ok (.iload_n 3, 1) := by decide +kernel
theorem dX3_add_38 : decode cX3_add 38 = .ok (.invokevirtual 45, 3) := by decide +kernel
theorem dX3_add_41 : decode cX3_add 41 = .ok (.aload_n 1, 1) := by decide +kernel
theorem dX3_add_42 : decode cX3_add 42 = .ok (.invokevirtual 49, 3) := by decide +kernel
theorem dX3_add_45 : decode cX3_add 45 = .ok (.aload_n 0, 1) := by decide +kernel
theorem dX3_add_46 : decode cX3_add 46 = .ok (.getfield 9, 3) := by decide +kernel
theorem dX3_add_49 : decode cX3_add 49 = .ok (.iload_n 3, 1) := by decide +kernel
theorem dX3_add_50 : decode cX3_add 50 = .ok (.iload_n 2, 1) := by decide +kernel
theorem dX3_add_51 : decode cX3_add 51 = .ok (.iastore, 1) := by decide +kernel
theorem dX3_add_52 : decode cX3_add 52 = .ok (.aload_n 0, 1) := by decide +kernel
theorem dX3_add_53 : decode cX3_add 53 = .ok (.dup, 1) := by decide +kernel
theorem dX3_add_54 : decode cX3_add 54 = .ok (.getfield 15, 3) := by decide +kernel
theorem dX3_add_57 : decode cX3_add 57 = .ok (.iconst 1, 1) := by decide +kernel
theorem dX3_add_58 : decode cX3_add 58 = .ok (.iadd, 1) := by decide +kernel
theorem dX3_add_59 : decode cX3_add 59 = .ok (.putfield 15, 3) := by decide +kernel
theorem dX3_add_62 : decode cX3_add 62 = .ok (.return_, 1) := by decide +kernel
theorem dX3_otherwiseIs_0 : decode cX3_otherwiseIs 0 = .ok (.aload_n 0, 1) := by decide +kernel
theorem dX3_otherwiseIs_1 : decode cX3_otherwiseIs 1 = .ok (.getfield 15, 3) := by decide +kernel
theorem dX3_otherwiseIs_4 : decode cX3_otherwiseIs 4 = .ok (.iconst 1, 1) := by decide +kernel
theorem dX3_otherwiseIs_5 : decode cX3_otherwiseIs 5 = .ok (.isub, 1) := by decide +kernel
theorem dX3_otherwiseIs_6 : decode cX3_otherwiseIs 6 = .ok (.iload_n 1, 1) := by decide +kernel
theorem dX3_otherwiseIs_7 : decode cX3_otherwiseIs 7 = .ok (.isub, 1) := by decide +kernel
theorem dX3_otherwiseIs_8 : decode cX3_otherwiseIs 8 = .ok (.istore 4, 2) := by decide +kernel
theorem dX3_otherwiseIs_10 : decode cX3_otherwiseIs 10 = .ok (.iload 4, 2) := by decide +kernel
theorem dX3_otherwiseIs_12 : decode cX3_otherwiseIs 12 = .ok (.ifCond .lt 7, 3) := by decide +kernel
theorem dX3_otherwiseIs_15 : decode cX3_otherwiseIs 15 = .ok (.iload_n 1, 1) := by decide +kernel
theorem dX3_otherwiseIs_16 : decode cX3_otherwiseIs 16 = .ok (.ifCond .ge 5, 3) := by decide +kernel
theorem dX3_otherwiseIs_19 : decode cX3_otherwiseIs 19 = .ok (.iconst 0, 1) := by decide +kernel
theorem dX3_otherwiseIs_20 : decode cX3_otherwiseIs 20 = .ok (.ireturn, 1) := by decide +kernel
theorem dX3_otherwiseIs_21 : decode cX3_otherwiseIs 21 = .ok (.aload_n 0, 1) := by decide +kernel
theorem dX3_otherwiseIs_22 : decode cX3_otherwiseIs 22 = .ok (.getfield 9, 3) := by decide +kernel
theorem dX3_otherwiseIs_25 : decode cX3_otherwiseIs 25 = .ok (.aload_n 0, 1) := by decide +kernel
theorem dX3_otherwiseIs_26 : decode cX3_otherwiseIs 26 = .ok (.iload 4, 2) := by decide +kernel
theorem dX3_otherwiseIs_28 : decode cX3_otherwiseIs 28 = .ok (.invokevirtual 41, 3) := by decide +kernel
theorem dX3_otherwiseIs_31 : decode cX3_otherwiseIs 31 = .ok (.iaload, 1) := by decide +kernel
theorem dX3_otherwiseIs_32 : decode cX3_otherwiseIs 32 = .ok (.istore 5, 2) := by decide +kernel
theorem dX3_otherwiseIs_34 : decode cX3_otherwiseIs 34 = .ok (.iload_n 2, 1) := by decide +kernel
theorem dX3_otherwiseIs_35 : decode cX3_otherwiseIs 35 = .ok (.iload 5, 2) := by decide +kernel
theorem dX3_otherwiseIs_37 : decode cX3_otherwiseIs 37 = .ok (.if_icmp .eq 28, 3) := by decide +kernel
theorem dX3_otherwiseIs_40 : decode cX3_otherwiseIs 40 = .ok (.iload_n 2, 1) := by decide +kernel
theorem dX3_otherwiseIs_41 : decode cX3_otherwiseIs 41 = .ok (.bipush 99, 2) := by decide +kernel
theorem dX3_otherwiseIs_43 : decode cX3_otherwiseIs 43 = .ok (.if_icmp .eq 24, 3) := by decide +kernel
theorem dX3_otherwiseIs_46 : decode cX3_otherwiseIs 46 = .ok (.iload 5, 2) := by decide +kernel
theorem dX3_otherwiseIs_48 : decode cX3_otherwiseIs 48 = .ok (.bipush 99, 2) := by decide +kernel
theorem dX3_otherwiseIs_50 : decode cX3_otherwiseIs 50 = .ok (.if_icmp .eq 17, 3) := by decide +kernel
theorem dX3_otherwiseIs_53 : decode cX3_otherwiseIs 53 = .ok (.iload_n 2, 1) := by decide +kernel
theorem dX3_otherwiseIs_54 : decode cX3_otherwiseIs 54 = .ok (.bipush 10, 2) := by decide +kernel
theorem dX3_otherwiseIs_56 : decode cX3_otherwiseIs 56 = .ok (.idiv, 1) := by decide +kernel
theorem dX3_otherwiseIs_57 : decode cX3_otherwiseIs 57 = .ok (.iload 5, 2) := by decide +kernel
theorem dX3_otherwiseIs_59 : decode cX3_otherwiseIs 59 = .ok (.bipush 10, 2) := by decide +kernel
theorem dX3_otherwiseIs_61 : decode cX3_otherwiseIs 61 = .ok (.idiv, 1) := by decide +kernel
theorem dX3_otherwiseIs_62 : decode cX3_otherwiseIs 62 = .ok (.if_icmp .eq 5, 3) := by decide +kernel
theorem dX3_otherwiseIs_65 : decode cX3_otherwiseIs 65 = .ok (.iconst 0, 1) := by decide +kernel
theorem dX3_otherwiseIs_66 : decode cX3_otherwiseIs 66 = .ok (.ireturn, 1) := by decide +kernel
theorem dX3_otherwiseIs_67 : decode cX3_otherwiseIs 67 = .ok (.aload_n 0, 1) := by decide +kernel
theorem dX3_otherwiseIs_68 : decode cX3_otherwiseIs 68 = .ok (.iload 4, 2) := by decide +kernel
theorem dX3_otherwiseIs_70 : decode cX3_otherwiseIs 70 = .ok (.invokevirtual 55, 3) := by decide +kernel
theorem dX3_otherwiseIs_73 : decode cX3_otherwiseIs 73 = .ok (.astore 6, 2) := by decide +kernel
theorem dX3_otherwiseIs_75 : decode cX3_otherwiseIs 75 = .ok (.iload_n 2, 1) := by decide +kernel
theorem dX3_otherwiseIs_76 : decode cX3_otherwiseIs 76 = .ok (.bipush 99, 2) := by decide +kernel
theorem dX3_otherwiseIs_78 : decode cX3_otherwiseIs 78 = .ok (.if_icmp .eq 23, 3) := by decide +kernel
theorem dX3_otherwiseIs_81 : decode cX3_otherwiseIs 81 = .ok (.aload 6, 2) := by decide +kernel
theorem dX3_otherwiseIs_83 : decode cX3_otherwiseIs 83 = .ok (.iload_n 2, 1) := by decide +kernel
theorem dX3_otherwiseIs_84 : decode cX3_otherwiseIs 84 = .ok (.bipush 10, 2) := by decide +kernel
theorem dX3_otherwiseIs_86 : decode cX3_otherwiseIs 86 = .ok (.idiv, 1) := by decide +kernel
theorem dX3_otherwiseIs_87 : decode cX3_otherwiseIs 87 = .ok (.iload_n 2, 1) := by decide +kernel
theorem dX3_otherwiseIs_88 : decode cX3_otherwiseIs 88 = .ok (.bipush 10, 2) := by decide +kernel
theorem dX3_otherwiseIs_90 : decode cX3_otherwiseIs 90 = .ok (.irem, 1) := by decide +kernel
theorem dX3_otherwiseIs_91 : decode cX3_otherwiseIs 91 = .ok (.invokevirtual 58, 3) := by decide +kernel
theorem dX3_otherwiseIs_94 : decode cX3_otherwiseIs 94 = .ok (.bipush (-4), 2) := by decide +kernel
theorem dX3_otherwiseIs_96 : decode cX3_otherwiseIs 96 = .ok (.if_icmp .ne 5, 3) := by decide +kernel
theorem dX3_otherwiseIs_99 : decode cX3_otherwiseIs 99 = .ok (.iconst 0, 1) := by decide +kernel
theorem dX3_otherwiseIs_100 : decode cX3_otherwiseIs 100 = .ok (.ireturn, 1) := by decide +kernel
theorem dX3_otherwiseIs_101 : decode cX3_otherwiseIs 101 = .ok (.aload_n 3, 1) := by decide +kernel
theorem dX3_otherwiseIs_102 : decode cX3_otherwiseIs 102 = .ok (.aload 6, 2) := by decide +kernel
theorem dX3_otherwiseIs_104 : decode cX3_otherwiseIs 104 = .ok (.invokevirtual 49, 3) := by decide +kernel
theorem dX3_otherwiseIs_107 : decode cX3_otherwiseIs 107 = .ok (.aload_n 3, 1) := by decide +kernel
theorem dX3_otherwiseIs_108 : decode cX3_otherwiseIs 108 = .ok (.iload_n 2, 1) := by decide +kernel
theorem dX3_otherwiseIs_109 : decode cX3_otherwiseIs 109 = .ok (.invokevirtual 61, 3) := by decide +kernel
theorem dX3_otherwiseIs_112 : decode cX3_otherwiseIs 112 = .ok (.iload 4, 2) := by decide +kernel
theorem dX3_otherwiseIs_114 : decode cX3_otherwiseIs 114 = .ok (.iconst 1, 1) := by decide +kernel
theorem dX3_otherwiseIs_115 : decode cX3_otherwiseIs 115 = .ok (.iadd, 1) := by decide +kernel
theorem dX3_otherwiseIs_116 : decode cX3_otherwiseIs 116 = .ok (.istore 7, 2) := by decide +kernel
theorem dX3_otherwiseIs_118 : decode cX3_otherwiseIs 118 = .ok (.iload 7, 2) := by decide +kernel
theorem dX3_otherwiseIs_120 : decode cX3_otherwiseIs 120 = .ok (.aload_n 0, 1) := by decide +kernel
theorem dX3_otherwiseIs_121 : decode cX3_otherwiseIs 121 = .ok (.getfield 15, 3) := by decide +kernel
theorem dX3_otherwiseIs_124 : decode cX3_otherwiseIs 124 = .ok (.if_icmp .ge 36, 3) := by decide +kernel
theorem dX3_otherwiseIs_127 : decode cX3_otherwiseIs 127 = .ok (.aload_n 3, 1) := by decide +kernel
theorem dX3_otherwiseIs_128 : decode cX3_otherwiseIs 128 = .ok (.aload_n 3, 1) := by decide +kernel
theorem dX3_otherwiseIs_129 : decode cX3_otherwiseIs 129 = .ok (.invokevirtual 65, 3) := by decide +kernel
theorem dX3_otherwiseIs_132 : decode cX3_otherwiseIs 132 = .ok (.ifCond .ne 17, 3) := by decide +kernel
theorem dX3_otherwiseIs_135 : decode cX3_otherwiseIs 135 = .ok (.aload_n 0, 1) := by decide +kernel
theorem dX3_otherwiseIs_136 : decode cX3_otherwiseIs 136 = .ok (.getfield 9, 3) := by decide +kernel
theorem dX3_otherwiseIs_139 : decode cX3_otherwiseIs 139 = .ok (.aload_n 0, 1) := by decide +kernel
theorem dX3_otherwiseIs_140 : decode cX3_otherwiseIs 140 = .ok (.iload 7, 2) := by decide +kernel
theorem dX3_otherwiseIs_142 : decode cX3_otherwiseIs 142 = .ok (.invokevirtual 41, 3) := by decide +kernel
theorem dX3_otherwiseIs_145 : decode cX3_otherwiseIs 145 = .ok (.iaload, 1) := by decide +kernel
theorem dX3_otherwiseIs_146 : decode cX3_otherwiseIs 146 = .ok (.goto 5, 3) := by decide +kernel
theorem dX3_otherwiseIs_149 : decode cX3_otherwiseIs 149 = .ok (.bipush 99, 2) := by decide +kernel
theorem dX3_otherwiseIs_151 : decode cX3_otherwiseIs 151 = .ok (.invokevirtual 61, 3) := by decide +kernel
theorem dX3_otherwiseIs_154 : decode cX3_otherwiseIs 154 = .ok (.iinc 7 1, 3) := by decide +kernel
theorem dX3_otherwiseIs_157 : decode cX3_otherwiseIs 157 = .ok (.goto (-39), 3) := by decide +kernel
theorem dX3_otherwiseIs_160 : decode cX3_otherwiseIs 160 = .ok (.iconst 1, 1) := by decide +kernel
theorem dX3_otherwiseIs_161 : decode cX3_otherwiseIs 161 = .ok (.ireturn, 1) := by decide +kernel
theorem dX4_init_0 : decode cX4_init 0 = .ok (.aload_n 0, 1) := by decide +kernel
theorem dX4_init_1 : decode cX4_init 1 = .ok (.invokespecial 1, 3) := by decide +kernel
theorem dX4_init_4 : decode cX4_init 4 = .ok (.aload_n 0, 1) := by decide +kernel
theorem dX4_init_5 : decode cX4_init 5 = .ok (.new 7, 3) := by decide +kernel
theorem dX4_init_8 : decode cX4_init 8 = .ok (.dup, 1) := by decide +kernel
theorem dX4_init_9 : decode cX4_init 9 = .ok (.aload_n 1, 1) := by decide +kernel
theorem dX4_init_10 : decode cX4_init 10 = .ok (.invokespecial 9, 3) := by decide +kernel
theorem dX4_init_13 : decode cX4_init 13 = .ok (.putfield 12, 3) := by decide +kernel
theorem dX4_init_16 : decode cX4_init 16 = .ok (.aload_n 0, 1) := by decide +kernel
theorem dX4_init_17 : decode cX4_init 17 = .ok (.iload_n 2, 1) := by decide +kernel
theorem dX4_init_18 : decode cX4_init 18 = .ok (.iconst 1, 1) := by decide +kernel
theorem dX4_init_19 : decode cX4_init 19 = .ok (.if_icmp .ge 7, 3) := by decide +kernel
theorem dX4_init_22 : decode cX4_init 22 = .ok (.iconst 1, 1) := by decide +kernel
theorem dX4_init_23 : decode cX4_init 23 = .ok (.goto 4, 3) := by decide +kernel
theorem dX4_init_26 : decode cX4_init 26 = .ok (.iload_n 2, 1) := by decide +kernel
theorem dX4_init_27 : decode cX4_init 27 = .ok (.anewarray 7, 3) := by decide +kernel
theorem dX4_init_30 : decode cX4_init 30 = .ok (.putfield 18, 3) := by decide +kernel
theorem dX4_init_33 : decode cX4_init 33 = .ok (.iconst 0, 1) := by decide +kernel
theorem dX4_init_34 : decode cX4_init 34 = .ok (.istore_n 3, 1) := by decide +kernel
theorem dX4_init_35 : decode cX4_init 35 = .ok (.iload_n 3, 1) := by decide +kernel
theorem dX4_init_36 : decode cX4_init 36 = .ok (.aload_n 0, 1) := by decide +kernel
theorem dX4_init_37 : decode cX4_init 37 = .ok (.getfield 18, 3) := by decide +kernel
theorem dX4_init_40 : decode cX4_init 40 = .ok (.arraylength, 1) := by decide +kernel
theorem dX4_init_41 : decode cX4_init 41 = .ok (.if_icmp .ge 34, 3) := by decide +kernel
theorem dX4_init_44 : decode cX4_init 44 = .ok (.aload_n 0, 1) := by decide +kernel
theorem dX4_init_45 : decode cX4_init 45 = .ok (.getfield 18, 3) := by decide +kernel
theorem dX4_init_48 : decode cX4_init 48 = .ok (.iload_n 3, 1) := by decide +kernel
theorem dX4_init_49 : decode cX4_init 49 = .ok (.iload_n 3, 1) := by decide +kernel
theorem dX4_init_50 : decode cX4_init 50 = .ok (.ifCond .ne 10, 3) := by decide +kernel
theorem dX4_init_53 : decode cX4_init 53 = .ok (.aload_n 0, 1) := by decide +kernel
theorem dX4_init_54 : decode cX4_init 54 = .ok (.getfield 12, 3) := by decide +kernel
theorem dX4_init_57 : decode cX4_init 57 = .ok (.goto 11, 3) := by decide +kernel
theorem dX4_init_60 : decode cX4_init 60 = .ok (.new 7, 3) := by decide +kernel
theorem dX4_init_63 : decode cX4_init 63 = .ok (.dup, 1) := by decide +kernel
theorem dX4_init_64 : decode cX4_init 64 = .ok (.aload_n 1, 1) := by decide +kernel
theorem dX4_init_65 : decode cX4_init 65 = .ok (.invokespecial 9, 3) := by decide +kernel
theorem dX4_init_68 : decode cX4_init 68 = .ok (.aastore, 1) := by decide +kernel
theorem dX4_init_69 : decode cX4_init 69 = .ok (.iinc 3 1, 3) := by decide +kernel
theorem dX4_init_72 : decode cX4_init 72 = .ok (.goto (-37), 3) := by decide +kernel
theorem dX4_init_75 : decode cX4_init 75 = .ok (.return_, 1) := by decide +kernel
theorem dX4_get_0 : decode cX4_get 0 = .ok (.iload_n 1, 1) := by decide +kernel
theorem dX4_get_1 : decode cX4_get 1 = .ok (.ifCond .lt 21, 3) := by decide +kernel
theorem dX4_get_4 : decode cX4_get 4 = .ok (.iload_n 1, 1) := by decide +kernel
theorem dX4_get_5 : decode cX4_get 5 = .ok (.aload_n 0, 1) := by decide +kernel
theorem dX4_get_6 : decode cX4_get 6 = .ok (.getfield 18, 3) := by decide +kernel
theorem dX4_get_9 : decode cX4_get 9 = .ok (.arraylength, 1) := by decide +kernel
theorem dX4_get_10 : decode cX4_get 10 = .ok (.if_icmp .ge 12, 3) := by decide +kernel
theorem dX4_get_13 : decode cX4_get 13 = .ok (.aload_n 0, 1) := by decide +kernel
theorem dX4_get_14 : decode cX4_get 14 = .ok (.getfield 18, 3) := by decide +kernel
theorem dX4_get_17 : decode cX4_get 17 = .ok (.iload_n 1, 1) := by decide +kernel
theorem dX4_get_18 : decode cX4_get 18 = .ok (.aaload, 1) := by decide +kernel
theorem dX4_get_19 : decode cX4_get 19 = .ok (.goto 7, 3) := by decide +kernel
theorem dX4_get_22 : decode cX4_get 22 = .ok (.aload_n 0, 1) := by decide +kernel
theorem dX4_get_23 : decode cX4_get 23 = .ok (.getfield 12, 3) := by decide +kernel
theorem dX4_get_26 : decode cX4_get 26 = .ok (.astore_n 2, 1) := by decide +kernel
theorem dX4_get_27 : decode cX4_get 27 = .ok (.aload_n 2, 1) := by decide +kernel
theorem dX4_get_28 : decode cX4_get 28 = .ok (.ifnonnull 10, 3) := by decide +kernel
theorem dX4_get_31 : decode cX4_get 31 = .ok (.aload_n 0, 1) := by decide +kernel
theorem dX4_get_32 : decode cX4_get 32 = .ok (.getfield 12, 3) := by decide +kernel
theorem dX4_get_35 : decode cX4_get 35 = .ok (.goto 4, 3) := by decide +kernel
theorem dX4_get_38 : decode cX4_get 38 = .ok (.aload_n 2, 1) := by decide +kernel
theorem dX4_get_39 : decode cX4_get 39 = .ok (.areturn, 1) := by decide +kernel

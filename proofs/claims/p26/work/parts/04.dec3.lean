theorem dL_cell_0 : decode cL_cell 0 = .ok (.iload_n 1, 1) := by decide +kernel
theorem dL_cell_1 : decode cL_cell 1 = .ok (.aload_n 0, 1) := by decide +kernel
theorem dL_cell_2 : decode cL_cell 2 = .ok (.arraylength, 1) := by decide +kernel
theorem dL_cell_3 : decode cL_cell 3 = .ok (.if_icmp .ge 9, 3) := by decide +kernel
theorem dL_cell_6 : decode cL_cell 6 = .ok (.aload_n 0, 1) := by decide +kernel
theorem dL_cell_7 : decode cL_cell 7 = .ok (.iload_n 1, 1) := by decide +kernel
theorem dL_cell_8 : decode cL_cell 8 = .ok (.iaload, 1) := by decide +kernel
theorem dL_cell_9 : decode cL_cell 9 = .ok (.goto 14, 3) := by decide +kernel
theorem dL_cell_12 : decode cL_cell 12 = .ok (.ldc 7, 2) := by decide +kernel
theorem dL_cell_14 : decode cL_cell 14 = .ok (.iload_n 1, 1) := by decide +kernel
theorem dL_cell_15 : decode cL_cell 15 = .ok (.sipush 139, 3) := by decide +kernel
theorem dL_cell_18 : decode cL_cell 18 = .ok (.iadd, 1) := by decide +kernel
theorem dL_cell_19 : decode cL_cell 19 = .ok (.imul, 1) := by decide +kernel
theorem dL_cell_20 : decode cL_cell 20 = .ok (.bipush 23, 2) := by decide +kernel
theorem dL_cell_22 : decode cL_cell 22 = .ok (.iadd, 1) := by decide +kernel
theorem dL_cell_23 : decode cL_cell 23 = .ok (.ireturn, 1) := by decide +kernel
theorem dL_low_0 : decode cL_low 0 = .ok (.iload_n 0, 1) := by decide +kernel
theorem dL_low_1 : decode cL_low 1 = .ok (.ldc 8, 2) := by decide +kernel
theorem dL_low_3 : decode cL_low 3 = .ok (.iand, 1) := by decide +kernel
theorem dL_low_4 : decode cL_low 4 = .ok (.iload_n 1, 1) := by decide +kernel
theorem dL_low_5 : decode cL_low 5 = .ok (.irem, 1) := by decide +kernel
theorem dL_low_6 : decode cL_low 6 = .ok (.ireturn, 1) := by decide +kernel
theorem dL_number_0 : decode cL_number 0 = .ok (.iload_n 1, 1) := by decide +kernel
theorem dL_number_1 : decode cL_number 1 = .ok (.bipush 10, 2) := by decide +kernel
theorem dL_number_3 : decode cL_number 3 = .ok (.if_icmp .lt 17, 3) := by decide +kernel
theorem dL_number_6 : decode cL_number 6 = .ok (.aload_n 0, 1) := by decide +kernel
theorem dL_number_7 : decode cL_number 7 = .ok (.bipush 48, 2) := by decide +kernel
theorem dL_number_9 : decode cL_number 9 = .ok (.iload_n 1, 1) := by decide +kernel
theorem dL_number_10 : decode cL_number 10 = .ok (.bipush 10, 2) := by decide +kernel
theorem dL_number_12 : decode cL_number 12 = .ok (.idiv, 1) := by decide +kernel
theorem dL_number_13 : decode cL_number 13 = .ok (.iadd, 1) := by decide +kernel
theorem dL_number_14 : decode cL_number 14 = .ok (.invokevirtual 9, 3) := by decide +kernel
theorem dL_number_17 : decode cL_number 17 = .ok (.ifCond .le 29, 3) := by decide +kernel
theorem dL_number_20 : decode cL_number 20 = .ok (.aload_n 0, 1) := by decide +kernel
theorem dL_number_21 : decode cL_number 21 = .ok (.bipush 48, 2) := by decide +kernel
theorem dL_number_23 : decode cL_number 23 = .ok (.iload_n 1, 1) := by decide +kernel
theorem dL_number_24 : decode cL_number 24 = .ok (.bipush 10, 2) := by decide +kernel
theorem dL_number_26 : decode cL_number 26 = .ok (.irem, 1) := by decide +kernel
theorem dL_number_27 : decode cL_number 27 = .ok (.iadd, 1) := by decide +kernel
theorem dL_number_28 : decode cL_number 28 = .ok (.invokevirtual 9, 3) := by decide +kernel
theorem dL_number_31 : decode cL_number 31 = .ok (.ifCond .le 15, 3) := by decide +kernel
theorem dL_number_34 : decode cL_number 34 = .ok (.aload_n 0, 1) := by decide +kernel
theorem dL_number_35 : decode cL_number 35 = .ok (.iload_n 2, 1) := by decide +kernel
theorem dL_number_36 : decode cL_number 36 = .ok (.invokevirtual 9, 3) := by decide +kernel
theorem dL_number_39 : decode cL_number 39 = .ok (.ifCond .le 7, 3) := by decide +kernel
theorem dL_number_42 : decode cL_number 42 = .ok (.iconst 1, 1) := by decide +kernel
theorem dL_number_43 : decode cL_number 43 = .ok (.goto 4, 3) := by decide +kernel
theorem dL_number_46 : decode cL_number 46 = .ok (.iconst 0, 1) := by decide +kernel
theorem dL_number_47 : decode cL_number 47 = .ok (.ireturn, 1) := by decide +kernel
theorem dL_one_0 : decode cL_one 0 = .ok (.aload_n 0, 1) := by decide +kernel
theorem dL_one_1 : decode cL_one 1 = .ok (.iload_n 1, 1) := by decide +kernel
theorem dL_one_2 : decode cL_one 2 = .ok (.invokevirtual 9, 3) := by decide +kernel
theorem dL_one_5 : decode cL_one 5 = .ok (.ifCond .le 17, 3) := by decide +kernel
theorem dL_one_8 : decode cL_one 8 = .ok (.aload_n 0, 1) := by decide +kernel
theorem dL_one_9 : decode cL_one 9 = .ok (.iload_n 2, 1) := by decide +kernel
theorem dL_one_10 : decode cL_one 10 = .ok (.bipush 59, 2) := by decide +kernel
theorem dL_one_12 : decode cL_one 12 = .ok (.invokestatic 15, 3) := by decide +kernel
theorem dL_one_15 : decode cL_one 15 = .ok (.ifCond .eq 7, 3) := by decide +kernel
theorem dL_one_18 : decode cL_one 18 = .ok (.iconst 1, 1) := by decide +kernel
theorem dL_one_19 : decode cL_one 19 = .ok (.goto 4, 3) := by decide +kernel
theorem dL_one_22 : decode cL_one 22 = .ok (.iconst 0, 1) := by decide +kernel
theorem dL_one_23 : decode cL_one 23 = .ok (.ireturn, 1) := by decide +kernel
theorem dL_make_0 : decode cL_make 0 = .ok (.aload_n 1, 1) := by decide +kernel
theorem dL_make_1 : decode cL_make 1 = .ok (.iload_n 2, 1) := by decide +kernel
theorem dL_make_2 : decode cL_make 2 = .ok (.invokestatic 21, 3) := by decide +kernel
theorem dL_make_5 : decode cL_make 5 = .ok (.istore 6, 2) := by decide +kernel
theorem dL_make_7 : decode cL_make 7 = .ok (.aload_n 0, 1) := by decide +kernel
theorem dL_make_8 : decode cL_make 8 = .ok (.invokevirtual 25, 3) := by decide +kernel
theorem dL_make_11 : decode cL_make 11 = .ok (.ifCond .lt 7, 3) := by decide +kernel
theorem dL_make_14 : decode cL_make 14 = .ok (.iconst 1, 1) := by decide +kernel
theorem dL_make_15 : decode cL_make 15 = .ok (.goto 4, 3) := by decide +kernel
theorem dL_make_18 : decode cL_make 18 = .ok (.iconst 0, 1) := by decide +kernel
theorem dL_make_19 : decode cL_make 19 = .ok (.istore 7, 2) := by decide +kernel
theorem dL_make_21 : decode cL_make 21 = .ok (.iconst 0, 1) := by decide +kernel
theorem dL_make_22 : decode cL_make 22 = .ok (.istore 8, 2) := by decide +kernel
theorem dL_make_24 : decode cL_make 24 = .ok (.iload 8, 2) := by decide +kernel
theorem dL_make_26 : decode cL_make 26 = .ok (.bipush 22, 2) := by decide +kernel
theorem dL_make_28 : decode cL_make 28 = .ok (.if_icmp .ge 15, 3) := by decide +kernel
theorem dL_make_31 : decode cL_make 31 = .ok (.aload 4, 2) := by decide +kernel
theorem dL_make_33 : decode cL_make 33 = .ok (.iload 8, 2) := by decide +kernel
theorem dL_make_35 : decode cL_make 35 = .ok (.iconst 0, 1) := by decide +kernel
theorem dL_make_36 : decode cL_make 36 = .ok (.iastore, 1) := by decide +kernel
theorem dL_make_37 : decode cL_make 37 = .ok (.iinc 8 1, 3) := by decide +kernel
theorem dL_make_40 : decode cL_make 40 = .ok (.goto (-16), 3) := by decide +kernel
theorem dL_make_43 : decode cL_make 43 = .ok (.iconst 0, 1) := by decide +kernel
theorem dL_make_44 : decode cL_make 44 = .ok (.istore 8, 2) := by decide +kernel
theorem dL_make_46 : decode cL_make 46 = .ok (.iload 8, 2) := by decide +kernel
theorem dL_make_48 : decode cL_make 48 = .ok (.bipush 54, 2) := by decide +kernel
theorem dL_make_50 : decode cL_make 50 = .ok (.if_icmp .ge 34, 3) := by decide +kernel
theorem dL_make_53 : decode cL_make 53 = .ok (.aload 5, 2) := by decide +kernel
theorem dL_make_55 : decode cL_make 55 = .ok (.iload 8, 2) := by decide +kernel
theorem dL_make_57 : decode cL_make 57 = .ok (.iload 8, 2) := by decide +kernel
theorem dL_make_59 : decode cL_make 59 = .ok (.bipush 36, 2) := by decide +kernel
theorem dL_make_61 : decode cL_make 61 = .ok (.if_icmp .le 15, 3) := by decide +kernel
theorem dL_make_64 : decode cL_make 64 = .ok (.iload 8, 2) := by decide +kernel
theorem dL_make_66 : decode cL_make 66 = .ok (.bipush 45, 2) := by decide +kernel
theorem dL_make_68 : decode cL_make 68 = .ok (.if_icmp .ge 8, 3) := by decide +kernel
theorem dL_make_71 : decode cL_make 71 = .ok (.bipush 36, 2) := by decide +kernel
theorem dL_make_73 : decode cL_make 73 = .ok (.goto 4, 3) := by decide +kernel
theorem dL_make_76 : decode cL_make 76 = .ok (.iconst 0, 1) := by decide +kernel
theorem dL_make_77 : decode cL_make 77 = .ok (.iastore, 1) := by decide +kernel
theorem dL_make_78 : decode cL_make 78 = .ok (.iinc 8 1, 3) := by decide +kernel
theorem dL_make_81 : decode cL_make 81 = .ok (.goto (-35), 3) := by decide +kernel
theorem dL_make_84 : decode cL_make 84 = .ok (.iconst 1, 1) := by decide +kernel
theorem dL_make_85 : decode cL_make 85 = .ok (.iload 6, 2) := by decide +kernel
theorem dL_make_87 : decode cL_make 87 = .ok (.iload_n 3, 1) := by decide +kernel
theorem dL_make_88 : decode cL_make 88 = .ok (.invokestatic 29, 3) := by decide +kernel
theorem dL_make_91 : decode cL_make 91 = .ok (.iadd, 1) := by decide +kernel
theorem dL_make_92 : decode cL_make 92 = .ok (.istore 8, 2) := by decide +kernel
theorem dL_make_94 : decode cL_make 94 = .ok (.aload 4, 2) := by decide +kernel
theorem dL_make_96 : decode cL_make 96 = .ok (.iconst 1, 1) := by decide +kernel
theorem dL_make_97 : decode cL_make 97 = .ok (.iconst 1, 1) := by decide +kernel
theorem dL_make_98 : decode cL_make 98 = .ok (.iload 6, 2) := by decide +kernel
theorem dL_make_100 : decode cL_make 100 = .ok (.iconst 3, 1) := by decide +kernel
theorem dL_make_101 : decode cL_make 101 = .ok (.ishr, 1) := by decide +kernel
theorem dL_make_102 : decode cL_make 102 = .ok (.iload_n 3, 1) := by decide +kernel
theorem dL_make_103 : decode cL_make 103 = .ok (.invokestatic 29, 3) := by decide +kernel
theorem dL_make_106 : decode cL_make 106 = .ok (.iadd, 1) := by decide +kernel
theorem dL_make_107 : decode cL_make 107 = .ok (.iastore, 1) := by decide +kernel
theorem dL_make_108 : decode cL_make 108 = .ok (.aload 4, 2) := by decide +kernel
theorem dL_make_110 : decode cL_make 110 = .ok (.iconst 0, 1) := by decide +kernel
theorem dL_make_111 : decode cL_make 111 = .ok (.iload 8, 2) := by decide +kernel
theorem dL_make_113 : decode cL_make 113 = .ok (.aload 4, 2) := by decide +kernel
theorem dL_make_115 : decode cL_make 115 = .ok (.iconst 1, 1) := by decide +kernel
theorem dL_make_116 : decode cL_make 116 = .ok (.iaload, 1) := by decide +kernel
theorem dL_make_117 : decode cL_make 117 = .ok (.imul, 1) := by decide +kernel
theorem dL_make_118 : decode cL_make 118 = .ok (.iastore, 1) := by decide +kernel
theorem dL_make_119 : decode cL_make 119 = .ok (.aload 4, 2) := by decide +kernel
theorem dL_make_121 : decode cL_make 121 = .ok (.iconst 3, 1) := by decide +kernel
theorem dL_make_122 : decode cL_make 122 = .ok (.bipush (-4), 2) := by decide +kernel
theorem dL_make_124 : decode cL_make 124 = .ok (.iastore, 1) := by decide +kernel
theorem dL_make_125 : decode cL_make 125 = .ok (.aload 4, 2) := by decide +kernel
theorem dL_make_127 : decode cL_make 127 = .ok (.iconst 4, 1) := by decide +kernel
theorem dL_make_128 : decode cL_make 128 = .ok (.iconst 4, 1) := by decide +kernel
theorem dL_make_129 : decode cL_make 129 = .ok (.iastore, 1) := by decide +kernel
theorem dL_make_130 : decode cL_make 130 = .ok (.iconst 0, 1) := by decide +kernel
theorem dL_make_131 : decode cL_make 131 = .ok (.istore 9, 2) := by decide +kernel
theorem dL_make_133 : decode cL_make 133 = .ok (.iload 9, 2) := by decide +kernel
theorem dL_make_135 : decode cL_make 135 = .ok (.iload 8, 2) := by decide +kernel
theorem dL_make_137 : decode cL_make 137 = .ok (.if_icmp .ge 221, 3) := by decide +kernel
theorem dL_make_140 : decode cL_make 140 = .ok (.iload 7, 2) := by decide +kernel
theorem dL_make_142 : decode cL_make 142 = .ok (.ifCond .eq 16, 3) := by decide +kernel
theorem dL_make_145 : decode cL_make 145 = .ok (.aload_n 0, 1) := by decide +kernel
theorem dL_make_146 : decode cL_make 146 = .ok (.bipush 114, 2) := by decide +kernel
theorem dL_make_148 : decode cL_make 148 = .ok (.invokevirtual 9, 3) := by decide +kernel
theorem dL_make_151 : decode cL_make 151 = .ok (.ifCond .le 7, 3) := by decide +kernel
theorem dL_make_154 : decode cL_make 154 = .ok (.iconst 1, 1) := by decide +kernel
theorem dL_make_155 : decode cL_make 155 = .ok (.goto 4, 3) := by decide +kernel
theorem dL_make_158 : decode cL_make 158 = .ok (.iconst 0, 1) := by decide +kernel
theorem dL_make_159 : decode cL_make 159 = .ok (.istore 7, 2) := by decide +kernel
theorem dL_make_161 : decode cL_make 161 = .ok (.aload_n 1, 1) := by decide +kernel
theorem dL_make_162 : decode cL_make 162 = .ok (.iload_n 2, 1) := by decide +kernel
theorem dL_make_163 : decode cL_make 163 = .ok (.iconst 1, 1) := by decide +kernel
theorem dL_make_164 : decode cL_make 164 = .ok (.iadd, 1) := by decide +kernel
theorem dL_make_165 : decode cL_make 165 = .ok (.iload 9, 2) := by decide +kernel
theorem dL_make_167 : decode cL_make 167 = .ok (.iadd, 1) := by decide +kernel
theorem dL_make_168 : decode cL_make 168 = .ok (.invokestatic 21, 3) := by decide +kernel
theorem dL_make_171 : decode cL_make 171 = .ok (.istore 10, 2) := by decide +kernel
theorem dL_make_173 : decode cL_make 173 = .ok (.iconst 0, 1) := by decide +kernel
theorem dL_make_174 : decode cL_make 174 = .ok (.istore 11, 2) := by decide +kernel
theorem dL_make_176 : decode cL_make 176 = .ok (.iload 11, 2) := by decide +kernel
theorem dL_make_178 : decode cL_make 178 = .ok (.aload 4, 2) := by decide +kernel
theorem dL_make_180 : decode cL_make 180 = .ok (.iconst 1, 1) := by decide +kernel
theorem dL_make_181 : decode cL_make 181 = .ok (.iaload, 1) := by decide +kernel
theorem dL_make_182 : decode cL_make 182 = .ok (.if_icmp .ge 149, 3) := by decide +kernel
theorem dL_make_185 : decode cL_make 185 = .ok (.iload 10, 2) := by decide +kernel
theorem dL_make_187 : decode cL_make 187 = .ok (.iconst 5, 1) := by decide +kernel
theorem dL_make_188 : decode cL_make 188 = .ok (.iload 11, 2) := by decide +kernel
theorem dL_make_190 : decode cL_make 190 = .ok (.imul, 1) := by decide +kernel
theorem dL_make_191 : decode cL_make 191 = .ok (.ishr, 1) := by decide +kernel
theorem dL_make_192 : decode cL_make 192 = .ok (.bipush 31, 2) := by decide +kernel
theorem dL_make_194 : decode cL_make 194 = .ok (.iand, 1) := by decide +kernel
theorem dL_make_195 : decode cL_make 195 = .ok (.istore 12, 2) := by decide +kernel
theorem dL_make_197 : decode cL_make 197 = .ok (.iload 12, 2) := by decide +kernel
theorem dL_make_199 : decode cL_make 199 = .ok (.bipush 14, 2) := by decide +kernel
theorem dL_make_201 : decode cL_make 201 = .ok (.if_icmp .ge 7, 3) := by decide +kernel
theorem dL_make_204 : decode cL_make 204 = .ok (.iconst 0, 1) := by decide +kernel
theorem dL_make_205 : decode cL_make 205 = .ok (.goto 44, 3) := by decide +kernel
theorem dL_make_208 : decode cL_make 208 = .ok (.iload 12, 2) := by decide +kernel
theorem dL_make_210 : decode cL_make 210 = .ok (.bipush 28, 2) := by decide +kernel
theorem dL_make_212 : decode cL_make 212 = .ok (.if_icmp .ge 23, 3) := by decide +kernel
theorem dL_make_215 : decode cL_make 215 = .ok (.iload 12, 2) := by decide +kernel
theorem dL_make_217 : decode cL_make 217 = .ok (.bipush 19, 2) := by decide +kernel
theorem dL_make_219 : decode cL_make 219 = .ok (.isub, 1) := by decide +kernel
theorem dL_make_220 : decode cL_make 220 = .ok (.ifCond .ge 7, 3) := by decide +kernel
theorem dL_make_223 : decode cL_make 223 = .ok (.iconst 1, 1) := by decide +kernel
theorem dL_make_224 : decode cL_make 224 = .ok (.goto 25, 3) := by decide +kernel
theorem dL_make_227 : decode cL_make 227 = .ok (.iload 12, 2) := by decide +kernel
theorem dL_make_229 : decode cL_make 229 = .ok (.bipush 19, 2) := by decide +kernel
theorem dL_make_231 : decode cL_make 231 = .ok (.isub, 1) := by decide +kernel
theorem dL_make_232 : decode cL_make 232 = .ok (.goto 17, 3) := by decide +kernel
theorem dL_make_235 : decode cL_make 235 = .ok (.iload 9, 2) := by decide +kernel
theorem dL_make_237 : decode cL_make 237 = .ok (.iload 11, 2) := by decide +kernel
theorem dL_make_239 : decode cL_make 239 = .ok (.iadd, 1) := by decide +kernel
theorem dL_make_240 : decode cL_make 240 = .ok (.ifCond .ne 7, 3) := by decide +kernel
theorem dL_make_243 : decode cL_make 243 = .ok (.iconst 0, 1) := by decide +kernel
theorem dL_make_244 : decode cL_make 244 = .ok (.goto 5, 3) := by decide +kernel
theorem dL_make_247 : decode cL_make 247 = .ok (.bipush 9, 2) := by decide +kernel
theorem dL_make_249 : decode cL_make 249 = .ok (.istore 13, 2) := by decide +kernel
theorem dL_make_251 : decode cL_make 251 = .ok (.iload 13, 2) := by decide +kernel
theorem dL_make_253 : decode cL_make 253 = .ok (.bipush 9, 2) := by decide +kernel
theorem dL_make_255 : decode cL_make 255 = .ok (.if_icmp .ne 18, 3) := by decide +kernel
theorem dL_make_258 : decode cL_make 258 = .ok (.aload 4, 2) := by decide +kernel
theorem dL_make_260 : decode cL_make 260 = .ok (.bipush 7, 2) := by decide +kernel
theorem dL_make_262 : decode cL_make 262 = .ok (.iload 9, 2) := by decide +kernel
theorem dL_make_264 : decode cL_make 264 = .ok (.iadd, 1) := by decide +kernel
theorem dL_make_265 : decode cL_make 265 = .ok (.dup2, 1) := by decide +kernel
theorem dL_make_266 : decode cL_make 266 = .ok (.iaload, 1) := by decide +kernel
theorem dL_make_267 : decode cL_make 267 = .ok (.iconst 1, 1) := by decide +kernel
theorem dL_make_268 : decode cL_make 268 = .ok (.iload 11, 2) := by decide +kernel
theorem dL_make_270 : decode cL_make 270 = .ok (.ishl, 1) := by decide +kernel
theorem dL_make_271 : decode cL_make 271 = .ok (.ior, 1) := by decide +kernel
theorem dL_make_272 : decode cL_make 272 = .ok (.iastore, 1) := by decide +kernel
theorem dL_make_273 : decode cL_make 273 = .ok (.aload 5, 2) := by decide +kernel
theorem dL_make_275 : decode cL_make 275 = .ok (.iconst 1, 1) := by decide +kernel
theorem dL_make_276 : decode cL_make 276 = .ok (.iload 9, 2) := by decide +kernel
theorem dL_make_278 : decode cL_make 278 = .ok (.aload 4, 2) := by decide +kernel
theorem dL_make_280 : decode cL_make 280 = .ok (.iconst 1, 1) := by decide +kernel
theorem dL_make_281 : decode cL_make 281 = .ok (.iaload, 1) := by decide +kernel
theorem dL_make_282 : decode cL_make 282 = .ok (.imul, 1) := by decide +kernel
theorem dL_make_283 : decode cL_make 283 = .ok (.iadd, 1) := by decide +kernel
theorem dL_make_284 : decode cL_make 284 = .ok (.iload 11, 2) := by decide +kernel
theorem dL_make_286 : decode cL_make 286 = .ok (.iadd, 1) := by decide +kernel
theorem dL_make_287 : decode cL_make 287 = .ok (.iload 13, 2) := by decide +kernel
theorem dL_make_289 : decode cL_make 289 = .ok (.bipush 9, 2) := by decide +kernel
theorem dL_make_291 : decode cL_make 291 = .ok (.if_icmp .ne 7, 3) := by decide +kernel
theorem dL_make_294 : decode cL_make 294 = .ok (.iconst 0, 1) := by decide +kernel
theorem dL_make_295 : decode cL_make 295 = .ok (.goto 5, 3) := by decide +kernel
theorem dL_make_298 : decode cL_make 298 = .ok (.iload 13, 2) := by decide +kernel
theorem dL_make_300 : decode cL_make 300 = .ok (.iastore, 1) := by decide +kernel
theorem dL_make_301 : decode cL_make 301 = .ok (.iload 7, 2) := by decide +kernel
theorem dL_make_303 : decode cL_make 303 = .ok (.ifCond .eq 19, 3) := by decide +kernel
theorem dL_make_306 : decode cL_make 306 = .ok (.aload_n 0, 1) := by decide +kernel
theorem dL_make_307 : decode cL_make 307 = .ok (.bipush 48, 2) := by decide +kernel
theorem dL_make_309 : decode cL_make 309 = .ok (.iload 13, 2) := by decide +kernel
theorem dL_make_311 : decode cL_make 311 = .ok (.iadd, 1) := by decide +kernel
theorem dL_make_312 : decode cL_make 312 = .ok (.invokevirtual 9, 3) := by decide +kernel
theorem dL_make_315 : decode cL_make 315 = .ok (.ifCond .le 7, 3) := by decide +kernel
theorem dL_make_318 : decode cL_make 318 = .ok (.iconst 1, 1) := by decide +kernel
theorem dL_make_319 : decode cL_make 319 = .ok (.goto 4, 3) := by decide +kernel
theorem dL_make_322 : decode cL_make 322 = .ok (.iconst 0, 1) := by decide +kernel
theorem dL_make_323 : decode cL_make 323 = .ok (.istore 7, 2) := by decide +kernel
theorem dL_make_325 : decode cL_make 325 = .ok (.iinc 11 1, 3) := by decide +kernel
theorem dL_make_328 : decode cL_make 328 = .ok (.goto (-152), 3) := by decide +kernel
theorem dL_make_331 : decode cL_make 331 = .ok (.iload 7, 2) := by decide +kernel
theorem dL_make_333 : decode cL_make 333 = .ok (.ifCond .eq 16, 3) := by decide +kernel
theorem dL_make_336 : decode cL_make 336 = .ok (.aload_n 0, 1) := by decide +kernel
theorem dL_make_337 : decode cL_make 337 = .ok (.bipush 59, 2) := by decide +kernel
theorem dL_make_339 : decode cL_make 339 = .ok (.invokevirtual 9, 3) := by decide +kernel
theorem dL_make_342 : decode cL_make 342 = .ok (.ifCond .le 7, 3) := by decide +kernel
theorem dL_make_345 : decode cL_make 345 = .ok (.iconst 1, 1) := by decide +kernel
theorem dL_make_346 : decode cL_make 346 = .ok (.goto 4, 3) := by decide +kernel
theorem dL_make_349 : decode cL_make 349 = .ok (.iconst 0, 1) := by decide +kernel
theorem dL_make_350 : decode cL_make 350 = .ok (.istore 7, 2) := by decide +kernel
theorem dL_make_352 : decode cL_make 352 = .ok (.iinc 9 1, 3) := by decide +kernel
theorem dL_make_355 : decode cL_make 355 = .ok (.goto (-222), 3) := by decide +kernel
theorem dL_make_358 : decode cL_make 358 = .ok (.iconst 1, 1) := by decide +kernel
theorem dL_make_359 : decode cL_make 359 = .ok (.iload 6, 2) := by decide +kernel
theorem dL_make_361 : decode cL_make 361 = .ok (.bipush 6, 2) := by decide +kernel
theorem dL_make_363 : decode cL_make 363 = .ok (.ishr, 1) := by decide +kernel
theorem dL_make_364 : decode cL_make 364 = .ok (.bipush 8, 2) := by decide +kernel
theorem dL_make_366 : decode cL_make 366 = .ok (.invokestatic 29, 3) := by decide +kernel
theorem dL_make_369 : decode cL_make 369 = .ok (.iadd, 1) := by decide +kernel
theorem dL_make_370 : decode cL_make 370 = .ok (.istore 9, 2) := by decide +kernel
theorem dL_make_372 : decode cL_make 372 = .ok (.iconst 0, 1) := by decide +kernel
theorem dL_make_373 : decode cL_make 373 = .ok (.istore 10, 2) := by decide +kernel
theorem dL_make_375 : decode cL_make 375 = .ok (.iload 10, 2) := by decide +kernel
theorem dL_make_377 : decode cL_make 377 = .ok (.iload 9, 2) := by decide +kernel
theorem dL_make_379 : decode cL_make 379 = .ok (.if_icmp .ge 253, 3) := by decide +kernel
theorem dL_make_382 : decode cL_make 382 = .ok (.aload_n 1, 1) := by decide +kernel
theorem dL_make_383 : decode cL_make 383 = .ok (.iload_n 2, 1) := by decide +kernel
theorem dL_make_384 : decode cL_make 384 = .ok (.bipush 7, 2) := by decide +kernel
theorem dL_make_386 : decode cL_make 386 = .ok (.iadd, 1) := by decide +kernel
theorem dL_make_387 : decode cL_make 387 = .ok (.iload 10, 2) := by decide +kernel
theorem dL_make_389 : decode cL_make 389 = .ok (.iconst 2, 1) := by decide +kernel
theorem dL_make_390 : decode cL_make 390 = .ok (.idiv, 1) := by decide +kernel
theorem dL_make_391 : decode cL_make 391 = .ok (.iadd, 1) := by decide +kernel
theorem dL_make_392 : decode cL_make 392 = .ok (.invokestatic 21, 3) := by decide +kernel
theorem dL_make_395 : decode cL_make 395 = .ok (.bipush 14, 2) := by decide +kernel
theorem dL_make_397 : decode cL_make 397 = .ok (.iload 10, 2) := by decide +kernel
theorem dL_make_399 : decode cL_make 399 = .ok (.iconst 2, 1) := by decide +kernel
theorem dL_make_400 : decode cL_make 400 = .ok (.irem, 1) := by decide +kernel
theorem dL_make_401 : decode cL_make 401 = .ok (.imul, 1) := by decide +kernel
theorem dL_make_402 : decode cL_make 402 = .ok (.ishr, 1) := by decide +kernel
theorem dL_make_403 : decode cL_make 403 = .ok (.istore 11, 2) := by decide +kernel
theorem dL_make_405 : decode cL_make 405 = .ok (.iload 11, 2) := by decide +kernel
theorem dL_make_407 : decode cL_make 407 = .ok (.bipush 63, 2) := by decide +kernel
theorem dL_make_409 : decode cL_make 409 = .ok (.iand, 1) := by decide +kernel
theorem dL_make_410 : decode cL_make 410 = .ok (.aload 4, 2) := by decide +kernel
theorem dL_make_412 : decode cL_make 412 = .ok (.iconst 0, 1) := by decide +kernel
theorem dL_make_413 : decode cL_make 413 = .ok (.iaload, 1) := by decide +kernel
theorem dL_make_414 : decode cL_make 414 = .ok (.invokestatic 29, 3) := by decide +kernel
theorem dL_make_417 : decode cL_make 417 = .ok (.istore 12, 2) := by decide +kernel
theorem dL_make_419 : decode cL_make 419 = .ok (.iload 10, 2) := by decide +kernel
theorem dL_make_421 : decode cL_make 421 = .ok (.ifCond .ne 17, 3) := by decide +kernel
theorem dL_make_424 : decode cL_make 424 = .ok (.aload 4, 2) := by decide +kernel
theorem dL_make_426 : decode cL_make 426 = .ok (.iload 12, 2) := by decide +kernel
theorem dL_make_428 : decode cL_make 428 = .ok (.invokestatic 33, 3) := by decide +kernel
theorem dL_make_431 : decode cL_make 431 = .ok (.ifCond .eq 7, 3) := by decide +kernel
theorem dL_make_434 : decode cL_make 434 = .ok (.iconst 0, 1) := by decide +kernel
theorem dL_make_435 : decode cL_make 435 = .ok (.goto 5, 3) := by decide +kernel
theorem dL_make_438 : decode cL_make 438 = .ok (.iload 12, 2) := by decide +kernel
theorem dL_make_440 : decode cL_make 440 = .ok (.istore 12, 2) := by decide +kernel
theorem dL_make_442 : decode cL_make 442 = .ok (.aload 4, 2) := by decide +kernel
theorem dL_make_444 : decode cL_make 444 = .ok (.iload 12, 2) := by decide +kernel
theorem dL_make_446 : decode cL_make 446 = .ok (.invokestatic 33, 3) := by decide +kernel
theorem dL_make_449 : decode cL_make 449 = .ok (.ifCond .ne 7, 3) := by decide +kernel
theorem dL_make_452 : decode cL_make 452 = .ok (.iconst 1, 1) := by decide +kernel
theorem dL_make_453 : decode cL_make 453 = .ok (.goto 4, 3) := by decide +kernel
theorem dL_make_456 : decode cL_make 456 = .ok (.iconst 0, 1) := by decide +kernel
theorem dL_make_457 : decode cL_make 457 = .ok (.istore 13, 2) := by decide +kernel
theorem dL_make_459 : decode cL_make 459 = .ok (.iconst 0, 1) := by decide +kernel
theorem dL_make_460 : decode cL_make 460 = .ok (.istore 14, 2) := by decide +kernel
theorem dL_make_462 : decode cL_make 462 = .ok (.iload 14, 2) := by decide +kernel
theorem dL_make_464 : decode cL_make 464 = .ok (.aload 4, 2) := by decide +kernel
theorem dL_make_466 : decode cL_make 466 = .ok (.iconst 2, 1) := by decide +kernel
theorem dL_make_467 : decode cL_make 467 = .ok (.iaload, 1) := by decide +kernel
theorem dL_make_468 : decode cL_make 468 = .ok (.if_icmp .ge 34, 3) := by decide +kernel
theorem dL_make_471 : decode cL_make 471 = .ok (.iload 13, 2) := by decide +kernel
theorem dL_make_473 : decode cL_make 473 = .ok (.ifCond .eq 20, 3) := by decide +kernel
theorem dL_make_476 : decode cL_make 476 = .ok (.aload 5, 2) := by decide +kernel
theorem dL_make_478 : decode cL_make 478 = .ok (.bipush 37, 2) := by decide +kernel
theorem dL_make_480 : decode cL_make 480 = .ok (.iload 14, 2) := by decide +kernel
theorem dL_make_482 : decode cL_make 482 = .ok (.iadd, 1) := by decide +kernel
theorem dL_make_483 : decode cL_make 483 = .ok (.iaload, 1) := by decide +kernel
theorem dL_make_484 : decode cL_make 484 = .ok (.iload 12, 2) := by decide +kernel
theorem dL_make_486 : decode cL_make 486 = .ok (.if_icmp .eq 7, 3) := by decide +kernel
theorem dL_make_489 : decode cL_make 489 = .ok (.iconst 1, 1) := by decide +kernel
theorem dL_make_490 : decode cL_make 490 = .ok (.goto 4, 3) := by decide +kernel
theorem dL_make_493 : decode cL_make 493 = .ok (.iconst 0, 1) := by decide +kernel
theorem dL_make_494 : decode cL_make 494 = .ok (.istore 13, 2) := by decide +kernel
theorem dL_make_496 : decode cL_make 496 = .ok (.iinc 14 1, 3) := by decide +kernel
theorem dL_make_499 : decode cL_make 499 = .ok (.goto (-37), 3) := by decide +kernel
theorem dL_make_502 : decode cL_make 502 = .ok (.iload 13, 2) := by decide +kernel
theorem dL_make_504 : decode cL_make 504 = .ok (.ifCond .eq 122, 3) := by decide +kernel
theorem dL_make_507 : decode cL_make 507 = .ok (.iload 11, 2) := by decide +kernel
theorem dL_make_509 : decode cL_make 509 = .ok (.bipush 6, 2) := by decide +kernel
theorem dL_make_511 : decode cL_make 511 = .ok (.ishr, 1) := by decide +kernel
theorem dL_make_512 : decode cL_make 512 = .ok (.iconst 3, 1) := by decide +kernel
theorem dL_make_513 : decode cL_make 513 = .ok (.iand, 1) := by decide +kernel
theorem dL_make_514 : decode cL_make 514 = .ok (.istore 14, 2) := by decide +kernel
theorem dL_make_516 : decode cL_make 516 = .ok (.iload 11, 2) := by decide +kernel
theorem dL_make_518 : decode cL_make 518 = .ok (.bipush 8, 2) := by decide +kernel
theorem dL_make_520 : decode cL_make 520 = .ok (.ishr, 1) := by decide +kernel
theorem dL_make_521 : decode cL_make 521 = .ok (.iconst 1, 1) := by decide +kernel
theorem dL_make_522 : decode cL_make 522 = .ok (.iand, 1) := by decide +kernel
theorem dL_make_523 : decode cL_make 523 = .ok (.istore 15, 2) := by decide +kernel
theorem dL_make_525 : decode cL_make 525 = .ok (.aload 4, 2) := by decide +kernel
theorem dL_make_527 : decode cL_make 527 = .ok (.bipush 13, 2) := by decide +kernel
theorem dL_make_529 : decode cL_make 529 = .ok (.aload 4, 2) := by decide +kernel
theorem dL_make_531 : decode cL_make 531 = .ok (.iconst 2, 1) := by decide +kernel
theorem dL_make_532 : decode cL_make 532 = .ok (.iaload, 1) := by decide +kernel
theorem dL_make_533 : decode cL_make 533 = .ok (.iadd, 1) := by decide +kernel
theorem dL_make_534 : decode cL_make 534 = .ok (.iload 14, 2) := by decide +kernel
theorem dL_make_536 : decode cL_make 536 = .ok (.iastore, 1) := by decide +kernel
theorem dL_make_537 : decode cL_make 537 = .ok (.aload 4, 2) := by decide +kernel
theorem dL_make_539 : decode cL_make 539 = .ok (.bipush 21, 2) := by decide +kernel
theorem dL_make_541 : decode cL_make 541 = .ok (.dup2, 1) := by decide +kernel
theorem dL_make_542 : decode cL_make 542 = .ok (.iaload, 1) := by decide +kernel
theorem dL_make_543 : decode cL_make 543 = .ok (.iload 15, 2) := by decide +kernel
theorem dL_make_545 : decode cL_make 545 = .ok (.aload 4, 2) := by decide +kernel
theorem dL_make_547 : decode cL_make 547 = .ok (.iconst 2, 1) := by decide +kernel
theorem dL_make_548 : decode cL_make 548 = .ok (.iaload, 1) := by decide +kernel
theorem dL_make_549 : decode cL_make 549 = .ok (.ishl, 1) := by decide +kernel
theorem dL_make_550 : decode cL_make 550 = .ok (.ior, 1) := by decide +kernel
theorem dL_make_551 : decode cL_make 551 = .ok (.iastore, 1) := by decide +kernel
theorem dL_make_552 : decode cL_make 552 = .ok (.aload 5, 2) := by decide +kernel
theorem dL_make_554 : decode cL_make 554 = .ok (.bipush 37, 2) := by decide +kernel
theorem dL_make_556 : decode cL_make 556 = .ok (.aload 4, 2) := by decide +kernel
theorem dL_make_558 : decode cL_make 558 = .ok (.iconst 2, 1) := by decide +kernel
theorem dL_make_559 : decode cL_make 559 = .ok (.iaload, 1) := by decide +kernel
theorem dL_make_560 : decode cL_make 560 = .ok (.iadd, 1) := by decide +kernel
theorem dL_make_561 : decode cL_make 561 = .ok (.iload 12, 2) := by decide +kernel
theorem dL_make_563 : decode cL_make 563 = .ok (.iastore, 1) := by decide +kernel
theorem dL_make_564 : decode cL_make 564 = .ok (.aload 4, 2) := by decide +kernel
theorem dL_make_566 : decode cL_make 566 = .ok (.iconst 2, 1) := by decide +kernel
theorem dL_make_567 : decode cL_make 567 = .ok (.dup2, 1) := by decide +kernel
theorem dL_make_568 : decode cL_make 568 = .ok (.iaload, 1) := by decide +kernel
theorem dL_make_569 : decode cL_make 569 = .ok (.iconst 1, 1) := by decide +kernel
theorem dL_make_570 : decode cL_make 570 = .ok (.iadd, 1) := by decide +kernel
theorem dL_make_571 : decode cL_make 571 = .ok (.iastore, 1) := by decide +kernel
theorem dL_make_572 : decode cL_make 572 = .ok (.iload 7, 2) := by decide +kernel
theorem dL_make_574 : decode cL_make 574 = .ok (.ifCond .eq 49, 3) := by decide +kernel
theorem dL_make_577 : decode cL_make 577 = .ok (.aload_n 0, 1) := by decide +kernel
theorem dL_make_578 : decode cL_make 578 = .ok (.bipush 98, 2) := by decide +kernel
theorem dL_make_580 : decode cL_make 580 = .ok (.invokevirtual 9, 3) := by decide +kernel
theorem dL_make_583 : decode cL_make 583 = .ok (.ifCond .le 40, 3) := by decide +kernel
theorem dL_make_586 : decode cL_make 586 = .ok (.aload_n 0, 1) := by decide +kernel
theorem dL_make_587 : decode cL_make 587 = .ok (.iload 14, 2) := by decide +kernel
theorem dL_make_589 : decode cL_make 589 = .ok (.bipush 44, 2) := by decide +kernel
theorem dL_make_591 : decode cL_make 591 = .ok (.invokestatic 15, 3) := by decide +kernel
theorem dL_make_594 : decode cL_make 594 = .ok (.ifCond .eq 29, 3) := by decide +kernel
theorem dL_make_597 : decode cL_make 597 = .ok (.aload_n 0, 1) := by decide +kernel
theorem dL_make_598 : decode cL_make 598 = .ok (.iload 15, 2) := by decide +kernel
theorem dL_make_600 : decode cL_make 600 = .ok (.bipush 44, 2) := by decide +kernel
theorem dL_make_602 : decode cL_make 602 = .ok (.invokestatic 15, 3) := by decide +kernel
theorem dL_make_605 : decode cL_make 605 = .ok (.ifCond .eq 18, 3) := by decide +kernel
theorem dL_make_608 : decode cL_make 608 = .ok (.aload_n 0, 1) := by decide +kernel
theorem dL_make_609 : decode cL_make 609 = .ok (.iload 12, 2) := by decide +kernel
theorem dL_make_611 : decode cL_make 611 = .ok (.bipush 59, 2) := by decide +kernel
theorem dL_make_613 : decode cL_make 613 = .ok (.invokestatic 15, 3) := by decide +kernel
theorem dL_make_616 : decode cL_make 616 = .ok (.ifCond .eq 7, 3) := by decide +kernel
theorem dL_make_619 : decode cL_make 619 = .ok (.iconst 1, 1) := by decide +kernel
theorem dL_make_620 : decode cL_make 620 = .ok (.goto 4, 3) := by decide +kernel
theorem dL_make_623 : decode cL_make 623 = .ok (.iconst 0, 1) := by decide +kernel
theorem dL_make_624 : decode cL_make 624 = .ok (.istore 7, 2) := by decide +kernel
theorem dL_make_626 : decode cL_make 626 = .ok (.iinc 10 1, 3) := by decide +kernel
theorem dL_make_629 : decode cL_make 629 = .ok (.goto (-254), 3) := by decide +kernel
theorem dL_make_632 : decode cL_make 632 = .ok (.iload 6, 2) := by decide +kernel
theorem dL_make_634 : decode cL_make 634 = .ok (.bipush 10, 2) := by decide +kernel
theorem dL_make_636 : decode cL_make 636 = .ok (.ishr, 1) := by decide +kernel
theorem dL_make_637 : decode cL_make 637 = .ok (.aload 4, 2) := by decide +kernel
theorem dL_make_639 : decode cL_make 639 = .ok (.iconst 0, 1) := by decide +kernel
theorem dL_make_640 : decode cL_make 640 = .ok (.iaload, 1) := by decide +kernel
theorem dL_make_641 : decode cL_make 641 = .ok (.invokestatic 29, 3) := by decide +kernel
theorem dL_make_644 : decode cL_make 644 = .ok (.istore 10, 2) := by decide +kernel
theorem dL_make_646 : decode cL_make 646 = .ok (.iload 6, 2) := by decide +kernel
theorem dL_make_648 : decode cL_make 648 = .ok (.bipush 16, 2) := by decide +kernel
theorem dL_make_650 : decode cL_make 650 = .ok (.ishr, 1) := by decide +kernel
theorem dL_make_651 : decode cL_make 651 = .ok (.iconst 3, 1) := by decide +kernel
theorem dL_make_652 : decode cL_make 652 = .ok (.iand, 1) := by decide +kernel
theorem dL_make_653 : decode cL_make 653 = .ok (.ifCond .le 42, 3) := by decide +kernel
theorem dL_make_656 : decode cL_make 656 = .ok (.aload 4, 2) := by decide +kernel
theorem dL_make_658 : decode cL_make 658 = .ok (.iload 10, 2) := by decide +kernel
theorem dL_make_660 : decode cL_make 660 = .ok (.invokestatic 33, 3) := by decide +kernel
theorem dL_make_663 : decode cL_make 663 = .ok (.ifCond .ne 32, 3) := by decide +kernel
theorem dL_make_666 : decode cL_make 666 = .ok (.aload 4, 2) := by decide +kernel
theorem dL_make_668 : decode cL_make 668 = .ok (.iconst 3, 1) := by decide +kernel
theorem dL_make_669 : decode cL_make 669 = .ok (.iload 10, 2) := by decide +kernel
theorem dL_make_671 : decode cL_make 671 = .ok (.iastore, 1) := by decide +kernel
theorem dL_make_672 : decode cL_make 672 = .ok (.iload 7, 2) := by decide +kernel
theorem dL_make_674 : decode cL_make 674 = .ok (.ifCond .eq 18, 3) := by decide +kernel
theorem dL_make_677 : decode cL_make 677 = .ok (.aload_n 0, 1) := by decide +kernel
theorem dL_make_678 : decode cL_make 678 = .ok (.bipush 119, 2) := by decide +kernel
theorem dL_make_680 : decode cL_make 680 = .ok (.iload 10, 2) := by decide +kernel
theorem dL_make_682 : decode cL_make 682 = .ok (.invokestatic 37, 3) := by decide +kernel
theorem dL_make_685 : decode cL_make 685 = .ok (.ifCond .eq 7, 3) := by decide +kernel
theorem dL_make_688 : decode cL_make 688 = .ok (.iconst 1, 1) := by decide +kernel
theorem dL_make_689 : decode cL_make 689 = .ok (.goto 4, 3) := by decide +kernel
theorem dL_make_692 : decode cL_make 692 = .ok (.iconst 0, 1) := by decide +kernel
theorem dL_make_693 : decode cL_make 693 = .ok (.istore 7, 2) := by decide +kernel
theorem dL_make_695 : decode cL_make 695 = .ok (.iload 6, 2) := by decide +kernel
theorem dL_make_697 : decode cL_make 697 = .ok (.bipush 18, 2) := by decide +kernel
theorem dL_make_699 : decode cL_make 699 = .ok (.ishr, 1) := by decide +kernel
theorem dL_make_700 : decode cL_make 700 = .ok (.iconst 1, 1) := by decide +kernel
theorem dL_make_701 : decode cL_make 701 = .ok (.iand, 1) := by decide +kernel
theorem dL_make_702 : decode cL_make 702 = .ok (.iconst 1, 1) := by decide +kernel
theorem dL_make_703 : decode cL_make 703 = .ok (.if_icmp .ne 44, 3) := by decide +kernel
theorem dL_make_706 : decode cL_make 706 = .ok (.aload 4, 2) := by decide +kernel
theorem dL_make_708 : decode cL_make 708 = .ok (.iconst 4, 1) := by decide +kernel
theorem dL_make_709 : decode cL_make 709 = .ok (.iconst 1, 1) := by decide +kernel
theorem dL_make_710 : decode cL_make 710 = .ok (.iload 6, 2) := by decide +kernel
theorem dL_make_712 : decode cL_make 712 = .ok (.bipush 19, 2) := by decide +kernel
theorem dL_make_714 : decode cL_make 714 = .ok (.ishr, 1) := by decide +kernel
theorem dL_make_715 : decode cL_make 715 = .ok (.bipush 9, 2) := by decide +kernel
theorem dL_make_717 : decode cL_make 717 = .ok (.invokestatic 29, 3) := by decide +kernel
theorem dL_make_720 : decode cL_make 720 = .ok (.iadd, 1) := by decide +kernel
theorem dL_make_721 : decode cL_make 721 = .ok (.iastore, 1) := by decide +kernel
theorem dL_make_722 : decode cL_make 722 = .ok (.iload 7, 2) := by decide +kernel
theorem dL_make_724 : decode cL_make 724 = .ok (.ifCond .eq 20, 3) := by decide +kernel
theorem dL_make_727 : decode cL_make 727 = .ok (.aload_n 0, 1) := by decide +kernel
theorem dL_make_728 : decode cL_make 728 = .ok (.bipush 104, 2) := by decide +kernel
theorem dL_make_730 : decode cL_make 730 = .ok (.aload 4, 2) := by decide +kernel
theorem dL_make_732 : decode cL_make 732 = .ok (.iconst 4, 1) := by decide +kernel
theorem dL_make_733 : decode cL_make 733 = .ok (.iaload, 1) := by decide +kernel
theorem dL_make_734 : decode cL_make 734 = .ok (.invokestatic 37, 3) := by decide +kernel
theorem dL_make_737 : decode cL_make 737 = .ok (.ifCond .eq 7, 3) := by decide +kernel
theorem dL_make_740 : decode cL_make 740 = .ok (.iconst 1, 1) := by decide +kernel
theorem dL_make_741 : decode cL_make 741 = .ok (.goto 4, 3) := by decide +kernel
theorem dL_make_744 : decode cL_make 744 = .ok (.iconst 0, 1) := by decide +kernel
theorem dL_make_745 : decode cL_make 745 = .ok (.istore 7, 2) := by decide +kernel
theorem dL_make_747 : decode cL_make 747 = .ok (.iload 6, 2) := by decide +kernel
theorem dL_make_749 : decode cL_make 749 = .ok (.bipush 23, 2) := by decide +kernel
theorem dL_make_751 : decode cL_make 751 = .ok (.ishr, 1) := by decide +kernel
theorem dL_make_752 : decode cL_make 752 = .ok (.bipush 10, 2) := by decide +kernel
theorem dL_make_754 : decode cL_make 754 = .ok (.invokestatic 29, 3) := by decide +kernel
theorem dL_make_757 : decode cL_make 757 = .ok (.istore 11, 2) := by decide +kernel
theorem dL_make_759 : decode cL_make 759 = .ok (.iconst 0, 1) := by decide +kernel
theorem dL_make_760 : decode cL_make 760 = .ok (.istore 12, 2) := by decide +kernel
theorem dL_make_762 : decode cL_make 762 = .ok (.iload 12, 2) := by decide +kernel
theorem dL_make_764 : decode cL_make 764 = .ok (.iload 11, 2) := by decide +kernel
theorem dL_make_766 : decode cL_make 766 = .ok (.if_icmp .ge 68, 3) := by decide +kernel
theorem dL_make_769 : decode cL_make 769 = .ok (.aload_n 1, 1) := by decide +kernel
theorem dL_make_770 : decode cL_make 770 = .ok (.iload_n 2, 1) := by decide +kernel
theorem dL_make_771 : decode cL_make 771 = .ok (.bipush 11, 2) := by decide +kernel
theorem dL_make_773 : decode cL_make 773 = .ok (.iadd, 1) := by decide +kernel
theorem dL_make_774 : decode cL_make 774 = .ok (.invokestatic 21, 3) := by decide +kernel
theorem dL_make_777 : decode cL_make 777 = .ok (.iload 12, 2) := by decide +kernel
theorem dL_make_779 : decode cL_make 779 = .ok (.ishr, 1) := by decide +kernel
theorem dL_make_780 : decode cL_make 780 = .ok (.iconst 1, 1) := by decide +kernel
theorem dL_make_781 : decode cL_make 781 = .ok (.iand, 1) := by decide +kernel
theorem dL_make_782 : decode cL_make 782 = .ok (.istore 13, 2) := by decide +kernel
theorem dL_make_784 : decode cL_make 784 = .ok (.aload 4, 2) := by decide +kernel
theorem dL_make_786 : decode cL_make 786 = .ok (.bipush 6, 2) := by decide +kernel
theorem dL_make_788 : decode cL_make 788 = .ok (.dup2, 1) := by decide +kernel
theorem dL_make_789 : decode cL_make 789 = .ok (.iaload, 1) := by decide +kernel
theorem dL_make_790 : decode cL_make 790 = .ok (.iload 13, 2) := by decide +kernel
theorem dL_make_792 : decode cL_make 792 = .ok (.iload 12, 2) := by decide +kernel
theorem dL_make_794 : decode cL_make 794 = .ok (.ishl, 1) := by decide +kernel
theorem dL_make_795 : decode cL_make 795 = .ok (.ior, 1) := by decide +kernel
theorem dL_make_796 : decode cL_make 796 = .ok (.iastore, 1) := by decide +kernel
theorem dL_make_797 : decode cL_make 797 = .ok (.aload 4, 2) := by decide +kernel
theorem dL_make_799 : decode cL_make 799 = .ok (.iconst 5, 1) := by decide +kernel
theorem dL_make_800 : decode cL_make 800 = .ok (.dup2, 1) := by decide +kernel
theorem dL_make_801 : decode cL_make 801 = .ok (.iaload, 1) := by decide +kernel
theorem dL_make_802 : decode cL_make 802 = .ok (.iconst 1, 1) := by decide +kernel
theorem dL_make_803 : decode cL_make 803 = .ok (.iadd, 1) := by decide +kernel
theorem dL_make_804 : decode cL_make 804 = .ok (.iastore, 1) := by decide +kernel
theorem dL_make_805 : decode cL_make 805 = .ok (.iload 7, 2) := by decide +kernel
theorem dL_make_807 : decode cL_make 807 = .ok (.ifCond .eq 18, 3) := by decide +kernel
theorem dL_make_810 : decode cL_make 810 = .ok (.aload_n 0, 1) := by decide +kernel
theorem dL_make_811 : decode cL_make 811 = .ok (.bipush 115, 2) := by decide +kernel
theorem dL_make_813 : decode cL_make 813 = .ok (.iload 13, 2) := by decide +kernel
theorem dL_make_815 : decode cL_make 815 = .ok (.invokestatic 37, 3) := by decide +kernel
theorem dL_make_818 : decode cL_make 818 = .ok (.ifCond .eq 7, 3) := by decide +kernel
theorem dL_make_821 : decode cL_make 821 = .ok (.iconst 1, 1) := by decide +kernel
theorem dL_make_822 : decode cL_make 822 = .ok (.goto 4, 3) := by decide +kernel
theorem dL_make_825 : decode cL_make 825 = .ok (.iconst 0, 1) := by decide +kernel
theorem dL_make_826 : decode cL_make 826 = .ok (.istore 7, 2) := by decide +kernel
theorem dL_make_828 : decode cL_make 828 = .ok (.iinc 12 1, 3) := by decide +kernel
theorem dL_make_831 : decode cL_make 831 = .ok (.goto (-69), 3) := by decide +kernel
theorem dL_make_834 : decode cL_make 834 = .ok (.iload 7, 2) := by decide +kernel
theorem dL_make_836 : decode cL_make 836 = .ok (.ifCond .eq 27, 3) := by decide +kernel
theorem dL_make_839 : decode cL_make 839 = .ok (.aload_n 0, 1) := by decide +kernel
theorem dL_make_840 : decode cL_make 840 = .ok (.invokevirtual 40, 3) := by decide +kernel
theorem dL_make_843 : decode cL_make 843 = .ok (.bipush (-4), 2) := by decide +kernel
theorem dL_make_845 : decode cL_make 845 = .ok (.if_icmp .ne 18, 3) := by decide +kernel
theorem dL_make_848 : decode cL_make 848 = .ok (.aload_n 0, 1) := by decide +kernel
theorem dL_make_849 : decode cL_make 849 = .ok (.invokevirtual 43, 3) := by decide +kernel
theorem dL_make_852 : decode cL_make 852 = .ok (.aload 4, 2) := by decide +kernel
theorem dL_make_854 : decode cL_make 854 = .ok (.iconst 2, 1) := by decide +kernel
theorem dL_make_855 : decode cL_make 855 = .ok (.iaload, 1) := by decide +kernel
theorem dL_make_856 : decode cL_make 856 = .ok (.if_icmp .ne 7, 3) := by decide +kernel
theorem dL_make_859 : decode cL_make 859 = .ok (.iconst 1, 1) := by decide +kernel
theorem dL_make_860 : decode cL_make 860 = .ok (.goto 4, 3) := by decide +kernel
theorem dL_make_863 : decode cL_make 863 = .ok (.iconst 0, 1) := by decide +kernel
theorem dL_make_864 : decode cL_make 864 = .ok (.ireturn, 1) := by decide +kernel
theorem dL_bog_0 : decode cL_bog 0 = .ok (.aload_n 0, 1) := by decide +kernel
theorem dL_bog_1 : decode cL_bog 1 = .ok (.bipush 7, 2) := by decide +kernel
theorem dL_bog_3 : decode cL_bog 3 = .ok (.iload_n 1, 1) := by decide +kernel
theorem dL_bog_4 : decode cL_bog 4 = .ok (.aload_n 0, 1) := by decide +kernel
theorem dL_bog_5 : decode cL_bog 5 = .ok (.iconst 1, 1) := by decide +kernel
theorem dL_bog_6 : decode cL_bog 6 = .ok (.iaload, 1) := by decide +kernel
theorem dL_bog_7 : decode cL_bog 7 = .ok (.idiv, 1) := by decide +kernel
theorem dL_bog_8 : decode cL_bog 8 = .ok (.iadd, 1) := by decide +kernel
theorem dL_bog_9 : decode cL_bog 9 = .ok (.iaload, 1) := by decide +kernel
theorem dL_bog_10 : decode cL_bog 10 = .ok (.iload_n 1, 1) := by decide +kernel
theorem dL_bog_11 : decode cL_bog 11 = .ok (.aload_n 0, 1) := by decide +kernel
theorem dL_bog_12 : decode cL_bog 12 = .ok (.iconst 1, 1) := by decide +kernel
theorem dL_bog_13 : decode cL_bog 13 = .ok (.iaload, 1) := by decide +kernel
theorem dL_bog_14 : decode cL_bog 14 = .ok (.irem, 1) := by decide +kernel
theorem dL_bog_15 : decode cL_bog 15 = .ok (.ishr, 1) := by decide +kernel
theorem dL_bog_16 : decode cL_bog 16 = .ok (.iconst 1, 1) := by decide +kernel
theorem dL_bog_17 : decode cL_bog 17 = .ok (.iand, 1) := by decide +kernel
theorem dL_bog_18 : decode cL_bog 18 = .ok (.iconst 1, 1) := by decide +kernel
theorem dL_bog_19 : decode cL_bog 19 = .ok (.if_icmp .ne 7, 3) := by decide +kernel
theorem dL_bog_22 : decode cL_bog 22 = .ok (.iconst 1, 1) := by decide +kernel
theorem dL_bog_23 : decode cL_bog 23 = .ok (.goto 4, 3) := by decide +kernel
theorem dL_bog_26 : decode cL_bog 26 = .ok (.iconst 0, 1) := by decide +kernel
theorem dL_bog_27 : decode cL_bog 27 = .ok (.ireturn, 1) := by decide +kernel
theorem dL_agrees_0 : decode cL_agrees 0 = .ok (.iconst 0, 1) := by decide +kernel
theorem dL_agrees_1 : decode cL_agrees 1 = .ok (.istore_n 2, 1) := by decide +kernel
theorem dL_agrees_2 : decode cL_agrees 2 = .ok (.iconst 0, 1) := by decide +kernel
theorem dL_agrees_3 : decode cL_agrees 3 = .ok (.istore_n 3, 1) := by decide +kernel
theorem dL_agrees_4 : decode cL_agrees 4 = .ok (.iconst 0, 1) := by decide +kernel
theorem dL_agrees_5 : decode cL_agrees 5 = .ok (.istore 4, 2) := by decide +kernel
theorem dL_agrees_7 : decode cL_agrees 7 = .ok (.iload 4, 2) := by decide +kernel
theorem dL_agrees_9 : decode cL_agrees 9 = .ok (.aload_n 1, 1) := by decide +kernel
theorem dL_agrees_10 : decode cL_agrees 10 = .ok (.iconst 0, 1) := by decide +kernel
theorem dL_agrees_11 : decode cL_agrees 11 = .ok (.iaload, 1) := by decide +kernel
theorem dL_agrees_12 : decode cL_agrees 12 = .ok (.if_icmp .ge 115, 3) := by decide +kernel
theorem dL_agrees_15 : decode cL_agrees 15 = .ok (.aload_n 0, 1) := by decide +kernel
theorem dL_agrees_16 : decode cL_agrees 16 = .ok (.iload 4, 2) := by decide +kernel
theorem dL_agrees_18 : decode cL_agrees 18 = .ok (.iconst 1, 1) := by decide +kernel
theorem dL_agrees_19 : decode cL_agrees 19 = .ok (.invokevirtual 46, 3) := by decide +kernel
theorem dL_agrees_22 : decode cL_agrees 22 = .ok (.istore 5, 2) := by decide +kernel
theorem dL_agrees_24 : decode cL_agrees 24 = .ok (.aload_n 0, 1) := by decide +kernel
theorem dL_agrees_25 : decode cL_agrees 25 = .ok (.iload 4, 2) := by decide +kernel
theorem dL_agrees_27 : decode cL_agrees 27 = .ok (.iconst 0, 1) := by decide +kernel
theorem dL_agrees_28 : decode cL_agrees 28 = .ok (.invokevirtual 46, 3) := by decide +kernel
theorem dL_agrees_31 : decode cL_agrees 31 = .ok (.istore 6, 2) := by decide +kernel
theorem dL_agrees_33 : decode cL_agrees 33 = .ok (.iload 6, 2) := by decide +kernel
theorem dL_agrees_35 : decode cL_agrees 35 = .ok (.ifCond .lt 55, 3) := by decide +kernel
theorem dL_agrees_38 : decode cL_agrees 38 = .ok (.iload 6, 2) := by decide +kernel
theorem dL_agrees_40 : decode cL_agrees 40 = .ok (.bipush 9, 2) := by decide +kernel
theorem dL_agrees_42 : decode cL_agrees 42 = .ok (.if_icmp .gt 48, 3) := by decide +kernel
theorem dL_agrees_45 : decode cL_agrees 45 = .ok (.iload 6, 2) := by decide +kernel
theorem dL_agrees_47 : decode cL_agrees 47 = .ok (.bipush 9, 2) := by decide +kernel
theorem dL_agrees_49 : decode cL_agrees 49 = .ok (.if_icmp .ne 7, 3) := by decide +kernel
theorem dL_agrees_52 : decode cL_agrees 52 = .ok (.iconst 1, 1) := by decide +kernel
theorem dL_agrees_53 : decode cL_agrees 53 = .ok (.goto 4, 3) := by decide +kernel
theorem dL_agrees_56 : decode cL_agrees 56 = .ok (.iconst 0, 1) := by decide +kernel
theorem dL_agrees_57 : decode cL_agrees 57 = .ok (.aload_n 1, 1) := by decide +kernel
theorem dL_agrees_58 : decode cL_agrees 58 = .ok (.iload 4, 2) := by decide +kernel
theorem dL_agrees_60 : decode cL_agrees 60 = .ok (.invokestatic 33, 3) := by decide +kernel
theorem dL_agrees_63 : decode cL_agrees 63 = .ok (.if_icmp .ne 27, 3) := by decide +kernel
theorem dL_agrees_66 : decode cL_agrees 66 = .ok (.iload 5, 2) := by decide +kernel
theorem dL_agrees_68 : decode cL_agrees 68 = .ok (.ifCond .lt 24, 3) := by decide +kernel
theorem dL_agrees_71 : decode cL_agrees 71 = .ok (.iload 6, 2) := by decide +kernel
theorem dL_agrees_73 : decode cL_agrees 73 = .ok (.bipush 9, 2) := by decide +kernel
theorem dL_agrees_75 : decode cL_agrees 75 = .ok (.if_icmp .eq 15, 3) := by decide +kernel
theorem dL_agrees_78 : decode cL_agrees 78 = .ok (.aload_n 0, 1) := by decide +kernel
theorem dL_agrees_79 : decode cL_agrees 79 = .ok (.iload 5, 2) := by decide +kernel
theorem dL_agrees_81 : decode cL_agrees 81 = .ok (.iconst 2, 1) := by decide +kernel
theorem dL_agrees_82 : decode cL_agrees 82 = .ok (.invokevirtual 49, 3) := by decide +kernel
theorem dL_agrees_85 : decode cL_agrees 85 = .ok (.iload 4, 2) := by decide +kernel
theorem dL_agrees_87 : decode cL_agrees 87 = .ok (.if_icmp .eq 5, 3) := by decide +kernel
theorem dL_agrees_90 : decode cL_agrees 90 = .ok (.iconst 0, 1) := by decide +kernel
theorem dL_agrees_91 : decode cL_agrees 91 = .ok (.ireturn, 1) := by decide +kernel
theorem dL_agrees_92 : decode cL_agrees 92 = .ok (.iload_n 2, 1) := by decide +kernel
theorem dL_agrees_93 : decode cL_agrees 93 = .ok (.iload 6, 2) := by decide +kernel
theorem dL_agrees_95 : decode cL_agrees 95 = .ok (.bipush 9, 2) := by decide +kernel
theorem dL_agrees_97 : decode cL_agrees 97 = .ok (.if_icmp .ne 7, 3) := by decide +kernel
theorem dL_agrees_100 : decode cL_agrees 100 = .ok (.iconst 0, 1) := by decide +kernel
theorem dL_agrees_101 : decode cL_agrees 101 = .ok (.goto 5, 3) := by decide +kernel
theorem dL_agrees_104 : decode cL_agrees 104 = .ok (.iload 6, 2) := by decide +kernel
theorem dL_agrees_106 : decode cL_agrees 106 = .ok (.iadd, 1) := by decide +kernel
theorem dL_agrees_107 : decode cL_agrees 107 = .ok (.istore_n 2, 1) := by decide +kernel
theorem dL_agrees_108 : decode cL_agrees 108 = .ok (.iload_n 3, 1) := by decide +kernel
theorem dL_agrees_109 : decode cL_agrees 109 = .ok (.iload 5, 2) := by decide +kernel
theorem dL_agrees_111 : decode cL_agrees 111 = .ok (.ifCond .lt 7, 3) := by decide +kernel
theorem dL_agrees_114 : decode cL_agrees 114 = .ok (.iconst 1, 1) := by decide +kernel
theorem dL_agrees_115 : decode cL_agrees 115 = .ok (.goto 4, 3) := by decide +kernel
theorem dL_agrees_118 : decode cL_agrees 118 = .ok (.iconst 0, 1) := by decide +kernel
theorem dL_agrees_119 : decode cL_agrees 119 = .ok (.iadd, 1) := by decide +kernel
theorem dL_agrees_120 : decode cL_agrees 120 = .ok (.istore_n 3, 1) := by decide +kernel
theorem dL_agrees_121 : decode cL_agrees 121 = .ok (.iinc 4 1, 3) := by decide +kernel
theorem dL_agrees_124 : decode cL_agrees 124 = .ok (.goto (-117), 3) := by decide +kernel
theorem dL_agrees_127 : decode cL_agrees 127 = .ok (.bipush 100, 2) := by decide +kernel
theorem dL_agrees_129 : decode cL_agrees 129 = .ok (.istore 4, 2) := by decide +kernel
theorem dL_agrees_131 : decode cL_agrees 131 = .ok (.iconst 0, 1) := by decide +kernel
theorem dL_agrees_132 : decode cL_agrees 132 = .ok (.istore 5, 2) := by decide +kernel
theorem dL_agrees_134 : decode cL_agrees 134 = .ok (.iconst 0, 1) := by decide +kernel
theorem dL_agrees_135 : decode cL_agrees 135 = .ok (.istore 6, 2) := by decide +kernel
theorem dL_agrees_137 : decode cL_agrees 137 = .ok (.iconst 0, 1) := by decide +kernel
theorem dL_agrees_138 : decode cL_agrees 138 = .ok (.istore 7, 2) := by decide +kernel
theorem dL_agrees_140 : decode cL_agrees 140 = .ok (.iload 7, 2) := by decide +kernel
theorem dL_agrees_142 : decode cL_agrees 142 = .ok (.aload_n 1, 1) := by decide +kernel
theorem dL_agrees_143 : decode cL_agrees 143 = .ok (.iconst 2, 1) := by decide +kernel
theorem dL_agrees_144 : decode cL_agrees 144 = .ok (.iaload, 1) := by decide +kernel
theorem dL_agrees_145 : decode cL_agrees 145 = .ok (.if_icmp .ge 278, 3) := by decide +kernel
theorem dL_agrees_148 : decode cL_agrees 148 = .ok (.aload_n 0, 1) := by decide +kernel
theorem dL_agrees_149 : decode cL_agrees 149 = .ok (.iload 7, 2) := by decide +kernel
theorem dL_agrees_151 : decode cL_agrees 151 = .ok (.iconst 0, 1) := by decide +kernel
theorem dL_agrees_152 : decode cL_agrees 152 = .ok (.invokevirtual 49, 3) := by decide +kernel
theorem dL_agrees_155 : decode cL_agrees 155 = .ok (.istore 8, 2) := by decide +kernel
theorem dL_agrees_157 : decode cL_agrees 157 = .ok (.aload_n 0, 1) := by decide +kernel
theorem dL_agrees_158 : decode cL_agrees 158 = .ok (.iload 7, 2) := by decide +kernel
theorem dL_agrees_160 : decode cL_agrees 160 = .ok (.iconst 2, 1) := by decide +kernel
theorem dL_agrees_161 : decode cL_agrees 161 = .ok (.invokevirtual 49, 3) := by decide +kernel
theorem dL_agrees_164 : decode cL_agrees 164 = .ok (.istore 9, 2) := by decide +kernel
theorem dL_agrees_166 : decode cL_agrees 166 = .ok (.aload_n 0, 1) := by decide +kernel
theorem dL_agrees_167 : decode cL_agrees 167 = .ok (.iload 7, 2) := by decide +kernel
theorem dL_agrees_169 : decode cL_agrees 169 = .ok (.iconst 1, 1) := by decide +kernel
theorem dL_agrees_170 : decode cL_agrees 170 = .ok (.invokevirtual 49, 3) := by decide +kernel
theorem dL_agrees_173 : decode cL_agrees 173 = .ok (.istore 10, 2) := by decide +kernel
theorem dL_agrees_175 : decode cL_agrees 175 = .ok (.iload 8, 2) := by decide +kernel
theorem dL_agrees_177 : decode cL_agrees 177 = .ok (.ifCond .ne 7, 3) := by decide +kernel
theorem dL_agrees_180 : decode cL_agrees 180 = .ok (.iconst 5, 1) := by decide +kernel
theorem dL_agrees_181 : decode cL_agrees 181 = .ok (.goto 25, 3) := by decide +kernel
theorem dL_agrees_184 : decode cL_agrees 184 = .ok (.iload 8, 2) := by decide +kernel
theorem dL_agrees_186 : decode cL_agrees 186 = .ok (.iconst 1, 1) := by decide +kernel
theorem dL_agrees_187 : decode cL_agrees 187 = .ok (.if_icmp .ne 7, 3) := by decide +kernel
theorem dL_agrees_190 : decode cL_agrees 190 = .ok (.iconst 3, 1) := by decide +kernel
theorem dL_agrees_191 : decode cL_agrees 191 = .ok (.goto 15, 3) := by decide +kernel
theorem dL_agrees_194 : decode cL_agrees 194 = .ok (.iload 8, 2) := by decide +kernel
theorem dL_agrees_196 : decode cL_agrees 196 = .ok (.iconst 2, 1) := by decide +kernel
theorem dL_agrees_197 : decode cL_agrees 197 = .ok (.if_icmp .ne 7, 3) := by decide +kernel
theorem dL_agrees_200 : decode cL_agrees 200 = .ok (.iconst 1, 1) := by decide +kernel
theorem dL_agrees_201 : decode cL_agrees 201 = .ok (.goto 5, 3) := by decide +kernel
theorem dL_agrees_204 : decode cL_agrees 204 = .ok (.bipush 20, 2) := by decide +kernel
theorem dL_agrees_206 : decode cL_agrees 206 = .ok (.istore 11, 2) := by decide +kernel
theorem dL_agrees_208 : decode cL_agrees 208 = .ok (.iload 4, 2) := by decide +kernel
theorem dL_agrees_210 : decode cL_agrees 210 = .ok (.iload 9, 2) := by decide +kernel
theorem dL_agrees_212 : decode cL_agrees 212 = .ok (.ifCond .ge 7, 3) := by decide +kernel
theorem dL_agrees_215 : decode cL_agrees 215 = .ok (.iconst 0, 1) := by decide +kernel
theorem dL_agrees_216 : decode cL_agrees 216 = .ok (.goto 16, 3) := by decide +kernel
theorem dL_agrees_219 : decode cL_agrees 219 = .ok (.iload 10, 2) := by decide +kernel
theorem dL_agrees_221 : decode cL_agrees 221 = .ok (.ifCond .ne 8, 3) := by decide +kernel
theorem dL_agrees_224 : decode cL_agrees 224 = .ok (.iload 11, 2) := by decide +kernel
theorem dL_agrees_226 : decode cL_agrees 226 = .ok (.goto 6, 3) := by decide +kernel
theorem dL_agrees_229 : decode cL_agrees 229 = .ok (.iload 11, 2) := by decide +kernel
theorem dL_agrees_231 : decode cL_agrees 231 = .ok (.ineg, 1) := by decide +kernel
theorem dL_agrees_232 : decode cL_agrees 232 = .ok (.iadd, 1) := by decide +kernel
theorem dL_agrees_233 : decode cL_agrees 233 = .ok (.istore 4, 2) := by decide +kernel
theorem dL_agrees_235 : decode cL_agrees 235 = .ok (.iload 5, 2) := by decide +kernel
theorem dL_agrees_237 : decode cL_agrees 237 = .ok (.iload 9, 2) := by decide +kernel
theorem dL_agrees_239 : decode cL_agrees 239 = .ok (.ifCond .ge 7, 3) := by decide +kernel
theorem dL_agrees_242 : decode cL_agrees 242 = .ok (.iconst 0, 1) := by decide +kernel
theorem dL_agrees_243 : decode cL_agrees 243 = .ok (.goto 4, 3) := by decide +kernel
theorem dL_agrees_246 : decode cL_agrees 246 = .ok (.iconst 1, 1) := by decide +kernel
theorem dL_agrees_247 : decode cL_agrees 247 = .ok (.iadd, 1) := by decide +kernel
theorem dL_agrees_248 : decode cL_agrees 248 = .ok (.istore 5, 2) := by decide +kernel
theorem dL_agrees_250 : decode cL_agrees 250 = .ok (.iload 8, 2) := by decide +kernel
theorem dL_agrees_252 : decode cL_agrees 252 = .ok (.aload_n 1, 1) := by decide +kernel
theorem dL_agrees_253 : decode cL_agrees 253 = .ok (.bipush 13, 2) := by decide +kernel
theorem dL_agrees_255 : decode cL_agrees 255 = .ok (.iload 7, 2) := by decide +kernel
theorem dL_agrees_257 : decode cL_agrees 257 = .ok (.iadd, 1) := by decide +kernel
theorem dL_agrees_258 : decode cL_agrees 258 = .ok (.iaload, 1) := by decide +kernel
theorem dL_agrees_259 : decode cL_agrees 259 = .ok (.if_icmp .eq 20, 3) := by decide +kernel
theorem dL_agrees_262 : decode cL_agrees 262 = .ok (.aload_n 1, 1) := by decide +kernel
theorem dL_agrees_263 : decode cL_agrees 263 = .ok (.bipush 13, 2) := by decide +kernel
theorem dL_agrees_265 : decode cL_agrees 265 = .ok (.iload 7, 2) := by decide +kernel
theorem dL_agrees_267 : decode cL_agrees 267 = .ok (.iadd, 1) := by decide +kernel
theorem dL_agrees_268 : decode cL_agrees 268 = .ok (.iaload, 1) := by decide +kernel
theorem dL_agrees_269 : decode cL_agrees 269 = .ok (.iconst 2, 1) := by decide +kernel
theorem dL_agrees_270 : decode cL_agrees 270 = .ok (.if_icmp .ne 52, 3) := by decide +kernel
theorem dL_agrees_273 : decode cL_agrees 273 = .ok (.iload 8, 2) := by decide +kernel
theorem dL_agrees_275 : decode cL_agrees 275 = .ok (.iconst 1, 1) := by decide +kernel
theorem dL_agrees_276 : decode cL_agrees 276 = .ok (.if_icmp .ne 46, 3) := by decide +kernel
theorem dL_agrees_279 : decode cL_agrees 279 = .ok (.iload 9, 2) := by decide +kernel
theorem dL_agrees_281 : decode cL_agrees 281 = .ok (.ifCond .lt 31, 3) := by decide +kernel
theorem dL_agrees_284 : decode cL_agrees 284 = .ok (.aload_n 0, 1) := by decide +kernel
theorem dL_agrees_285 : decode cL_agrees 285 = .ok (.iload 9, 2) := by decide +kernel
theorem dL_agrees_287 : decode cL_agrees 287 = .ok (.iconst 1, 1) := by decide +kernel
theorem dL_agrees_288 : decode cL_agrees 288 = .ok (.invokevirtual 46, 3) := by decide +kernel
theorem dL_agrees_291 : decode cL_agrees 291 = .ok (.iload 7, 2) := by decide +kernel
theorem dL_agrees_293 : decode cL_agrees 293 = .ok (.if_icmp .ne 29, 3) := by decide +kernel
theorem dL_agrees_296 : decode cL_agrees 296 = .ok (.aload_n 0, 1) := by decide +kernel
theorem dL_agrees_297 : decode cL_agrees 297 = .ok (.iload 7, 2) := by decide +kernel
theorem dL_agrees_299 : decode cL_agrees 299 = .ok (.iconst 3, 1) := by decide +kernel
theorem dL_agrees_300 : decode cL_agrees 300 = .ok (.invokevirtual 49, 3) := by decide +kernel
theorem dL_agrees_303 : decode cL_agrees 303 = .ok (.aload_n 0, 1) := by decide +kernel
theorem dL_agrees_304 : decode cL_agrees 304 = .ok (.bipush 9, 2) := by decide +kernel
theorem dL_agrees_306 : decode cL_agrees 306 = .ok (.invokevirtual 52, 3) := by decide +kernel
theorem dL_agrees_309 : decode cL_agrees 309 = .ok (.if_icmp .gt 13, 3) := by decide +kernel
theorem dL_agrees_312 : decode cL_agrees 312 = .ok (.aload_n 0, 1) := by decide +kernel
theorem dL_agrees_313 : decode cL_agrees 313 = .ok (.iload 7, 2) := by decide +kernel
theorem dL_agrees_315 : decode cL_agrees 315 = .ok (.iconst 3, 1) := by decide +kernel
theorem dL_agrees_316 : decode cL_agrees 316 = .ok (.invokevirtual 49, 3) := by decide +kernel
theorem dL_agrees_319 : decode cL_agrees 319 = .ok (.ifCond .ge 5, 3) := by decide +kernel
theorem dL_agrees_322 : decode cL_agrees 322 = .ok (.iconst 0, 1) := by decide +kernel
theorem dL_agrees_323 : decode cL_agrees 323 = .ok (.ireturn, 1) := by decide +kernel
theorem dL_agrees_324 : decode cL_agrees 324 = .ok (.iload 8, 2) := by decide +kernel
theorem dL_agrees_326 : decode cL_agrees 326 = .ok (.iconst 3, 1) := by decide +kernel
theorem dL_agrees_327 : decode cL_agrees 327 = .ok (.if_icmp .ne 7, 3) := by decide +kernel
theorem dL_agrees_330 : decode cL_agrees 330 = .ok (.iconst 1, 1) := by decide +kernel
theorem dL_agrees_331 : decode cL_agrees 331 = .ok (.goto 4, 3) := by decide +kernel
theorem dL_agrees_334 : decode cL_agrees 334 = .ok (.iconst 0, 1) := by decide +kernel
theorem dL_agrees_335 : decode cL_agrees 335 = .ok (.istore 12, 2) := by decide +kernel
theorem dL_agrees_337 : decode cL_agrees 337 = .ok (.iconst 0, 1) := by decide +kernel
theorem dL_agrees_338 : decode cL_agrees 338 = .ok (.istore 13, 2) := by decide +kernel
theorem dL_agrees_340 : decode cL_agrees 340 = .ok (.iload 13, 2) := by decide +kernel
theorem dL_agrees_342 : decode cL_agrees 342 = .ok (.aload_n 1, 1) := by decide +kernel
theorem dL_agrees_343 : decode cL_agrees 343 = .ok (.iconst 2, 1) := by decide +kernel
theorem dL_agrees_344 : decode cL_agrees 344 = .ok (.iaload, 1) := by decide +kernel
theorem dL_agrees_345 : decode cL_agrees 345 = .ok (.if_icmp .ge 54, 3) := by decide +kernel
theorem dL_agrees_348 : decode cL_agrees 348 = .ok (.iload 12, 2) := by decide +kernel
theorem dL_agrees_350 : decode cL_agrees 350 = .ok (.ifCond .eq 49, 3) := by decide +kernel
theorem dL_agrees_353 : decode cL_agrees 353 = .ok (.aload_n 0, 1) := by decide +kernel
theorem dL_agrees_354 : decode cL_agrees 354 = .ok (.iload 13, 2) := by decide +kernel
theorem dL_agrees_356 : decode cL_agrees 356 = .ok (.iconst 0, 1) := by decide +kernel
theorem dL_agrees_357 : decode cL_agrees 357 = .ok (.invokevirtual 49, 3) := by decide +kernel
theorem dL_agrees_360 : decode cL_agrees 360 = .ok (.iconst 3, 1) := by decide +kernel
theorem dL_agrees_361 : decode cL_agrees 361 = .ok (.if_icmp .ne 25, 3) := by decide +kernel
theorem dL_agrees_364 : decode cL_agrees 364 = .ok (.aload_n 0, 1) := by decide +kernel
theorem dL_agrees_365 : decode cL_agrees 365 = .ok (.iload 13, 2) := by decide +kernel
theorem dL_agrees_367 : decode cL_agrees 367 = .ok (.iconst 1, 1) := by decide +kernel
theorem dL_agrees_368 : decode cL_agrees 368 = .ok (.invokevirtual 49, 3) := by decide +kernel
theorem dL_agrees_371 : decode cL_agrees 371 = .ok (.iload 10, 2) := by decide +kernel
theorem dL_agrees_373 : decode cL_agrees 373 = .ok (.if_icmp .ne 13, 3) := by decide +kernel
theorem dL_agrees_376 : decode cL_agrees 376 = .ok (.aload_n 0, 1) := by decide +kernel
theorem dL_agrees_377 : decode cL_agrees 377 = .ok (.iload 13, 2) := by decide +kernel
theorem dL_agrees_379 : decode cL_agrees 379 = .ok (.iconst 2, 1) := by decide +kernel
theorem dL_agrees_380 : decode cL_agrees 380 = .ok (.invokevirtual 49, 3) := by decide +kernel
theorem dL_agrees_383 : decode cL_agrees 383 = .ok (.ifCond .ge 7, 3) := by decide +kernel
theorem dL_agrees_386 : decode cL_agrees 386 = .ok (.iconst 1, 1) := by decide +kernel
theorem dL_agrees_387 : decode cL_agrees 387 = .ok (.goto 4, 3) := by decide +kernel
theorem dL_agrees_390 : decode cL_agrees 390 = .ok (.iconst 0, 1) := by decide +kernel
theorem dL_agrees_391 : decode cL_agrees 391 = .ok (.istore 12, 2) := by decide +kernel
theorem dL_agrees_393 : decode cL_agrees 393 = .ok (.iinc 13 1, 3) := by decide +kernel
theorem dL_agrees_396 : decode cL_agrees 396 = .ok (.goto (-56), 3) := by decide +kernel
theorem dL_agrees_399 : decode cL_agrees 399 = .ok (.iload 6, 2) := by decide +kernel
theorem dL_agrees_401 : decode cL_agrees 401 = .ok (.iload 12, 2) := by decide +kernel
theorem dL_agrees_403 : decode cL_agrees 403 = .ok (.ifCond .eq 10, 3) := by decide +kernel
theorem dL_agrees_406 : decode cL_agrees 406 = .ok (.iconst 1, 1) := by decide +kernel
theorem dL_agrees_407 : decode cL_agrees 407 = .ok (.iload 10, 2) := by decide +kernel
theorem dL_agrees_409 : decode cL_agrees 409 = .ok (.ishl, 1) := by decide +kernel
theorem dL_agrees_410 : decode cL_agrees 410 = .ok (.goto 4, 3) := by decide +kernel
theorem dL_agrees_413 : decode cL_agrees 413 = .ok (.iconst 0, 1) := by decide +kernel
theorem dL_agrees_414 : decode cL_agrees 414 = .ok (.ior, 1) := by decide +kernel
theorem dL_agrees_415 : decode cL_agrees 415 = .ok (.istore 6, 2) := by decide +kernel
theorem dL_agrees_417 : decode cL_agrees 417 = .ok (.iinc 7 1, 3) := by decide +kernel
theorem dL_agrees_420 : decode cL_agrees 420 = .ok (.goto (-280), 3) := by decide +kernel
theorem dL_agrees_423 : decode cL_agrees 423 = .ok (.iload_n 2, 1) := by decide +kernel
theorem dL_agrees_424 : decode cL_agrees 424 = .ok (.aload_n 0, 1) := by decide +kernel
theorem dL_agrees_425 : decode cL_agrees 425 = .ok (.bipush 8, 2) := by decide +kernel
theorem dL_agrees_427 : decode cL_agrees 427 = .ok (.invokevirtual 52, 3) := by decide +kernel
theorem dL_agrees_430 : decode cL_agrees 430 = .ok (.if_icmp .ne 51, 3) := by decide +kernel
theorem dL_agrees_433 : decode cL_agrees 433 = .ok (.iload_n 3, 1) := by decide +kernel
theorem dL_agrees_434 : decode cL_agrees 434 = .ok (.iload 5, 2) := by decide +kernel
theorem dL_agrees_436 : decode cL_agrees 436 = .ok (.if_icmp .ne 45, 3) := by decide +kernel
theorem dL_agrees_439 : decode cL_agrees 439 = .ok (.iload 5, 2) := by decide +kernel
theorem dL_agrees_441 : decode cL_agrees 441 = .ok (.aload_n 0, 1) := by decide +kernel
theorem dL_agrees_442 : decode cL_agrees 442 = .ok (.iconst 4, 1) := by decide +kernel
theorem dL_agrees_443 : decode cL_agrees 443 = .ok (.invokevirtual 52, 3) := by decide +kernel
theorem dL_agrees_446 : decode cL_agrees 446 = .ok (.aload_n 0, 1) := by decide +kernel
theorem dL_agrees_447 : decode cL_agrees 447 = .ok (.iconst 5, 1) := by decide +kernel
theorem dL_agrees_448 : decode cL_agrees 448 = .ok (.invokevirtual 52, 3) := by decide +kernel
theorem dL_agrees_451 : decode cL_agrees 451 = .ok (.iadd, 1) := by decide +kernel
theorem dL_agrees_452 : decode cL_agrees 452 = .ok (.if_icmp .ne 29, 3) := by decide +kernel
theorem dL_agrees_455 : decode cL_agrees 455 = .ok (.iload 4, 2) := by decide +kernel
theorem dL_agrees_457 : decode cL_agrees 457 = .ok (.aload_n 0, 1) := by decide +kernel
theorem dL_agrees_458 : decode cL_agrees 458 = .ok (.bipush 6, 2) := by decide +kernel
theorem dL_agrees_460 : decode cL_agrees 460 = .ok (.invokevirtual 52, 3) := by decide +kernel
theorem dL_agrees_463 : decode cL_agrees 463 = .ok (.if_icmp .ne 18, 3) := by decide +kernel
theorem dL_agrees_466 : decode cL_agrees 466 = .ok (.iload 6, 2) := by decide +kernel
theorem dL_agrees_468 : decode cL_agrees 468 = .ok (.aload_n 0, 1) := by decide +kernel
theorem dL_agrees_469 : decode cL_agrees 469 = .ok (.bipush 7, 2) := by decide +kernel
theorem dL_agrees_471 : decode cL_agrees 471 = .ok (.invokevirtual 52, 3) := by decide +kernel
theorem dL_agrees_474 : decode cL_agrees 474 = .ok (.if_icmp .ne 7, 3) := by decide +kernel
theorem dL_agrees_477 : decode cL_agrees 477 = .ok (.iconst 1, 1) := by decide +kernel
theorem dL_agrees_478 : decode cL_agrees 478 = .ok (.goto 4, 3) := by decide +kernel
theorem dL_agrees_481 : decode cL_agrees 481 = .ok (.iconst 0, 1) := by decide +kernel
theorem dL_agrees_482 : decode cL_agrees 482 = .ok (.ireturn, 1) := by decide +kernel
theorem dL_drives_0 : decode cL_drives 0 = .ok (.aload_n 0, 1) := by decide +kernel
theorem dL_drives_1 : decode cL_drives 1 = .ok (.iload_n 2, 1) := by decide +kernel
theorem dL_drives_2 : decode cL_drives 2 = .ok (.iload_n 3, 1) := by decide +kernel
theorem dL_drives_3 : decode cL_drives 3 = .ok (.invokevirtual 55, 3) := by decide +kernel
theorem dL_drives_6 : decode cL_drives 6 = .ok (.istore 4, 2) := by decide +kernel
theorem dL_drives_8 : decode cL_drives 8 = .ok (.aload_n 0, 1) := by decide +kernel
theorem dL_drives_9 : decode cL_drives 9 = .ok (.iload_n 2, 1) := by decide +kernel
theorem dL_drives_10 : decode cL_drives 10 = .ok (.iload_n 3, 1) := by decide +kernel
theorem dL_drives_11 : decode cL_drives 11 = .ok (.invokevirtual 58, 3) := by decide +kernel
theorem dL_drives_14 : decode cL_drives 14 = .ok (.istore 5, 2) := by decide +kernel
theorem dL_drives_16 : decode cL_drives 16 = .ok (.aload_n 0, 1) := by decide +kernel
theorem dL_drives_17 : decode cL_drives 17 = .ok (.iconst 3, 1) := by decide +kernel
theorem dL_drives_18 : decode cL_drives 18 = .ok (.invokevirtual 52, 3) := by decide +kernel
theorem dL_drives_21 : decode cL_drives 21 = .ok (.istore 6, 2) := by decide +kernel
theorem dL_drives_23 : decode cL_drives 23 = .ok (.aload_n 0, 1) := by decide +kernel
theorem dL_drives_24 : decode cL_drives 24 = .ok (.bipush 10, 2) := by decide +kernel
theorem dL_drives_26 : decode cL_drives 26 = .ok (.invokevirtual 52, 3) := by decide +kernel
theorem dL_drives_29 : decode cL_drives 29 = .ok (.istore 7, 2) := by decide +kernel
theorem dL_drives_31 : decode cL_drives 31 = .ok (.aload_n 0, 1) := by decide +kernel
theorem dL_drives_32 : decode cL_drives 32 = .ok (.iload_n 2, 1) := by decide +kernel
theorem dL_drives_33 : decode cL_drives 33 = .ok (.iconst 2, 1) := by decide +kernel
theorem dL_drives_34 : decode cL_drives 34 = .ok (.invokevirtual 49, 3) := by decide +kernel
theorem dL_drives_37 : decode cL_drives 37 = .ok (.istore 8, 2) := by decide +kernel
theorem dL_drives_39 : decode cL_drives 39 = .ok (.aload_n 0, 1) := by decide +kernel
theorem dL_drives_40 : decode cL_drives 40 = .ok (.bipush 8, 2) := by decide +kernel
theorem dL_drives_42 : decode cL_drives 42 = .ok (.invokevirtual 52, 3) := by decide +kernel
theorem dL_drives_45 : decode cL_drives 45 = .ok (.istore 9, 2) := by decide +kernel
theorem dL_drives_47 : decode cL_drives 47 = .ok (.aload_n 0, 1) := by decide +kernel
theorem dL_drives_48 : decode cL_drives 48 = .ok (.iconst 4, 1) := by decide +kernel
theorem dL_drives_49 : decode cL_drives 49 = .ok (.invokevirtual 52, 3) := by decide +kernel
theorem dL_drives_52 : decode cL_drives 52 = .ok (.aload_n 0, 1) := by decide +kernel
theorem dL_drives_53 : decode cL_drives 53 = .ok (.iconst 5, 1) := by decide +kernel
theorem dL_drives_54 : decode cL_drives 54 = .ok (.invokevirtual 52, 3) := by decide +kernel
theorem dL_drives_57 : decode cL_drives 57 = .ok (.iadd, 1) := by decide +kernel
theorem dL_drives_58 : decode cL_drives 58 = .ok (.istore 10, 2) := by decide +kernel
theorem dL_drives_60 : decode cL_drives 60 = .ok (.iload 4, 2) := by decide +kernel
theorem dL_drives_62 : decode cL_drives 62 = .ok (.ifCond .lt 29, 3) := by decide +kernel
theorem dL_drives_65 : decode cL_drives 65 = .ok (.aload_n 0, 1) := by decide +kernel
theorem dL_drives_66 : decode cL_drives 66 = .ok (.iload_n 2, 1) := by decide +kernel
theorem dL_drives_67 : decode cL_drives 67 = .ok (.iconst 1, 1) := by decide +kernel
theorem dL_drives_68 : decode cL_drives 68 = .ok (.invokevirtual 49, 3) := by decide +kernel
theorem dL_drives_71 : decode cL_drives 71 = .ok (.iload 6, 2) := by decide +kernel
theorem dL_drives_73 : decode cL_drives 73 = .ok (.iconst 2, 1) := by decide +kernel
theorem dL_drives_74 : decode cL_drives 74 = .ok (.irem, 1) := by decide +kernel
theorem dL_drives_75 : decode cL_drives 75 = .ok (.if_icmp .ne 16, 3) := by decide +kernel
theorem dL_drives_78 : decode cL_drives 78 = .ok (.aload_n 0, 1) := by decide +kernel
theorem dL_drives_79 : decode cL_drives 79 = .ok (.bipush 7, 2) := by decide +kernel
theorem dL_drives_81 : decode cL_drives 81 = .ok (.invokevirtual 52, 3) := by decide +kernel
theorem dL_drives_84 : decode cL_drives 84 = .ok (.ifCond .ne 7, 3) := by decide +kernel
theorem dL_drives_87 : decode cL_drives 87 = .ok (.iconst 1, 1) := by decide +kernel
theorem dL_drives_88 : decode cL_drives 88 = .ok (.goto 4, 3) := by decide +kernel
theorem dL_drives_91 : decode cL_drives 91 = .ok (.iconst 0, 1) := by decide +kernel
theorem dL_drives_92 : decode cL_drives 92 = .ok (.istore 11, 2) := by decide +kernel
theorem dL_drives_94 : decode cL_drives 94 = .ok (.iload 4, 2) := by decide +kernel
theorem dL_drives_96 : decode cL_drives 96 = .ok (.bipush (-2), 2) := by decide +kernel
theorem dL_drives_98 : decode cL_drives 98 = .ok (.if_icmp .ne 7, 3) := by decide +kernel
theorem dL_drives_101 : decode cL_drives 101 = .ok (.iconst 1, 1) := by decide +kernel
theorem dL_drives_102 : decode cL_drives 102 = .ok (.goto 4, 3) := by decide +kernel
theorem dL_drives_105 : decode cL_drives 105 = .ok (.iconst 0, 1) := by decide +kernel
theorem dL_drives_106 : decode cL_drives 106 = .ok (.iload 8, 2) := by decide +kernel
theorem dL_drives_108 : decode cL_drives 108 = .ok (.ifCond .ge 7, 3) := by decide +kernel
theorem dL_drives_111 : decode cL_drives 111 = .ok (.iconst 1, 1) := by decide +kernel
theorem dL_drives_112 : decode cL_drives 112 = .ok (.goto 4, 3) := by decide +kernel
theorem dL_drives_115 : decode cL_drives 115 = .ok (.iconst 0, 1) := by decide +kernel
theorem dL_drives_116 : decode cL_drives 116 = .ok (.if_icmp .ne 106, 3) := by decide +kernel
theorem dL_drives_119 : decode cL_drives 119 = .ok (.iload 5, 2) := by decide +kernel
theorem dL_drives_121 : decode cL_drives 121 = .ok (.bipush (-2), 2) := by decide +kernel
theorem dL_drives_123 : decode cL_drives 123 = .ok (.if_icmp .ne 7, 3) := by decide +kernel
theorem dL_drives_126 : decode cL_drives 126 = .ok (.iconst 1, 1) := by decide +kernel
theorem dL_drives_127 : decode cL_drives 127 = .ok (.goto 4, 3) := by decide +kernel
theorem dL_drives_130 : decode cL_drives 130 = .ok (.iconst 0, 1) := by decide +kernel
theorem dL_drives_131 : decode cL_drives 131 = .ok (.iload 8, 2) := by decide +kernel
theorem dL_drives_133 : decode cL_drives 133 = .ok (.ifCond .ge 7, 3) := by decide +kernel
theorem dL_drives_136 : decode cL_drives 136 = .ok (.iconst 1, 1) := by decide +kernel
theorem dL_drives_137 : decode cL_drives 137 = .ok (.goto 4, 3) := by decide +kernel
theorem dL_drives_140 : decode cL_drives 140 = .ok (.iconst 0, 1) := by decide +kernel
theorem dL_drives_141 : decode cL_drives 141 = .ok (.if_icmp .ne 81, 3) := by decide +kernel
theorem dL_drives_144 : decode cL_drives 144 = .ok (.iload 4, 2) := by decide +kernel
theorem dL_drives_146 : decode cL_drives 146 = .ok (.ifCond .lt 34, 3) := by decide +kernel
theorem dL_drives_149 : decode cL_drives 149 = .ok (.iload 4, 2) := by decide +kernel
theorem dL_drives_151 : decode cL_drives 151 = .ok (.iload 8, 2) := by decide +kernel
theorem dL_drives_153 : decode cL_drives 153 = .ok (.if_icmp .eq 69, 3) := by decide +kernel
theorem dL_drives_156 : decode cL_drives 156 = .ok (.aload_n 0, 1) := by decide +kernel
theorem dL_drives_157 : decode cL_drives 157 = .ok (.iload 4, 2) := by decide +kernel
theorem dL_drives_159 : decode cL_drives 159 = .ok (.iconst 0, 1) := by decide +kernel
theorem dL_drives_160 : decode cL_drives 160 = .ok (.invokevirtual 46, 3) := by decide +kernel
theorem dL_drives_163 : decode cL_drives 163 = .ok (.bipush 9, 2) := by decide +kernel
theorem dL_drives_165 : decode cL_drives 165 = .ok (.if_icmp .eq 57, 3) := by decide +kernel
theorem dL_drives_168 : decode cL_drives 168 = .ok (.aload_n 0, 1) := by decide +kernel
theorem dL_drives_169 : decode cL_drives 169 = .ok (.iload 4, 2) := by decide +kernel
theorem dL_drives_171 : decode cL_drives 171 = .ok (.iconst 1, 1) := by decide +kernel
theorem dL_drives_172 : decode cL_drives 172 = .ok (.invokevirtual 46, 3) := by decide +kernel
theorem dL_drives_175 : decode cL_drives 175 = .ok (.iload 5, 2) := by decide +kernel
theorem dL_drives_177 : decode cL_drives 177 = .ok (.if_icmp .ne 45, 3) := by decide +kernel
theorem dL_drives_180 : decode cL_drives 180 = .ok (.iload 5, 2) := by decide +kernel
theorem dL_drives_182 : decode cL_drives 182 = .ok (.ifCond .lt 19, 3) := by decide +kernel
theorem dL_drives_185 : decode cL_drives 185 = .ok (.aload_n 0, 1) := by decide +kernel
theorem dL_drives_186 : decode cL_drives 186 = .ok (.iload 5, 2) := by decide +kernel
theorem dL_drives_188 : decode cL_drives 188 = .ok (.iconst 1, 1) := by decide +kernel
theorem dL_drives_189 : decode cL_drives 189 = .ok (.invokevirtual 49, 3) := by decide +kernel
theorem dL_drives_192 : decode cL_drives 192 = .ok (.aload_n 0, 1) := by decide +kernel
theorem dL_drives_193 : decode cL_drives 193 = .ok (.iload_n 2, 1) := by decide +kernel
theorem dL_drives_194 : decode cL_drives 194 = .ok (.iconst 1, 1) := by decide +kernel
theorem dL_drives_195 : decode cL_drives 195 = .ok (.invokevirtual 49, 3) := by decide +kernel
theorem dL_drives_198 : decode cL_drives 198 = .ok (.if_icmp .eq 24, 3) := by decide +kernel
theorem dL_drives_201 : decode cL_drives 201 = .ok (.aload_n 0, 1) := by decide +kernel
theorem dL_drives_202 : decode cL_drives 202 = .ok (.iload_n 2, 1) := by decide +kernel
theorem dL_drives_203 : decode cL_drives 203 = .ok (.iload_n 3, 1) := by decide +kernel
theorem dL_drives_204 : decode cL_drives 204 = .ok (.invokevirtual 61, 3) := by decide +kernel
theorem dL_drives_207 : decode cL_drives 207 = .ok (.iload 11, 2) := by decide +kernel
theorem dL_drives_209 : decode cL_drives 209 = .ok (.ifCond .eq 8, 3) := by decide +kernel
theorem dL_drives_212 : decode cL_drives 212 = .ok (.iload 4, 2) := by decide +kernel
theorem dL_drives_214 : decode cL_drives 214 = .ok (.goto 5, 3) := by decide +kernel
theorem dL_drives_217 : decode cL_drives 217 = .ok (.bipush (-2), 2) := by decide +kernel
theorem dL_drives_219 : decode cL_drives 219 = .ok (.if_icmp .eq 5, 3) := by decide +kernel
theorem dL_drives_222 : decode cL_drives 222 = .ok (.iconst 0, 1) := by decide +kernel
theorem dL_drives_223 : decode cL_drives 223 = .ok (.ireturn, 1) := by decide +kernel
theorem dL_drives_224 : decode cL_drives 224 = .ok (.iload 11, 2) := by decide +kernel
theorem dL_drives_226 : decode cL_drives 226 = .ok (.ifCond .ne 30, 3) := by decide +kernel
theorem dL_drives_229 : decode cL_drives 229 = .ok (.aload_n 0, 1) := by decide +kernel
theorem dL_drives_230 : decode cL_drives 230 = .ok (.iconst 3, 1) := by decide +kernel
theorem dL_drives_231 : decode cL_drives 231 = .ok (.invokevirtual 52, 3) := by decide +kernel
theorem dL_drives_234 : decode cL_drives 234 = .ok (.iload 6, 2) := by decide +kernel
theorem dL_drives_236 : decode cL_drives 236 = .ok (.if_icmp .ne 18, 3) := by decide +kernel
theorem dL_drives_239 : decode cL_drives 239 = .ok (.aload_n 0, 1) := by decide +kernel
theorem dL_drives_240 : decode cL_drives 240 = .ok (.bipush 10, 2) := by decide +kernel
theorem dL_drives_242 : decode cL_drives 242 = .ok (.invokevirtual 52, 3) := by decide +kernel
theorem dL_drives_245 : decode cL_drives 245 = .ok (.iload 7, 2) := by decide +kernel
theorem dL_drives_247 : decode cL_drives 247 = .ok (.if_icmp .ne 7, 3) := by decide +kernel
theorem dL_drives_250 : decode cL_drives 250 = .ok (.iconst 1, 1) := by decide +kernel
theorem dL_drives_251 : decode cL_drives 251 = .ok (.goto 4, 3) := by decide +kernel
theorem dL_drives_254 : decode cL_drives 254 = .ok (.iconst 0, 1) := by decide +kernel
theorem dL_drives_255 : decode cL_drives 255 = .ok (.ireturn, 1) := by decide +kernel
theorem dL_drives_256 : decode cL_drives 256 = .ok (.aload_n 0, 1) := by decide +kernel
theorem dL_drives_257 : decode cL_drives 257 = .ok (.iload_n 2, 1) := by decide +kernel
theorem dL_drives_258 : decode cL_drives 258 = .ok (.iconst 2, 1) := by decide +kernel
theorem dL_drives_259 : decode cL_drives 259 = .ok (.invokevirtual 49, 3) := by decide +kernel
theorem dL_drives_262 : decode cL_drives 262 = .ok (.istore 12, 2) := by decide +kernel
theorem dL_drives_264 : decode cL_drives 264 = .ok (.aload_n 0, 1) := by decide +kernel
theorem dL_drives_265 : decode cL_drives 265 = .ok (.iconst 3, 1) := by decide +kernel
theorem dL_drives_266 : decode cL_drives 266 = .ok (.invokevirtual 52, 3) := by decide +kernel
theorem dL_drives_269 : decode cL_drives 269 = .ok (.iload 6, 2) := by decide +kernel
theorem dL_drives_271 : decode cL_drives 271 = .ok (.iconst 1, 1) := by decide +kernel
theorem dL_drives_272 : decode cL_drives 272 = .ok (.iadd, 1) := by decide +kernel
theorem dL_drives_273 : decode cL_drives 273 = .ok (.if_icmp .ne 66, 3) := by decide +kernel
theorem dL_drives_276 : decode cL_drives 276 = .ok (.iload 12, 2) := by decide +kernel
theorem dL_drives_278 : decode cL_drives 278 = .ok (.iload 4, 2) := by decide +kernel
theorem dL_drives_280 : decode cL_drives 280 = .ok (.if_icmp .eq 10, 3) := by decide +kernel
theorem dL_drives_283 : decode cL_drives 283 = .ok (.iload 12, 2) := by decide +kernel
theorem dL_drives_285 : decode cL_drives 285 = .ok (.bipush (-4), 2) := by decide +kernel
theorem dL_drives_287 : decode cL_drives 287 = .ok (.if_icmp .ne 52, 3) := by decide +kernel
theorem dL_drives_290 : decode cL_drives 290 = .ok (.iload 5, 2) := by decide +kernel
theorem dL_drives_292 : decode cL_drives 292 = .ok (.ifCond .lt 15, 3) := by decide +kernel
theorem dL_drives_295 : decode cL_drives 295 = .ok (.aload_n 0, 1) := by decide +kernel
theorem dL_drives_296 : decode cL_drives 296 = .ok (.iload 5, 2) := by decide +kernel
theorem dL_drives_298 : decode cL_drives 298 = .ok (.iconst 2, 1) := by decide +kernel
theorem dL_drives_299 : decode cL_drives 299 = .ok (.invokevirtual 49, 3) := by decide +kernel
theorem dL_drives_302 : decode cL_drives 302 = .ok (.bipush (-4), 2) := by decide +kernel
theorem dL_drives_304 : decode cL_drives 304 = .ok (.if_icmp .ne 35, 3) := by decide +kernel
theorem dL_drives_307 : decode cL_drives 307 = .ok (.aload_n 0, 1) := by decide +kernel
theorem dL_drives_308 : decode cL_drives 308 = .ok (.iconst 4, 1) := by decide +kernel
theorem dL_drives_309 : decode cL_drives 309 = .ok (.invokevirtual 52, 3) := by decide +kernel
theorem dL_drives_312 : decode cL_drives 312 = .ok (.aload_n 0, 1) := by decide +kernel
theorem dL_drives_313 : decode cL_drives 313 = .ok (.iconst 5, 1) := by decide +kernel
theorem dL_drives_314 : decode cL_drives 314 = .ok (.invokevirtual 52, 3) := by decide +kernel
theorem dL_drives_317 : decode cL_drives 317 = .ok (.iadd, 1) := by decide +kernel
theorem dL_drives_318 : decode cL_drives 318 = .ok (.iload 5, 2) := by decide +kernel
theorem dL_drives_320 : decode cL_drives 320 = .ok (.ifCond .ge 8, 3) := by decide +kernel
theorem dL_drives_323 : decode cL_drives 323 = .ok (.iload 10, 2) := by decide +kernel
theorem dL_drives_325 : decode cL_drives 325 = .ok (.goto 7, 3) := by decide +kernel
theorem dL_drives_328 : decode cL_drives 328 = .ok (.iload 10, 2) := by decide +kernel
theorem dL_drives_330 : decode cL_drives 330 = .ok (.iconst 1, 1) := by decide +kernel
theorem dL_drives_331 : decode cL_drives 331 = .ok (.isub, 1) := by decide +kernel
theorem dL_drives_332 : decode cL_drives 332 = .ok (.if_icmp .gt 7, 3) := by decide +kernel
theorem dL_drives_335 : decode cL_drives 335 = .ok (.iconst 1, 1) := by decide +kernel
theorem dL_drives_336 : decode cL_drives 336 = .ok (.goto 4, 3) := by decide +kernel
theorem dL_drives_339 : decode cL_drives 339 = .ok (.iconst 0, 1) := by decide +kernel
theorem dL_drives_340 : decode cL_drives 340 = .ok (.istore 13, 2) := by decide +kernel
theorem dL_drives_342 : decode cL_drives 342 = .ok (.iload 13, 2) := by decide +kernel
theorem dL_drives_344 : decode cL_drives 344 = .ok (.ifCond .eq 76, 3) := by decide +kernel
theorem dL_drives_347 : decode cL_drives 347 = .ok (.aload_n 0, 1) := by decide +kernel
theorem dL_drives_348 : decode cL_drives 348 = .ok (.invokevirtual 64, 3) := by decide +kernel
theorem dL_drives_351 : decode cL_drives 351 = .ok (.iload 7, 2) := by decide +kernel
theorem dL_drives_353 : decode cL_drives 353 = .ok (.bipush 8, 2) := by decide +kernel
theorem dL_drives_355 : decode cL_drives 355 = .ok (.if_icmp .ge 8, 3) := by decide +kernel
theorem dL_drives_358 : decode cL_drives 358 = .ok (.iload 7, 2) := by decide +kernel
theorem dL_drives_360 : decode cL_drives 360 = .ok (.goto 5, 3) := by decide +kernel
theorem dL_drives_363 : decode cL_drives 363 = .ok (.bipush 7, 2) := by decide +kernel
theorem dL_drives_365 : decode cL_drives 365 = .ok (.if_icmp .ne 55, 3) := by decide +kernel
theorem dL_drives_368 : decode cL_drives 368 = .ok (.aload_n 0, 1) := by decide +kernel
theorem dL_drives_369 : decode cL_drives 369 = .ok (.iload_n 2, 1) := by decide +kernel
theorem dL_drives_370 : decode cL_drives 370 = .ok (.iconst 2, 1) := by decide +kernel
theorem dL_drives_371 : decode cL_drives 371 = .ok (.invokevirtual 49, 3) := by decide +kernel
theorem dL_drives_374 : decode cL_drives 374 = .ok (.iload 8, 2) := by decide +kernel
theorem dL_drives_376 : decode cL_drives 376 = .ok (.if_icmp .ne 44, 3) := by decide +kernel
theorem dL_drives_379 : decode cL_drives 379 = .ok (.aload_n 0, 1) := by decide +kernel
theorem dL_drives_380 : decode cL_drives 380 = .ok (.iconst 3, 1) := by decide +kernel
theorem dL_drives_381 : decode cL_drives 381 = .ok (.invokevirtual 52, 3) := by decide +kernel
theorem dL_drives_384 : decode cL_drives 384 = .ok (.iload 6, 2) := by decide +kernel
theorem dL_drives_386 : decode cL_drives 386 = .ok (.if_icmp .ne 34, 3) := by decide +kernel
theorem dL_drives_389 : decode cL_drives 389 = .ok (.aload_n 0, 1) := by decide +kernel
theorem dL_drives_390 : decode cL_drives 390 = .ok (.bipush 8, 2) := by decide +kernel
theorem dL_drives_392 : decode cL_drives 392 = .ok (.invokevirtual 52, 3) := by decide +kernel
theorem dL_drives_395 : decode cL_drives 395 = .ok (.iload 9, 2) := by decide +kernel
theorem dL_drives_397 : decode cL_drives 397 = .ok (.if_icmp .ne 23, 3) := by decide +kernel
theorem dL_drives_400 : decode cL_drives 400 = .ok (.aload_n 0, 1) := by decide +kernel
theorem dL_drives_401 : decode cL_drives 401 = .ok (.iconst 4, 1) := by decide +kernel
theorem dL_drives_402 : decode cL_drives 402 = .ok (.invokevirtual 52, 3) := by decide +kernel
theorem dL_drives_405 : decode cL_drives 405 = .ok (.aload_n 0, 1) := by decide +kernel
theorem dL_drives_406 : decode cL_drives 406 = .ok (.iconst 5, 1) := by decide +kernel
theorem dL_drives_407 : decode cL_drives 407 = .ok (.invokevirtual 52, 3) := by decide +kernel
theorem dL_drives_410 : decode cL_drives 410 = .ok (.iadd, 1) := by decide +kernel
theorem dL_drives_411 : decode cL_drives 411 = .ok (.iload 10, 2) := by decide +kernel
theorem dL_drives_413 : decode cL_drives 413 = .ok (.if_icmp .ne 7, 3) := by decide +kernel
theorem dL_drives_416 : decode cL_drives 416 = .ok (.iconst 1, 1) := by decide +kernel
theorem dL_drives_417 : decode cL_drives 417 = .ok (.goto 4, 3) := by decide +kernel
theorem dL_drives_420 : decode cL_drives 420 = .ok (.iconst 0, 1) := by decide +kernel
theorem dL_drives_421 : decode cL_drives 421 = .ok (.ireturn, 1) := by decide +kernel
theorem dL_strays_0 : decode cL_strays 0 = .ok (.aload_n 0, 1) := by decide +kernel
theorem dL_strays_1 : decode cL_strays 1 = .ok (.iload_n 2, 1) := by decide +kernel
theorem dL_strays_2 : decode cL_strays 2 = .ok (.iconst 2, 1) := by decide +kernel
theorem dL_strays_3 : decode cL_strays 3 = .ok (.invokevirtual 49, 3) := by decide +kernel
theorem dL_strays_6 : decode cL_strays 6 = .ok (.ifCond .ge 20, 3) := by decide +kernel
theorem dL_strays_9 : decode cL_strays 9 = .ok (.aload_n 0, 1) := by decide +kernel
theorem dL_strays_10 : decode cL_strays 10 = .ok (.iload_n 2, 1) := by decide +kernel
theorem dL_strays_11 : decode cL_strays 11 = .ok (.iconst 3, 1) := by decide +kernel
theorem dL_strays_12 : decode cL_strays 12 = .ok (.invokevirtual 67, 3) := by decide +kernel
theorem dL_strays_15 : decode cL_strays 15 = .ok (.bipush (-2), 2) := by decide +kernel
theorem dL_strays_17 : decode cL_strays 17 = .ok (.if_icmp .ne 7, 3) := by decide +kernel
theorem dL_strays_20 : decode cL_strays 20 = .ok (.iconst 1, 1) := by decide +kernel
theorem dL_strays_21 : decode cL_strays 21 = .ok (.goto 4, 3) := by decide +kernel
theorem dL_strays_24 : decode cL_strays 24 = .ok (.iconst 0, 1) := by decide +kernel
theorem dL_strays_25 : decode cL_strays 25 = .ok (.ireturn, 1) := by decide +kernel
theorem dL_strays_26 : decode cL_strays 26 = .ok (.iconst 0, 1) := by decide +kernel
theorem dL_strays_27 : decode cL_strays 27 = .ok (.istore_n 3, 1) := by decide +kernel
theorem dL_strays_28 : decode cL_strays 28 = .ok (.bipush 36, 2) := by decide +kernel
theorem dL_strays_30 : decode cL_strays 30 = .ok (.newarray .int, 2) := by decide +kernel
theorem dL_strays_32 : decode cL_strays 32 = .ok (.astore 4, 2) := by decide +kernel
theorem dL_strays_34 : decode cL_strays 34 = .ok (.iconst 0, 1) := by decide +kernel
theorem dL_strays_35 : decode cL_strays 35 = .ok (.istore 5, 2) := by decide +kernel
theorem dL_strays_37 : decode cL_strays 37 = .ok (.iload 5, 2) := by decide +kernel
theorem dL_strays_39 : decode cL_strays 39 = .ok (.aload_n 1, 1) := by decide +kernel
theorem dL_strays_40 : decode cL_strays 40 = .ok (.iconst 0, 1) := by decide +kernel
theorem dL_strays_41 : decode cL_strays 41 = .ok (.iaload, 1) := by decide +kernel
theorem dL_strays_42 : decode cL_strays 42 = .ok (.if_icmp .ge 137, 3) := by decide +kernel
theorem dL_strays_45 : decode cL_strays 45 = .ok (.aload 4, 2) := by decide +kernel
theorem dL_strays_47 : decode cL_strays 47 = .ok (.iload 5, 2) := by decide +kernel
theorem dL_strays_49 : decode cL_strays 49 = .ok (.aload_n 0, 1) := by decide +kernel
theorem dL_strays_50 : decode cL_strays 50 = .ok (.iload_n 2, 1) := by decide +kernel
theorem dL_strays_51 : decode cL_strays 51 = .ok (.iload 5, 2) := by decide +kernel
theorem dL_strays_53 : decode cL_strays 53 = .ok (.iconst (-1), 1) := by decide +kernel
theorem dL_strays_54 : decode cL_strays 54 = .ok (.invokevirtual 70, 3) := by decide +kernel
theorem dL_strays_57 : decode cL_strays 57 = .ok (.iastore, 1) := by decide +kernel
theorem dL_strays_58 : decode cL_strays 58 = .ok (.aload 4, 2) := by decide +kernel
theorem dL_strays_60 : decode cL_strays 60 = .ok (.iload 5, 2) := by decide +kernel
theorem dL_strays_62 : decode cL_strays 62 = .ok (.iaload, 1) := by decide +kernel
theorem dL_strays_63 : decode cL_strays 63 = .ok (.bipush 12, 2) := by decide +kernel
theorem dL_strays_65 : decode cL_strays 65 = .ok (.if_icmp .gt 106, 3) := by decide +kernel
theorem dL_strays_68 : decode cL_strays 68 = .ok (.aload 4, 2) := by decide +kernel
theorem dL_strays_70 : decode cL_strays 70 = .ok (.iload 5, 2) := by decide +kernel
theorem dL_strays_72 : decode cL_strays 72 = .ok (.iaload, 1) := by decide +kernel
theorem dL_strays_73 : decode cL_strays 73 = .ok (.ifCond .ne 14, 3) := by decide +kernel
theorem dL_strays_76 : decode cL_strays 76 = .ok (.aload_n 0, 1) := by decide +kernel
theorem dL_strays_77 : decode cL_strays 77 = .ok (.iload_n 2, 1) := by decide +kernel
theorem dL_strays_78 : decode cL_strays 78 = .ok (.iconst 2, 1) := by decide +kernel
theorem dL_strays_79 : decode cL_strays 79 = .ok (.invokevirtual 49, 3) := by decide +kernel
theorem dL_strays_82 : decode cL_strays 82 = .ok (.iload 5, 2) := by decide +kernel
theorem dL_strays_84 : decode cL_strays 84 = .ok (.if_icmp .ne 87, 3) := by decide +kernel
theorem dL_strays_87 : decode cL_strays 87 = .ok (.aload 4, 2) := by decide +kernel
theorem dL_strays_89 : decode cL_strays 89 = .ok (.iload 5, 2) := by decide +kernel
theorem dL_strays_91 : decode cL_strays 91 = .ok (.iaload, 1) := by decide +kernel
theorem dL_strays_92 : decode cL_strays 92 = .ok (.ifCond .lt 15, 3) := by decide +kernel
theorem dL_strays_95 : decode cL_strays 95 = .ok (.aload_n 0, 1) := by decide +kernel
theorem dL_strays_96 : decode cL_strays 96 = .ok (.iload 5, 2) := by decide +kernel
theorem dL_strays_98 : decode cL_strays 98 = .ok (.iconst 0, 1) := by decide +kernel
theorem dL_strays_99 : decode cL_strays 99 = .ok (.invokevirtual 46, 3) := by decide +kernel
theorem dL_strays_102 : decode cL_strays 102 = .ok (.bipush 9, 2) := by decide +kernel
theorem dL_strays_104 : decode cL_strays 104 = .ok (.if_icmp .eq 67, 3) := by decide +kernel
theorem dL_strays_107 : decode cL_strays 107 = .ok (.aload 4, 2) := by decide +kernel
theorem dL_strays_109 : decode cL_strays 109 = .ok (.iload 5, 2) := by decide +kernel
theorem dL_strays_111 : decode cL_strays 111 = .ok (.iaload, 1) := by decide +kernel
theorem dL_strays_112 : decode cL_strays 112 = .ok (.ifCond .le 30, 3) := by decide +kernel
theorem dL_strays_115 : decode cL_strays 115 = .ok (.aload_n 0, 1) := by decide +kernel
theorem dL_strays_116 : decode cL_strays 116 = .ok (.iload 5, 2) := by decide +kernel
theorem dL_strays_118 : decode cL_strays 118 = .ok (.iconst 1, 1) := by decide +kernel
theorem dL_strays_119 : decode cL_strays 119 = .ok (.invokevirtual 46, 3) := by decide +kernel
theorem dL_strays_122 : decode cL_strays 122 = .ok (.ifCond .ge 49, 3) := by decide +kernel
theorem dL_strays_125 : decode cL_strays 125 = .ok (.aload_n 0, 1) := by decide +kernel
theorem dL_strays_126 : decode cL_strays 126 = .ok (.iload_n 2, 1) := by decide +kernel
theorem dL_strays_127 : decode cL_strays 127 = .ok (.iload 5, 2) := by decide +kernel
theorem dL_strays_129 : decode cL_strays 129 = .ok (.aload 4, 2) := by decide +kernel
theorem dL_strays_131 : decode cL_strays 131 = .ok (.iload 5, 2) := by decide +kernel
theorem dL_strays_133 : decode cL_strays 133 = .ok (.iaload, 1) := by decide +kernel
theorem dL_strays_134 : decode cL_strays 134 = .ok (.iconst 1, 1) := by decide +kernel
theorem dL_strays_135 : decode cL_strays 135 = .ok (.isub, 1) := by decide +kernel
theorem dL_strays_136 : decode cL_strays 136 = .ok (.invokevirtual 70, 3) := by decide +kernel
theorem dL_strays_139 : decode cL_strays 139 = .ok (.ifCond .lt 32, 3) := by decide +kernel
theorem dL_strays_142 : decode cL_strays 142 = .ok (.aload_n 0, 1) := by decide +kernel
theorem dL_strays_143 : decode cL_strays 143 = .ok (.iload_n 2, 1) := by decide +kernel
theorem dL_strays_144 : decode cL_strays 144 = .ok (.iload 5, 2) := by decide +kernel
theorem dL_strays_146 : decode cL_strays 146 = .ok (.aload 4, 2) := by decide +kernel
theorem dL_strays_148 : decode cL_strays 148 = .ok (.iload 5, 2) := by decide +kernel
theorem dL_strays_150 : decode cL_strays 150 = .ok (.iaload, 1) := by decide +kernel
theorem dL_strays_151 : decode cL_strays 151 = .ok (.ifCond .ge 7, 3) := by decide +kernel
theorem dL_strays_154 : decode cL_strays 154 = .ok (.iconst 0, 1) := by decide +kernel
theorem dL_strays_155 : decode cL_strays 155 = .ok (.goto 8, 3) := by decide +kernel
theorem dL_strays_158 : decode cL_strays 158 = .ok (.aload 4, 2) := by decide +kernel
theorem dL_strays_160 : decode cL_strays 160 = .ok (.iload 5, 2) := by decide +kernel
theorem dL_strays_162 : decode cL_strays 162 = .ok (.iaload, 1) := by decide +kernel
theorem dL_strays_163 : decode cL_strays 163 = .ok (.invokevirtual 70, 3) := by decide +kernel
theorem dL_strays_166 : decode cL_strays 166 = .ok (.bipush (-4), 2) := by decide +kernel
theorem dL_strays_168 : decode cL_strays 168 = .ok (.if_icmp .eq 5, 3) := by decide +kernel
theorem dL_strays_171 : decode cL_strays 171 = .ok (.iconst 0, 1) := by decide +kernel
theorem dL_strays_172 : decode cL_strays 172 = .ok (.ireturn, 1) := by decide +kernel
theorem dL_strays_173 : decode cL_strays 173 = .ok (.iinc 5 1, 3) := by decide +kernel
theorem dL_strays_176 : decode cL_strays 176 = .ok (.goto (-139), 3) := by decide +kernel
theorem dL_strays_179 : decode cL_strays 179 = .ok (.iconst 0, 1) := by decide +kernel
theorem dL_strays_180 : decode cL_strays 180 = .ok (.istore 5, 2) := by decide +kernel
theorem dL_strays_182 : decode cL_strays 182 = .ok (.iload 5, 2) := by decide +kernel
theorem dL_strays_184 : decode cL_strays 184 = .ok (.bipush 7, 2) := by decide +kernel
theorem dL_strays_186 : decode cL_strays 186 = .ok (.if_icmp .ge 95, 3) := by decide +kernel
theorem dL_strays_189 : decode cL_strays 189 = .ok (.aload_n 0, 1) := by decide +kernel
theorem dL_strays_190 : decode cL_strays 190 = .ok (.iload_n 2, 1) := by decide +kernel
theorem dL_strays_191 : decode cL_strays 191 = .ok (.iload 5, 2) := by decide +kernel
theorem dL_strays_193 : decode cL_strays 193 = .ok (.invokevirtual 67, 3) := by decide +kernel
theorem dL_strays_196 : decode cL_strays 196 = .ok (.istore 6, 2) := by decide +kernel
theorem dL_strays_198 : decode cL_strays 198 = .ok (.iconst 0, 1) := by decide +kernel
theorem dL_strays_199 : decode cL_strays 199 = .ok (.istore 7, 2) := by decide +kernel
theorem dL_strays_201 : decode cL_strays 201 = .ok (.iconst 0, 1) := by decide +kernel
theorem dL_strays_202 : decode cL_strays 202 = .ok (.istore 8, 2) := by decide +kernel
theorem dL_strays_204 : decode cL_strays 204 = .ok (.iload 8, 2) := by decide +kernel
theorem dL_strays_206 : decode cL_strays 206 = .ok (.aload_n 1, 1) := by decide +kernel
theorem dL_strays_207 : decode cL_strays 207 = .ok (.iconst 0, 1) := by decide +kernel
theorem dL_strays_208 : decode cL_strays 208 = .ok (.iaload, 1) := by decide +kernel
theorem dL_strays_209 : decode cL_strays 209 = .ok (.if_icmp .ge 37, 3) := by decide +kernel
theorem dL_strays_212 : decode cL_strays 212 = .ok (.iload 7, 2) := by decide +kernel
theorem dL_strays_214 : decode cL_strays 214 = .ok (.aload 4, 2) := by decide +kernel
theorem dL_strays_216 : decode cL_strays 216 = .ok (.iload 8, 2) := by decide +kernel
theorem dL_strays_218 : decode cL_strays 218 = .ok (.iaload, 1) := by decide +kernel
theorem dL_strays_219 : decode cL_strays 219 = .ok (.ifCond .lt 17, 3) := by decide +kernel
theorem dL_strays_222 : decode cL_strays 222 = .ok (.aload 4, 2) := by decide +kernel
theorem dL_strays_224 : decode cL_strays 224 = .ok (.iload 8, 2) := by decide +kernel
theorem dL_strays_226 : decode cL_strays 226 = .ok (.iaload, 1) := by decide +kernel
theorem dL_strays_227 : decode cL_strays 227 = .ok (.iload 5, 2) := by decide +kernel
theorem dL_strays_229 : decode cL_strays 229 = .ok (.if_icmp .gt 7, 3) := by decide +kernel
theorem dL_strays_232 : decode cL_strays 232 = .ok (.iconst 1, 1) := by decide +kernel
theorem dL_strays_233 : decode cL_strays 233 = .ok (.goto 4, 3) := by decide +kernel
theorem dL_strays_236 : decode cL_strays 236 = .ok (.iconst 0, 1) := by decide +kernel
theorem dL_strays_237 : decode cL_strays 237 = .ok (.iadd, 1) := by decide +kernel
theorem dL_strays_238 : decode cL_strays 238 = .ok (.istore 7, 2) := by decide +kernel
theorem dL_strays_240 : decode cL_strays 240 = .ok (.iinc 8 1, 3) := by decide +kernel
theorem dL_strays_243 : decode cL_strays 243 = .ok (.goto (-39), 3) := by decide +kernel
theorem dL_strays_246 : decode cL_strays 246 = .ok (.iload 6, 2) := by decide +kernel
theorem dL_strays_248 : decode cL_strays 248 = .ok (.iload 7, 2) := by decide +kernel
theorem dL_strays_250 : decode cL_strays 250 = .ok (.if_icmp .ne 20, 3) := by decide +kernel
theorem dL_strays_253 : decode cL_strays 253 = .ok (.iload 6, 2) := by decide +kernel
theorem dL_strays_255 : decode cL_strays 255 = .ok (.iload_n 3, 1) := by decide +kernel
theorem dL_strays_256 : decode cL_strays 256 = .ok (.if_icmp .lt 14, 3) := by decide +kernel
theorem dL_strays_259 : decode cL_strays 259 = .ok (.iload 5, 2) := by decide +kernel
theorem dL_strays_261 : decode cL_strays 261 = .ok (.ifCond .ne 11, 3) := by decide +kernel
theorem dL_strays_264 : decode cL_strays 264 = .ok (.iload 6, 2) := by decide +kernel
theorem dL_strays_266 : decode cL_strays 266 = .ok (.iconst 1, 1) := by decide +kernel
theorem dL_strays_267 : decode cL_strays 267 = .ok (.if_icmp .eq 5, 3) := by decide +kernel
theorem dL_strays_270 : decode cL_strays 270 = .ok (.iconst 0, 1) := by decide +kernel
theorem dL_strays_271 : decode cL_strays 271 = .ok (.ireturn, 1) := by decide +kernel
theorem dL_strays_272 : decode cL_strays 272 = .ok (.iload 6, 2) := by decide +kernel
theorem dL_strays_274 : decode cL_strays 274 = .ok (.istore_n 3, 1) := by decide +kernel
theorem dL_strays_275 : decode cL_strays 275 = .ok (.iinc 5 1, 3) := by decide +kernel
theorem dL_strays_278 : decode cL_strays 278 = .ok (.goto (-96), 3) := by decide +kernel
theorem dL_strays_281 : decode cL_strays 281 = .ok (.iconst 1, 1) := by decide +kernel
theorem dL_strays_282 : decode cL_strays 282 = .ok (.ireturn, 1) := by decide +kernel
theorem dL_summers_0 : decode cL_summers 0 = .ok (.aload_n 0, 1) := by decide +kernel
theorem dL_summers_1 : decode cL_summers 1 = .ok (.iload_n 2, 1) := by decide +kernel
theorem dL_summers_2 : decode cL_summers 2 = .ok (.iconst (-1), 1) := by decide +kernel
theorem dL_summers_3 : decode cL_summers 3 = .ok (.invokevirtual 74, 3) := by decide +kernel
theorem dL_summers_6 : decode cL_summers 6 = .ok (.istore_n 3, 1) := by decide +kernel
theorem dL_summers_7 : decode cL_summers 7 = .ok (.aload_n 0, 1) := by decide +kernel
theorem dL_summers_8 : decode cL_summers 8 = .ok (.iconst 3, 1) := by decide +kernel
theorem dL_summers_9 : decode cL_summers 9 = .ok (.invokevirtual 52, 3) := by decide +kernel
theorem dL_summers_12 : decode cL_summers 12 = .ok (.istore 4, 2) := by decide +kernel
theorem dL_summers_14 : decode cL_summers 14 = .ok (.aload_n 1, 1) := by decide +kernel
theorem dL_summers_15 : decode cL_summers 15 = .ok (.iconst 3, 1) := by decide +kernel
theorem dL_summers_16 : decode cL_summers 16 = .ok (.iaload, 1) := by decide +kernel
theorem dL_summers_17 : decode cL_summers 17 = .ok (.ifCond .ge 22, 3) := by decide +kernel
theorem dL_summers_20 : decode cL_summers 20 = .ok (.iload_n 3, 1) := by decide +kernel
theorem dL_summers_21 : decode cL_summers 21 = .ok (.bipush (-2), 2) := by decide +kernel
theorem dL_summers_23 : decode cL_summers 23 = .ok (.if_icmp .ne 14, 3) := by decide +kernel
theorem dL_summers_26 : decode cL_summers 26 = .ok (.aload_n 0, 1) := by decide +kernel
theorem dL_summers_27 : decode cL_summers 27 = .ok (.invokestatic 77, 3) := by decide +kernel
theorem dL_summers_30 : decode cL_summers 30 = .ok (.ifCond .eq 7, 3) := by decide +kernel
theorem dL_summers_33 : decode cL_summers 33 = .ok (.iconst 1, 1) := by decide +kernel
theorem dL_summers_34 : decode cL_summers 34 = .ok (.goto 4, 3) := by decide +kernel
theorem dL_summers_37 : decode cL_summers 37 = .ok (.iconst 0, 1) := by decide +kernel
theorem dL_summers_38 : decode cL_summers 38 = .ok (.ireturn, 1) := by decide +kernel
theorem dL_summers_39 : decode cL_summers 39 = .ok (.iload_n 3, 1) := by decide +kernel
theorem dL_summers_40 : decode cL_summers 40 = .ok (.bipush (-4), 2) := by decide +kernel
theorem dL_summers_42 : decode cL_summers 42 = .ok (.if_icmp .lt 21, 3) := by decide +kernel
theorem dL_summers_45 : decode cL_summers 45 = .ok (.iload_n 3, 1) := by decide +kernel
theorem dL_summers_46 : decode cL_summers 46 = .ok (.iconst 5, 1) := by decide +kernel
theorem dL_summers_47 : decode cL_summers 47 = .ok (.if_icmp .gt 16, 3) := by decide +kernel
theorem dL_summers_50 : decode cL_summers 50 = .ok (.iload_n 3, 1) := by decide +kernel
theorem dL_summers_51 : decode cL_summers 51 = .ok (.iconst (-1), 1) := by decide +kernel
theorem dL_summers_52 : decode cL_summers 52 = .ok (.if_icmp .eq 11, 3) := by decide +kernel
theorem dL_summers_55 : decode cL_summers 55 = .ok (.aload_n 0, 1) := by decide +kernel
theorem dL_summers_56 : decode cL_summers 56 = .ok (.invokevirtual 81, 3) := by decide +kernel
theorem dL_summers_59 : decode cL_summers 59 = .ok (.iconst 1, 1) := by decide +kernel
theorem dL_summers_60 : decode cL_summers 60 = .ok (.if_icmp .ge 5, 3) := by decide +kernel
theorem dL_summers_63 : decode cL_summers 63 = .ok (.iconst 0, 1) := by decide +kernel
theorem dL_summers_64 : decode cL_summers 64 = .ok (.ireturn, 1) := by decide +kernel
theorem dL_summers_65 : decode cL_summers 65 = .ok (.iconst 4, 1) := by decide +kernel
theorem dL_summers_66 : decode cL_summers 66 = .ok (.newarray .int, 2) := by decide +kernel
theorem dL_summers_68 : decode cL_summers 68 = .ok (.astore 5, 2) := by decide +kernel
theorem dL_summers_70 : decode cL_summers 70 = .ok (.iconst 0, 1) := by decide +kernel
theorem dL_summers_71 : decode cL_summers 71 = .ok (.istore 6, 2) := by decide +kernel
theorem dL_summers_73 : decode cL_summers 73 = .ok (.iload 6, 2) := by decide +kernel
theorem dL_summers_75 : decode cL_summers 75 = .ok (.iconst 4, 1) := by decide +kernel
theorem dL_summers_76 : decode cL_summers 76 = .ok (.if_icmp .ge 21, 3) := by decide +kernel
theorem dL_summers_79 : decode cL_summers 79 = .ok (.aload 5, 2) := by decide +kernel
theorem dL_summers_81 : decode cL_summers 81 = .ok (.iload 6, 2) := by decide +kernel
theorem dL_summers_83 : decode cL_summers 83 = .ok (.aload_n 0, 1) := by decide +kernel
theorem dL_summers_84 : decode cL_summers 84 = .ok (.iload_n 2, 1) := by decide +kernel
theorem dL_summers_85 : decode cL_summers 85 = .ok (.iload 6, 2) := by decide +kernel
theorem dL_summers_87 : decode cL_summers 87 = .ok (.invokevirtual 74, 3) := by decide +kernel
theorem dL_summers_90 : decode cL_summers 90 = .ok (.iastore, 1) := by decide +kernel
theorem dL_summers_91 : decode cL_summers 91 = .ok (.iinc 6 1, 3) := by decide +kernel
theorem dL_summers_94 : decode cL_summers 94 = .ok (.goto (-21), 3) := by decide +kernel
theorem dL_summers_97 : decode cL_summers 97 = .ok (.iload_n 2, 1) := by decide +kernel
theorem dL_summers_98 : decode cL_summers 98 = .ok (.ifCond .ne 11, 3) := by decide +kernel
theorem dL_summers_101 : decode cL_summers 101 = .ok (.aload_n 0, 1) := by decide +kernel
theorem dL_summers_102 : decode cL_summers 102 = .ok (.iconst 4, 1) := by decide +kernel
theorem dL_summers_103 : decode cL_summers 103 = .ok (.invokevirtual 52, 3) := by decide +kernel
theorem dL_summers_106 : decode cL_summers 106 = .ok (.goto 8, 3) := by decide +kernel
theorem dL_summers_109 : decode cL_summers 109 = .ok (.aload_n 0, 1) := by decide +kernel
theorem dL_summers_110 : decode cL_summers 110 = .ok (.iconst 5, 1) := by decide +kernel
theorem dL_summers_111 : decode cL_summers 111 = .ok (.invokevirtual 52, 3) := by decide +kernel
theorem dL_summers_114 : decode cL_summers 114 = .ok (.istore 6, 2) := by decide +kernel
theorem dL_summers_116 : decode cL_summers 116 = .ok (.iconst 0, 1) := by decide +kernel
theorem dL_summers_117 : decode cL_summers 117 = .ok (.istore 7, 2) := by decide +kernel
theorem dL_summers_119 : decode cL_summers 119 = .ok (.iconst 0, 1) := by decide +kernel
theorem dL_summers_120 : decode cL_summers 120 = .ok (.istore 8, 2) := by decide +kernel
theorem dL_summers_122 : decode cL_summers 122 = .ok (.iload 8, 2) := by decide +kernel
theorem dL_summers_124 : decode cL_summers 124 = .ok (.iload_n 3, 1) := by decide +kernel
theorem dL_summers_125 : decode cL_summers 125 = .ok (.if_icmp .ge 97, 3) := by decide +kernel
theorem dL_summers_128 : decode cL_summers 128 = .ok (.iload 4, 2) := by decide +kernel
theorem dL_summers_130 : decode cL_summers 130 = .ok (.iload 8, 2) := by decide +kernel
theorem dL_summers_132 : decode cL_summers 132 = .ok (.iadd, 1) := by decide +kernel
theorem dL_summers_133 : decode cL_summers 133 = .ok (.iconst 2, 1) := by decide +kernel
theorem dL_summers_134 : decode cL_summers 134 = .ok (.irem, 1) := by decide +kernel
theorem dL_summers_135 : decode cL_summers 135 = .ok (.iload_n 2, 1) := by decide +kernel
theorem dL_summers_136 : decode cL_summers 136 = .ok (.if_icmp .ne 7, 3) := by decide +kernel
theorem dL_summers_139 : decode cL_summers 139 = .ok (.iconst 1, 1) := by decide +kernel
theorem dL_summers_140 : decode cL_summers 140 = .ok (.goto 4, 3) := by decide +kernel
theorem dL_summers_143 : decode cL_summers 143 = .ok (.iconst 0, 1) := by decide +kernel
theorem dL_summers_144 : decode cL_summers 144 = .ok (.istore 9, 2) := by decide +kernel
theorem dL_summers_146 : decode cL_summers 146 = .ok (.iload 9, 2) := by decide +kernel
theorem dL_summers_148 : decode cL_summers 148 = .ok (.ifCond .eq 11, 3) := by decide +kernel
theorem dL_summers_151 : decode cL_summers 151 = .ok (.aload 5, 2) := by decide +kernel
theorem dL_summers_153 : decode cL_summers 153 = .ok (.iload 7, 2) := by decide +kernel
theorem dL_summers_155 : decode cL_summers 155 = .ok (.iaload, 1) := by decide +kernel
theorem dL_summers_156 : decode cL_summers 156 = .ok (.goto 5, 3) := by decide +kernel
theorem dL_summers_159 : decode cL_summers 159 = .ok (.bipush 99, 2) := by decide +kernel
theorem dL_summers_161 : decode cL_summers 161 = .ok (.istore 10, 2) := by decide +kernel
theorem dL_summers_163 : decode cL_summers 163 = .ok (.iload 7, 2) := by decide +kernel
theorem dL_summers_165 : decode cL_summers 165 = .ok (.iload 9, 2) := by decide +kernel
theorem dL_summers_167 : decode cL_summers 167 = .ok (.ifCond .eq 7, 3) := by decide +kernel
theorem dL_summers_170 : decode cL_summers 170 = .ok (.iconst 1, 1) := by decide +kernel
theorem dL_summers_171 : decode cL_summers 171 = .ok (.goto 4, 3) := by decide +kernel
theorem dL_summers_174 : decode cL_summers 174 = .ok (.iconst 0, 1) := by decide +kernel
theorem dL_summers_175 : decode cL_summers 175 = .ok (.iadd, 1) := by decide +kernel
theorem dL_summers_176 : decode cL_summers 176 = .ok (.istore 7, 2) := by decide +kernel
theorem dL_summers_178 : decode cL_summers 178 = .ok (.iload 10, 2) := by decide +kernel
theorem dL_summers_180 : decode cL_summers 180 = .ok (.ifCond .lt 34, 3) := by decide +kernel
theorem dL_summers_183 : decode cL_summers 183 = .ok (.iload 10, 2) := by decide +kernel
theorem dL_summers_185 : decode cL_summers 185 = .ok (.bipush 99, 2) := by decide +kernel
theorem dL_summers_187 : decode cL_summers 187 = .ok (.if_icmp .ne 10, 3) := by decide +kernel
theorem dL_summers_190 : decode cL_summers 190 = .ok (.aload_n 0, 1) := by decide +kernel
theorem dL_summers_191 : decode cL_summers 191 = .ok (.invokevirtual 84, 3) := by decide +kernel
theorem dL_summers_194 : decode cL_summers 194 = .ok (.goto 17, 3) := by decide +kernel
theorem dL_summers_197 : decode cL_summers 197 = .ok (.aload_n 0, 1) := by decide +kernel
theorem dL_summers_198 : decode cL_summers 198 = .ok (.iload 10, 2) := by decide +kernel
theorem dL_summers_200 : decode cL_summers 200 = .ok (.bipush 10, 2) := by decide +kernel
theorem dL_summers_202 : decode cL_summers 202 = .ok (.idiv, 1) := by decide +kernel
theorem dL_summers_203 : decode cL_summers 203 = .ok (.iload 10, 2) := by decide +kernel
theorem dL_summers_205 : decode cL_summers 205 = .ok (.bipush 10, 2) := by decide +kernel
theorem dL_summers_207 : decode cL_summers 207 = .ok (.irem, 1) := by decide +kernel
theorem dL_summers_208 : decode cL_summers 208 = .ok (.invokevirtual 61, 3) := by decide +kernel
theorem dL_summers_211 : decode cL_summers 211 = .ok (.ifCond .ge 5, 3) := by decide +kernel
theorem dL_summers_214 : decode cL_summers 214 = .ok (.iconst 0, 1) := by decide +kernel
theorem dL_summers_215 : decode cL_summers 215 = .ok (.ireturn, 1) := by decide +kernel
theorem dL_summers_216 : decode cL_summers 216 = .ok (.iinc 8 1, 3) := by decide +kernel
theorem dL_summers_219 : decode cL_summers 219 = .ok (.goto (-97), 3) := by decide +kernel
theorem dL_summers_222 : decode cL_summers 222 = .ok (.iload_n 3, 1) := by decide +kernel
theorem dL_summers_223 : decode cL_summers 223 = .ok (.ifCond .ge 7, 3) := by decide +kernel
theorem dL_summers_226 : decode cL_summers 226 = .ok (.iconst 1, 1) := by decide +kernel
theorem dL_summers_227 : decode cL_summers 227 = .ok (.goto 4, 3) := by decide +kernel
theorem dL_summers_230 : decode cL_summers 230 = .ok (.iconst 0, 1) := by decide +kernel
theorem dL_summers_231 : decode cL_summers 231 = .ok (.istore 8, 2) := by decide +kernel
theorem dL_summers_233 : decode cL_summers 233 = .ok (.iconst 0, 1) := by decide +kernel
theorem dL_summers_234 : decode cL_summers 234 = .ok (.istore 9, 2) := by decide +kernel
theorem dL_summers_236 : decode cL_summers 236 = .ok (.iload 9, 2) := by decide +kernel
theorem dL_summers_238 : decode cL_summers 238 = .ok (.aload_n 1, 1) := by decide +kernel
theorem dL_summers_239 : decode cL_summers 239 = .ok (.iconst 2, 1) := by decide +kernel
theorem dL_summers_240 : decode cL_summers 240 = .ok (.iaload, 1) := by decide +kernel
theorem dL_summers_241 : decode cL_summers 241 = .ok (.if_icmp .ge 55, 3) := by decide +kernel
theorem dL_summers_244 : decode cL_summers 244 = .ok (.iload 8, 2) := by decide +kernel
theorem dL_summers_246 : decode cL_summers 246 = .ok (.ifCond .ne 37, 3) := by decide +kernel
theorem dL_summers_249 : decode cL_summers 249 = .ok (.aload_n 1, 1) := by decide +kernel
theorem dL_summers_250 : decode cL_summers 250 = .ok (.bipush 13, 2) := by decide +kernel
theorem dL_summers_252 : decode cL_summers 252 = .ok (.iload 9, 2) := by decide +kernel
theorem dL_summers_254 : decode cL_summers 254 = .ok (.iadd, 1) := by decide +kernel
theorem dL_summers_255 : decode cL_summers 255 = .ok (.iaload, 1) := by decide +kernel
theorem dL_summers_256 : decode cL_summers 256 = .ok (.ifCond .ne 31, 3) := by decide +kernel
theorem dL_summers_259 : decode cL_summers 259 = .ok (.aload_n 0, 1) := by decide +kernel
theorem dL_summers_260 : decode cL_summers 260 = .ok (.iload 9, 2) := by decide +kernel
theorem dL_summers_262 : decode cL_summers 262 = .ok (.iconst 1, 1) := by decide +kernel
theorem dL_summers_263 : decode cL_summers 263 = .ok (.invokevirtual 49, 3) := by decide +kernel
theorem dL_summers_266 : decode cL_summers 266 = .ok (.iload_n 2, 1) := by decide +kernel
theorem dL_summers_267 : decode cL_summers 267 = .ok (.if_icmp .ne 20, 3) := by decide +kernel
theorem dL_summers_270 : decode cL_summers 270 = .ok (.aload_n 0, 1) := by decide +kernel
theorem dL_summers_271 : decode cL_summers 271 = .ok (.iload 9, 2) := by decide +kernel
theorem dL_summers_273 : decode cL_summers 273 = .ok (.iconst 2, 1) := by decide +kernel
theorem dL_summers_274 : decode cL_summers 274 = .ok (.invokevirtual 49, 3) := by decide +kernel
theorem dL_summers_277 : decode cL_summers 277 = .ok (.aload_n 1, 1) := by decide +kernel
theorem dL_summers_278 : decode cL_summers 278 = .ok (.iconst 3, 1) := by decide +kernel
theorem dL_summers_279 : decode cL_summers 279 = .ok (.iaload, 1) := by decide +kernel
theorem dL_summers_280 : decode cL_summers 280 = .ok (.if_icmp .ne 7, 3) := by decide +kernel
theorem dL_summers_283 : decode cL_summers 283 = .ok (.iconst 1, 1) := by decide +kernel
theorem dL_summers_284 : decode cL_summers 284 = .ok (.goto 4, 3) := by decide +kernel
theorem dL_summers_287 : decode cL_summers 287 = .ok (.iconst 0, 1) := by decide +kernel
theorem dL_summers_288 : decode cL_summers 288 = .ok (.istore 8, 2) := by decide +kernel
theorem dL_summers_290 : decode cL_summers 290 = .ok (.iinc 9 1, 3) := by decide +kernel
theorem dL_summers_293 : decode cL_summers 293 = .ok (.goto (-57), 3) := by decide +kernel
theorem dL_summers_296 : decode cL_summers 296 = .ok (.iload 8, 2) := by decide +kernel
theorem dL_summers_298 : decode cL_summers 298 = .ok (.ifCond .eq 63, 3) := by decide +kernel
theorem dL_summers_301 : decode cL_summers 301 = .ok (.iload_n 2, 1) := by decide +kernel
theorem dL_summers_302 : decode cL_summers 302 = .ok (.ifCond .ne 11, 3) := by decide +kernel
theorem dL_summers_305 : decode cL_summers 305 = .ok (.aload_n 0, 1) := by decide +kernel
theorem dL_summers_306 : decode cL_summers 306 = .ok (.iconst 4, 1) := by decide +kernel
theorem dL_summers_307 : decode cL_summers 307 = .ok (.invokevirtual 52, 3) := by decide +kernel
theorem dL_summers_310 : decode cL_summers 310 = .ok (.goto 8, 3) := by decide +kernel
theorem dL_summers_313 : decode cL_summers 313 = .ok (.aload_n 0, 1) := by decide +kernel
theorem dL_summers_314 : decode cL_summers 314 = .ok (.iconst 5, 1) := by decide +kernel
theorem dL_summers_315 : decode cL_summers 315 = .ok (.invokevirtual 52, 3) := by decide +kernel
theorem dL_summers_318 : decode cL_summers 318 = .ok (.iload 6, 2) := by decide +kernel
theorem dL_summers_320 : decode cL_summers 320 = .ok (.if_icmp .ne 41, 3) := by decide +kernel
theorem dL_summers_323 : decode cL_summers 323 = .ok (.aload 5, 2) := by decide +kernel
theorem dL_summers_325 : decode cL_summers 325 = .ok (.iload 7, 2) := by decide +kernel
theorem dL_summers_327 : decode cL_summers 327 = .ok (.iaload, 1) := by decide +kernel
theorem dL_summers_328 : decode cL_summers 328 = .ok (.bipush (-4), 2) := by decide +kernel
theorem dL_summers_330 : decode cL_summers 330 = .ok (.if_icmp .ne 31, 3) := by decide +kernel
theorem dL_summers_333 : decode cL_summers 333 = .ok (.aload_n 0, 1) := by decide +kernel
theorem dL_summers_334 : decode cL_summers 334 = .ok (.invokevirtual 87, 3) := by decide +kernel
theorem dL_summers_337 : decode cL_summers 337 = .ok (.ifCond .lt 24, 3) := by decide +kernel
theorem dL_summers_340 : decode cL_summers 340 = .ok (.aload_n 0, 1) := by decide +kernel
theorem dL_summers_341 : decode cL_summers 341 = .ok (.iconst 3, 1) := by decide +kernel
theorem dL_summers_342 : decode cL_summers 342 = .ok (.invokevirtual 52, 3) := by decide +kernel
theorem dL_summers_345 : decode cL_summers 345 = .ok (.iload 4, 2) := by decide +kernel
theorem dL_summers_347 : decode cL_summers 347 = .ok (.if_icmp .ne 14, 3) := by decide +kernel
theorem dL_summers_350 : decode cL_summers 350 = .ok (.aload_n 0, 1) := by decide +kernel
theorem dL_summers_351 : decode cL_summers 351 = .ok (.invokestatic 77, 3) := by decide +kernel
theorem dL_summers_354 : decode cL_summers 354 = .ok (.ifCond .eq 7, 3) := by decide +kernel
theorem dL_summers_357 : decode cL_summers 357 = .ok (.iconst 1, 1) := by decide +kernel
theorem dL_summers_358 : decode cL_summers 358 = .ok (.goto 4, 3) := by decide +kernel
theorem dL_summers_361 : decode cL_summers 361 = .ok (.iconst 0, 1) := by decide +kernel
theorem dL_summers_362 : decode cL_summers 362 = .ok (.ireturn, 1) := by decide +kernel
theorem dL_games_0 : decode cL_games 0 = .ok (.aload_n 0, 1) := by decide +kernel
theorem dL_games_1 : decode cL_games 1 = .ok (.iconst 1, 1) := by decide +kernel
theorem dL_games_2 : decode cL_games 2 = .ok (.iconst 0, 1) := by decide +kernel
theorem dL_games_3 : decode cL_games 3 = .ok (.invokevirtual 90, 3) := by decide +kernel
theorem dL_games_6 : decode cL_games 6 = .ok (.istore_n 1, 1) := by decide +kernel
theorem dL_games_7 : decode cL_games 7 = .ok (.aload_n 0, 1) := by decide +kernel
theorem dL_games_8 : decode cL_games 8 = .ok (.iconst 1, 1) := by decide +kernel
theorem dL_games_9 : decode cL_games 9 = .ok (.iconst 1, 1) := by decide +kernel
theorem dL_games_10 : decode cL_games 10 = .ok (.invokevirtual 90, 3) := by decide +kernel
theorem dL_games_13 : decode cL_games 13 = .ok (.istore_n 2, 1) := by decide +kernel
theorem dL_games_14 : decode cL_games 14 = .ok (.aload_n 0, 1) := by decide +kernel
theorem dL_games_15 : decode cL_games 15 = .ok (.bipush 7, 2) := by decide +kernel
theorem dL_games_17 : decode cL_games 17 = .ok (.invokevirtual 52, 3) := by decide +kernel
theorem dL_games_20 : decode cL_games 20 = .ok (.ifCond .eq 30, 3) := by decide +kernel
theorem dL_games_23 : decode cL_games 23 = .ok (.iload_n 1, 1) := by decide +kernel
theorem dL_games_24 : decode cL_games 24 = .ok (.bipush (-2), 2) := by decide +kernel
theorem dL_games_26 : decode cL_games 26 = .ok (.if_icmp .ne 22, 3) := by decide +kernel
theorem dL_games_29 : decode cL_games 29 = .ok (.iload_n 2, 1) := by decide +kernel
theorem dL_games_30 : decode cL_games 30 = .ok (.bipush (-2), 2) := by decide +kernel
theorem dL_games_32 : decode cL_games 32 = .ok (.if_icmp .ne 16, 3) := by decide +kernel
theorem dL_games_35 : decode cL_games 35 = .ok (.aload_n 0, 1) := by decide +kernel
theorem dL_games_36 : decode cL_games 36 = .ok (.invokevirtual 84, 3) := by decide +kernel
theorem dL_games_39 : decode cL_games 39 = .ok (.bipush (-2), 2) := by decide +kernel
theorem dL_games_41 : decode cL_games 41 = .ok (.if_icmp .ne 7, 3) := by decide +kernel
theorem dL_games_44 : decode cL_games 44 = .ok (.iconst 1, 1) := by decide +kernel
theorem dL_games_45 : decode cL_games 45 = .ok (.goto 4, 3) := by decide +kernel
theorem dL_games_48 : decode cL_games 48 = .ok (.iconst 0, 1) := by decide +kernel
theorem dL_games_49 : decode cL_games 49 = .ok (.ireturn, 1) := by decide +kernel
theorem dL_games_50 : decode cL_games 50 = .ok (.aload_n 0, 1) := by decide +kernel
theorem dL_games_51 : decode cL_games 51 = .ok (.iconst 3, 1) := by decide +kernel
theorem dL_games_52 : decode cL_games 52 = .ok (.invokevirtual 52, 3) := by decide +kernel
theorem dL_games_55 : decode cL_games 55 = .ok (.iconst 2, 1) := by decide +kernel
theorem dL_games_56 : decode cL_games 56 = .ok (.irem, 1) := by decide +kernel
theorem dL_games_57 : decode cL_games 57 = .ok (.ifCond .ne 7, 3) := by decide +kernel
theorem dL_games_60 : decode cL_games 60 = .ok (.iconst 1, 1) := by decide +kernel
theorem dL_games_61 : decode cL_games 61 = .ok (.goto 4, 3) := by decide +kernel
theorem dL_games_64 : decode cL_games 64 = .ok (.iconst 0, 1) := by decide +kernel
theorem dL_games_65 : decode cL_games 65 = .ok (.istore_n 3, 1) := by decide +kernel
theorem dL_games_66 : decode cL_games 66 = .ok (.iload_n 2, 1) := by decide +kernel
theorem dL_games_67 : decode cL_games 67 = .ok (.bipush 99, 2) := by decide +kernel
theorem dL_games_69 : decode cL_games 69 = .ok (.if_icmp .ne 10, 3) := by decide +kernel
theorem dL_games_72 : decode cL_games 72 = .ok (.aload_n 0, 1) := by decide +kernel
theorem dL_games_73 : decode cL_games 73 = .ok (.invokevirtual 84, 3) := by decide +kernel
theorem dL_games_76 : decode cL_games 76 = .ok (.goto 15, 3) := by decide +kernel
theorem dL_games_79 : decode cL_games 79 = .ok (.aload_n 0, 1) := by decide +kernel
theorem dL_games_80 : decode cL_games 80 = .ok (.iload_n 2, 1) := by decide +kernel
theorem dL_games_81 : decode cL_games 81 = .ok (.bipush 10, 2) := by decide +kernel
theorem dL_games_83 : decode cL_games 83 = .ok (.idiv, 1) := by decide +kernel
theorem dL_games_84 : decode cL_games 84 = .ok (.iload_n 2, 1) := by decide +kernel
theorem dL_games_85 : decode cL_games 85 = .ok (.bipush 10, 2) := by decide +kernel
theorem dL_games_87 : decode cL_games 87 = .ok (.irem, 1) := by decide +kernel
theorem dL_games_88 : decode cL_games 88 = .ok (.invokevirtual 61, 3) := by decide +kernel
theorem dL_games_91 : decode cL_games 91 = .ok (.istore 4, 2) := by decide +kernel
theorem dL_games_93 : decode cL_games 93 = .ok (.iload 4, 2) := by decide +kernel
theorem dL_games_95 : decode cL_games 95 = .ok (.ifCond .lt 27, 3) := by decide +kernel
theorem dL_games_98 : decode cL_games 98 = .ok (.aload_n 0, 1) := by decide +kernel
theorem dL_games_99 : decode cL_games 99 = .ok (.bipush 6, 2) := by decide +kernel
theorem dL_games_101 : decode cL_games 101 = .ok (.invokevirtual 52, 3) := by decide +kernel
theorem dL_games_104 : decode cL_games 104 = .ok (.iload_n 1, 1) := by decide +kernel
theorem dL_games_105 : decode cL_games 105 = .ok (.if_icmp .ne 17, 3) := by decide +kernel
theorem dL_games_108 : decode cL_games 108 = .ok (.aload_n 0, 1) := by decide +kernel
theorem dL_games_109 : decode cL_games 109 = .ok (.invokevirtual 64, 3) := by decide +kernel
theorem dL_games_112 : decode cL_games 112 = .ok (.ifCond .lt 10, 3) := by decide +kernel
theorem dL_games_115 : decode cL_games 115 = .ok (.aload_n 0, 1) := by decide +kernel
theorem dL_games_116 : decode cL_games 116 = .ok (.invokevirtual 84, 3) := by decide +kernel
theorem dL_games_119 : decode cL_games 119 = .ok (.ifCond .ge 5, 3) := by decide +kernel
theorem dL_games_122 : decode cL_games 122 = .ok (.iconst 0, 1) := by decide +kernel
theorem dL_games_123 : decode cL_games 123 = .ok (.ireturn, 1) := by decide +kernel
theorem dL_games_124 : decode cL_games 124 = .ok (.aload_n 0, 1) := by decide +kernel
theorem dL_games_125 : decode cL_games 125 = .ok (.bipush 6, 2) := by decide +kernel
theorem dL_games_127 : decode cL_games 127 = .ok (.invokevirtual 52, 3) := by decide +kernel
theorem dL_games_130 : decode cL_games 130 = .ok (.istore 5, 2) := by decide +kernel
theorem dL_games_132 : decode cL_games 132 = .ok (.iload_n 3, 1) := by decide +kernel
theorem dL_games_133 : decode cL_games 133 = .ok (.ifCond .eq 12, 3) := by decide +kernel
theorem dL_games_136 : decode cL_games 136 = .ok (.iload 5, 2) := by decide +kernel
theorem dL_games_138 : decode cL_games 138 = .ok (.iload_n 1, 1) := by decide +kernel
theorem dL_games_139 : decode cL_games 139 = .ok (.if_icmp .gt 23, 3) := by decide +kernel
theorem dL_games_142 : decode cL_games 142 = .ok (.goto 9, 3) := by decide +kernel
theorem dL_games_145 : decode cL_games 145 = .ok (.iload 5, 2) := by decide +kernel
theorem dL_games_147 : decode cL_games 147 = .ok (.iload_n 1, 1) := by decide +kernel
theorem dL_games_148 : decode cL_games 148 = .ok (.if_icmp .lt 14, 3) := by decide +kernel
theorem dL_games_151 : decode cL_games 151 = .ok (.aload_n 0, 1) := by decide +kernel
theorem dL_games_152 : decode cL_games 152 = .ok (.invokevirtual 64, 3) := by decide +kernel
theorem dL_games_155 : decode cL_games 155 = .ok (.ifCond .lt 7, 3) := by decide +kernel
theorem dL_games_158 : decode cL_games 158 = .ok (.iconst 1, 1) := by decide +kernel
theorem dL_games_159 : decode cL_games 159 = .ok (.goto 4, 3) := by decide +kernel
theorem dL_games_162 : decode cL_games 162 = .ok (.iconst 0, 1) := by decide +kernel
theorem dL_games_163 : decode cL_games 163 = .ok (.ireturn, 1) := by decide +kernel
theorem dL_rests_0 : decode cL_rests 0 = .ok (.iload_n 2, 1) := by decide +kernel
theorem dL_rests_1 : decode cL_rests 1 = .ok (.aload_n 1, 1) := by decide +kernel
theorem dL_rests_2 : decode cL_rests 2 = .ok (.iconst 0, 1) := by decide +kernel
theorem dL_rests_3 : decode cL_rests 3 = .ok (.iaload, 1) := by decide +kernel
theorem dL_rests_4 : decode cL_rests 4 = .ok (.invokestatic 29, 3) := by decide +kernel
theorem dL_rests_7 : decode cL_rests 7 = .ok (.istore_n 3, 1) := by decide +kernel
theorem dL_rests_8 : decode cL_rests 8 = .ok (.aload_n 0, 1) := by decide +kernel
theorem dL_rests_9 : decode cL_rests 9 = .ok (.iload_n 3, 1) := by decide +kernel
theorem dL_rests_10 : decode cL_rests 10 = .ok (.invokevirtual 93, 3) := by decide +kernel
theorem dL_rests_13 : decode cL_rests 13 = .ok (.istore 4, 2) := by decide +kernel
theorem dL_rests_15 : decode cL_rests 15 = .ok (.iload_n 2, 1) := by decide +kernel
theorem dL_rests_16 : decode cL_rests 16 = .ok (.bipush 6, 2) := by decide +kernel
theorem dL_rests_18 : decode cL_rests 18 = .ok (.ishr, 1) := by decide +kernel
theorem dL_rests_19 : decode cL_rests 19 = .ok (.aload_n 1, 1) := by decide +kernel
theorem dL_rests_20 : decode cL_rests 20 = .ok (.iconst 2, 1) := by decide +kernel
theorem dL_rests_21 : decode cL_rests 21 = .ok (.iaload, 1) := by decide +kernel
theorem dL_rests_22 : decode cL_rests 22 = .ok (.invokestatic 29, 3) := by decide +kernel
theorem dL_rests_25 : decode cL_rests 25 = .ok (.istore 5, 2) := by decide +kernel
theorem dL_rests_27 : decode cL_rests 27 = .ok (.aload_n 0, 1) := by decide +kernel
theorem dL_rests_28 : decode cL_rests 28 = .ok (.iload 5, 2) := by decide +kernel
theorem dL_rests_30 : decode cL_rests 30 = .ok (.invokevirtual 96, 3) := by decide +kernel
theorem dL_rests_33 : decode cL_rests 33 = .ok (.istore 6, 2) := by decide +kernel
theorem dL_rests_35 : decode cL_rests 35 = .ok (.iload_n 2, 1) := by decide +kernel
theorem dL_rests_36 : decode cL_rests 36 = .ok (.bipush 9, 2) := by decide +kernel
theorem dL_rests_38 : decode cL_rests 38 = .ok (.ishr, 1) := by decide +kernel
theorem dL_rests_39 : decode cL_rests 39 = .ok (.bipush 11, 2) := by decide +kernel
theorem dL_rests_41 : decode cL_rests 41 = .ok (.invokestatic 29, 3) := by decide +kernel
theorem dL_rests_44 : decode cL_rests 44 = .ok (.istore 7, 2) := by decide +kernel
theorem dL_rests_46 : decode cL_rests 46 = .ok (.lconst 1, 1) := by decide +kernel
theorem dL_rests_47 : decode cL_rests 47 = .ok (.lstore 8, 2) := by decide +kernel
theorem dL_rests_49 : decode cL_rests 49 = .ok (.lconst 1, 1) := by decide +kernel
theorem dL_rests_50 : decode cL_rests 50 = .ok (.lstore 10, 2) := by decide +kernel
theorem dL_rests_52 : decode cL_rests 52 = .ok (.iload 4, 2) := by decide +kernel
theorem dL_rests_54 : decode cL_rests 54 = .ok (.bipush (-2), 2) := by decide +kernel
theorem dL_rests_56 : decode cL_rests 56 = .ok (.if_icmp .ne 7, 3) := by decide +kernel
theorem dL_rests_59 : decode cL_rests 59 = .ok (.iconst 1, 1) := by decide +kernel
theorem dL_rests_60 : decode cL_rests 60 = .ok (.goto 4, 3) := by decide +kernel
theorem dL_rests_63 : decode cL_rests 63 = .ok (.iconst 0, 1) := by decide +kernel
theorem dL_rests_64 : decode cL_rests 64 = .ok (.aload_n 0, 1) := by decide +kernel
theorem dL_rests_65 : decode cL_rests 65 = .ok (.iload_n 3, 1) := by decide +kernel
theorem dL_rests_66 : decode cL_rests 66 = .ok (.iconst 0, 1) := by decide +kernel
theorem dL_rests_67 : decode cL_rests 67 = .ok (.invokevirtual 46, 3) := by decide +kernel
theorem dL_rests_70 : decode cL_rests 70 = .ok (.bipush 9, 2) := by decide +kernel
theorem dL_rests_72 : decode cL_rests 72 = .ok (.if_icmp .ne 7, 3) := by decide +kernel
theorem dL_rests_75 : decode cL_rests 75 = .ok (.iconst 1, 1) := by decide +kernel
theorem dL_rests_76 : decode cL_rests 76 = .ok (.goto 4, 3) := by decide +kernel
theorem dL_rests_79 : decode cL_rests 79 = .ok (.iconst 0, 1) := by decide +kernel
theorem dL_rests_80 : decode cL_rests 80 = .ok (.if_icmp .ne 98, 3) := by decide +kernel
theorem dL_rests_83 : decode cL_rests 83 = .ok (.iload 4, 2) := by decide +kernel
theorem dL_rests_85 : decode cL_rests 85 = .ok (.ifCond .ne 7, 3) := by decide +kernel
theorem dL_rests_88 : decode cL_rests 88 = .ok (.iconst 1, 1) := by decide +kernel
theorem dL_rests_89 : decode cL_rests 89 = .ok (.goto 4, 3) := by decide +kernel
theorem dL_rests_92 : decode cL_rests 92 = .ok (.iconst 0, 1) := by decide +kernel
theorem dL_rests_93 : decode cL_rests 93 = .ok (.aload_n 0, 1) := by decide +kernel
theorem dL_rests_94 : decode cL_rests 94 = .ok (.iload_n 3, 1) := by decide +kernel
theorem dL_rests_95 : decode cL_rests 95 = .ok (.iconst 0, 1) := by decide +kernel
theorem dL_rests_96 : decode cL_rests 96 = .ok (.invokevirtual 46, 3) := by decide +kernel
theorem dL_rests_99 : decode cL_rests 99 = .ok (.ifCond .le 18, 3) := by decide +kernel
theorem dL_rests_102 : decode cL_rests 102 = .ok (.aload_n 0, 1) := by decide +kernel
theorem dL_rests_103 : decode cL_rests 103 = .ok (.iload_n 3, 1) := by decide +kernel
theorem dL_rests_104 : decode cL_rests 104 = .ok (.iconst 0, 1) := by decide +kernel
theorem dL_rests_105 : decode cL_rests 105 = .ok (.invokevirtual 46, 3) := by decide +kernel
theorem dL_rests_108 : decode cL_rests 108 = .ok (.bipush 9, 2) := by decide +kernel
theorem dL_rests_110 : decode cL_rests 110 = .ok (.if_icmp .ge 7, 3) := by decide +kernel
theorem dL_rests_113 : decode cL_rests 113 = .ok (.iconst 1, 1) := by decide +kernel
theorem dL_rests_114 : decode cL_rests 114 = .ok (.goto 4, 3) := by decide +kernel
theorem dL_rests_117 : decode cL_rests 117 = .ok (.iconst 0, 1) := by decide +kernel
theorem dL_rests_118 : decode cL_rests 118 = .ok (.if_icmp .ne 60, 3) := by decide +kernel
theorem dL_rests_121 : decode cL_rests 121 = .ok (.iload 6, 2) := by decide +kernel
theorem dL_rests_123 : decode cL_rests 123 = .ok (.bipush (-2), 2) := by decide +kernel
theorem dL_rests_125 : decode cL_rests 125 = .ok (.if_icmp .ne 7, 3) := by decide +kernel
theorem dL_rests_128 : decode cL_rests 128 = .ok (.iconst 1, 1) := by decide +kernel
theorem dL_rests_129 : decode cL_rests 129 = .ok (.goto 4, 3) := by decide +kernel
theorem dL_rests_132 : decode cL_rests 132 = .ok (.iconst 0, 1) := by decide +kernel
theorem dL_rests_133 : decode cL_rests 133 = .ok (.aload_n 0, 1) := by decide +kernel
theorem dL_rests_134 : decode cL_rests 134 = .ok (.iload 5, 2) := by decide +kernel
theorem dL_rests_136 : decode cL_rests 136 = .ok (.iconst 2, 1) := by decide +kernel
theorem dL_rests_137 : decode cL_rests 137 = .ok (.invokevirtual 49, 3) := by decide +kernel
theorem dL_rests_140 : decode cL_rests 140 = .ok (.ifCond .ge 7, 3) := by decide +kernel
theorem dL_rests_143 : decode cL_rests 143 = .ok (.iconst 1, 1) := by decide +kernel
theorem dL_rests_144 : decode cL_rests 144 = .ok (.goto 4, 3) := by decide +kernel
theorem dL_rests_147 : decode cL_rests 147 = .ok (.iconst 0, 1) := by decide +kernel
theorem dL_rests_148 : decode cL_rests 148 = .ok (.if_icmp .ne 30, 3) := by decide +kernel
theorem dL_rests_151 : decode cL_rests 151 = .ok (.iload 6, 2) := by decide +kernel
theorem dL_rests_153 : decode cL_rests 153 = .ok (.ifCond .eq 25, 3) := by decide +kernel
theorem dL_rests_156 : decode cL_rests 156 = .ok (.iload 6, 2) := by decide +kernel
theorem dL_rests_158 : decode cL_rests 158 = .ok (.bipush 60, 2) := by decide +kernel
theorem dL_rests_160 : decode cL_rests 160 = .ok (.if_icmp .gt 18, 3) := by decide +kernel
theorem dL_rests_163 : decode cL_rests 163 = .ok (.iload 4, 2) := by decide +kernel
theorem dL_rests_165 : decode cL_rests 165 = .ok (.bipush 60, 2) := by decide +kernel
theorem dL_rests_167 : decode cL_rests 167 = .ok (.if_icmp .gt 11, 3) := by decide +kernel
theorem dL_rests_170 : decode cL_rests 170 = .ok (.aload_n 0, 1) := by decide +kernel
theorem dL_rests_171 : decode cL_rests 171 = .ok (.invokevirtual 81, 3) := by decide +kernel
theorem dL_rests_174 : decode cL_rests 174 = .ok (.iconst 1, 1) := by decide +kernel
theorem dL_rests_175 : decode cL_rests 175 = .ok (.if_icmp .ge 5, 3) := by decide +kernel
theorem dL_rests_178 : decode cL_rests 178 = .ok (.iconst 0, 1) := by decide +kernel
theorem dL_rests_179 : decode cL_rests 179 = .ok (.ireturn, 1) := by decide +kernel
theorem dL_rests_180 : decode cL_rests 180 = .ok (.iconst 0, 1) := by decide +kernel
theorem dL_rests_181 : decode cL_rests 181 = .ok (.istore 12, 2) := by decide +kernel
theorem dL_rests_183 : decode cL_rests 183 = .ok (.iload 12, 2) := by decide +kernel
theorem dL_rests_185 : decode cL_rests 185 = .ok (.iconst 5, 1) := by decide +kernel
theorem dL_rests_186 : decode cL_rests 186 = .ok (.if_icmp .ge 137, 3) := by decide +kernel
theorem dL_rests_189 : decode cL_rests 189 = .ok (.iload 6, 2) := by decide +kernel
theorem dL_rests_191 : decode cL_rests 191 = .ok (.bipush (-2), 2) := by decide +kernel
theorem dL_rests_193 : decode cL_rests 193 = .ok (.if_icmp .eq 130, 3) := by decide +kernel
theorem dL_rests_196 : decode cL_rests 196 = .ok (.aload_n 0, 1) := by decide +kernel
theorem dL_rests_197 : decode cL_rests 197 = .ok (.iload 5, 2) := by decide +kernel
theorem dL_rests_199 : decode cL_rests 199 = .ok (.iload 12, 2) := by decide +kernel
theorem dL_rests_201 : decode cL_rests 201 = .ok (.iload 7, 2) := by decide +kernel
theorem dL_rests_203 : decode cL_rests 203 = .ok (.iconst 0, 1) := by decide +kernel
theorem dL_rests_204 : decode cL_rests 204 = .ok (.invokevirtual 99, 3) := by decide +kernel
theorem dL_rests_207 : decode cL_rests 207 = .ok (.i2l, 1) := by decide +kernel
theorem dL_rests_208 : decode cL_rests 208 = .ok (.lstore 13, 2) := by decide +kernel
theorem dL_rests_210 : decode cL_rests 210 = .ok (.aload_n 0, 1) := by decide +kernel
theorem dL_rests_211 : decode cL_rests 211 = .ok (.iload 5, 2) := by decide +kernel
theorem dL_rests_213 : decode cL_rests 213 = .ok (.iload 12, 2) := by decide +kernel
theorem dL_rests_215 : decode cL_rests 215 = .ok (.iload 7, 2) := by decide +kernel
theorem dL_rests_217 : decode cL_rests 217 = .ok (.iconst 1, 1) := by decide +kernel
theorem dL_rests_218 : decode cL_rests 218 = .ok (.invokevirtual 99, 3) := by decide +kernel
theorem dL_rests_221 : decode cL_rests 221 = .ok (.i2l, 1) := by decide +kernel
theorem dL_rests_222 : decode cL_rests 222 = .ok (.lstore 15, 2) := by decide +kernel
theorem dL_rests_224 : decode cL_rests 224 = .ok (.lload 13, 2) := by decide +kernel
theorem dL_rests_226 : decode cL_rests 226 = .ok (.lconst 0, 1) := by decide +kernel
theorem dL_rests_227 : decode cL_rests 227 = .ok (.lcmp, 1) := by decide +kernel
theorem dL_rests_228 : decode cL_rests 228 = .ok (.ifCond .lt 79, 3) := by decide +kernel
theorem dL_rests_231 : decode cL_rests 231 = .ok (.lload 13, 2) := by decide +kernel
theorem dL_rests_233 : decode cL_rests 233 = .ok (.lload 15, 2) := by decide +kernel
theorem dL_rests_235 : decode cL_rests 235 = .ok (.lcmp, 1) := by decide +kernel
theorem dL_rests_236 : decode cL_rests 236 = .ok (.ifCond .gt 71, 3) := by decide +kernel
theorem dL_rests_239 : decode cL_rests 239 = .ok (.ldc2_w 103, 3) := by decide +kernel
theorem dL_rests_242 : decode cL_rests 242 = .ok (.lload 15, 2) := by decide +kernel
theorem dL_rests_244 : decode cL_rests 244 = .ok (.lrem, 1) := by decide +kernel
theorem dL_rests_245 : decode cL_rests 245 = .ok (.lconst 0, 1) := by decide +kernel
theorem dL_rests_246 : decode cL_rests 246 = .ok (.lcmp, 1) := by decide +kernel
theorem dL_rests_247 : decode cL_rests 247 = .ok (.ifCond .ne 60, 3) := by decide +kernel
theorem dL_rests_250 : decode cL_rests 250 = .ok (.lload 13, 2) := by decide +kernel
theorem dL_rests_252 : decode cL_rests 252 = .ok (.lload 10, 2) := by decide +kernel
theorem dL_rests_254 : decode cL_rests 254 = .ok (.lmul, 1) := by decide +kernel
theorem dL_rests_255 : decode cL_rests 255 = .ok (.lload 8, 2) := by decide +kernel
theorem dL_rests_257 : decode cL_rests 257 = .ok (.lload 15, 2) := by decide +kernel
theorem dL_rests_259 : decode cL_rests 259 = .ok (.lmul, 1) := by decide +kernel
theorem dL_rests_260 : decode cL_rests 260 = .ok (.lcmp, 1) := by decide +kernel
theorem dL_rests_261 : decode cL_rests 261 = .ok (.ifCond .gt 46, 3) := by decide +kernel
theorem dL_rests_264 : decode cL_rests 264 = .ok (.iload 12, 2) := by decide +kernel
theorem dL_rests_266 : decode cL_rests 266 = .ok (.ifCond .ne 11, 3) := by decide +kernel
theorem dL_rests_269 : decode cL_rests 269 = .ok (.lload 13, 2) := by decide +kernel
theorem dL_rests_271 : decode cL_rests 271 = .ok (.lload 15, 2) := by decide +kernel
theorem dL_rests_273 : decode cL_rests 273 = .ok (.lcmp, 1) := by decide +kernel
theorem dL_rests_274 : decode cL_rests 274 = .ok (.ifCond .ne 33, 3) := by decide +kernel
theorem dL_rests_277 : decode cL_rests 277 = .ok (.aload_n 0, 1) := by decide +kernel
theorem dL_rests_278 : decode cL_rests 278 = .ok (.iload 5, 2) := by decide +kernel
theorem dL_rests_280 : decode cL_rests 280 = .ok (.iload 12, 2) := by decide +kernel
theorem dL_rests_282 : decode cL_rests 282 = .ok (.iconst 0, 1) := by decide +kernel
theorem dL_rests_283 : decode cL_rests 283 = .ok (.iconst 0, 1) := by decide +kernel
theorem dL_rests_284 : decode cL_rests 284 = .ok (.invokevirtual 99, 3) := by decide +kernel
theorem dL_rests_287 : decode cL_rests 287 = .ok (.iload 6, 2) := by decide +kernel
theorem dL_rests_289 : decode cL_rests 289 = .ok (.ifCond .le 14, 3) := by decide +kernel
theorem dL_rests_292 : decode cL_rests 292 = .ok (.iload 6, 2) := by decide +kernel
theorem dL_rests_294 : decode cL_rests 294 = .ok (.iload 12, 2) := by decide +kernel
theorem dL_rests_296 : decode cL_rests 296 = .ok (.if_icmp .gt 7, 3) := by decide +kernel
theorem dL_rests_299 : decode cL_rests 299 = .ok (.iconst 0, 1) := by decide +kernel
theorem dL_rests_300 : decode cL_rests 300 = .ok (.goto 4, 3) := by decide +kernel
theorem dL_rests_303 : decode cL_rests 303 = .ok (.iconst 1, 1) := by decide +kernel
theorem dL_rests_304 : decode cL_rests 304 = .ok (.if_icmp .eq 5, 3) := by decide +kernel
theorem dL_rests_307 : decode cL_rests 307 = .ok (.iconst 0, 1) := by decide +kernel
theorem dL_rests_308 : decode cL_rests 308 = .ok (.ireturn, 1) := by decide +kernel
theorem dL_rests_309 : decode cL_rests 309 = .ok (.lload 13, 2) := by decide +kernel
theorem dL_rests_311 : decode cL_rests 311 = .ok (.lstore 8, 2) := by decide +kernel
theorem dL_rests_313 : decode cL_rests 313 = .ok (.lload 15, 2) := by decide +kernel
theorem dL_rests_315 : decode cL_rests 315 = .ok (.lstore 10, 2) := by decide +kernel
theorem dL_rests_317 : decode cL_rests 317 = .ok (.iinc 12 1, 3) := by decide +kernel
theorem dL_rests_320 : decode cL_rests 320 = .ok (.goto (-137), 3) := by decide +kernel
theorem dL_rests_323 : decode cL_rests 323 = .ok (.iconst 0, 1) := by decide +kernel
theorem dL_rests_324 : decode cL_rests 324 = .ok (.istore 12, 2) := by decide +kernel
theorem dL_rests_326 : decode cL_rests 326 = .ok (.iconst 1, 1) := by decide +kernel
theorem dL_rests_327 : decode cL_rests 327 = .ok (.istore 13, 2) := by decide +kernel
theorem dL_rests_329 : decode cL_rests 329 = .ok (.iload 13, 2) := by decide +kernel
theorem dL_rests_331 : decode cL_rests 331 = .ok (.bipush 12, 2) := by decide +kernel
theorem dL_rests_333 : decode cL_rests 333 = .ok (.if_icmp .ge 107, 3) := by decide +kernel
theorem dL_rests_336 : decode cL_rests 336 = .ok (.aload_n 0, 1) := by decide +kernel
theorem dL_rests_337 : decode cL_rests 337 = .ok (.bipush 7, 2) := by decide +kernel
theorem dL_rests_339 : decode cL_rests 339 = .ok (.invokevirtual 52, 3) := by decide +kernel
theorem dL_rests_342 : decode cL_rests 342 = .ok (.ifCond .ne 98, 3) := by decide +kernel
theorem dL_rests_345 : decode cL_rests 345 = .ok (.aload_n 0, 1) := by decide +kernel
theorem dL_rests_346 : decode cL_rests 346 = .ok (.invokevirtual 84, 3) := by decide +kernel
theorem dL_rests_349 : decode cL_rests 349 = .ok (.iconst 1, 1) := by decide +kernel
theorem dL_rests_350 : decode cL_rests 350 = .ok (.if_icmp .ge 5, 3) := by decide +kernel
theorem dL_rests_353 : decode cL_rests 353 = .ok (.iconst 0, 1) := by decide +kernel
theorem dL_rests_354 : decode cL_rests 354 = .ok (.ireturn, 1) := by decide +kernel
theorem dL_rests_355 : decode cL_rests 355 = .ok (.iload 13, 2) := by decide +kernel
theorem dL_rests_357 : decode cL_rests 357 = .ok (.istore 12, 2) := by decide +kernel
theorem dL_rests_359 : decode cL_rests 359 = .ok (.iload 4, 2) := by decide +kernel
theorem dL_rests_361 : decode cL_rests 361 = .ok (.ifCond .le 19, 3) := by decide +kernel
theorem dL_rests_364 : decode cL_rests 364 = .ok (.iload 13, 2) := by decide +kernel
theorem dL_rests_366 : decode cL_rests 366 = .ok (.iload 4, 2) := by decide +kernel
theorem dL_rests_368 : decode cL_rests 368 = .ok (.if_icmp .ge 12, 3) := by decide +kernel
theorem dL_rests_371 : decode cL_rests 371 = .ok (.aload_n 0, 1) := by decide +kernel
theorem dL_rests_372 : decode cL_rests 372 = .ok (.iload_n 3, 1) := by decide +kernel
theorem dL_rests_373 : decode cL_rests 373 = .ok (.iconst 0, 1) := by decide +kernel
theorem dL_rests_374 : decode cL_rests 374 = .ok (.invokevirtual 46, 3) := by decide +kernel
theorem dL_rests_377 : decode cL_rests 377 = .ok (.ifCond .gt 55, 3) := by decide +kernel
theorem dL_rests_380 : decode cL_rests 380 = .ok (.iload 4, 2) := by decide +kernel
theorem dL_rests_382 : decode cL_rests 382 = .ok (.iload 13, 2) := by decide +kernel
theorem dL_rests_384 : decode cL_rests 384 = .ok (.if_icmp .ne 13, 3) := by decide +kernel
theorem dL_rests_387 : decode cL_rests 387 = .ok (.aload_n 0, 1) := by decide +kernel
theorem dL_rests_388 : decode cL_rests 388 = .ok (.iload_n 3, 1) := by decide +kernel
theorem dL_rests_389 : decode cL_rests 389 = .ok (.iconst 0, 1) := by decide +kernel
theorem dL_rests_390 : decode cL_rests 390 = .ok (.invokevirtual 46, 3) := by decide +kernel
theorem dL_rests_393 : decode cL_rests 393 = .ok (.iconst 1, 1) := by decide +kernel
theorem dL_rests_394 : decode cL_rests 394 = .ok (.if_icmp .lt 38, 3) := by decide +kernel
theorem dL_rests_397 : decode cL_rests 397 = .ok (.iload 6, 2) := by decide +kernel
theorem dL_rests_399 : decode cL_rests 399 = .ok (.ifCond .le 35, 3) := by decide +kernel
theorem dL_rests_402 : decode cL_rests 402 = .ok (.aload_n 0, 1) := by decide +kernel
theorem dL_rests_403 : decode cL_rests 403 = .ok (.iload 5, 2) := by decide +kernel
theorem dL_rests_405 : decode cL_rests 405 = .ok (.iconst 2, 1) := by decide +kernel
theorem dL_rests_406 : decode cL_rests 406 = .ok (.invokevirtual 49, 3) := by decide +kernel
theorem dL_rests_409 : decode cL_rests 409 = .ok (.ifCond .ge 7, 3) := by decide +kernel
theorem dL_rests_412 : decode cL_rests 412 = .ok (.iconst 1, 1) := by decide +kernel
theorem dL_rests_413 : decode cL_rests 413 = .ok (.goto 4, 3) := by decide +kernel
theorem dL_rests_416 : decode cL_rests 416 = .ok (.iconst 0, 1) := by decide +kernel
theorem dL_rests_417 : decode cL_rests 417 = .ok (.iload 13, 2) := by decide +kernel
theorem dL_rests_419 : decode cL_rests 419 = .ok (.iload 6, 2) := by decide +kernel
theorem dL_rests_421 : decode cL_rests 421 = .ok (.if_icmp .lt 7, 3) := by decide +kernel
theorem dL_rests_424 : decode cL_rests 424 = .ok (.iconst 1, 1) := by decide +kernel
theorem dL_rests_425 : decode cL_rests 425 = .ok (.goto 4, 3) := by decide +kernel
theorem dL_rests_428 : decode cL_rests 428 = .ok (.iconst 0, 1) := by decide +kernel
theorem dL_rests_429 : decode cL_rests 429 = .ok (.if_icmp .eq 5, 3) := by decide +kernel
theorem dL_rests_432 : decode cL_rests 432 = .ok (.iconst 0, 1) := by decide +kernel
theorem dL_rests_433 : decode cL_rests 433 = .ok (.ireturn, 1) := by decide +kernel
theorem dL_rests_434 : decode cL_rests 434 = .ok (.iinc 13 1, 3) := by decide +kernel
theorem dL_rests_437 : decode cL_rests 437 = .ok (.goto (-108), 3) := by decide +kernel
theorem dL_rests_440 : decode cL_rests 440 = .ok (.aload_n 0, 1) := by decide +kernel
theorem dL_rests_441 : decode cL_rests 441 = .ok (.iload_n 2, 1) := by decide +kernel
theorem dL_rests_442 : decode cL_rests 442 = .ok (.sipush 10000, 3) := by decide +kernel
theorem dL_rests_445 : decode cL_rests 445 = .ok (.invokestatic 29, 3) := by decide +kernel
theorem dL_rests_448 : decode cL_rests 448 = .ok (.iconst 1, 1) := by decide +kernel
theorem dL_rests_449 : decode cL_rests 449 = .ok (.iload_n 2, 1) := by decide +kernel
theorem dL_rests_450 : decode cL_rests 450 = .ok (.iconst 5, 1) := by decide +kernel
theorem dL_rests_451 : decode cL_rests 451 = .ok (.ishr, 1) := by decide +kernel
theorem dL_rests_452 : decode cL_rests 452 = .ok (.bipush 60, 2) := by decide +kernel
theorem dL_rests_454 : decode cL_rests 454 = .ok (.invokestatic 29, 3) := by decide +kernel
theorem dL_rests_457 : decode cL_rests 457 = .ok (.iadd, 1) := by decide +kernel
theorem dL_rests_458 : decode cL_rests 458 = .ok (.iconst 1, 1) := by decide +kernel
theorem dL_rests_459 : decode cL_rests 459 = .ok (.invokevirtual 105, 3) := by decide +kernel
theorem dL_rests_462 : decode cL_rests 462 = .ok (.istore 13, 2) := by decide +kernel
theorem dL_rests_464 : decode cL_rests 464 = .ok (.iload 12, 2) := by decide +kernel
theorem dL_rests_466 : decode cL_rests 466 = .ok (.ifCond .lt 46, 3) := by decide +kernel
theorem dL_rests_469 : decode cL_rests 469 = .ok (.iload 13, 2) := by decide +kernel
theorem dL_rests_471 : decode cL_rests 471 = .ok (.ifCond .lt 41, 3) := by decide +kernel
theorem dL_rests_474 : decode cL_rests 474 = .ok (.iload 13, 2) := by decide +kernel
theorem dL_rests_476 : decode cL_rests 476 = .ok (.aload_n 0, 1) := by decide +kernel
theorem dL_rests_477 : decode cL_rests 477 = .ok (.iconst 4, 1) := by decide +kernel
theorem dL_rests_478 : decode cL_rests 478 = .ok (.invokevirtual 52, 3) := by decide +kernel
theorem dL_rests_481 : decode cL_rests 481 = .ok (.aload_n 0, 1) := by decide +kernel
theorem dL_rests_482 : decode cL_rests 482 = .ok (.iconst 5, 1) := by decide +kernel
theorem dL_rests_483 : decode cL_rests 483 = .ok (.invokevirtual 52, 3) := by decide +kernel
theorem dL_rests_486 : decode cL_rests 486 = .ok (.iadd, 1) := by decide +kernel
theorem dL_rests_487 : decode cL_rests 487 = .ok (.if_icmp .gt 25, 3) := by decide +kernel
theorem dL_rests_490 : decode cL_rests 490 = .ok (.aload_n 0, 1) := by decide +kernel
theorem dL_rests_491 : decode cL_rests 491 = .ok (.invokevirtual 87, 3) := by decide +kernel
theorem dL_rests_494 : decode cL_rests 494 = .ok (.ifCond .lt 18, 3) := by decide +kernel
theorem dL_rests_497 : decode cL_rests 497 = .ok (.aload_n 0, 1) := by decide +kernel
theorem dL_rests_498 : decode cL_rests 498 = .ok (.iload 5, 2) := by decide +kernel
theorem dL_rests_500 : decode cL_rests 500 = .ok (.invokevirtual 96, 3) := by decide +kernel
theorem dL_rests_503 : decode cL_rests 503 = .ok (.iload 6, 2) := by decide +kernel
theorem dL_rests_505 : decode cL_rests 505 = .ok (.if_icmp .ne 7, 3) := by decide +kernel
theorem dL_rests_508 : decode cL_rests 508 = .ok (.iconst 1, 1) := by decide +kernel
theorem dL_rests_509 : decode cL_rests 509 = .ok (.goto 4, 3) := by decide +kernel
theorem dL_rests_512 : decode cL_rests 512 = .ok (.iconst 0, 1) := by decide +kernel
theorem dL_rests_513 : decode cL_rests 513 = .ok (.ireturn, 1) := by decide +kernel
theorem dL_law_0 : decode cL_law 0 = .ok (.new 10, 3) := by decide +kernel
theorem dL_law_3 : decode cL_law 3 = .ok (.dup, 1) := by decide +kernel
theorem dL_law_4 : decode cL_law 4 = .ok (.invokespecial 108, 3) := by decide +kernel
theorem dL_law_7 : decode cL_law 7 = .ok (.astore_n 1, 1) := by decide +kernel
theorem dL_law_8 : decode cL_law 8 = .ok (.bipush 22, 2) := by decide +kernel
theorem dL_law_10 : decode cL_law 10 = .ok (.newarray .int, 2) := by decide +kernel
theorem dL_law_12 : decode cL_law 12 = .ok (.astore_n 2, 1) := by decide +kernel
theorem dL_law_13 : decode cL_law 13 = .ok (.bipush 54, 2) := by decide +kernel
theorem dL_law_15 : decode cL_law 15 = .ok (.newarray .int, 2) := by decide +kernel
theorem dL_law_17 : decode cL_law 17 = .ok (.astore_n 3, 1) := by decide +kernel
theorem dL_law_18 : decode cL_law 18 = .ok (.aload_n 1, 1) := by decide +kernel
theorem dL_law_19 : decode cL_law 19 = .ok (.aload_n 0, 1) := by decide +kernel
theorem dL_law_20 : decode cL_law 20 = .ok (.iconst 0, 1) := by decide +kernel
theorem dL_law_21 : decode cL_law 21 = .ok (.iconst 5, 1) := by decide +kernel
theorem dL_law_22 : decode cL_law 22 = .ok (.aload_n 2, 1) := by decide +kernel
theorem dL_law_23 : decode cL_law 23 = .ok (.aload_n 3, 1) := by decide +kernel
theorem dL_law_24 : decode cL_law 24 = .ok (.invokestatic 109, 3) := by decide +kernel
theorem dL_law_27 : decode cL_law 27 = .ok (.ifCond .ne 5, 3) := by decide +kernel
theorem dL_law_30 : decode cL_law 30 = .ok (.iconst 0, 1) := by decide +kernel
theorem dL_law_31 : decode cL_law 31 = .ok (.ireturn, 1) := by decide +kernel
theorem dL_law_32 : decode cL_law 32 = .ok (.iconst 0, 1) := by decide +kernel
theorem dL_law_33 : decode cL_law 33 = .ok (.istore 4, 2) := by decide +kernel
theorem dL_law_35 : decode cL_law 35 = .ok (.iload 4, 2) := by decide +kernel
theorem dL_law_37 : decode cL_law 37 = .ok (.bipush 6, 2) := by decide +kernel
theorem dL_law_39 : decode cL_law 39 = .ok (.if_icmp .ge 323, 3) := by decide +kernel
theorem dL_law_42 : decode cL_law 42 = .ok (.aload_n 0, 1) := by decide +kernel
theorem dL_law_43 : decode cL_law 43 = .ok (.bipush 12, 2) := by decide +kernel
theorem dL_law_45 : decode cL_law 45 = .ok (.iload 4, 2) := by decide +kernel
theorem dL_law_47 : decode cL_law 47 = .ok (.iadd, 1) := by decide +kernel
theorem dL_law_48 : decode cL_law 48 = .ok (.invokestatic 21, 3) := by decide +kernel
theorem dL_law_51 : decode cL_law 51 = .ok (.istore 5, 2) := by decide +kernel
theorem dL_law_53 : decode cL_law 53 = .ok (.iload 5, 2) := by decide +kernel
theorem dL_law_55 : decode cL_law 55 = .ok (.aload_n 2, 1) := by decide +kernel
theorem dL_law_56 : decode cL_law 56 = .ok (.iconst 2, 1) := by decide +kernel
theorem dL_law_57 : decode cL_law 57 = .ok (.iaload, 1) := by decide +kernel
theorem dL_law_58 : decode cL_law 58 = .ok (.invokestatic 29, 3) := by decide +kernel
theorem dL_law_61 : decode cL_law 61 = .ok (.istore 6, 2) := by decide +kernel
theorem dL_law_63 : decode cL_law 63 = .ok (.aload_n 1, 1) := by decide +kernel
theorem dL_law_64 : decode cL_law 64 = .ok (.aload_n 2, 1) := by decide +kernel
theorem dL_law_65 : decode cL_law 65 = .ok (.invokestatic 113, 3) := by decide +kernel
theorem dL_law_68 : decode cL_law 68 = .ok (.ifCond .eq 78, 3) := by decide +kernel
theorem dL_law_71 : decode cL_law 71 = .ok (.aload_n 1, 1) := by decide +kernel
theorem dL_law_72 : decode cL_law 72 = .ok (.aload_n 2, 1) := by decide +kernel
theorem dL_law_73 : decode cL_law 73 = .ok (.iload 6, 2) := by decide +kernel
theorem dL_law_75 : decode cL_law 75 = .ok (.iload 5, 2) := by decide +kernel
theorem dL_law_77 : decode cL_law 77 = .ok (.iconst 4, 1) := by decide +kernel
theorem dL_law_78 : decode cL_law 78 = .ok (.ishr, 1) := by decide +kernel
theorem dL_law_79 : decode cL_law 79 = .ok (.iconst 3, 1) := by decide +kernel
theorem dL_law_80 : decode cL_law 80 = .ok (.iand, 1) := by decide +kernel
theorem dL_law_81 : decode cL_law 81 = .ok (.invokestatic 117, 3) := by decide +kernel
theorem dL_law_84 : decode cL_law 84 = .ok (.ifCond .eq 62, 3) := by decide +kernel
theorem dL_law_87 : decode cL_law 87 = .ok (.aload_n 1, 1) := by decide +kernel
theorem dL_law_88 : decode cL_law 88 = .ok (.aload_n 2, 1) := by decide +kernel
theorem dL_law_89 : decode cL_law 89 = .ok (.iload 6, 2) := by decide +kernel
theorem dL_law_91 : decode cL_law 91 = .ok (.invokestatic 121, 3) := by decide +kernel
theorem dL_law_94 : decode cL_law 94 = .ok (.ifCond .eq 52, 3) := by decide +kernel
theorem dL_law_97 : decode cL_law 97 = .ok (.iload 4, 2) := by decide +kernel
theorem dL_law_99 : decode cL_law 99 = .ok (.iconst 3, 1) := by decide +kernel
theorem dL_law_100 : decode cL_law 100 = .ok (.irem, 1) := by decide +kernel
theorem dL_law_101 : decode cL_law 101 = .ok (.ifCond .ne 18, 3) := by decide +kernel
theorem dL_law_104 : decode cL_law 104 = .ok (.aload_n 1, 1) := by decide +kernel
theorem dL_law_105 : decode cL_law 105 = .ok (.aload_n 2, 1) := by decide +kernel
theorem dL_law_106 : decode cL_law 106 = .ok (.iload 5, 2) := by decide +kernel
theorem dL_law_108 : decode cL_law 108 = .ok (.bipush 6, 2) := by decide +kernel
theorem dL_law_110 : decode cL_law 110 = .ok (.ishr, 1) := by decide +kernel
theorem dL_law_111 : decode cL_law 111 = .ok (.iconst 1, 1) := by decide +kernel
theorem dL_law_112 : decode cL_law 112 = .ok (.iand, 1) := by decide +kernel
theorem dL_law_113 : decode cL_law 113 = .ok (.invokestatic 125, 3) := by decide +kernel
theorem dL_law_116 : decode cL_law 116 = .ok (.ifCond .eq 30, 3) := by decide +kernel
theorem dL_law_119 : decode cL_law 119 = .ok (.iload 4, 2) := by decide +kernel
theorem dL_law_121 : decode cL_law 121 = .ok (.iconst 3, 1) := by decide +kernel
theorem dL_law_122 : decode cL_law 122 = .ok (.irem, 1) := by decide +kernel
theorem dL_law_123 : decode cL_law 123 = .ok (.iconst 1, 1) := by decide +kernel
theorem dL_law_124 : decode cL_law 124 = .ok (.if_icmp .ne 10, 3) := by decide +kernel
theorem dL_law_127 : decode cL_law 127 = .ok (.aload_n 1, 1) := by decide +kernel
theorem dL_law_128 : decode cL_law 128 = .ok (.invokestatic 77, 3) := by decide +kernel
theorem dL_law_131 : decode cL_law 131 = .ok (.ifCond .eq 15, 3) := by decide +kernel
theorem dL_law_134 : decode cL_law 134 = .ok (.aload_n 1, 1) := by decide +kernel
theorem dL_law_135 : decode cL_law 135 = .ok (.aload_n 2, 1) := by decide +kernel
theorem dL_law_136 : decode cL_law 136 = .ok (.iload 5, 2) := by decide +kernel
theorem dL_law_138 : decode cL_law 138 = .ok (.iconst 2, 1) := by decide +kernel
theorem dL_law_139 : decode cL_law 139 = .ok (.ishr, 1) := by decide +kernel
theorem dL_law_140 : decode cL_law 140 = .ok (.invokestatic 128, 3) := by decide +kernel
theorem dL_law_143 : decode cL_law 143 = .ok (.ifCond .ne 5, 3) := by decide +kernel
theorem dL_law_146 : decode cL_law 146 = .ok (.iconst 0, 1) := by decide +kernel
theorem dL_law_147 : decode cL_law 147 = .ok (.ireturn, 1) := by decide +kernel
theorem dL_law_148 : decode cL_law 148 = .ok (.aload_n 1, 1) := by decide +kernel
theorem dL_law_149 : decode cL_law 149 = .ok (.bipush 10, 2) := by decide +kernel
theorem dL_law_151 : decode cL_law 151 = .ok (.invokevirtual 52, 3) := by decide +kernel
theorem dL_law_154 : decode cL_law 154 = .ok (.ifCond .ne 39, 3) := by decide +kernel
theorem dL_law_157 : decode cL_law 157 = .ok (.aload_n 1, 1) := by decide +kernel
theorem dL_law_158 : decode cL_law 158 = .ok (.iload 6, 2) := by decide +kernel
theorem dL_law_160 : decode cL_law 160 = .ok (.iload 5, 2) := by decide +kernel
theorem dL_law_162 : decode cL_law 162 = .ok (.bipush 7, 2) := by decide +kernel
theorem dL_law_164 : decode cL_law 164 = .ok (.ishr, 1) := by decide +kernel
theorem dL_law_165 : decode cL_law 165 = .ok (.aload_n 2, 1) := by decide +kernel
theorem dL_law_166 : decode cL_law 166 = .ok (.iconst 0, 1) := by decide +kernel
theorem dL_law_167 : decode cL_law 167 = .ok (.iaload, 1) := by decide +kernel
theorem dL_law_168 : decode cL_law 168 = .ok (.invokestatic 29, 3) := by decide +kernel
theorem dL_law_171 : decode cL_law 171 = .ok (.iconst 0, 1) := by decide +kernel
theorem dL_law_172 : decode cL_law 172 = .ok (.invokevirtual 131, 3) := by decide +kernel
theorem dL_law_175 : decode cL_law 175 = .ok (.ifCond .ne 16, 3) := by decide +kernel
theorem dL_law_178 : decode cL_law 178 = .ok (.aload_n 1, 1) := by decide +kernel
theorem dL_law_179 : decode cL_law 179 = .ok (.iload 6, 2) := by decide +kernel
theorem dL_law_181 : decode cL_law 181 = .ok (.iconst 0, 1) := by decide +kernel
theorem dL_law_182 : decode cL_law 182 = .ok (.iconst 1, 1) := by decide +kernel
theorem dL_law_183 : decode cL_law 183 = .ok (.invokevirtual 131, 3) := by decide +kernel
theorem dL_law_186 : decode cL_law 186 = .ok (.bipush (-4), 2) := by decide +kernel
theorem dL_law_188 : decode cL_law 188 = .ok (.if_icmp .eq 5, 3) := by decide +kernel
theorem dL_law_191 : decode cL_law 191 = .ok (.iconst 0, 1) := by decide +kernel
theorem dL_law_192 : decode cL_law 192 = .ok (.ireturn, 1) := by decide +kernel
theorem dL_law_193 : decode cL_law 193 = .ok (.iconst 0, 1) := by decide +kernel
theorem dL_law_194 : decode cL_law 194 = .ok (.istore 7, 2) := by decide +kernel
theorem dL_law_196 : decode cL_law 196 = .ok (.iload 7, 2) := by decide +kernel
theorem dL_law_198 : decode cL_law 198 = .ok (.iconst 3, 1) := by decide +kernel
theorem dL_law_199 : decode cL_law 199 = .ok (.if_icmp .ge 71, 3) := by decide +kernel
theorem dL_law_202 : decode cL_law 202 = .ok (.iload 5, 2) := by decide +kernel
theorem dL_law_204 : decode cL_law 204 = .ok (.iconst 3, 1) := by decide +kernel
theorem dL_law_205 : decode cL_law 205 = .ok (.iload 7, 2) := by decide +kernel
theorem dL_law_207 : decode cL_law 207 = .ok (.imul, 1) := by decide +kernel
theorem dL_law_208 : decode cL_law 208 = .ok (.ishr, 1) := by decide +kernel
theorem dL_law_209 : decode cL_law 209 = .ok (.aload_n 2, 1) := by decide +kernel
theorem dL_law_210 : decode cL_law 210 = .ok (.iconst 2, 1) := by decide +kernel
theorem dL_law_211 : decode cL_law 211 = .ok (.iaload, 1) := by decide +kernel
theorem dL_law_212 : decode cL_law 212 = .ok (.invokestatic 29, 3) := by decide +kernel
theorem dL_law_215 : decode cL_law 215 = .ok (.istore 8, 2) := by decide +kernel
theorem dL_law_217 : decode cL_law 217 = .ok (.iload 5, 2) := by decide +kernel
theorem dL_law_219 : decode cL_law 219 = .ok (.bipush 10, 2) := by decide +kernel
theorem dL_law_221 : decode cL_law 221 = .ok (.iconst 2, 1) := by decide +kernel
theorem dL_law_222 : decode cL_law 222 = .ok (.iload 7, 2) := by decide +kernel
theorem dL_law_224 : decode cL_law 224 = .ok (.imul, 1) := by decide +kernel
theorem dL_law_225 : decode cL_law 225 = .ok (.iadd, 1) := by decide +kernel
theorem dL_law_226 : decode cL_law 226 = .ok (.ishr, 1) := by decide +kernel
theorem dL_law_227 : decode cL_law 227 = .ok (.iconst 3, 1) := by decide +kernel
theorem dL_law_228 : decode cL_law 228 = .ok (.iand, 1) := by decide +kernel
theorem dL_law_229 : decode cL_law 229 = .ok (.istore 9, 2) := by decide +kernel
theorem dL_law_231 : decode cL_law 231 = .ok (.aload_n 1, 1) := by decide +kernel
theorem dL_law_232 : decode cL_law 232 = .ok (.iload 8, 2) := by decide +kernel
theorem dL_law_234 : decode cL_law 234 = .ok (.iload 9, 2) := by decide +kernel
theorem dL_law_236 : decode cL_law 236 = .ok (.invokevirtual 61, 3) := by decide +kernel
theorem dL_law_239 : decode cL_law 239 = .ok (.istore 10, 2) := by decide +kernel
theorem dL_law_241 : decode cL_law 241 = .ok (.iload 10, 2) := by decide +kernel
theorem dL_law_243 : decode cL_law 243 = .ok (.bipush (-2), 2) := by decide +kernel
theorem dL_law_245 : decode cL_law 245 = .ok (.if_icmp .lt 17, 3) := by decide +kernel
theorem dL_law_248 : decode cL_law 248 = .ok (.iload 10, 2) := by decide +kernel
theorem dL_law_250 : decode cL_law 250 = .ok (.ifCond .ge 14, 3) := by decide +kernel
theorem dL_law_253 : decode cL_law 253 = .ok (.aload_n 1, 1) := by decide +kernel
theorem dL_law_254 : decode cL_law 254 = .ok (.invokevirtual 84, 3) := by decide +kernel
theorem dL_law_257 : decode cL_law 257 = .ok (.bipush (-2), 2) := by decide +kernel
theorem dL_law_259 : decode cL_law 259 = .ok (.if_icmp .ge 5, 3) := by decide +kernel
theorem dL_law_262 : decode cL_law 262 = .ok (.iconst 0, 1) := by decide +kernel
theorem dL_law_263 : decode cL_law 263 = .ok (.ireturn, 1) := by decide +kernel
theorem dL_law_264 : decode cL_law 264 = .ok (.iinc 7 1, 3) := by decide +kernel
theorem dL_law_267 : decode cL_law 267 = .ok (.goto (-71), 3) := by decide +kernel
theorem dL_law_270 : decode cL_law 270 = .ok (.aload_n 1, 1) := by decide +kernel
theorem dL_law_271 : decode cL_law 271 = .ok (.iload 6, 2) := by decide +kernel
theorem dL_law_273 : decode cL_law 273 = .ok (.iload 5, 2) := by decide +kernel
theorem dL_law_275 : decode cL_law 275 = .ok (.bipush 16, 2) := by decide +kernel
theorem dL_law_277 : decode cL_law 277 = .ok (.ishr, 1) := by decide +kernel
theorem dL_law_278 : decode cL_law 278 = .ok (.aload_n 2, 1) := by decide +kernel
theorem dL_law_279 : decode cL_law 279 = .ok (.iconst 0, 1) := by decide +kernel
theorem dL_law_280 : decode cL_law 280 = .ok (.iaload, 1) := by decide +kernel
theorem dL_law_281 : decode cL_law 281 = .ok (.invokestatic 29, 3) := by decide +kernel
theorem dL_law_284 : decode cL_law 284 = .ok (.iconst 0, 1) := by decide +kernel
theorem dL_law_285 : decode cL_law 285 = .ok (.invokevirtual 131, 3) := by decide +kernel
theorem dL_law_288 : decode cL_law 288 = .ok (.istore 7, 2) := by decide +kernel
theorem dL_law_290 : decode cL_law 290 = .ok (.aload_n 1, 1) := by decide +kernel
theorem dL_law_291 : decode cL_law 291 = .ok (.iload 6, 2) := by decide +kernel
theorem dL_law_293 : decode cL_law 293 = .ok (.iload 5, 2) := by decide +kernel
theorem dL_law_295 : decode cL_law 295 = .ok (.bipush 16, 2) := by decide +kernel
theorem dL_law_297 : decode cL_law 297 = .ok (.ishr, 1) := by decide +kernel
theorem dL_law_298 : decode cL_law 298 = .ok (.aload_n 2, 1) := by decide +kernel
theorem dL_law_299 : decode cL_law 299 = .ok (.iconst 0, 1) := by decide +kernel
theorem dL_law_300 : decode cL_law 300 = .ok (.iaload, 1) := by decide +kernel
theorem dL_law_301 : decode cL_law 301 = .ok (.invokestatic 29, 3) := by decide +kernel
theorem dL_law_304 : decode cL_law 304 = .ok (.iconst 1, 1) := by decide +kernel
theorem dL_law_305 : decode cL_law 305 = .ok (.invokevirtual 131, 3) := by decide +kernel
theorem dL_law_308 : decode cL_law 308 = .ok (.istore 8, 2) := by decide +kernel
theorem dL_law_310 : decode cL_law 310 = .ok (.iload 7, 2) := by decide +kernel
theorem dL_law_312 : decode cL_law 312 = .ok (.ifCond .ne 7, 3) := by decide +kernel
theorem dL_law_315 : decode cL_law 315 = .ok (.iconst 1, 1) := by decide +kernel
theorem dL_law_316 : decode cL_law 316 = .ok (.goto 4, 3) := by decide +kernel
theorem dL_law_319 : decode cL_law 319 = .ok (.iconst 0, 1) := by decide +kernel
theorem dL_law_320 : decode cL_law 320 = .ok (.iload 8, 2) := by decide +kernel
theorem dL_law_322 : decode cL_law 322 = .ok (.bipush (-4), 2) := by decide +kernel
theorem dL_law_324 : decode cL_law 324 = .ok (.if_icmp .ne 7, 3) := by decide +kernel
theorem dL_law_327 : decode cL_law 327 = .ok (.iconst 1, 1) := by decide +kernel
theorem dL_law_328 : decode cL_law 328 = .ok (.goto 4, 3) := by decide +kernel
theorem dL_law_331 : decode cL_law 331 = .ok (.iconst 0, 1) := by decide +kernel
theorem dL_law_332 : decode cL_law 332 = .ok (.if_icmp .ne 22, 3) := by decide +kernel
theorem dL_law_335 : decode cL_law 335 = .ok (.iload 7, 2) := by decide +kernel
theorem dL_law_337 : decode cL_law 337 = .ok (.ifCond .lt 17, 3) := by decide +kernel
theorem dL_law_340 : decode cL_law 340 = .ok (.iload 8, 2) := by decide +kernel
theorem dL_law_342 : decode cL_law 342 = .ok (.bipush 100, 2) := by decide +kernel
theorem dL_law_344 : decode cL_law 344 = .ok (.aload_n 1, 1) := by decide +kernel
theorem dL_law_345 : decode cL_law 345 = .ok (.bipush 10, 2) := by decide +kernel
theorem dL_law_347 : decode cL_law 347 = .ok (.invokevirtual 52, 3) := by decide +kernel
theorem dL_law_350 : decode cL_law 350 = .ok (.imul, 1) := by decide +kernel
theorem dL_law_351 : decode cL_law 351 = .ok (.if_icmp .lt 5, 3) := by decide +kernel
theorem dL_law_354 : decode cL_law 354 = .ok (.iconst 0, 1) := by decide +kernel
theorem dL_law_355 : decode cL_law 355 = .ok (.ireturn, 1) := by decide +kernel
theorem dL_law_356 : decode cL_law 356 = .ok (.iinc 4 1, 3) := by decide +kernel
theorem dL_law_359 : decode cL_law 359 = .ok (.goto (-324), 3) := by decide +kernel
theorem dL_law_362 : decode cL_law 362 = .ok (.aload_n 1, 1) := by decide +kernel
theorem dL_law_363 : decode cL_law 363 = .ok (.aload_n 2, 1) := by decide +kernel
theorem dL_law_364 : decode cL_law 364 = .ok (.invokestatic 113, 3) := by decide +kernel
theorem dL_law_367 : decode cL_law 367 = .ok (.ifCond .eq 16, 3) := by decide +kernel
theorem dL_law_370 : decode cL_law 370 = .ok (.aload_n 1, 1) := by decide +kernel
theorem dL_law_371 : decode cL_law 371 = .ok (.bipush 11, 2) := by decide +kernel
theorem dL_law_373 : decode cL_law 373 = .ok (.invokevirtual 52, 3) := by decide +kernel
theorem dL_law_376 : decode cL_law 376 = .ok (.ifCond .ne 7, 3) := by decide +kernel
theorem dL_law_379 : decode cL_law 379 = .ok (.iconst 1, 1) := by decide +kernel
theorem dL_law_380 : decode cL_law 380 = .ok (.goto 4, 3) := by decide +kernel
theorem dL_law_383 : decode cL_law 383 = .ok (.iconst 0, 1) := by decide +kernel
theorem dL_law_384 : decode cL_law 384 = .ok (.ireturn, 1) := by decide +kernel

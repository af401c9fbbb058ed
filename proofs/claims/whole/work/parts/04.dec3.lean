theorem dX8_init_0 : decode cX8_init 0 = .ok (.aload_n 0, 1) := by decide +kernel
theorem dX8_init_1 : decode cX8_init 1 = .ok (.invokespecial 1, 3) := by decide +kernel
theorem dX8_init_4 : decode cX8_init 4 = .ok (.aload_n 0, 1) := by decide +kernel
theorem dX8_init_5 : decode cX8_init 5 = .ok (.bipush 36, 2) := by decide +kernel
theorem dX8_init_7 : decode cX8_init 7 = .ok (.newarray .int, 2) := by decide +kernel
theorem dX8_init_9 : decode cX8_init 9 = .ok (.putfield 7, 3) := by decide +kernel
theorem dX8_init_12 : decode cX8_init 12 = .ok (.aload_n 0, 1) := by decide +kernel
theorem dX8_init_13 : decode cX8_init 13 = .ok (.bipush 8, 2) := by decide +kernel
theorem dX8_init_15 : decode cX8_init 15 = .ok (.newarray .int, 2) := by decide +kernel
theorem dX8_init_17 : decode cX8_init 17 = .ok (.putfield 13, 3) := by decide +kernel
theorem dX8_init_20 : decode cX8_init 20 = .ok (.aload_n 0, 1) := by decide +kernel
theorem dX8_init_21 : decode cX8_init 21 = .ok (.bipush 8, 2) := by decide +kernel
theorem dX8_init_23 : decode cX8_init 23 = .ok (.newarray .int, 2) := by decide +kernel
theorem dX8_init_25 : decode cX8_init 25 = .ok (.putfield 16, 3) := by decide +kernel
theorem dX8_init_28 : decode cX8_init 28 = .ok (.aload_n 0, 1) := by decide +kernel
theorem dX8_init_29 : decode cX8_init 29 = .ok (.bipush 9, 2) := by decide +kernel
theorem dX8_init_31 : decode cX8_init 31 = .ok (.newarray .int, 2) := by decide +kernel
theorem dX8_init_33 : decode cX8_init 33 = .ok (.putfield 19, 3) := by decide +kernel
theorem dX8_init_36 : decode cX8_init 36 = .ok (.aload_n 0, 1) := by decide +kernel
theorem dX8_init_37 : decode cX8_init 37 = .ok (.bipush 54, 2) := by decide +kernel
theorem dX8_init_39 : decode cX8_init 39 = .ok (.newarray .int, 2) := by decide +kernel
theorem dX8_init_41 : decode cX8_init 41 = .ok (.putfield 22, 3) := by decide +kernel
theorem dX8_init_44 : decode cX8_init 44 = .ok (.aload_n 0, 1) := by decide +kernel
theorem dX8_init_45 : decode cX8_init 45 = .ok (.sipush 432, 3) := by decide +kernel
theorem dX8_init_48 : decode cX8_init 48 = .ok (.newarray .int, 2) := by decide +kernel
theorem dX8_init_50 : decode cX8_init 50 = .ok (.putfield 25, 3) := by decide +kernel
theorem dX8_init_53 : decode cX8_init 53 = .ok (.aload_n 0, 1) := by decide +kernel
theorem dX8_init_54 : decode cX8_init 54 = .ok (.bipush 8, 2) := by decide +kernel
theorem dX8_init_56 : decode cX8_init 56 = .ok (.newarray .int, 2) := by decide +kernel
theorem dX8_init_58 : decode cX8_init 58 = .ok (.putfield 28, 3) := by decide +kernel
theorem dX8_init_61 : decode cX8_init 61 = .ok (.aload_n 0, 1) := by decide +kernel
theorem dX8_init_62 : decode cX8_init 62 = .ok (.bipush 108, 2) := by decide +kernel
theorem dX8_init_64 : decode cX8_init 64 = .ok (.newarray .int, 2) := by decide +kernel
theorem dX8_init_66 : decode cX8_init 66 = .ok (.putfield 31, 3) := by decide +kernel
theorem dX8_init_69 : decode cX8_init 69 = .ok (.aload_n 0, 1) := by decide +kernel
theorem dX8_init_70 : decode cX8_init 70 = .ok (.sipush 200, 3) := by decide +kernel
theorem dX8_init_73 : decode cX8_init 73 = .ok (.newarray .int, 2) := by decide +kernel
theorem dX8_init_75 : decode cX8_init 75 = .ok (.putfield 34, 3) := by decide +kernel
theorem dX8_init_78 : decode cX8_init 78 = .ok (.aload_n 0, 1) := by decide +kernel
theorem dX8_init_79 : decode cX8_init 79 = .ok (.iconst 3, 1) := by decide +kernel
theorem dX8_init_80 : decode cX8_init 80 = .ok (.newarray .int, 2) := by decide +kernel
theorem dX8_init_82 : decode cX8_init 82 = .ok (.putfield 37, 3) := by decide +kernel
theorem dX8_init_85 : decode cX8_init 85 = .ok (.aload_n 0, 1) := by decide +kernel
theorem dX8_init_86 : decode cX8_init 86 = .ok (.bipush 36, 2) := by decide +kernel
theorem dX8_init_88 : decode cX8_init 88 = .ok (.newarray .int, 2) := by decide +kernel
theorem dX8_init_90 : decode cX8_init 90 = .ok (.putfield 40, 3) := by decide +kernel
theorem dX8_init_93 : decode cX8_init 93 = .ok (.aload_n 0, 1) := by decide +kernel
theorem dX8_init_94 : decode cX8_init 94 = .ok (.bipush 8, 2) := by decide +kernel
theorem dX8_init_96 : decode cX8_init 96 = .ok (.newarray .int, 2) := by decide +kernel
theorem dX8_init_98 : decode cX8_init 98 = .ok (.putfield 43, 3) := by decide +kernel
theorem dX8_init_101 : decode cX8_init 101 = .ok (.aload_n 0, 1) := by decide +kernel
theorem dX8_init_102 : decode cX8_init 102 = .ok (.bipush 8, 2) := by decide +kernel
theorem dX8_init_104 : decode cX8_init 104 = .ok (.newarray .int, 2) := by decide +kernel
theorem dX8_init_106 : decode cX8_init 106 = .ok (.putfield 46, 3) := by decide +kernel
theorem dX8_init_109 : decode cX8_init 109 = .ok (.aload_n 0, 1) := by decide +kernel
theorem dX8_init_110 : decode cX8_init 110 = .ok (.bipush 8, 2) := by decide +kernel
theorem dX8_init_112 : decode cX8_init 112 = .ok (.newarray .int, 2) := by decide +kernel
theorem dX8_init_114 : decode cX8_init 114 = .ok (.putfield 49, 3) := by decide +kernel
theorem dX8_init_117 : decode cX8_init 117 = .ok (.aload_n 0, 1) := by decide +kernel
theorem dX8_init_118 : decode cX8_init 118 = .ok (.bipush 9, 2) := by decide +kernel
theorem dX8_init_120 : decode cX8_init 120 = .ok (.newarray .int, 2) := by decide +kernel
theorem dX8_init_122 : decode cX8_init 122 = .ok (.putfield 52, 3) := by decide +kernel
theorem dX8_init_125 : decode cX8_init 125 = .ok (.aload_n 0, 1) := by decide +kernel
theorem dX8_init_126 : decode cX8_init 126 = .ok (.bipush 54, 2) := by decide +kernel
theorem dX8_init_128 : decode cX8_init 128 = .ok (.newarray .int, 2) := by decide +kernel
theorem dX8_init_130 : decode cX8_init 130 = .ok (.putfield 55, 3) := by decide +kernel
theorem dX8_init_133 : decode cX8_init 133 = .ok (.aload_n 0, 1) := by decide +kernel
theorem dX8_init_134 : decode cX8_init 134 = .ok (.bipush 72, 2) := by decide +kernel
theorem dX8_init_136 : decode cX8_init 136 = .ok (.newarray .int, 2) := by decide +kernel
theorem dX8_init_138 : decode cX8_init 138 = .ok (.putfield 58, 3) := by decide +kernel
theorem dX8_init_141 : decode cX8_init 141 = .ok (.aload_n 0, 1) := by decide +kernel
theorem dX8_init_142 : decode cX8_init 142 = .ok (.bipush 72, 2) := by decide +kernel
theorem dX8_init_144 : decode cX8_init 144 = .ok (.newarray .int, 2) := by decide +kernel
theorem dX8_init_146 : decode cX8_init 146 = .ok (.putfield 61, 3) := by decide +kernel
theorem dX8_init_149 : decode cX8_init 149 = .ok (.aload_n 0, 1) := by decide +kernel
theorem dX8_init_150 : decode cX8_init 150 = .ok (.bipush 72, 2) := by decide +kernel
theorem dX8_init_152 : decode cX8_init 152 = .ok (.newarray .int, 2) := by decide +kernel
theorem dX8_init_154 : decode cX8_init 154 = .ok (.putfield 64, 3) := by decide +kernel
theorem dX8_init_157 : decode cX8_init 157 = .ok (.aload_n 0, 1) := by decide +kernel
theorem dX8_init_158 : decode cX8_init 158 = .ok (.bipush 72, 2) := by decide +kernel
theorem dX8_init_160 : decode cX8_init 160 = .ok (.newarray .int, 2) := by decide +kernel
theorem dX8_init_162 : decode cX8_init 162 = .ok (.putfield 67, 3) := by decide +kernel
theorem dX8_init_165 : decode cX8_init 165 = .ok (.aload_n 0, 1) := by decide +kernel
theorem dX8_init_166 : decode cX8_init 166 = .ok (.sipush 324, 3) := by decide +kernel
theorem dX8_init_169 : decode cX8_init 169 = .ok (.newarray .int, 2) := by decide +kernel
theorem dX8_init_171 : decode cX8_init 171 = .ok (.putfield 70, 3) := by decide +kernel
theorem dX8_init_174 : decode cX8_init 174 = .ok (.aload_n 0, 1) := by decide +kernel
theorem dX8_init_175 : decode cX8_init 175 = .ok (.bipush 6, 2) := by decide +kernel
theorem dX8_init_177 : decode cX8_init 177 = .ok (.newarray .int, 2) := by decide +kernel
theorem dX8_init_179 : decode cX8_init 179 = .ok (.putfield 73, 3) := by decide +kernel
theorem dX8_init_182 : decode cX8_init 182 = .ok (.aload_n 0, 1) := by decide +kernel
theorem dX8_init_183 : decode cX8_init 183 = .ok (.bipush 6, 2) := by decide +kernel
theorem dX8_init_185 : decode cX8_init 185 = .ok (.newarray .int, 2) := by decide +kernel
theorem dX8_init_187 : decode cX8_init 187 = .ok (.putfield 76, 3) := by decide +kernel
theorem dX8_init_190 : decode cX8_init 190 = .ok (.aload_n 0, 1) := by decide +kernel
theorem dX8_init_191 : decode cX8_init 191 = .ok (.invokevirtual 79, 3) := by decide +kernel
theorem dX8_init_194 : decode cX8_init 194 = .ok (.aload_n 0, 1) := by decide +kernel
theorem dX8_init_195 : decode cX8_init 195 = .ok (.sipush 1203, 3) := by decide +kernel
theorem dX8_init_198 : decode cX8_init 198 = .ok (.invokevirtual 82, 3) := by decide +kernel
theorem dX8_init_201 : decode cX8_init 201 = .ok (.aload_n 0, 1) := by decide +kernel
theorem dX8_init_202 : decode cX8_init 202 = .ok (.sipush 30092, 3) := by decide +kernel
theorem dX8_init_205 : decode cX8_init 205 = .ok (.invokevirtual 82, 3) := by decide +kernel
theorem dX8_init_208 : decode cX8_init 208 = .ok (.aload_n 0, 1) := by decide +kernel
theorem dX8_init_209 : decode cX8_init 209 = .ok (.sipush 410, 3) := by decide +kernel
theorem dX8_init_212 : decode cX8_init 212 = .ok (.invokevirtual 82, 3) := by decide +kernel
theorem dX8_init_215 : decode cX8_init 215 = .ok (.aload_n 0, 1) := by decide +kernel
theorem dX8_init_216 : decode cX8_init 216 = .ok (.sipush 29000, 3) := by decide +kernel
theorem dX8_init_219 : decode cX8_init 219 = .ok (.invokevirtual 82, 3) := by decide +kernel
theorem dX8_init_222 : decode cX8_init 222 = .ok (.aload_n 0, 1) := by decide +kernel
theorem dX8_init_223 : decode cX8_init 223 = .ok (.sipush 130, 3) := by decide +kernel
theorem dX8_init_226 : decode cX8_init 226 = .ok (.invokevirtual 82, 3) := by decide +kernel
theorem dX8_init_229 : decode cX8_init 229 = .ok (.aload_n 0, 1) := by decide +kernel
theorem dX8_init_230 : decode cX8_init 230 = .ok (.iconst 0, 1) := by decide +kernel
theorem dX8_init_231 : decode cX8_init 231 = .ok (.iconst 0, 1) := by decide +kernel
theorem dX8_init_232 : decode cX8_init 232 = .ok (.bipush 22, 2) := by decide +kernel
theorem dX8_init_234 : decode cX8_init 234 = .ok (.invokevirtual 86, 3) := by decide +kernel
theorem dX8_init_237 : decode cX8_init 237 = .ok (.aload_n 0, 1) := by decide +kernel
theorem dX8_init_238 : decode cX8_init 238 = .ok (.iconst 1, 1) := by decide +kernel
theorem dX8_init_239 : decode cX8_init 239 = .ok (.iconst 0, 1) := by decide +kernel
theorem dX8_init_240 : decode cX8_init 240 = .ok (.bipush 20, 2) := by decide +kernel
theorem dX8_init_242 : decode cX8_init 242 = .ok (.invokevirtual 86, 3) := by decide +kernel
theorem dX8_init_245 : decode cX8_init 245 = .ok (.aload_n 0, 1) := by decide +kernel
theorem dX8_init_246 : decode cX8_init 246 = .ok (.iconst 2, 1) := by decide +kernel
theorem dX8_init_247 : decode cX8_init 247 = .ok (.iconst 0, 1) := by decide +kernel
theorem dX8_init_248 : decode cX8_init 248 = .ok (.bipush 21, 2) := by decide +kernel
theorem dX8_init_250 : decode cX8_init 250 = .ok (.invokevirtual 86, 3) := by decide +kernel
theorem dX8_init_253 : decode cX8_init 253 = .ok (.aload_n 0, 1) := by decide +kernel
theorem dX8_init_254 : decode cX8_init 254 = .ok (.iconst 3, 1) := by decide +kernel
theorem dX8_init_255 : decode cX8_init 255 = .ok (.iconst 0, 1) := by decide +kernel
theorem dX8_init_256 : decode cX8_init 256 = .ok (.bipush 24, 2) := by decide +kernel
theorem dX8_init_258 : decode cX8_init 258 = .ok (.invokevirtual 86, 3) := by decide +kernel
theorem dX8_init_261 : decode cX8_init 261 = .ok (.aload_n 0, 1) := by decide +kernel
theorem dX8_init_262 : decode cX8_init 262 = .ok (.iconst 0, 1) := by decide +kernel
theorem dX8_init_263 : decode cX8_init 263 = .ok (.iconst 1, 1) := by decide +kernel
theorem dX8_init_264 : decode cX8_init 264 = .ok (.iconst 2, 1) := by decide +kernel
theorem dX8_init_265 : decode cX8_init 265 = .ok (.invokevirtual 86, 3) := by decide +kernel
theorem dX8_init_268 : decode cX8_init 268 = .ok (.aload_n 0, 1) := by decide +kernel
theorem dX8_init_269 : decode cX8_init 269 = .ok (.iconst 1, 1) := by decide +kernel
theorem dX8_init_270 : decode cX8_init 270 = .ok (.iconst 1, 1) := by decide +kernel
theorem dX8_init_271 : decode cX8_init 271 = .ok (.iconst 4, 1) := by decide +kernel
theorem dX8_init_272 : decode cX8_init 272 = .ok (.invokevirtual 86, 3) := by decide +kernel
theorem dX8_init_275 : decode cX8_init 275 = .ok (.aload_n 0, 1) := by decide +kernel
theorem dX8_init_276 : decode cX8_init 276 = .ok (.iconst 2, 1) := by decide +kernel
theorem dX8_init_277 : decode cX8_init 277 = .ok (.iconst 1, 1) := by decide +kernel
theorem dX8_init_278 : decode cX8_init 278 = .ok (.iconst 1, 1) := by decide +kernel
theorem dX8_init_279 : decode cX8_init 279 = .ok (.invokevirtual 86, 3) := by decide +kernel
theorem dX8_init_282 : decode cX8_init 282 = .ok (.aload_n 0, 1) := by decide +kernel
theorem dX8_init_283 : decode cX8_init 283 = .ok (.iconst 3, 1) := by decide +kernel
theorem dX8_init_284 : decode cX8_init 284 = .ok (.iconst 1, 1) := by decide +kernel
theorem dX8_init_285 : decode cX8_init 285 = .ok (.iconst 0, 1) := by decide +kernel
theorem dX8_init_286 : decode cX8_init 286 = .ok (.invokevirtual 86, 3) := by decide +kernel
theorem dX8_init_289 : decode cX8_init 289 = .ok (.aload_n 0, 1) := by decide +kernel
theorem dX8_init_290 : decode cX8_init 290 = .ok (.bipush 7, 2) := by decide +kernel
theorem dX8_init_292 : decode cX8_init 292 = .ok (.putfield 90, 3) := by decide +kernel
theorem dX8_init_295 : decode cX8_init 295 = .ok (.aload_n 0, 1) := by decide +kernel
theorem dX8_init_296 : decode cX8_init 296 = .ok (.iconst 3, 1) := by decide +kernel
theorem dX8_init_297 : decode cX8_init 297 = .ok (.putfield 94, 3) := by decide +kernel
theorem dX8_init_300 : decode cX8_init 300 = .ok (.aload_n 0, 1) := by decide +kernel
theorem dX8_init_301 : decode cX8_init 301 = .ok (.iconst 4, 1) := by decide +kernel
theorem dX8_init_302 : decode cX8_init 302 = .ok (.putfield 97, 3) := by decide +kernel
theorem dX8_init_305 : decode cX8_init 305 = .ok (.aload_n 0, 1) := by decide +kernel
theorem dX8_init_306 : decode cX8_init 306 = .ok (.getfield 52, 3) := by decide +kernel
theorem dX8_init_309 : decode cX8_init 309 = .ok (.iconst 3, 1) := by decide +kernel
theorem dX8_init_310 : decode cX8_init 310 = .ok (.iconst 1, 1) := by decide +kernel
theorem dX8_init_311 : decode cX8_init 311 = .ok (.iastore, 1) := by decide +kernel
theorem dX8_init_312 : decode cX8_init 312 = .ok (.aload_n 0, 1) := by decide +kernel
theorem dX8_init_313 : decode cX8_init 313 = .ok (.invokevirtual 100, 3) := by decide +kernel
theorem dX8_init_316 : decode cX8_init 316 = .ok (.return_, 1) := by decide +kernel
theorem dX8_tellsRow_0 : decode cX8_tellsRow 0 = .ok (.aload_n 0, 1) := by decide +kernel
theorem dX8_tellsRow_1 : decode cX8_tellsRow 1 = .ok (.iconst 5, 1) := by decide +kernel
theorem dX8_tellsRow_2 : decode cX8_tellsRow 2 = .ok (.putfield 103, 3) := by decide +kernel
theorem dX8_tellsRow_5 : decode cX8_tellsRow 5 = .ok (.iload_n 1, 1) := by decide +kernel
theorem dX8_tellsRow_6 : decode cX8_tellsRow 6 = .ok (.istore_n 2, 1) := by decide +kernel
theorem dX8_tellsRow_7 : decode cX8_tellsRow 7 = .ok (.iconst 4, 1) := by decide +kernel
theorem dX8_tellsRow_8 : decode cX8_tellsRow 8 = .ok (.istore_n 3, 1) := by decide +kernel
theorem dX8_tellsRow_9 : decode cX8_tellsRow 9 = .ok (.iload_n 3, 1) := by decide +kernel
theorem dX8_tellsRow_10 : decode cX8_tellsRow 10 = .ok (.ifCond .lt 29, 3) := by decide +kernel
theorem dX8_tellsRow_13 : decode cX8_tellsRow 13 = .ok (.aload_n 0, 1) := by decide +kernel
theorem dX8_tellsRow_14 : decode cX8_tellsRow 14 = .ok (.getfield 40, 3) := by decide +kernel
theorem dX8_tellsRow_17 : decode cX8_tellsRow 17 = .ok (.aload_n 0, 1) := by decide +kernel
theorem dX8_tellsRow_18 : decode cX8_tellsRow 18 = .ok (.getfield 106, 3) := by decide +kernel
theorem dX8_tellsRow_21 : decode cX8_tellsRow 21 = .ok (.iload_n 3, 1) := by decide +kernel
theorem dX8_tellsRow_22 : decode cX8_tellsRow 22 = .ok (.iadd, 1) := by decide +kernel
theorem dX8_tellsRow_23 : decode cX8_tellsRow 23 = .ok (.iload_n 2, 1) := by decide +kernel
theorem dX8_tellsRow_24 : decode cX8_tellsRow 24 = .ok (.bipush 10, 2) := by decide +kernel
theorem dX8_tellsRow_26 : decode cX8_tellsRow 26 = .ok (.irem, 1) := by decide +kernel
theorem dX8_tellsRow_27 : decode cX8_tellsRow 27 = .ok (.iastore, 1) := by decide +kernel
theorem dX8_tellsRow_28 : decode cX8_tellsRow 28 = .ok (.iload_n 2, 1) := by decide +kernel
theorem dX8_tellsRow_29 : decode cX8_tellsRow 29 = .ok (.bipush 10, 2) := by decide +kernel
theorem dX8_tellsRow_31 : decode cX8_tellsRow 31 = .ok (.idiv, 1) := by decide +kernel
theorem dX8_tellsRow_32 : decode cX8_tellsRow 32 = .ok (.istore_n 2, 1) := by decide +kernel
theorem dX8_tellsRow_33 : decode cX8_tellsRow 33 = .ok (.iinc 3 (-1), 3) := by decide +kernel
theorem dX8_tellsRow_36 : decode cX8_tellsRow 36 = .ok (.goto (-27), 3) := by decide +kernel
theorem dX8_tellsRow_39 : decode cX8_tellsRow 39 = .ok (.aload_n 0, 1) := by decide +kernel
theorem dX8_tellsRow_40 : decode cX8_tellsRow 40 = .ok (.dup, 1) := by decide +kernel
theorem dX8_tellsRow_41 : decode cX8_tellsRow 41 = .ok (.getfield 106, 3) := by decide +kernel
theorem dX8_tellsRow_44 : decode cX8_tellsRow 44 = .ok (.iconst 5, 1) := by decide +kernel
theorem dX8_tellsRow_45 : decode cX8_tellsRow 45 = .ok (.iadd, 1) := by decide +kernel
theorem dX8_tellsRow_46 : decode cX8_tellsRow 46 = .ok (.putfield 106, 3) := by decide +kernel
theorem dX8_tellsRow_49 : decode cX8_tellsRow 49 = .ok (.return_, 1) := by decide +kernel
theorem dX8_tellsBeast_0 : decode cX8_tellsBeast 0 = .ok (.aload_n 0, 1) := by decide +kernel
theorem dX8_tellsBeast_1 : decode cX8_tellsBeast 1 = .ok (.getfield 43, 3) := by decide +kernel
theorem dX8_tellsBeast_4 : decode cX8_tellsBeast 4 = .ok (.aload_n 0, 1) := by decide +kernel
theorem dX8_tellsBeast_5 : decode cX8_tellsBeast 5 = .ok (.getfield 109, 3) := by decide +kernel
theorem dX8_tellsBeast_8 : decode cX8_tellsBeast 8 = .ok (.iload_n 1, 1) := by decide +kernel
theorem dX8_tellsBeast_9 : decode cX8_tellsBeast 9 = .ok (.iastore, 1) := by decide +kernel
theorem dX8_tellsBeast_10 : decode cX8_tellsBeast 10 = .ok (.aload_n 0, 1) := by decide +kernel
theorem dX8_tellsBeast_11 : decode cX8_tellsBeast 11 = .ok (.getfield 46, 3) := by decide +kernel
theorem dX8_tellsBeast_14 : decode cX8_tellsBeast 14 = .ok (.aload_n 0, 1) := by decide +kernel
theorem dX8_tellsBeast_15 : decode cX8_tellsBeast 15 = .ok (.getfield 109, 3) := by decide +kernel
theorem dX8_tellsBeast_18 : decode cX8_tellsBeast 18 = .ok (.iload_n 2, 1) := by decide +kernel
theorem dX8_tellsBeast_19 : decode cX8_tellsBeast 19 = .ok (.iastore, 1) := by decide +kernel
theorem dX8_tellsBeast_20 : decode cX8_tellsBeast 20 = .ok (.aload_n 0, 1) := by decide +kernel
theorem dX8_tellsBeast_21 : decode cX8_tellsBeast 21 = .ok (.getfield 49, 3) := by decide +kernel
theorem dX8_tellsBeast_24 : decode cX8_tellsBeast 24 = .ok (.aload_n 0, 1) := by decide +kernel
theorem dX8_tellsBeast_25 : decode cX8_tellsBeast 25 = .ok (.getfield 109, 3) := by decide +kernel
theorem dX8_tellsBeast_28 : decode cX8_tellsBeast 28 = .ok (.iload_n 3, 1) := by decide +kernel
theorem dX8_tellsBeast_29 : decode cX8_tellsBeast 29 = .ok (.iastore, 1) := by decide +kernel
theorem dX8_tellsBeast_30 : decode cX8_tellsBeast 30 = .ok (.aload_n 0, 1) := by decide +kernel
theorem dX8_tellsBeast_31 : decode cX8_tellsBeast 31 = .ok (.dup, 1) := by decide +kernel
theorem dX8_tellsBeast_32 : decode cX8_tellsBeast 32 = .ok (.getfield 109, 3) := by decide +kernel
theorem dX8_tellsBeast_35 : decode cX8_tellsBeast 35 = .ok (.iconst 1, 1) := by decide +kernel
theorem dX8_tellsBeast_36 : decode cX8_tellsBeast 36 = .ok (.iadd, 1) := by decide +kernel
theorem dX8_tellsBeast_37 : decode cX8_tellsBeast 37 = .ok (.putfield 109, 3) := by decide +kernel
theorem dX8_tellsBeast_40 : decode cX8_tellsBeast 40 = .ok (.return_, 1) := by decide +kernel
theorem dX8_in_0 : decode cX8_in 0 = .ok (.iload_n 0, 1) := by decide +kernel
theorem dX8_in_1 : decode cX8_in 1 = .ok (.iload_n 1, 1) := by decide +kernel
theorem dX8_in_2 : decode cX8_in 2 = .ok (.if_icmp .lt 12, 3) := by decide +kernel
theorem dX8_in_5 : decode cX8_in 5 = .ok (.iload_n 0, 1) := by decide +kernel
theorem dX8_in_6 : decode cX8_in 6 = .ok (.iload_n 2, 1) := by decide +kernel
theorem dX8_in_7 : decode cX8_in 7 = .ok (.if_icmp .gt 7, 3) := by decide +kernel
theorem dX8_in_10 : decode cX8_in 10 = .ok (.iconst 1, 1) := by decide +kernel
theorem dX8_in_11 : decode cX8_in 11 = .ok (.goto 4, 3) := by decide +kernel
theorem dX8_in_14 : decode cX8_in 14 = .ok (.iconst 0, 1) := by decide +kernel
theorem dX8_in_15 : decode cX8_in 15 = .ok (.ireturn, 1) := by decide +kernel
theorem dX8_has_0 : decode cX8_has 0 = .ok (.iload_n 0, 1) := by decide +kernel
theorem dX8_has_1 : decode cX8_has 1 = .ok (.iload_n 1, 1) := by decide +kernel
theorem dX8_has_2 : decode cX8_has 2 = .ok (.ishr, 1) := by decide +kernel
theorem dX8_has_3 : decode cX8_has 3 = .ok (.iconst 1, 1) := by decide +kernel
theorem dX8_has_4 : decode cX8_has 4 = .ok (.iand, 1) := by decide +kernel
theorem dX8_has_5 : decode cX8_has 5 = .ok (.iconst 1, 1) := by decide +kernel
theorem dX8_has_6 : decode cX8_has 6 = .ok (.if_icmp .ne 7, 3) := by decide +kernel
theorem dX8_has_9 : decode cX8_has 9 = .ok (.iconst 1, 1) := by decide +kernel
theorem dX8_has_10 : decode cX8_has 10 = .ok (.goto 4, 3) := by decide +kernel
theorem dX8_has_13 : decode cX8_has 13 = .ok (.iconst 0, 1) := by decide +kernel
theorem dX8_has_14 : decode cX8_has 14 = .ok (.ireturn, 1) := by decide +kernel
theorem dX8_isBeast_0 : decode cX8_isBeast 0 = .ok (.iload_n 1, 1) := by decide +kernel
theorem dX8_isBeast_1 : decode cX8_isBeast 1 = .ok (.iconst 0, 1) := by decide +kernel
theorem dX8_isBeast_2 : decode cX8_isBeast 2 = .ok (.aload_n 0, 1) := by decide +kernel
theorem dX8_isBeast_3 : decode cX8_isBeast 3 = .ok (.getfield 112, 3) := by decide +kernel
theorem dX8_isBeast_6 : decode cX8_isBeast 6 = .ok (.iconst 1, 1) := by decide +kernel
theorem dX8_isBeast_7 : decode cX8_isBeast 7 = .ok (.isub, 1) := by decide +kernel
theorem dX8_isBeast_8 : decode cX8_isBeast 8 = .ok (.invokestatic 115, 3) := by decide +kernel
theorem dX8_isBeast_11 : decode cX8_isBeast 11 = .ok (.ireturn, 1) := by decide +kernel
theorem dX8_isSquare_0 : decode cX8_isSquare 0 = .ok (.iload_n 1, 1) := by decide +kernel
theorem dX8_isSquare_1 : decode cX8_isSquare 1 = .ok (.iconst 0, 1) := by decide +kernel
theorem dX8_isSquare_2 : decode cX8_isSquare 2 = .ok (.aload_n 0, 1) := by decide +kernel
theorem dX8_isSquare_3 : decode cX8_isSquare 3 = .ok (.getfield 119, 3) := by decide +kernel
theorem dX8_isSquare_6 : decode cX8_isSquare 6 = .ok (.iconst 1, 1) := by decide +kernel
theorem dX8_isSquare_7 : decode cX8_isSquare 7 = .ok (.isub, 1) := by decide +kernel
theorem dX8_isSquare_8 : decode cX8_isSquare 8 = .ok (.invokestatic 115, 3) := by decide +kernel
theorem dX8_isSquare_11 : decode cX8_isSquare 11 = .ok (.ireturn, 1) := by decide +kernel
theorem dX8_write_0 : decode cX8_write 0 = .ok (.iload_n 1, 1) := by decide +kernel
theorem dX8_write_1 : decode cX8_write 1 = .ok (.bipush 32, 2) := by decide +kernel
theorem dX8_write_3 : decode cX8_write 3 = .ok (.bipush 126, 2) := by decide +kernel
theorem dX8_write_5 : decode cX8_write 5 = .ok (.invokestatic 115, 3) := by decide +kernel
theorem dX8_write_8 : decode cX8_write 8 = .ok (.ifCond .ne 5, 3) := by decide +kernel
theorem dX8_write_11 : decode cX8_write 11 = .ok (.iconst (-1), 1) := by decide +kernel
theorem dX8_write_12 : decode cX8_write 12 = .ok (.ireturn, 1) := by decide +kernel
theorem dX8_write_13 : decode cX8_write 13 = .ok (.aload_n 0, 1) := by decide +kernel
theorem dX8_write_14 : decode cX8_write 14 = .ok (.getfield 122, 3) := by decide +kernel
theorem dX8_write_17 : decode cX8_write 17 = .ok (.sipush 200, 3) := by decide +kernel
theorem dX8_write_20 : decode cX8_write 20 = .ok (.if_icmp .ne 6, 3) := by decide +kernel
theorem dX8_write_23 : decode cX8_write 23 = .ok (.bipush (-3), 2) := by decide +kernel
theorem dX8_write_25 : decode cX8_write 25 = .ok (.ireturn, 1) := by decide +kernel
theorem dX8_write_26 : decode cX8_write 26 = .ok (.aload_n 0, 1) := by decide +kernel
theorem dX8_write_27 : decode cX8_write 27 = .ok (.getfield 34, 3) := by decide +kernel
theorem dX8_write_30 : decode cX8_write 30 = .ok (.aload_n 0, 1) := by decide +kernel
theorem dX8_write_31 : decode cX8_write 31 = .ok (.getfield 122, 3) := by decide +kernel
theorem dX8_write_34 : decode cX8_write 34 = .ok (.iload_n 1, 1) := by decide +kernel
theorem dX8_write_35 : decode cX8_write 35 = .ok (.iastore, 1) := by decide +kernel
theorem dX8_write_36 : decode cX8_write 36 = .ok (.aload_n 0, 1) := by decide +kernel
theorem dX8_write_37 : decode cX8_write 37 = .ok (.dup, 1) := by decide +kernel
theorem dX8_write_38 : decode cX8_write 38 = .ok (.getfield 122, 3) := by decide +kernel
theorem dX8_write_41 : decode cX8_write 41 = .ok (.iconst 1, 1) := by decide +kernel
theorem dX8_write_42 : decode cX8_write 42 = .ok (.iadd, 1) := by decide +kernel
theorem dX8_write_43 : decode cX8_write 43 = .ok (.putfield 122, 3) := by decide +kernel
theorem dX8_write_46 : decode cX8_write 46 = .ok (.aload_n 0, 1) := by decide +kernel
theorem dX8_write_47 : decode cX8_write 47 = .ok (.getfield 122, 3) := by decide +kernel
theorem dX8_write_50 : decode cX8_write 50 = .ok (.ireturn, 1) := by decide +kernel
theorem dX8_wipe_0 : decode cX8_wipe 0 = .ok (.aload_n 0, 1) := by decide +kernel
theorem dX8_wipe_1 : decode cX8_wipe 1 = .ok (.getfield 122, 3) := by decide +kernel
theorem dX8_wipe_4 : decode cX8_wipe 4 = .ok (.istore_n 1, 1) := by decide +kernel
theorem dX8_wipe_5 : decode cX8_wipe 5 = .ok (.aload_n 0, 1) := by decide +kernel
theorem dX8_wipe_6 : decode cX8_wipe 6 = .ok (.iconst 0, 1) := by decide +kernel
theorem dX8_wipe_7 : decode cX8_wipe 7 = .ok (.putfield 122, 3) := by decide +kernel
theorem dX8_wipe_10 : decode cX8_wipe 10 = .ok (.iload_n 1, 1) := by decide +kernel
theorem dX8_wipe_11 : decode cX8_wipe 11 = .ok (.ireturn, 1) := by decide +kernel
theorem dX8_letterAt_0 : decode cX8_letterAt 0 = .ok (.iload_n 1, 1) := by decide +kernel
theorem dX8_letterAt_1 : decode cX8_letterAt 1 = .ok (.aload_n 0, 1) := by decide +kernel
theorem dX8_letterAt_2 : decode cX8_letterAt 2 = .ok (.getfield 122, 3) := by decide +kernel
theorem dX8_letterAt_5 : decode cX8_letterAt 5 = .ok (.if_icmp .ge 12, 3) := by decide +kernel
theorem dX8_letterAt_8 : decode cX8_letterAt 8 = .ok (.aload_n 0, 1) := by decide +kernel
theorem dX8_letterAt_9 : decode cX8_letterAt 9 = .ok (.getfield 34, 3) := by decide +kernel
theorem dX8_letterAt_12 : decode cX8_letterAt 12 = .ok (.iload_n 1, 1) := by decide +kernel
theorem dX8_letterAt_13 : decode cX8_letterAt 13 = .ok (.iaload, 1) := by decide +kernel
theorem dX8_letterAt_14 : decode cX8_letterAt 14 = .ok (.goto 4, 3) := by decide +kernel
theorem dX8_letterAt_17 : decode cX8_letterAt 17 = .ok (.iconst (-1), 1) := by decide +kernel
theorem dX8_letterAt_18 : decode cX8_letterAt 18 = .ok (.ireturn, 1) := by decide +kernel
theorem dX8_isFigure_0 : decode cX8_isFigure 0 = .ok (.iload_n 0, 1) := by decide +kernel
theorem dX8_isFigure_1 : decode cX8_isFigure 1 = .ok (.bipush 48, 2) := by decide +kernel
theorem dX8_isFigure_3 : decode cX8_isFigure 3 = .ok (.bipush 57, 2) := by decide +kernel
theorem dX8_isFigure_5 : decode cX8_isFigure 5 = .ok (.invokestatic 115, 3) := by decide +kernel
theorem dX8_isFigure_8 : decode cX8_isFigure 8 = .ok (.ireturn, 1) := by decide +kernel
theorem dX8_readNumbers_0 : decode cX8_readNumbers 0 = .ok (.iconst 0, 1) := by decide +kernel
theorem dX8_readNumbers_1 : decode cX8_readNumbers 1 = .ok (.istore_n 2, 1) := by decide +kernel
theorem dX8_readNumbers_2 : decode cX8_readNumbers 2 = .ok (.iload_n 2, 1) := by decide +kernel
theorem dX8_readNumbers_3 : decode cX8_readNumbers 3 = .ok (.iload_n 1, 1) := by decide +kernel
theorem dX8_readNumbers_4 : decode cX8_readNumbers 4 = .ok (.if_icmp .ge 140, 3) := by decide +kernel
theorem dX8_readNumbers_7 : decode cX8_readNumbers 7 = .ok (.aload_n 0, 1) := by decide +kernel
theorem dX8_readNumbers_8 : decode cX8_readNumbers 8 = .ok (.aload_n 0, 1) := by decide +kernel
theorem dX8_readNumbers_9 : decode cX8_readNumbers 9 = .ok (.getfield 125, 3) := by decide +kernel
theorem dX8_readNumbers_12 : decode cX8_readNumbers 12 = .ok (.invokevirtual 128, 3) := by decide +kernel
theorem dX8_readNumbers_15 : decode cX8_readNumbers 15 = .ok (.invokestatic 132, 3) := by decide +kernel
theorem dX8_readNumbers_18 : decode cX8_readNumbers 18 = .ok (.ifCond .ne 5, 3) := by decide +kernel
theorem dX8_readNumbers_21 : decode cX8_readNumbers 21 = .ok (.iconst 0, 1) := by decide +kernel
theorem dX8_readNumbers_22 : decode cX8_readNumbers 22 = .ok (.ireturn, 1) := by decide +kernel
theorem dX8_readNumbers_23 : decode cX8_readNumbers 23 = .ok (.aload_n 0, 1) := by decide +kernel
theorem dX8_readNumbers_24 : decode cX8_readNumbers 24 = .ok (.getfield 37, 3) := by decide +kernel
theorem dX8_readNumbers_27 : decode cX8_readNumbers 27 = .ok (.iload_n 2, 1) := by decide +kernel
theorem dX8_readNumbers_28 : decode cX8_readNumbers 28 = .ok (.aload_n 0, 1) := by decide +kernel
theorem dX8_readNumbers_29 : decode cX8_readNumbers 29 = .ok (.aload_n 0, 1) := by decide +kernel
theorem dX8_readNumbers_30 : decode cX8_readNumbers 30 = .ok (.getfield 125, 3) := by decide +kernel
theorem dX8_readNumbers_33 : decode cX8_readNumbers 33 = .ok (.invokevirtual 128, 3) := by decide +kernel
theorem dX8_readNumbers_36 : decode cX8_readNumbers 36 = .ok (.bipush 48, 2) := by decide +kernel
theorem dX8_readNumbers_38 : decode cX8_readNumbers 38 = .ok (.isub, 1) := by decide +kernel
theorem dX8_readNumbers_39 : decode cX8_readNumbers 39 = .ok (.iastore, 1) := by decide +kernel
theorem dX8_readNumbers_40 : decode cX8_readNumbers 40 = .ok (.aload_n 0, 1) := by decide +kernel
theorem dX8_readNumbers_41 : decode cX8_readNumbers 41 = .ok (.dup, 1) := by decide +kernel
theorem dX8_readNumbers_42 : decode cX8_readNumbers 42 = .ok (.getfield 125, 3) := by decide +kernel
theorem dX8_readNumbers_45 : decode cX8_readNumbers 45 = .ok (.iconst 1, 1) := by decide +kernel
theorem dX8_readNumbers_46 : decode cX8_readNumbers 46 = .ok (.iadd, 1) := by decide +kernel
theorem dX8_readNumbers_47 : decode cX8_readNumbers 47 = .ok (.putfield 125, 3) := by decide +kernel
theorem dX8_readNumbers_50 : decode cX8_readNumbers 50 = .ok (.aload_n 0, 1) := by decide +kernel
theorem dX8_readNumbers_51 : decode cX8_readNumbers 51 = .ok (.aload_n 0, 1) := by decide +kernel
theorem dX8_readNumbers_52 : decode cX8_readNumbers 52 = .ok (.getfield 125, 3) := by decide +kernel
theorem dX8_readNumbers_55 : decode cX8_readNumbers 55 = .ok (.invokevirtual 128, 3) := by decide +kernel
theorem dX8_readNumbers_58 : decode cX8_readNumbers 58 = .ok (.invokestatic 132, 3) := by decide +kernel
theorem dX8_readNumbers_61 : decode cX8_readNumbers 61 = .ok (.ifCond .eq 40, 3) := by decide +kernel
theorem dX8_readNumbers_64 : decode cX8_readNumbers 64 = .ok (.aload_n 0, 1) := by decide +kernel
theorem dX8_readNumbers_65 : decode cX8_readNumbers 65 = .ok (.getfield 37, 3) := by decide +kernel
theorem dX8_readNumbers_68 : decode cX8_readNumbers 68 = .ok (.iload_n 2, 1) := by decide +kernel
theorem dX8_readNumbers_69 : decode cX8_readNumbers 69 = .ok (.bipush 10, 2) := by decide +kernel
theorem dX8_readNumbers_71 : decode cX8_readNumbers 71 = .ok (.aload_n 0, 1) := by decide +kernel
theorem dX8_readNumbers_72 : decode cX8_readNumbers 72 = .ok (.getfield 37, 3) := by decide +kernel
theorem dX8_readNumbers_75 : decode cX8_readNumbers 75 = .ok (.iload_n 2, 1) := by decide +kernel
theorem dX8_readNumbers_76 : decode cX8_readNumbers 76 = .ok (.iaload, 1) := by decide +kernel
theorem dX8_readNumbers_77 : decode cX8_readNumbers 77 = .ok (.imul, 1) := by decide +kernel
theorem dX8_readNumbers_78 : decode cX8_readNumbers 78 = .ok (.aload_n 0, 1) := by decide +kernel
theorem dX8_readNumbers_79 : decode cX8_readNumbers 79 = .ok (.aload_n 0, 1) := by decide +kernel
theorem dX8_readNumbers_80 : decode cX8_readNumbers 80 = .ok (.getfield 125, 3) := by decide +kernel
theorem dX8_readNumbers_83 : decode cX8_readNumbers 83 = .ok (.invokevirtual 128, 3) := by decide +kernel
theorem dX8_readNumbers_86 : decode cX8_readNumbers 86 = .ok (.iadd, 1) := by decide +kernel
theorem dX8_readNumbers_87 : decode cX8_readNumbers 87 = .ok (.bipush 48, 2) := by decide +kernel
theorem dX8_readNumbers_89 : decode cX8_readNumbers 89 = .ok (.isub, 1) := by decide +kernel
theorem dX8_readNumbers_90 : decode cX8_readNumbers 90 = .ok (.iastore, 1) := by decide +kernel
theorem dX8_readNumbers_91 : decode cX8_readNumbers 91 = .ok (.aload_n 0, 1) := by decide +kernel
theorem dX8_readNumbers_92 : decode cX8_readNumbers 92 = .ok (.dup, 1) := by decide +kernel
theorem dX8_readNumbers_93 : decode cX8_readNumbers 93 = .ok (.getfield 125, 3) := by decide +kernel
theorem dX8_readNumbers_96 : decode cX8_readNumbers 96 = .ok (.iconst 1, 1) := by decide +kernel
theorem dX8_readNumbers_97 : decode cX8_readNumbers 97 = .ok (.iadd, 1) := by decide +kernel
theorem dX8_readNumbers_98 : decode cX8_readNumbers 98 = .ok (.putfield 125, 3) := by decide +kernel
theorem dX8_readNumbers_101 : decode cX8_readNumbers 101 = .ok (.aload_n 0, 1) := by decide +kernel
theorem dX8_readNumbers_102 : decode cX8_readNumbers 102 = .ok (.aload_n 0, 1) := by decide +kernel
theorem dX8_readNumbers_103 : decode cX8_readNumbers 103 = .ok (.getfield 125, 3) := by decide +kernel
theorem dX8_readNumbers_106 : decode cX8_readNumbers 106 = .ok (.invokevirtual 128, 3) := by decide +kernel
theorem dX8_readNumbers_109 : decode cX8_readNumbers 109 = .ok (.iload_n 2, 1) := by decide +kernel
theorem dX8_readNumbers_110 : decode cX8_readNumbers 110 = .ok (.iload_n 1, 1) := by decide +kernel
theorem dX8_readNumbers_111 : decode cX8_readNumbers 111 = .ok (.iconst 1, 1) := by decide +kernel
theorem dX8_readNumbers_112 : decode cX8_readNumbers 112 = .ok (.isub, 1) := by decide +kernel
theorem dX8_readNumbers_113 : decode cX8_readNumbers 113 = .ok (.if_icmp .ge 8, 3) := by decide +kernel
theorem dX8_readNumbers_116 : decode cX8_readNumbers 116 = .ok (.bipush 44, 2) := by decide +kernel
theorem dX8_readNumbers_118 : decode cX8_readNumbers 118 = .ok (.goto 5, 3) := by decide +kernel
theorem dX8_readNumbers_121 : decode cX8_readNumbers 121 = .ok (.bipush 59, 2) := by decide +kernel
theorem dX8_readNumbers_123 : decode cX8_readNumbers 123 = .ok (.if_icmp .eq 5, 3) := by decide +kernel
theorem dX8_readNumbers_126 : decode cX8_readNumbers 126 = .ok (.iconst 0, 1) := by decide +kernel
theorem dX8_readNumbers_127 : decode cX8_readNumbers 127 = .ok (.ireturn, 1) := by decide +kernel
theorem dX8_readNumbers_128 : decode cX8_readNumbers 128 = .ok (.aload_n 0, 1) := by decide +kernel
theorem dX8_readNumbers_129 : decode cX8_readNumbers 129 = .ok (.dup, 1) := by decide +kernel
theorem dX8_readNumbers_130 : decode cX8_readNumbers 130 = .ok (.getfield 125, 3) := by decide +kernel
theorem dX8_readNumbers_133 : decode cX8_readNumbers 133 = .ok (.iconst 1, 1) := by decide +kernel
theorem dX8_readNumbers_134 : decode cX8_readNumbers 134 = .ok (.iadd, 1) := by decide +kernel
theorem dX8_readNumbers_135 : decode cX8_readNumbers 135 = .ok (.putfield 125, 3) := by decide +kernel
theorem dX8_readNumbers_138 : decode cX8_readNumbers 138 = .ok (.iinc 2 1, 3) := by decide +kernel
theorem dX8_readNumbers_141 : decode cX8_readNumbers 141 = .ok (.goto (-139), 3) := by decide +kernel
theorem dX8_readNumbers_144 : decode cX8_readNumbers 144 = .ok (.iconst 1, 1) := by decide +kernel
theorem dX8_readNumbers_145 : decode cX8_readNumbers 145 = .ok (.ireturn, 1) := by decide +kernel
theorem dX8_isTold_0 : decode cX8_isTold 0 = .ok (.aload_n 0, 1) := by decide +kernel
theorem dX8_isTold_1 : decode cX8_isTold 1 = .ok (.getfield 37, 3) := by decide +kernel
theorem dX8_isTold_4 : decode cX8_isTold 4 = .ok (.iload_n 1, 1) := by decide +kernel
theorem dX8_isTold_5 : decode cX8_isTold 5 = .ok (.iaload, 1) := by decide +kernel
theorem dX8_isTold_6 : decode cX8_isTold 6 = .ok (.iload_n 2, 1) := by decide +kernel
theorem dX8_isTold_7 : decode cX8_isTold 7 = .ok (.iload_n 3, 1) := by decide +kernel
theorem dX8_isTold_8 : decode cX8_isTold 8 = .ok (.invokestatic 115, 3) := by decide +kernel
theorem dX8_isTold_11 : decode cX8_isTold 11 = .ok (.ireturn, 1) := by decide +kernel
theorem dX8_clearTold_0 : decode cX8_clearTold 0 = .ok (.aload_n 0, 1) := by decide +kernel
theorem dX8_clearTold_1 : decode cX8_clearTold 1 = .ok (.iconst 0, 1) := by decide +kernel
theorem dX8_clearTold_2 : decode cX8_clearTold 2 = .ok (.putfield 106, 3) := by decide +kernel
theorem dX8_clearTold_5 : decode cX8_clearTold 5 = .ok (.aload_n 0, 1) := by decide +kernel
theorem dX8_clearTold_6 : decode cX8_clearTold 6 = .ok (.iconst 0, 1) := by decide +kernel
theorem dX8_clearTold_7 : decode cX8_clearTold 7 = .ok (.putfield 103, 3) := by decide +kernel
theorem dX8_clearTold_10 : decode cX8_clearTold 10 = .ok (.aload_n 0, 1) := by decide +kernel
theorem dX8_clearTold_11 : decode cX8_clearTold 11 = .ok (.iconst 0, 1) := by decide +kernel
theorem dX8_clearTold_12 : decode cX8_clearTold 12 = .ok (.putfield 109, 3) := by decide +kernel
theorem dX8_clearTold_15 : decode cX8_clearTold 15 = .ok (.aload_n 0, 1) := by decide +kernel
theorem dX8_clearTold_16 : decode cX8_clearTold 16 = .ok (.bipush (-4), 2) := by decide +kernel
theorem dX8_clearTold_18 : decode cX8_clearTold 18 = .ok (.putfield 90, 3) := by decide +kernel
theorem dX8_clearTold_21 : decode cX8_clearTold 21 = .ok (.aload_n 0, 1) := by decide +kernel
theorem dX8_clearTold_22 : decode cX8_clearTold 22 = .ok (.iconst 4, 1) := by decide +kernel
theorem dX8_clearTold_23 : decode cX8_clearTold 23 = .ok (.putfield 94, 3) := by decide +kernel
theorem dX8_clearTold_26 : decode cX8_clearTold 26 = .ok (.aload_n 0, 1) := by decide +kernel
theorem dX8_clearTold_27 : decode cX8_clearTold 27 = .ok (.iconst 0, 1) := by decide +kernel
theorem dX8_clearTold_28 : decode cX8_clearTold 28 = .ok (.putfield 97, 3) := by decide +kernel
theorem dX8_clearTold_31 : decode cX8_clearTold 31 = .ok (.iconst 0, 1) := by decide +kernel
theorem dX8_clearTold_32 : decode cX8_clearTold 32 = .ok (.istore_n 1, 1) := by decide +kernel
theorem dX8_clearTold_33 : decode cX8_clearTold 33 = .ok (.iload_n 1, 1) := by decide +kernel
theorem dX8_clearTold_34 : decode cX8_clearTold 34 = .ok (.bipush 9, 2) := by decide +kernel
theorem dX8_clearTold_36 : decode cX8_clearTold 36 = .ok (.if_icmp .ge 16, 3) := by decide +kernel
theorem dX8_clearTold_39 : decode cX8_clearTold 39 = .ok (.aload_n 0, 1) := by decide +kernel
theorem dX8_clearTold_40 : decode cX8_clearTold 40 = .ok (.getfield 52, 3) := by decide +kernel
theorem dX8_clearTold_43 : decode cX8_clearTold 43 = .ok (.iload_n 1, 1) := by decide +kernel
theorem dX8_clearTold_44 : decode cX8_clearTold 44 = .ok (.iconst 0, 1) := by decide +kernel
theorem dX8_clearTold_45 : decode cX8_clearTold 45 = .ok (.iastore, 1) := by decide +kernel
theorem dX8_clearTold_46 : decode cX8_clearTold 46 = .ok (.iinc 1 1, 3) := by decide +kernel
theorem dX8_clearTold_49 : decode cX8_clearTold 49 = .ok (.goto (-16), 3) := by decide +kernel
theorem dX8_clearTold_52 : decode cX8_clearTold 52 = .ok (.return_, 1) := by decide +kernel
theorem dX8_readRow_0 : decode cX8_readRow 0 = .ok (.iconst 0, 1) := by decide +kernel
theorem dX8_readRow_1 : decode cX8_readRow 1 = .ok (.istore_n 1, 1) := by decide +kernel
theorem dX8_readRow_2 : decode cX8_readRow 2 = .ok (.aload_n 0, 1) := by decide +kernel
theorem dX8_readRow_3 : decode cX8_readRow 3 = .ok (.getfield 106, 3) := by decide +kernel
theorem dX8_readRow_6 : decode cX8_readRow 6 = .ok (.ifCond .le 19, 3) := by decide +kernel
theorem dX8_readRow_9 : decode cX8_readRow 9 = .ok (.aload_n 0, 1) := by decide +kernel
theorem dX8_readRow_10 : decode cX8_readRow 10 = .ok (.getfield 106, 3) := by decide +kernel
theorem dX8_readRow_13 : decode cX8_readRow 13 = .ok (.aload_n 0, 1) := by decide +kernel
theorem dX8_readRow_14 : decode cX8_readRow 14 = .ok (.getfield 103, 3) := by decide +kernel
theorem dX8_readRow_17 : decode cX8_readRow 17 = .ok (.idiv, 1) := by decide +kernel
theorem dX8_readRow_18 : decode cX8_readRow 18 = .ok (.bipush 6, 2) := by decide +kernel
theorem dX8_readRow_20 : decode cX8_readRow 20 = .ok (.if_icmp .ne 5, 3) := by decide +kernel
theorem dX8_readRow_23 : decode cX8_readRow 23 = .ok (.iconst 0, 1) := by decide +kernel
theorem dX8_readRow_24 : decode cX8_readRow 24 = .ok (.ireturn, 1) := by decide +kernel
theorem dX8_readRow_25 : decode cX8_readRow 25 = .ok (.aload_n 0, 1) := by decide +kernel
theorem dX8_readRow_26 : decode cX8_readRow 26 = .ok (.aload_n 0, 1) := by decide +kernel
theorem dX8_readRow_27 : decode cX8_readRow 27 = .ok (.getfield 125, 3) := by decide +kernel
theorem dX8_readRow_30 : decode cX8_readRow 30 = .ok (.invokevirtual 128, 3) := by decide +kernel
theorem dX8_readRow_33 : decode cX8_readRow 33 = .ok (.invokestatic 132, 3) := by decide +kernel
theorem dX8_readRow_36 : decode cX8_readRow 36 = .ok (.ifCond .eq 47, 3) := by decide +kernel
theorem dX8_readRow_39 : decode cX8_readRow 39 = .ok (.iload_n 1, 1) := by decide +kernel
theorem dX8_readRow_40 : decode cX8_readRow 40 = .ok (.bipush 6, 2) := by decide +kernel
theorem dX8_readRow_42 : decode cX8_readRow 42 = .ok (.if_icmp .ge 41, 3) := by decide +kernel
theorem dX8_readRow_45 : decode cX8_readRow 45 = .ok (.aload_n 0, 1) := by decide +kernel
theorem dX8_readRow_46 : decode cX8_readRow 46 = .ok (.getfield 40, 3) := by decide +kernel
theorem dX8_readRow_49 : decode cX8_readRow 49 = .ok (.aload_n 0, 1) := by decide +kernel
theorem dX8_readRow_50 : decode cX8_readRow 50 = .ok (.getfield 106, 3) := by decide +kernel
theorem dX8_readRow_53 : decode cX8_readRow 53 = .ok (.iload_n 1, 1) := by decide +kernel
theorem dX8_readRow_54 : decode cX8_readRow 54 = .ok (.iadd, 1) := by decide +kernel
theorem dX8_readRow_55 : decode cX8_readRow 55 = .ok (.aload_n 0, 1) := by decide +kernel
theorem dX8_readRow_56 : decode cX8_readRow 56 = .ok (.aload_n 0, 1) := by decide +kernel
theorem dX8_readRow_57 : decode cX8_readRow 57 = .ok (.getfield 125, 3) := by decide +kernel
theorem dX8_readRow_60 : decode cX8_readRow 60 = .ok (.invokevirtual 128, 3) := by decide +kernel
theorem dX8_readRow_63 : decode cX8_readRow 63 = .ok (.bipush 48, 2) := by decide +kernel
theorem dX8_readRow_65 : decode cX8_readRow 65 = .ok (.isub, 1) := by decide +kernel
theorem dX8_readRow_66 : decode cX8_readRow 66 = .ok (.iastore, 1) := by decide +kernel
theorem dX8_readRow_67 : decode cX8_readRow 67 = .ok (.iinc 1 1, 3) := by decide +kernel
theorem dX8_readRow_70 : decode cX8_readRow 70 = .ok (.aload_n 0, 1) := by decide +kernel
theorem dX8_readRow_71 : decode cX8_readRow 71 = .ok (.dup, 1) := by decide +kernel
theorem dX8_readRow_72 : decode cX8_readRow 72 = .ok (.getfield 125, 3) := by decide +kernel
theorem dX8_readRow_75 : decode cX8_readRow 75 = .ok (.iconst 1, 1) := by decide +kernel
theorem dX8_readRow_76 : decode cX8_readRow 76 = .ok (.iadd, 1) := by decide +kernel
theorem dX8_readRow_77 : decode cX8_readRow 77 = .ok (.putfield 125, 3) := by decide +kernel
theorem dX8_readRow_80 : decode cX8_readRow 80 = .ok (.goto (-55), 3) := by decide +kernel
theorem dX8_readRow_83 : decode cX8_readRow 83 = .ok (.iload_n 1, 1) := by decide +kernel
theorem dX8_readRow_84 : decode cX8_readRow 84 = .ok (.ifCond .le 35, 3) := by decide +kernel
theorem dX8_readRow_87 : decode cX8_readRow 87 = .ok (.aload_n 0, 1) := by decide +kernel
theorem dX8_readRow_88 : decode cX8_readRow 88 = .ok (.getfield 106, 3) := by decide +kernel
theorem dX8_readRow_91 : decode cX8_readRow 91 = .ok (.ifCond .eq 11, 3) := by decide +kernel
theorem dX8_readRow_94 : decode cX8_readRow 94 = .ok (.iload_n 1, 1) := by decide +kernel
theorem dX8_readRow_95 : decode cX8_readRow 95 = .ok (.aload_n 0, 1) := by decide +kernel
theorem dX8_readRow_96 : decode cX8_readRow 96 = .ok (.getfield 103, 3) := by decide +kernel
theorem dX8_readRow_99 : decode cX8_readRow 99 = .ok (.if_icmp .ne 20, 3) := by decide +kernel
theorem dX8_readRow_102 : decode cX8_readRow 102 = .ok (.aload_n 0, 1) := by decide +kernel
theorem dX8_readRow_103 : decode cX8_readRow 103 = .ok (.aload_n 0, 1) := by decide +kernel
theorem dX8_readRow_104 : decode cX8_readRow 104 = .ok (.getfield 125, 3) := by decide +kernel
theorem dX8_readRow_107 : decode cX8_readRow 107 = .ok (.invokevirtual 128, 3) := by decide +kernel
theorem dX8_readRow_110 : decode cX8_readRow 110 = .ok (.bipush 59, 2) := by decide +kernel
theorem dX8_readRow_112 : decode cX8_readRow 112 = .ok (.if_icmp .ne 7, 3) := by decide +kernel
theorem dX8_readRow_115 : decode cX8_readRow 115 = .ok (.iconst 1, 1) := by decide +kernel
theorem dX8_readRow_116 : decode cX8_readRow 116 = .ok (.goto 4, 3) := by decide +kernel
theorem dX8_readRow_119 : decode cX8_readRow 119 = .ok (.iconst 0, 1) := by decide +kernel
theorem dX8_readRow_120 : decode cX8_readRow 120 = .ok (.istore_n 2, 1) := by decide +kernel
theorem dX8_readRow_121 : decode cX8_readRow 121 = .ok (.aload_n 0, 1) := by decide +kernel
theorem dX8_readRow_122 : decode cX8_readRow 122 = .ok (.dup, 1) := by decide +kernel
theorem dX8_readRow_123 : decode cX8_readRow 123 = .ok (.getfield 125, 3) := by decide +kernel
theorem dX8_readRow_126 : decode cX8_readRow 126 = .ok (.iconst 1, 1) := by decide +kernel
theorem dX8_readRow_127 : decode cX8_readRow 127 = .ok (.iadd, 1) := by decide +kernel
theorem dX8_readRow_128 : decode cX8_readRow 128 = .ok (.putfield 125, 3) := by decide +kernel
theorem dX8_readRow_131 : decode cX8_readRow 131 = .ok (.iload_n 2, 1) := by decide +kernel
theorem dX8_readRow_132 : decode cX8_readRow 132 = .ok (.ifCond .eq 18, 3) := by decide +kernel
theorem dX8_readRow_135 : decode cX8_readRow 135 = .ok (.aload_n 0, 1) := by decide +kernel
theorem dX8_readRow_136 : decode cX8_readRow 136 = .ok (.iload_n 1, 1) := by decide +kernel
theorem dX8_readRow_137 : decode cX8_readRow 137 = .ok (.putfield 103, 3) := by decide +kernel
theorem dX8_readRow_140 : decode cX8_readRow 140 = .ok (.aload_n 0, 1) := by decide +kernel
theorem dX8_readRow_141 : decode cX8_readRow 141 = .ok (.dup, 1) := by decide +kernel
theorem dX8_readRow_142 : decode cX8_readRow 142 = .ok (.getfield 106, 3) := by decide +kernel
theorem dX8_readRow_145 : decode cX8_readRow 145 = .ok (.iload_n 1, 1) := by decide +kernel
theorem dX8_readRow_146 : decode cX8_readRow 146 = .ok (.iadd, 1) := by decide +kernel
theorem dX8_readRow_147 : decode cX8_readRow 147 = .ok (.putfield 106, 3) := by decide +kernel
theorem dX8_readRow_150 : decode cX8_readRow 150 = .ok (.iload_n 2, 1) := by decide +kernel
theorem dX8_readRow_151 : decode cX8_readRow 151 = .ok (.ireturn, 1) := by decide +kernel
theorem dX8_isDry_0 : decode cX8_isDry 0 = .ok (.aload_n 0, 1) := by decide +kernel
theorem dX8_isDry_1 : decode cX8_isDry 1 = .ok (.iload_n 1, 1) := by decide +kernel
theorem dX8_isDry_2 : decode cX8_isDry 2 = .ok (.iconst 0, 1) := by decide +kernel
theorem dX8_isDry_3 : decode cX8_isDry 3 = .ok (.aload_n 0, 1) := by decide +kernel
theorem dX8_isDry_4 : decode cX8_isDry 4 = .ok (.getfield 106, 3) := by decide +kernel
theorem dX8_isDry_7 : decode cX8_isDry 7 = .ok (.iconst 1, 1) := by decide +kernel
theorem dX8_isDry_8 : decode cX8_isDry 8 = .ok (.isub, 1) := by decide +kernel
theorem dX8_isDry_9 : decode cX8_isDry 9 = .ok (.invokevirtual 136, 3) := by decide +kernel
theorem dX8_isDry_12 : decode cX8_isDry 12 = .ok (.ifCond .eq 23, 3) := by decide +kernel
theorem dX8_isDry_15 : decode cX8_isDry 15 = .ok (.aload_n 0, 1) := by decide +kernel
theorem dX8_isDry_16 : decode cX8_isDry 16 = .ok (.getfield 40, 3) := by decide +kernel
theorem dX8_isDry_19 : decode cX8_isDry 19 = .ok (.aload_n 0, 1) := by decide +kernel
theorem dX8_isDry_20 : decode cX8_isDry 20 = .ok (.getfield 37, 3) := by decide +kernel
theorem dX8_isDry_23 : decode cX8_isDry 23 = .ok (.iload_n 1, 1) := by decide +kernel
theorem dX8_isDry_24 : decode cX8_isDry 24 = .ok (.iaload, 1) := by decide +kernel
theorem dX8_isDry_25 : decode cX8_isDry 25 = .ok (.iaload, 1) := by decide +kernel
theorem dX8_isDry_26 : decode cX8_isDry 26 = .ok (.bipush 9, 2) := by decide +kernel
theorem dX8_isDry_28 : decode cX8_isDry 28 = .ok (.if_icmp .eq 7, 3) := by decide +kernel
theorem dX8_isDry_31 : decode cX8_isDry 31 = .ok (.iconst 1, 1) := by decide +kernel
theorem dX8_isDry_32 : decode cX8_isDry 32 = .ok (.goto 4, 3) := by decide +kernel
theorem dX8_isDry_35 : decode cX8_isDry 35 = .ok (.iconst 0, 1) := by decide +kernel
theorem dX8_isDry_36 : decode cX8_isDry 36 = .ok (.ireturn, 1) := by decide +kernel
theorem dX8_readBeastItem_0 : decode cX8_readBeastItem 0 = .ok (.aload_n 0, 1) := by decide +kernel
theorem dX8_readBeastItem_1 : decode cX8_readBeastItem 1 = .ok (.getfield 109, 3) := by decide +kernel
theorem dX8_readBeastItem_4 : decode cX8_readBeastItem 4 = .ok (.bipush 8, 2) := by decide +kernel
theorem dX8_readBeastItem_6 : decode cX8_readBeastItem 6 = .ok (.if_icmp .eq 39, 3) := by decide +kernel
theorem dX8_readBeastItem_9 : decode cX8_readBeastItem 9 = .ok (.aload_n 0, 1) := by decide +kernel
theorem dX8_readBeastItem_10 : decode cX8_readBeastItem 10 = .ok (.iconst 3, 1) := by decide +kernel
theorem dX8_readBeastItem_11 : decode cX8_readBeastItem 11 = .ok (.invokevirtual 139, 3) := by decide +kernel
theorem dX8_readBeastItem_14 : decode cX8_readBeastItem 14 = .ok (.ifCond .eq 31, 3) := by decide +kernel
theorem dX8_readBeastItem_17 : decode cX8_readBeastItem 17 = .ok (.aload_n 0, 1) := by decide +kernel
theorem dX8_readBeastItem_18 : decode cX8_readBeastItem 18 = .ok (.iconst 0, 1) := by decide +kernel
theorem dX8_readBeastItem_19 : decode cX8_readBeastItem 19 = .ok (.iconst 0, 1) := by decide +kernel
theorem dX8_readBeastItem_20 : decode cX8_readBeastItem 20 = .ok (.iconst 3, 1) := by decide +kernel
theorem dX8_readBeastItem_21 : decode cX8_readBeastItem 21 = .ok (.invokevirtual 136, 3) := by decide +kernel
theorem dX8_readBeastItem_24 : decode cX8_readBeastItem 24 = .ok (.ifCond .eq 21, 3) := by decide +kernel
theorem dX8_readBeastItem_27 : decode cX8_readBeastItem 27 = .ok (.aload_n 0, 1) := by decide +kernel
theorem dX8_readBeastItem_28 : decode cX8_readBeastItem 28 = .ok (.iconst 1, 1) := by decide +kernel
theorem dX8_readBeastItem_29 : decode cX8_readBeastItem 29 = .ok (.iconst 0, 1) := by decide +kernel
theorem dX8_readBeastItem_30 : decode cX8_readBeastItem 30 = .ok (.iconst 1, 1) := by decide +kernel
theorem dX8_readBeastItem_31 : decode cX8_readBeastItem 31 = .ok (.invokevirtual 136, 3) := by decide +kernel
theorem dX8_readBeastItem_34 : decode cX8_readBeastItem 34 = .ok (.ifCond .eq 11, 3) := by decide +kernel
theorem dX8_readBeastItem_37 : decode cX8_readBeastItem 37 = .ok (.aload_n 0, 1) := by decide +kernel
theorem dX8_readBeastItem_38 : decode cX8_readBeastItem 38 = .ok (.iconst 2, 1) := by decide +kernel
theorem dX8_readBeastItem_39 : decode cX8_readBeastItem 39 = .ok (.invokevirtual 142, 3) := by decide +kernel
theorem dX8_readBeastItem_42 : decode cX8_readBeastItem 42 = .ok (.ifCond .ne 5, 3) := by decide +kernel
theorem dX8_readBeastItem_45 : decode cX8_readBeastItem 45 = .ok (.iconst 0, 1) := by decide +kernel
theorem dX8_readBeastItem_46 : decode cX8_readBeastItem 46 = .ok (.ireturn, 1) := by decide +kernel
theorem dX8_readBeastItem_47 : decode cX8_readBeastItem 47 = .ok (.iconst 1, 1) := by decide +kernel
theorem dX8_readBeastItem_48 : decode cX8_readBeastItem 48 = .ok (.istore_n 1, 1) := by decide +kernel
theorem dX8_readBeastItem_49 : decode cX8_readBeastItem 49 = .ok (.iconst 0, 1) := by decide +kernel
theorem dX8_readBeastItem_50 : decode cX8_readBeastItem 50 = .ok (.istore_n 2, 1) := by decide +kernel
theorem dX8_readBeastItem_51 : decode cX8_readBeastItem 51 = .ok (.iload_n 2, 1) := by decide +kernel
theorem dX8_readBeastItem_52 : decode cX8_readBeastItem 52 = .ok (.aload_n 0, 1) := by decide +kernel
theorem dX8_readBeastItem_53 : decode cX8_readBeastItem 53 = .ok (.getfield 109, 3) := by decide +kernel
theorem dX8_readBeastItem_56 : decode cX8_readBeastItem 56 = .ok (.if_icmp .ge 34, 3) := by decide +kernel
theorem dX8_readBeastItem_59 : decode cX8_readBeastItem 59 = .ok (.iload_n 1, 1) := by decide +kernel
theorem dX8_readBeastItem_60 : decode cX8_readBeastItem 60 = .ok (.ifCond .eq 22, 3) := by decide +kernel
theorem dX8_readBeastItem_63 : decode cX8_readBeastItem 63 = .ok (.aload_n 0, 1) := by decide +kernel
theorem dX8_readBeastItem_64 : decode cX8_readBeastItem 64 = .ok (.getfield 49, 3) := by decide +kernel
theorem dX8_readBeastItem_67 : decode cX8_readBeastItem 67 = .ok (.iload_n 2, 1) := by decide +kernel
theorem dX8_readBeastItem_68 : decode cX8_readBeastItem 68 = .ok (.iaload, 1) := by decide +kernel
theorem dX8_readBeastItem_69 : decode cX8_readBeastItem 69 = .ok (.aload_n 0, 1) := by decide +kernel
theorem dX8_readBeastItem_70 : decode cX8_readBeastItem 70 = .ok (.getfield 37, 3) := by decide +kernel
theorem dX8_readBeastItem_73 : decode cX8_readBeastItem 73 = .ok (.iconst 2, 1) := by decide +kernel
theorem dX8_readBeastItem_74 : decode cX8_readBeastItem 74 = .ok (.iaload, 1) := by decide +kernel
theorem dX8_readBeastItem_75 : decode cX8_readBeastItem 75 = .ok (.if_icmp .eq 7, 3) := by decide +kernel
theorem dX8_readBeastItem_78 : decode cX8_readBeastItem 78 = .ok (.iconst 1, 1) := by decide +kernel
theorem dX8_readBeastItem_79 : decode cX8_readBeastItem 79 = .ok (.goto 4, 3) := by decide +kernel
theorem dX8_readBeastItem_82 : decode cX8_readBeastItem 82 = .ok (.iconst 0, 1) := by decide +kernel
theorem dX8_readBeastItem_83 : decode cX8_readBeastItem 83 = .ok (.istore_n 1, 1) := by decide +kernel
theorem dX8_readBeastItem_84 : decode cX8_readBeastItem 84 = .ok (.iinc 2 1, 3) := by decide +kernel
theorem dX8_readBeastItem_87 : decode cX8_readBeastItem 87 = .ok (.goto (-36), 3) := by decide +kernel
theorem dX8_readBeastItem_90 : decode cX8_readBeastItem 90 = .ok (.iload_n 1, 1) := by decide +kernel
theorem dX8_readBeastItem_91 : decode cX8_readBeastItem 91 = .ok (.ifCond .eq 25, 3) := by decide +kernel
theorem dX8_readBeastItem_94 : decode cX8_readBeastItem 94 = .ok (.aload_n 0, 1) := by decide +kernel
theorem dX8_readBeastItem_95 : decode cX8_readBeastItem 95 = .ok (.aload_n 0, 1) := by decide +kernel
theorem dX8_readBeastItem_96 : decode cX8_readBeastItem 96 = .ok (.getfield 37, 3) := by decide +kernel
theorem dX8_readBeastItem_99 : decode cX8_readBeastItem 99 = .ok (.iconst 0, 1) := by decide +kernel
theorem dX8_readBeastItem_100 : decode cX8_readBeastItem 100 = .ok (.iaload, 1) := by decide +kernel
theorem dX8_readBeastItem_101 : decode cX8_readBeastItem 101 = .ok (.aload_n 0, 1) := by decide +kernel
theorem dX8_readBeastItem_102 : decode cX8_readBeastItem 102 = .ok (.getfield 37, 3) := by decide +kernel
theorem dX8_readBeastItem_105 : decode cX8_readBeastItem 105 = .ok (.iconst 1, 1) := by decide +kernel
theorem dX8_readBeastItem_106 : decode cX8_readBeastItem 106 = .ok (.iaload, 1) := by decide +kernel
theorem dX8_readBeastItem_107 : decode cX8_readBeastItem 107 = .ok (.aload_n 0, 1) := by decide +kernel
theorem dX8_readBeastItem_108 : decode cX8_readBeastItem 108 = .ok (.getfield 37, 3) := by decide +kernel
theorem dX8_readBeastItem_111 : decode cX8_readBeastItem 111 = .ok (.iconst 2, 1) := by decide +kernel
theorem dX8_readBeastItem_112 : decode cX8_readBeastItem 112 = .ok (.iaload, 1) := by decide +kernel
theorem dX8_readBeastItem_113 : decode cX8_readBeastItem 113 = .ok (.invokevirtual 86, 3) := by decide +kernel
theorem dX8_readBeastItem_116 : decode cX8_readBeastItem 116 = .ok (.iload_n 1, 1) := by decide +kernel
theorem dX8_readBeastItem_117 : decode cX8_readBeastItem 117 = .ok (.ireturn, 1) := by decide +kernel
theorem dX8_readItem_0 : decode cX8_readItem 0 = .ok (.aload_n 0, 1) := by decide +kernel
theorem dX8_readItem_1 : decode cX8_readItem 1 = .ok (.aload_n 0, 1) := by decide +kernel
theorem dX8_readItem_2 : decode cX8_readItem 2 = .ok (.getfield 125, 3) := by decide +kernel
theorem dX8_readItem_5 : decode cX8_readItem 5 = .ok (.invokevirtual 128, 3) := by decide +kernel
theorem dX8_readItem_8 : decode cX8_readItem 8 = .ok (.istore_n 1, 1) := by decide +kernel
theorem dX8_readItem_9 : decode cX8_readItem 9 = .ok (.aload_n 0, 1) := by decide +kernel
theorem dX8_readItem_10 : decode cX8_readItem 10 = .ok (.dup, 1) := by decide +kernel
theorem dX8_readItem_11 : decode cX8_readItem 11 = .ok (.getfield 125, 3) := by decide +kernel
theorem dX8_readItem_14 : decode cX8_readItem 14 = .ok (.iconst 1, 1) := by decide +kernel
theorem dX8_readItem_15 : decode cX8_readItem 15 = .ok (.iadd, 1) := by decide +kernel
theorem dX8_readItem_16 : decode cX8_readItem 16 = .ok (.putfield 125, 3) := by decide +kernel
theorem dX8_readItem_19 : decode cX8_readItem 19 = .ok (.iload_n 1, 1) := by decide +kernel
theorem dX8_readItem_20 : decode cX8_readItem 20 = .ok (.lookupswitch 181 #[(98, 57), (104, 92), (114, 52), (115, 125), (119, 62)], 52) := by decide +kernel
theorem dX8_readItem_72 : decode cX8_readItem 72 = .ok (.aload_n 0, 1) := by decide +kernel
theorem dX8_readItem_73 : decode cX8_readItem 73 = .ok (.invokevirtual 145, 3) := by decide +kernel
theorem dX8_readItem_76 : decode cX8_readItem 76 = .ok (.ireturn, 1) := by decide +kernel
theorem dX8_readItem_77 : decode cX8_readItem 77 = .ok (.aload_n 0, 1) := by decide +kernel
theorem dX8_readItem_78 : decode cX8_readItem 78 = .ok (.invokevirtual 149, 3) := by decide +kernel
theorem dX8_readItem_81 : decode cX8_readItem 81 = .ok (.ireturn, 1) := by decide +kernel
theorem dX8_readItem_82 : decode cX8_readItem 82 = .ok (.aload_n 0, 1) := by decide +kernel
theorem dX8_readItem_83 : decode cX8_readItem 83 = .ok (.iconst 1, 1) := by decide +kernel
theorem dX8_readItem_84 : decode cX8_readItem 84 = .ok (.invokevirtual 139, 3) := by decide +kernel
theorem dX8_readItem_87 : decode cX8_readItem 87 = .ok (.ifCond .eq 11, 3) := by decide +kernel
theorem dX8_readItem_90 : decode cX8_readItem 90 = .ok (.aload_n 0, 1) := by decide +kernel
theorem dX8_readItem_91 : decode cX8_readItem 91 = .ok (.iconst 0, 1) := by decide +kernel
theorem dX8_readItem_92 : decode cX8_readItem 92 = .ok (.invokevirtual 142, 3) := by decide +kernel
theorem dX8_readItem_95 : decode cX8_readItem 95 = .ok (.ifCond .ne 5, 3) := by decide +kernel
theorem dX8_readItem_98 : decode cX8_readItem 98 = .ok (.iconst 0, 1) := by decide +kernel
theorem dX8_readItem_99 : decode cX8_readItem 99 = .ok (.ireturn, 1) := by decide +kernel
theorem dX8_readItem_100 : decode cX8_readItem 100 = .ok (.aload_n 0, 1) := by decide +kernel
theorem dX8_readItem_101 : decode cX8_readItem 101 = .ok (.aload_n 0, 1) := by decide +kernel
theorem dX8_readItem_102 : decode cX8_readItem 102 = .ok (.getfield 37, 3) := by decide +kernel
theorem dX8_readItem_105 : decode cX8_readItem 105 = .ok (.iconst 0, 1) := by decide +kernel
theorem dX8_readItem_106 : decode cX8_readItem 106 = .ok (.iaload, 1) := by decide +kernel
theorem dX8_readItem_107 : decode cX8_readItem 107 = .ok (.putfield 90, 3) := by decide +kernel
theorem dX8_readItem_110 : decode cX8_readItem 110 = .ok (.iconst 1, 1) := by decide +kernel
theorem dX8_readItem_111 : decode cX8_readItem 111 = .ok (.ireturn, 1) := by decide +kernel
theorem dX8_readItem_112 : decode cX8_readItem 112 = .ok (.aload_n 0, 1) := by decide +kernel
theorem dX8_readItem_113 : decode cX8_readItem 113 = .ok (.iconst 1, 1) := by decide +kernel
theorem dX8_readItem_114 : decode cX8_readItem 114 = .ok (.invokevirtual 139, 3) := by decide +kernel
theorem dX8_readItem_117 : decode cX8_readItem 117 = .ok (.ifCond .eq 14, 3) := by decide +kernel
theorem dX8_readItem_120 : decode cX8_readItem 120 = .ok (.aload_n 0, 1) := by decide +kernel
theorem dX8_readItem_121 : decode cX8_readItem 121 = .ok (.iconst 0, 1) := by decide +kernel
theorem dX8_readItem_122 : decode cX8_readItem 122 = .ok (.iconst 1, 1) := by decide +kernel
theorem dX8_readItem_123 : decode cX8_readItem 123 = .ok (.bipush 9, 2) := by decide +kernel
theorem dX8_readItem_125 : decode cX8_readItem 125 = .ok (.invokevirtual 136, 3) := by decide +kernel
theorem dX8_readItem_128 : decode cX8_readItem 128 = .ok (.ifCond .ne 5, 3) := by decide +kernel
theorem dX8_readItem_131 : decode cX8_readItem 131 = .ok (.iconst 0, 1) := by decide +kernel
theorem dX8_readItem_132 : decode cX8_readItem 132 = .ok (.ireturn, 1) := by decide +kernel
theorem dX8_readItem_133 : decode cX8_readItem 133 = .ok (.aload_n 0, 1) := by decide +kernel
theorem dX8_readItem_134 : decode cX8_readItem 134 = .ok (.aload_n 0, 1) := by decide +kernel
theorem dX8_readItem_135 : decode cX8_readItem 135 = .ok (.getfield 37, 3) := by decide +kernel
theorem dX8_readItem_138 : decode cX8_readItem 138 = .ok (.iconst 0, 1) := by decide +kernel
theorem dX8_readItem_139 : decode cX8_readItem 139 = .ok (.iaload, 1) := by decide +kernel
theorem dX8_readItem_140 : decode cX8_readItem 140 = .ok (.putfield 94, 3) := by decide +kernel
theorem dX8_readItem_143 : decode cX8_readItem 143 = .ok (.iconst 1, 1) := by decide +kernel
theorem dX8_readItem_144 : decode cX8_readItem 144 = .ok (.ireturn, 1) := by decide +kernel
theorem dX8_readItem_145 : decode cX8_readItem 145 = .ok (.aload_n 0, 1) := by decide +kernel
theorem dX8_readItem_146 : decode cX8_readItem 146 = .ok (.getfield 97, 3) := by decide +kernel
theorem dX8_readItem_149 : decode cX8_readItem 149 = .ok (.bipush 9, 2) := by decide +kernel
theorem dX8_readItem_151 : decode cX8_readItem 151 = .ok (.if_icmp .eq 21, 3) := by decide +kernel
theorem dX8_readItem_154 : decode cX8_readItem 154 = .ok (.aload_n 0, 1) := by decide +kernel
theorem dX8_readItem_155 : decode cX8_readItem 155 = .ok (.iconst 1, 1) := by decide +kernel
theorem dX8_readItem_156 : decode cX8_readItem 156 = .ok (.invokevirtual 139, 3) := by decide +kernel
theorem dX8_readItem_159 : decode cX8_readItem 159 = .ok (.ifCond .eq 13, 3) := by decide +kernel
theorem dX8_readItem_162 : decode cX8_readItem 162 = .ok (.aload_n 0, 1) := by decide +kernel
theorem dX8_readItem_163 : decode cX8_readItem 163 = .ok (.iconst 0, 1) := by decide +kernel
theorem dX8_readItem_164 : decode cX8_readItem 164 = .ok (.iconst 0, 1) := by decide +kernel
theorem dX8_readItem_165 : decode cX8_readItem 165 = .ok (.iconst 1, 1) := by decide +kernel
theorem dX8_readItem_166 : decode cX8_readItem 166 = .ok (.invokevirtual 136, 3) := by decide +kernel
theorem dX8_readItem_169 : decode cX8_readItem 169 = .ok (.ifCond .ne 5, 3) := by decide +kernel
theorem dX8_readItem_172 : decode cX8_readItem 172 = .ok (.iconst 0, 1) := by decide +kernel
theorem dX8_readItem_173 : decode cX8_readItem 173 = .ok (.ireturn, 1) := by decide +kernel
theorem dX8_readItem_174 : decode cX8_readItem 174 = .ok (.aload_n 0, 1) := by decide +kernel
theorem dX8_readItem_175 : decode cX8_readItem 175 = .ok (.getfield 52, 3) := by decide +kernel
theorem dX8_readItem_178 : decode cX8_readItem 178 = .ok (.aload_n 0, 1) := by decide +kernel
theorem dX8_readItem_179 : decode cX8_readItem 179 = .ok (.getfield 97, 3) := by decide +kernel
theorem dX8_readItem_182 : decode cX8_readItem 182 = .ok (.aload_n 0, 1) := by decide +kernel
theorem dX8_readItem_183 : decode cX8_readItem 183 = .ok (.getfield 37, 3) := by decide +kernel
theorem dX8_readItem_186 : decode cX8_readItem 186 = .ok (.iconst 0, 1) := by decide +kernel
theorem dX8_readItem_187 : decode cX8_readItem 187 = .ok (.iaload, 1) := by decide +kernel
theorem dX8_readItem_188 : decode cX8_readItem 188 = .ok (.iastore, 1) := by decide +kernel
theorem dX8_readItem_189 : decode cX8_readItem 189 = .ok (.aload_n 0, 1) := by decide +kernel
theorem dX8_readItem_190 : decode cX8_readItem 190 = .ok (.dup, 1) := by decide +kernel
theorem dX8_readItem_191 : decode cX8_readItem 191 = .ok (.getfield 97, 3) := by decide +kernel
theorem dX8_readItem_194 : decode cX8_readItem 194 = .ok (.iconst 1, 1) := by decide +kernel
theorem dX8_readItem_195 : decode cX8_readItem 195 = .ok (.iadd, 1) := by decide +kernel
theorem dX8_readItem_196 : decode cX8_readItem 196 = .ok (.putfield 97, 3) := by decide +kernel
theorem dX8_readItem_199 : decode cX8_readItem 199 = .ok (.iconst 1, 1) := by decide +kernel
theorem dX8_readItem_200 : decode cX8_readItem 200 = .ok (.ireturn, 1) := by decide +kernel
theorem dX8_readItem_201 : decode cX8_readItem 201 = .ok (.iconst 0, 1) := by decide +kernel
theorem dX8_readItem_202 : decode cX8_readItem 202 = .ok (.ireturn, 1) := by decide +kernel
theorem dX8_fault_0 : decode cX8_fault 0 = .ok (.aload_n 0, 1) := by decide +kernel
theorem dX8_fault_1 : decode cX8_fault 1 = .ok (.iconst 0, 1) := by decide +kernel
theorem dX8_fault_2 : decode cX8_fault 2 = .ok (.putfield 125, 3) := by decide +kernel
theorem dX8_fault_5 : decode cX8_fault 5 = .ok (.aload_n 0, 1) := by decide +kernel
theorem dX8_fault_6 : decode cX8_fault 6 = .ok (.invokevirtual 79, 3) := by decide +kernel
theorem dX8_fault_9 : decode cX8_fault 9 = .ok (.aload_n 0, 1) := by decide +kernel
theorem dX8_fault_10 : decode cX8_fault 10 = .ok (.getfield 125, 3) := by decide +kernel
theorem dX8_fault_13 : decode cX8_fault 13 = .ok (.aload_n 0, 1) := by decide +kernel
theorem dX8_fault_14 : decode cX8_fault 14 = .ok (.getfield 122, 3) := by decide +kernel
theorem dX8_fault_17 : decode cX8_fault 17 = .ok (.if_icmp .ge 20, 3) := by decide +kernel
theorem dX8_fault_20 : decode cX8_fault 20 = .ok (.aload_n 0, 1) := by decide +kernel
theorem dX8_fault_21 : decode cX8_fault 21 = .ok (.getfield 125, 3) := by decide +kernel
theorem dX8_fault_24 : decode cX8_fault 24 = .ok (.istore_n 1, 1) := by decide +kernel
theorem dX8_fault_25 : decode cX8_fault 25 = .ok (.aload_n 0, 1) := by decide +kernel
theorem dX8_fault_26 : decode cX8_fault 26 = .ok (.invokevirtual 152, 3) := by decide +kernel
theorem dX8_fault_29 : decode cX8_fault 29 = .ok (.ifCond .ne 5, 3) := by decide +kernel
theorem dX8_fault_32 : decode cX8_fault 32 = .ok (.iload_n 1, 1) := by decide +kernel
theorem dX8_fault_33 : decode cX8_fault 33 = .ok (.ireturn, 1) := by decide +kernel
theorem dX8_fault_34 : decode cX8_fault 34 = .ok (.goto (-25), 3) := by decide +kernel
theorem dX8_fault_37 : decode cX8_fault 37 = .ok (.bipush (-4), 2) := by decide +kernel
theorem dX8_fault_39 : decode cX8_fault 39 = .ok (.ireturn, 1) := by decide +kernel
theorem dX8_lay_0 : decode cX8_lay 0 = .ok (.aload_n 0, 1) := by decide +kernel
theorem dX8_lay_1 : decode cX8_lay 1 = .ok (.invokevirtual 155, 3) := by decide +kernel
theorem dX8_lay_4 : decode cX8_lay 4 = .ok (.bipush (-4), 2) := by decide +kernel
theorem dX8_lay_6 : decode cX8_lay 6 = .ok (.if_icmp .ne 10, 3) := by decide +kernel
theorem dX8_lay_9 : decode cX8_lay 9 = .ok (.aload_n 0, 1) := by decide +kernel
theorem dX8_lay_10 : decode cX8_lay 10 = .ok (.getfield 109, 3) := by decide +kernel
theorem dX8_lay_13 : decode cX8_lay 13 = .ok (.ifCond .ne 6, 3) := by decide +kernel
theorem dX8_lay_16 : decode cX8_lay 16 = .ok (.bipush (-2), 2) := by decide +kernel
theorem dX8_lay_18 : decode cX8_lay 18 = .ok (.ireturn, 1) := by decide +kernel
theorem dX8_lay_19 : decode cX8_lay 19 = .ok (.aload_n 0, 1) := by decide +kernel
theorem dX8_lay_20 : decode cX8_lay 20 = .ok (.invokevirtual 100, 3) := by decide +kernel
theorem dX8_lay_23 : decode cX8_lay 23 = .ok (.aload_n 0, 1) := by decide +kernel
theorem dX8_lay_24 : decode cX8_lay 24 = .ok (.getfield 112, 3) := by decide +kernel
theorem dX8_lay_27 : decode cX8_lay 27 = .ok (.ireturn, 1) := by decide +kernel
theorem dX8_copies_0 : decode cX8_copies 0 = .ok (.iconst 0, 1) := by decide +kernel
theorem dX8_copies_1 : decode cX8_copies 1 = .ok (.istore 5, 2) := by decide +kernel
theorem dX8_copies_3 : decode cX8_copies 3 = .ok (.iload 5, 2) := by decide +kernel
theorem dX8_copies_5 : decode cX8_copies 5 = .ok (.iload 4, 2) := by decide +kernel
theorem dX8_copies_7 : decode cX8_copies 7 = .ok (.if_icmp .ge 21, 3) := by decide +kernel
theorem dX8_copies_10 : decode cX8_copies 10 = .ok (.aload_n 0, 1) := by decide +kernel
theorem dX8_copies_11 : decode cX8_copies 11 = .ok (.iload_n 1, 1) := by decide +kernel
theorem dX8_copies_12 : decode cX8_copies 12 = .ok (.iload 5, 2) := by decide +kernel
theorem dX8_copies_14 : decode cX8_copies 14 = .ok (.iadd, 1) := by decide +kernel
theorem dX8_copies_15 : decode cX8_copies 15 = .ok (.aload_n 2, 1) := by decide +kernel
theorem dX8_copies_16 : decode cX8_copies 16 = .ok (.iload_n 3, 1) := by decide +kernel
theorem dX8_copies_17 : decode cX8_copies 17 = .ok (.iload 5, 2) := by decide +kernel
theorem dX8_copies_19 : decode cX8_copies 19 = .ok (.iadd, 1) := by decide +kernel
theorem dX8_copies_20 : decode cX8_copies 20 = .ok (.iaload, 1) := by decide +kernel
theorem dX8_copies_21 : decode cX8_copies 21 = .ok (.iastore, 1) := by decide +kernel
theorem dX8_copies_22 : decode cX8_copies 22 = .ok (.iinc 5 1, 3) := by decide +kernel
theorem dX8_copies_25 : decode cX8_copies 25 = .ok (.goto (-22), 3) := by decide +kernel
theorem dX8_copies_28 : decode cX8_copies 28 = .ok (.return_, 1) := by decide +kernel
theorem dX8_settles_0 : decode cX8_settles 0 = .ok (.aload_n 0, 1) := by decide +kernel
theorem dX8_settles_1 : decode cX8_settles 1 = .ok (.aload_n 0, 1) := by decide +kernel
theorem dX8_settles_2 : decode cX8_settles 2 = .ok (.getfield 106, 3) := by decide +kernel
theorem dX8_settles_5 : decode cX8_settles 5 = .ok (.putfield 119, 3) := by decide +kernel
theorem dX8_settles_8 : decode cX8_settles 8 = .ok (.aload_n 0, 1) := by decide +kernel
theorem dX8_settles_9 : decode cX8_settles 9 = .ok (.aload_n 0, 1) := by decide +kernel
theorem dX8_settles_10 : decode cX8_settles 10 = .ok (.getfield 103, 3) := by decide +kernel
theorem dX8_settles_13 : decode cX8_settles 13 = .ok (.putfield 159, 3) := by decide +kernel
theorem dX8_settles_16 : decode cX8_settles 16 = .ok (.aload_n 0, 1) := by decide +kernel
theorem dX8_settles_17 : decode cX8_settles 17 = .ok (.getfield 7, 3) := by decide +kernel
theorem dX8_settles_20 : decode cX8_settles 20 = .ok (.iconst 0, 1) := by decide +kernel
theorem dX8_settles_21 : decode cX8_settles 21 = .ok (.aload_n 0, 1) := by decide +kernel
theorem dX8_settles_22 : decode cX8_settles 22 = .ok (.getfield 40, 3) := by decide +kernel
theorem dX8_settles_25 : decode cX8_settles 25 = .ok (.iconst 0, 1) := by decide +kernel
theorem dX8_settles_26 : decode cX8_settles 26 = .ok (.bipush 36, 2) := by decide +kernel
theorem dX8_settles_28 : decode cX8_settles 28 = .ok (.invokestatic 162, 3) := by decide +kernel
theorem dX8_settles_31 : decode cX8_settles 31 = .ok (.aload_n 0, 1) := by decide +kernel
theorem dX8_settles_32 : decode cX8_settles 32 = .ok (.aload_n 0, 1) := by decide +kernel
theorem dX8_settles_33 : decode cX8_settles 33 = .ok (.getfield 109, 3) := by decide +kernel
theorem dX8_settles_36 : decode cX8_settles 36 = .ok (.putfield 112, 3) := by decide +kernel
theorem dX8_settles_39 : decode cX8_settles 39 = .ok (.aload_n 0, 1) := by decide +kernel
theorem dX8_settles_40 : decode cX8_settles 40 = .ok (.getfield 13, 3) := by decide +kernel
theorem dX8_settles_43 : decode cX8_settles 43 = .ok (.iconst 0, 1) := by decide +kernel
theorem dX8_settles_44 : decode cX8_settles 44 = .ok (.aload_n 0, 1) := by decide +kernel
theorem dX8_settles_45 : decode cX8_settles 45 = .ok (.getfield 43, 3) := by decide +kernel
theorem dX8_settles_48 : decode cX8_settles 48 = .ok (.iconst 0, 1) := by decide +kernel
theorem dX8_settles_49 : decode cX8_settles 49 = .ok (.bipush 8, 2) := by decide +kernel
theorem dX8_settles_51 : decode cX8_settles 51 = .ok (.invokestatic 162, 3) := by decide +kernel
theorem dX8_settles_54 : decode cX8_settles 54 = .ok (.aload_n 0, 1) := by decide +kernel
theorem dX8_settles_55 : decode cX8_settles 55 = .ok (.getfield 16, 3) := by decide +kernel
theorem dX8_settles_58 : decode cX8_settles 58 = .ok (.iconst 0, 1) := by decide +kernel
theorem dX8_settles_59 : decode cX8_settles 59 = .ok (.aload_n 0, 1) := by decide +kernel
theorem dX8_settles_60 : decode cX8_settles 60 = .ok (.getfield 46, 3) := by decide +kernel
theorem dX8_settles_63 : decode cX8_settles 63 = .ok (.iconst 0, 1) := by decide +kernel
theorem dX8_settles_64 : decode cX8_settles 64 = .ok (.bipush 8, 2) := by decide +kernel
theorem dX8_settles_66 : decode cX8_settles 66 = .ok (.invokestatic 162, 3) := by decide +kernel
theorem dX8_settles_69 : decode cX8_settles 69 = .ok (.aload_n 0, 1) := by decide +kernel
theorem dX8_settles_70 : decode cX8_settles 70 = .ok (.aload_n 0, 1) := by decide +kernel
theorem dX8_settles_71 : decode cX8_settles 71 = .ok (.getfield 90, 3) := by decide +kernel
theorem dX8_settles_74 : decode cX8_settles 74 = .ok (.putfield 166, 3) := by decide +kernel
theorem dX8_settles_77 : decode cX8_settles 77 = .ok (.aload_n 0, 1) := by decide +kernel
theorem dX8_settles_78 : decode cX8_settles 78 = .ok (.aload_n 0, 1) := by decide +kernel
theorem dX8_settles_79 : decode cX8_settles 79 = .ok (.getfield 94, 3) := by decide +kernel
theorem dX8_settles_82 : decode cX8_settles 82 = .ok (.putfield 169, 3) := by decide +kernel
theorem dX8_settles_85 : decode cX8_settles 85 = .ok (.aload_n 0, 1) := by decide +kernel
theorem dX8_settles_86 : decode cX8_settles 86 = .ok (.aload_n 0, 1) := by decide +kernel
theorem dX8_settles_87 : decode cX8_settles 87 = .ok (.getfield 97, 3) := by decide +kernel
theorem dX8_settles_90 : decode cX8_settles 90 = .ok (.putfield 172, 3) := by decide +kernel
theorem dX8_settles_93 : decode cX8_settles 93 = .ok (.aload_n 0, 1) := by decide +kernel
theorem dX8_settles_94 : decode cX8_settles 94 = .ok (.getfield 19, 3) := by decide +kernel
theorem dX8_settles_97 : decode cX8_settles 97 = .ok (.iconst 0, 1) := by decide +kernel
theorem dX8_settles_98 : decode cX8_settles 98 = .ok (.aload_n 0, 1) := by decide +kernel
theorem dX8_settles_99 : decode cX8_settles 99 = .ok (.getfield 52, 3) := by decide +kernel
theorem dX8_settles_102 : decode cX8_settles 102 = .ok (.iconst 0, 1) := by decide +kernel
theorem dX8_settles_103 : decode cX8_settles 103 = .ok (.bipush 9, 2) := by decide +kernel
theorem dX8_settles_105 : decode cX8_settles 105 = .ok (.invokestatic 162, 3) := by decide +kernel
theorem dX8_settles_108 : decode cX8_settles 108 = .ok (.iconst 0, 1) := by decide +kernel
theorem dX8_settles_109 : decode cX8_settles 109 = .ok (.istore_n 1, 1) := by decide +kernel
theorem dX8_settles_110 : decode cX8_settles 110 = .ok (.iload_n 1, 1) := by decide +kernel
theorem dX8_settles_111 : decode cX8_settles 111 = .ok (.bipush 54, 2) := by decide +kernel
theorem dX8_settles_113 : decode cX8_settles 113 = .ok (.if_icmp .ge 16, 3) := by decide +kernel
theorem dX8_settles_116 : decode cX8_settles 116 = .ok (.aload_n 0, 1) := by decide +kernel
theorem dX8_settles_117 : decode cX8_settles 117 = .ok (.getfield 22, 3) := by decide +kernel
theorem dX8_settles_120 : decode cX8_settles 120 = .ok (.iload_n 1, 1) := by decide +kernel
theorem dX8_settles_121 : decode cX8_settles 121 = .ok (.iconst 0, 1) := by decide +kernel
theorem dX8_settles_122 : decode cX8_settles 122 = .ok (.iastore, 1) := by decide +kernel
theorem dX8_settles_123 : decode cX8_settles 123 = .ok (.iinc 1 1, 3) := by decide +kernel
theorem dX8_settles_126 : decode cX8_settles 126 = .ok (.goto (-16), 3) := by decide +kernel
theorem dX8_settles_129 : decode cX8_settles 129 = .ok (.iconst 0, 1) := by decide +kernel
theorem dX8_settles_130 : decode cX8_settles 130 = .ok (.istore_n 1, 1) := by decide +kernel
theorem dX8_settles_131 : decode cX8_settles 131 = .ok (.iload_n 1, 1) := by decide +kernel
theorem dX8_settles_132 : decode cX8_settles 132 = .ok (.aload_n 0, 1) := by decide +kernel
theorem dX8_settles_133 : decode cX8_settles 133 = .ok (.getfield 119, 3) := by decide +kernel
theorem dX8_settles_136 : decode cX8_settles 136 = .ok (.if_icmp .ge 38, 3) := by decide +kernel
theorem dX8_settles_139 : decode cX8_settles 139 = .ok (.aload_n 0, 1) := by decide +kernel
theorem dX8_settles_140 : decode cX8_settles 140 = .ok (.getfield 22, 3) := by decide +kernel
theorem dX8_settles_143 : decode cX8_settles 143 = .ok (.iconst 1, 1) := by decide +kernel
theorem dX8_settles_144 : decode cX8_settles 144 = .ok (.iload_n 1, 1) := by decide +kernel
theorem dX8_settles_145 : decode cX8_settles 145 = .ok (.iadd, 1) := by decide +kernel
theorem dX8_settles_146 : decode cX8_settles 146 = .ok (.aload_n 0, 1) := by decide +kernel
theorem dX8_settles_147 : decode cX8_settles 147 = .ok (.getfield 7, 3) := by decide +kernel
theorem dX8_settles_150 : decode cX8_settles 150 = .ok (.iload_n 1, 1) := by decide +kernel
theorem dX8_settles_151 : decode cX8_settles 151 = .ok (.iaload, 1) := by decide +kernel
theorem dX8_settles_152 : decode cX8_settles 152 = .ok (.bipush 9, 2) := by decide +kernel
theorem dX8_settles_154 : decode cX8_settles 154 = .ok (.if_icmp .ne 7, 3) := by decide +kernel
theorem dX8_settles_157 : decode cX8_settles 157 = .ok (.iconst 0, 1) := by decide +kernel
theorem dX8_settles_158 : decode cX8_settles 158 = .ok (.goto 9, 3) := by decide +kernel
theorem dX8_settles_161 : decode cX8_settles 161 = .ok (.aload_n 0, 1) := by decide +kernel
theorem dX8_settles_162 : decode cX8_settles 162 = .ok (.getfield 7, 3) := by decide +kernel
theorem dX8_settles_165 : decode cX8_settles 165 = .ok (.iload_n 1, 1) := by decide +kernel
theorem dX8_settles_166 : decode cX8_settles 166 = .ok (.iaload, 1) := by decide +kernel
theorem dX8_settles_167 : decode cX8_settles 167 = .ok (.iastore, 1) := by decide +kernel
theorem dX8_settles_168 : decode cX8_settles 168 = .ok (.iinc 1 1, 3) := by decide +kernel
theorem dX8_settles_171 : decode cX8_settles 171 = .ok (.goto (-40), 3) := by decide +kernel
theorem dX8_settles_174 : decode cX8_settles 174 = .ok (.iconst 0, 1) := by decide +kernel
theorem dX8_settles_175 : decode cX8_settles 175 = .ok (.istore_n 1, 1) := by decide +kernel
theorem dX8_settles_176 : decode cX8_settles 176 = .ok (.iload_n 1, 1) := by decide +kernel
theorem dX8_settles_177 : decode cX8_settles 177 = .ok (.bipush 8, 2) := by decide +kernel
theorem dX8_settles_179 : decode cX8_settles 179 = .ok (.if_icmp .ge 37, 3) := by decide +kernel
theorem dX8_settles_182 : decode cX8_settles 182 = .ok (.aload_n 0, 1) := by decide +kernel
theorem dX8_settles_183 : decode cX8_settles 183 = .ok (.getfield 22, 3) := by decide +kernel
theorem dX8_settles_186 : decode cX8_settles 186 = .ok (.bipush 37, 2) := by decide +kernel
theorem dX8_settles_188 : decode cX8_settles 188 = .ok (.iload_n 1, 1) := by decide +kernel
theorem dX8_settles_189 : decode cX8_settles 189 = .ok (.iadd, 1) := by decide +kernel
theorem dX8_settles_190 : decode cX8_settles 190 = .ok (.iload_n 1, 1) := by decide +kernel
theorem dX8_settles_191 : decode cX8_settles 191 = .ok (.aload_n 0, 1) := by decide +kernel
theorem dX8_settles_192 : decode cX8_settles 192 = .ok (.getfield 112, 3) := by decide +kernel
theorem dX8_settles_195 : decode cX8_settles 195 = .ok (.if_icmp .ge 12, 3) := by decide +kernel
theorem dX8_settles_198 : decode cX8_settles 198 = .ok (.aload_n 0, 1) := by decide +kernel
theorem dX8_settles_199 : decode cX8_settles 199 = .ok (.getfield 49, 3) := by decide +kernel
theorem dX8_settles_202 : decode cX8_settles 202 = .ok (.iload_n 1, 1) := by decide +kernel
theorem dX8_settles_203 : decode cX8_settles 203 = .ok (.iaload, 1) := by decide +kernel
theorem dX8_settles_204 : decode cX8_settles 204 = .ok (.goto 5, 3) := by decide +kernel
theorem dX8_settles_207 : decode cX8_settles 207 = .ok (.bipush 36, 2) := by decide +kernel
theorem dX8_settles_209 : decode cX8_settles 209 = .ok (.iastore, 1) := by decide +kernel
theorem dX8_settles_210 : decode cX8_settles 210 = .ok (.iinc 1 1, 3) := by decide +kernel
theorem dX8_settles_213 : decode cX8_settles 213 = .ok (.goto (-37), 3) := by decide +kernel
theorem dX8_settles_216 : decode cX8_settles 216 = .ok (.aload_n 0, 1) := by decide +kernel
theorem dX8_settles_217 : decode cX8_settles 217 = .ok (.iconst 0, 1) := by decide +kernel
theorem dX8_settles_218 : decode cX8_settles 218 = .ok (.putfield 175, 3) := by decide +kernel
theorem dX8_settles_221 : decode cX8_settles 221 = .ok (.aload_n 0, 1) := by decide +kernel
theorem dX8_settles_222 : decode cX8_settles 222 = .ok (.iconst 0, 1) := by decide +kernel
theorem dX8_settles_223 : decode cX8_settles 223 = .ok (.putfield 178, 3) := by decide +kernel
theorem dX8_settles_226 : decode cX8_settles 226 = .ok (.return_, 1) := by decide +kernel
theorem dX8_asItIs_0 : decode cX8_asItIs 0 = .ok (.aload_n 0, 1) := by decide +kernel
theorem dX8_asItIs_1 : decode cX8_asItIs 1 = .ok (.getfield 55, 3) := by decide +kernel
theorem dX8_asItIs_4 : decode cX8_asItIs 4 = .ok (.iconst 0, 1) := by decide +kernel
theorem dX8_asItIs_5 : decode cX8_asItIs 5 = .ok (.aload_n 0, 1) := by decide +kernel
theorem dX8_asItIs_6 : decode cX8_asItIs 6 = .ok (.getfield 22, 3) := by decide +kernel
theorem dX8_asItIs_9 : decode cX8_asItIs 9 = .ok (.iconst 0, 1) := by decide +kernel
theorem dX8_asItIs_10 : decode cX8_asItIs 10 = .ok (.bipush 54, 2) := by decide +kernel
theorem dX8_asItIs_12 : decode cX8_asItIs 12 = .ok (.invokestatic 162, 3) := by decide +kernel
theorem dX8_asItIs_15 : decode cX8_asItIs 15 = .ok (.return_, 1) := by decide +kernel
theorem dX8_kindOf_0 : decode cX8_kindOf 0 = .ok (.aload_n 0, 1) := by decide +kernel
theorem dX8_kindOf_1 : decode cX8_kindOf 1 = .ok (.getfield 13, 3) := by decide +kernel
theorem dX8_kindOf_4 : decode cX8_kindOf 4 = .ok (.iload_n 1, 1) := by decide +kernel
theorem dX8_kindOf_5 : decode cX8_kindOf 5 = .ok (.iaload, 1) := by decide +kernel
theorem dX8_kindOf_6 : decode cX8_kindOf 6 = .ok (.iconst 2, 1) := by decide +kernel
theorem dX8_kindOf_7 : decode cX8_kindOf 7 = .ok (.if_icmp .ne 21, 3) := by decide +kernel
theorem dX8_kindOf_10 : decode cX8_kindOf 10 = .ok (.aload_n 0, 1) := by decide +kernel
theorem dX8_kindOf_11 : decode cX8_kindOf 11 = .ok (.getfield 55, 3) := by decide +kernel
theorem dX8_kindOf_14 : decode cX8_kindOf 14 = .ok (.bipush 53, 2) := by decide +kernel
theorem dX8_kindOf_16 : decode cX8_kindOf 16 = .ok (.iaload, 1) := by decide +kernel
theorem dX8_kindOf_17 : decode cX8_kindOf 17 = .ok (.iload_n 1, 1) := by decide +kernel
theorem dX8_kindOf_18 : decode cX8_kindOf 18 = .ok (.invokestatic 181, 3) := by decide +kernel
theorem dX8_kindOf_21 : decode cX8_kindOf 21 = .ok (.ifCond .eq 7, 3) := by decide +kernel
theorem dX8_kindOf_24 : decode cX8_kindOf 24 = .ok (.iconst 1, 1) := by decide +kernel
theorem dX8_kindOf_25 : decode cX8_kindOf 25 = .ok (.goto 9, 3) := by decide +kernel
theorem dX8_kindOf_28 : decode cX8_kindOf 28 = .ok (.aload_n 0, 1) := by decide +kernel
theorem dX8_kindOf_29 : decode cX8_kindOf 29 = .ok (.getfield 13, 3) := by decide +kernel
theorem dX8_kindOf_32 : decode cX8_kindOf 32 = .ok (.iload_n 1, 1) := by decide +kernel
theorem dX8_kindOf_33 : decode cX8_kindOf 33 = .ok (.iaload, 1) := by decide +kernel
theorem dX8_kindOf_34 : decode cX8_kindOf 34 = .ok (.ireturn, 1) := by decide +kernel
theorem dX8_nextTo_0 : decode cX8_nextTo 0 = .ok (.iload_n 2, 1) := by decide +kernel
theorem dX8_nextTo_1 : decode cX8_nextTo 1 = .ok (.tableswitch 96 0 2 #[27, 47, 71], 27) := by decide +kernel
theorem dX8_nextTo_28 : decode cX8_nextTo 28 = .ok (.iload_n 1, 1) := by decide +kernel
theorem dX8_nextTo_29 : decode cX8_nextTo 29 = .ok (.aload_n 0, 1) := by decide +kernel
theorem dX8_nextTo_30 : decode cX8_nextTo 30 = .ok (.getfield 159, 3) := by decide +kernel
theorem dX8_nextTo_33 : decode cX8_nextTo 33 = .ok (.if_icmp .lt 12, 3) := by decide +kernel
theorem dX8_nextTo_36 : decode cX8_nextTo 36 = .ok (.iload_n 1, 1) := by decide +kernel
theorem dX8_nextTo_37 : decode cX8_nextTo 37 = .ok (.aload_n 0, 1) := by decide +kernel
theorem dX8_nextTo_38 : decode cX8_nextTo 38 = .ok (.getfield 159, 3) := by decide +kernel
theorem dX8_nextTo_41 : decode cX8_nextTo 41 = .ok (.isub, 1) := by decide +kernel
theorem dX8_nextTo_42 : decode cX8_nextTo 42 = .ok (.goto 5, 3) := by decide +kernel
theorem dX8_nextTo_45 : decode cX8_nextTo 45 = .ok (.bipush (-4), 2) := by decide +kernel
theorem dX8_nextTo_47 : decode cX8_nextTo 47 = .ok (.ireturn, 1) := by decide +kernel
theorem dX8_nextTo_48 : decode cX8_nextTo 48 = .ok (.iload_n 1, 1) := by decide +kernel
theorem dX8_nextTo_49 : decode cX8_nextTo 49 = .ok (.aload_n 0, 1) := by decide +kernel
theorem dX8_nextTo_50 : decode cX8_nextTo 50 = .ok (.getfield 159, 3) := by decide +kernel
theorem dX8_nextTo_53 : decode cX8_nextTo 53 = .ok (.irem, 1) := by decide +kernel
theorem dX8_nextTo_54 : decode cX8_nextTo 54 = .ok (.aload_n 0, 1) := by decide +kernel
theorem dX8_nextTo_55 : decode cX8_nextTo 55 = .ok (.getfield 159, 3) := by decide +kernel
theorem dX8_nextTo_58 : decode cX8_nextTo 58 = .ok (.iconst 1, 1) := by decide +kernel
theorem dX8_nextTo_59 : decode cX8_nextTo 59 = .ok (.isub, 1) := by decide +kernel
theorem dX8_nextTo_60 : decode cX8_nextTo 60 = .ok (.if_icmp .ge 9, 3) := by decide +kernel
theorem dX8_nextTo_63 : decode cX8_nextTo 63 = .ok (.iload_n 1, 1) := by decide +kernel
theorem dX8_nextTo_64 : decode cX8_nextTo 64 = .ok (.iconst 1, 1) := by decide +kernel
theorem dX8_nextTo_65 : decode cX8_nextTo 65 = .ok (.iadd, 1) := by decide +kernel
theorem dX8_nextTo_66 : decode cX8_nextTo 66 = .ok (.goto 5, 3) := by decide +kernel
theorem dX8_nextTo_69 : decode cX8_nextTo 69 = .ok (.bipush (-4), 2) := by decide +kernel
theorem dX8_nextTo_71 : decode cX8_nextTo 71 = .ok (.ireturn, 1) := by decide +kernel
theorem dX8_nextTo_72 : decode cX8_nextTo 72 = .ok (.iload_n 1, 1) := by decide +kernel
theorem dX8_nextTo_73 : decode cX8_nextTo 73 = .ok (.aload_n 0, 1) := by decide +kernel
theorem dX8_nextTo_74 : decode cX8_nextTo 74 = .ok (.getfield 159, 3) := by decide +kernel
theorem dX8_nextTo_77 : decode cX8_nextTo 77 = .ok (.iadd, 1) := by decide +kernel
theorem dX8_nextTo_78 : decode cX8_nextTo 78 = .ok (.aload_n 0, 1) := by decide +kernel
theorem dX8_nextTo_79 : decode cX8_nextTo 79 = .ok (.getfield 119, 3) := by decide +kernel
theorem dX8_nextTo_82 : decode cX8_nextTo 82 = .ok (.if_icmp .ge 12, 3) := by decide +kernel
theorem dX8_nextTo_85 : decode cX8_nextTo 85 = .ok (.iload_n 1, 1) := by decide +kernel
theorem dX8_nextTo_86 : decode cX8_nextTo 86 = .ok (.aload_n 0, 1) := by decide +kernel
theorem dX8_nextTo_87 : decode cX8_nextTo 87 = .ok (.getfield 159, 3) := by decide +kernel
theorem dX8_nextTo_90 : decode cX8_nextTo 90 = .ok (.iadd, 1) := by decide +kernel
theorem dX8_nextTo_91 : decode cX8_nextTo 91 = .ok (.goto 5, 3) := by decide +kernel
theorem dX8_nextTo_94 : decode cX8_nextTo 94 = .ok (.bipush (-4), 2) := by decide +kernel
theorem dX8_nextTo_96 : decode cX8_nextTo 96 = .ok (.ireturn, 1) := by decide +kernel
theorem dX8_nextTo_97 : decode cX8_nextTo 97 = .ok (.iload_n 1, 1) := by decide +kernel
theorem dX8_nextTo_98 : decode cX8_nextTo 98 = .ok (.aload_n 0, 1) := by decide +kernel
theorem dX8_nextTo_99 : decode cX8_nextTo 99 = .ok (.getfield 159, 3) := by decide +kernel
theorem dX8_nextTo_102 : decode cX8_nextTo 102 = .ok (.irem, 1) := by decide +kernel
theorem dX8_nextTo_103 : decode cX8_nextTo 103 = .ok (.ifCond .le 9, 3) := by decide +kernel
theorem dX8_nextTo_106 : decode cX8_nextTo 106 = .ok (.iload_n 1, 1) := by decide +kernel
theorem dX8_nextTo_107 : decode cX8_nextTo 107 = .ok (.iconst 1, 1) := by decide +kernel
theorem dX8_nextTo_108 : decode cX8_nextTo 108 = .ok (.isub, 1) := by decide +kernel
theorem dX8_nextTo_109 : decode cX8_nextTo 109 = .ok (.goto 5, 3) := by decide +kernel
theorem dX8_nextTo_112 : decode cX8_nextTo 112 = .ok (.bipush (-4), 2) := by decide +kernel
theorem dX8_nextTo_114 : decode cX8_nextTo 114 = .ok (.ireturn, 1) := by decide +kernel
theorem dX8_onIt_0 : decode cX8_onIt 0 = .ok (.bipush (-4), 2) := by decide +kernel
theorem dX8_onIt_2 : decode cX8_onIt 2 = .ok (.istore_n 2, 1) := by decide +kernel
theorem dX8_onIt_3 : decode cX8_onIt 3 = .ok (.iconst 0, 1) := by decide +kernel
theorem dX8_onIt_4 : decode cX8_onIt 4 = .ok (.istore_n 3, 1) := by decide +kernel
theorem dX8_onIt_5 : decode cX8_onIt 5 = .ok (.iload_n 3, 1) := by decide +kernel
theorem dX8_onIt_6 : decode cX8_onIt 6 = .ok (.aload_n 0, 1) := by decide +kernel
theorem dX8_onIt_7 : decode cX8_onIt 7 = .ok (.getfield 112, 3) := by decide +kernel
theorem dX8_onIt_10 : decode cX8_onIt 10 = .ok (.if_icmp .ge 28, 3) := by decide +kernel
theorem dX8_onIt_13 : decode cX8_onIt 13 = .ok (.aload_n 0, 1) := by decide +kernel
theorem dX8_onIt_14 : decode cX8_onIt 14 = .ok (.getfield 55, 3) := by decide +kernel
theorem dX8_onIt_17 : decode cX8_onIt 17 = .ok (.bipush 37, 2) := by decide +kernel
theorem dX8_onIt_19 : decode cX8_onIt 19 = .ok (.iload_n 3, 1) := by decide +kernel
theorem dX8_onIt_20 : decode cX8_onIt 20 = .ok (.iadd, 1) := by decide +kernel
theorem dX8_onIt_21 : decode cX8_onIt 21 = .ok (.iaload, 1) := by decide +kernel
theorem dX8_onIt_22 : decode cX8_onIt 22 = .ok (.iload_n 1, 1) := by decide +kernel
theorem dX8_onIt_23 : decode cX8_onIt 23 = .ok (.if_icmp .ne 7, 3) := by decide +kernel
theorem dX8_onIt_26 : decode cX8_onIt 26 = .ok (.iload_n 3, 1) := by decide +kernel
theorem dX8_onIt_27 : decode cX8_onIt 27 = .ok (.goto 4, 3) := by decide +kernel
theorem dX8_onIt_30 : decode cX8_onIt 30 = .ok (.iload_n 2, 1) := by decide +kernel
theorem dX8_onIt_31 : decode cX8_onIt 31 = .ok (.istore_n 2, 1) := by decide +kernel
theorem dX8_onIt_32 : decode cX8_onIt 32 = .ok (.iinc 3 1, 3) := by decide +kernel
theorem dX8_onIt_35 : decode cX8_onIt 35 = .ok (.goto (-30), 3) := by decide +kernel
theorem dX8_onIt_38 : decode cX8_onIt 38 = .ok (.iload_n 2, 1) := by decide +kernel
theorem dX8_onIt_39 : decode cX8_onIt 39 = .ok (.ireturn, 1) := by decide +kernel
theorem dX8_isSnow_0 : decode cX8_isSnow 0 = .ok (.aload_n 0, 1) := by decide +kernel
theorem dX8_isSnow_1 : decode cX8_isSnow 1 = .ok (.getfield 172, 3) := by decide +kernel
theorem dX8_isSnow_4 : decode cX8_isSnow 4 = .ok (.ifCond .le 27, 3) := by decide +kernel
theorem dX8_isSnow_7 : decode cX8_isSnow 7 = .ok (.aload_n 0, 1) := by decide +kernel
theorem dX8_isSnow_8 : decode cX8_isSnow 8 = .ok (.getfield 19, 3) := by decide +kernel
theorem dX8_isSnow_11 : decode cX8_isSnow 11 = .ok (.aload_n 0, 1) := by decide +kernel
theorem dX8_isSnow_12 : decode cX8_isSnow 12 = .ok (.getfield 55, 3) := by decide +kernel
theorem dX8_isSnow_15 : decode cX8_isSnow 15 = .ok (.iconst 0, 1) := by decide +kernel
theorem dX8_isSnow_16 : decode cX8_isSnow 16 = .ok (.iaload, 1) := by decide +kernel
theorem dX8_isSnow_17 : decode cX8_isSnow 17 = .ok (.aload_n 0, 1) := by decide +kernel
theorem dX8_isSnow_18 : decode cX8_isSnow 18 = .ok (.getfield 172, 3) := by decide +kernel
theorem dX8_isSnow_21 : decode cX8_isSnow 21 = .ok (.irem, 1) := by decide +kernel
theorem dX8_isSnow_22 : decode cX8_isSnow 22 = .ok (.iaload, 1) := by decide +kernel
theorem dX8_isSnow_23 : decode cX8_isSnow 23 = .ok (.iconst 1, 1) := by decide +kernel
theorem dX8_isSnow_24 : decode cX8_isSnow 24 = .ok (.if_icmp .ne 7, 3) := by decide +kernel
theorem dX8_isSnow_27 : decode cX8_isSnow 27 = .ok (.iconst 1, 1) := by decide +kernel
theorem dX8_isSnow_28 : decode cX8_isSnow 28 = .ok (.goto 4, 3) := by decide +kernel
theorem dX8_isSnow_31 : decode cX8_isSnow 31 = .ok (.iconst 0, 1) := by decide +kernel
theorem dX8_isSnow_32 : decode cX8_isSnow 32 = .ok (.ireturn, 1) := by decide +kernel
theorem dX8_isNearRam_0 : decode cX8_isNearRam 0 = .ok (.iconst 0, 1) := by decide +kernel
theorem dX8_isNearRam_1 : decode cX8_isNearRam 1 = .ok (.istore_n 3, 1) := by decide +kernel
theorem dX8_isNearRam_2 : decode cX8_isNearRam 2 = .ok (.iconst 0, 1) := by decide +kernel
theorem dX8_isNearRam_3 : decode cX8_isNearRam 3 = .ok (.istore 4, 2) := by decide +kernel
theorem dX8_isNearRam_5 : decode cX8_isNearRam 5 = .ok (.iload 4, 2) := by decide +kernel
theorem dX8_isNearRam_7 : decode cX8_isNearRam 7 = .ok (.iconst 4, 1) := by decide +kernel
theorem dX8_isNearRam_8 : decode cX8_isNearRam 8 = .ok (.if_icmp .ge 71, 3) := by decide +kernel
theorem dX8_isNearRam_11 : decode cX8_isNearRam 11 = .ok (.aload_n 0, 1) := by decide +kernel
theorem dX8_isNearRam_12 : decode cX8_isNearRam 12 = .ok (.iload_n 1, 1) := by decide +kernel
theorem dX8_isNearRam_13 : decode cX8_isNearRam 13 = .ok (.iload 4, 2) := by decide +kernel
theorem dX8_isNearRam_15 : decode cX8_isNearRam 15 = .ok (.invokevirtual 185, 3) := by decide +kernel
theorem dX8_isNearRam_18 : decode cX8_isNearRam 18 = .ok (.istore 5, 2) := by decide +kernel
theorem dX8_isNearRam_20 : decode cX8_isNearRam 20 = .ok (.iload 5, 2) := by decide +kernel
theorem dX8_isNearRam_22 : decode cX8_isNearRam 22 = .ok (.ifCond .ge 8, 3) := by decide +kernel
theorem dX8_isNearRam_25 : decode cX8_isNearRam 25 = .ok (.bipush (-4), 2) := by decide +kernel
theorem dX8_isNearRam_27 : decode cX8_isNearRam 27 = .ok (.goto 9, 3) := by decide +kernel
theorem dX8_isNearRam_30 : decode cX8_isNearRam 30 = .ok (.aload_n 0, 1) := by decide +kernel
theorem dX8_isNearRam_31 : decode cX8_isNearRam 31 = .ok (.iload 5, 2) := by decide +kernel
theorem dX8_isNearRam_33 : decode cX8_isNearRam 33 = .ok (.invokevirtual 189, 3) := by decide +kernel
theorem dX8_isNearRam_36 : decode cX8_isNearRam 36 = .ok (.istore 6, 2) := by decide +kernel
theorem dX8_isNearRam_38 : decode cX8_isNearRam 38 = .ok (.iload_n 3, 1) := by decide +kernel
theorem dX8_isNearRam_39 : decode cX8_isNearRam 39 = .ok (.ifCond .ne 28, 3) := by decide +kernel
theorem dX8_isNearRam_42 : decode cX8_isNearRam 42 = .ok (.iload 6, 2) := by decide +kernel
theorem dX8_isNearRam_44 : decode cX8_isNearRam 44 = .ok (.ifCond .lt 27, 3) := by decide +kernel
theorem dX8_isNearRam_47 : decode cX8_isNearRam 47 = .ok (.aload_n 0, 1) := by decide +kernel
theorem dX8_isNearRam_48 : decode cX8_isNearRam 48 = .ok (.getfield 16, 3) := by decide +kernel
theorem dX8_isNearRam_51 : decode cX8_isNearRam 51 = .ok (.iload 6, 2) := by decide +kernel
theorem dX8_isNearRam_53 : decode cX8_isNearRam 53 = .ok (.iaload, 1) := by decide +kernel
theorem dX8_isNearRam_54 : decode cX8_isNearRam 54 = .ok (.iload_n 2, 1) := by decide +kernel
theorem dX8_isNearRam_55 : decode cX8_isNearRam 55 = .ok (.if_icmp .eq 16, 3) := by decide +kernel
theorem dX8_isNearRam_58 : decode cX8_isNearRam 58 = .ok (.aload_n 0, 1) := by decide +kernel
theorem dX8_isNearRam_59 : decode cX8_isNearRam 59 = .ok (.iload 6, 2) := by decide +kernel
theorem dX8_isNearRam_61 : decode cX8_isNearRam 61 = .ok (.invokevirtual 192, 3) := by decide +kernel
theorem dX8_isNearRam_64 : decode cX8_isNearRam 64 = .ok (.ifCond .ne 7, 3) := by decide +kernel
theorem dX8_isNearRam_67 : decode cX8_isNearRam 67 = .ok (.iconst 1, 1) := by decide +kernel
theorem dX8_isNearRam_68 : decode cX8_isNearRam 68 = .ok (.goto 4, 3) := by decide +kernel
theorem dX8_isNearRam_71 : decode cX8_isNearRam 71 = .ok (.iconst 0, 1) := by decide +kernel
theorem dX8_isNearRam_72 : decode cX8_isNearRam 72 = .ok (.istore_n 3, 1) := by decide +kernel
theorem dX8_isNearRam_73 : decode cX8_isNearRam 73 = .ok (.iinc 4 1, 3) := by decide +kernel
theorem dX8_isNearRam_76 : decode cX8_isNearRam 76 = .ok (.goto (-71), 3) := by decide +kernel
theorem dX8_isNearRam_79 : decode cX8_isNearRam 79 = .ok (.iload_n 3, 1) := by decide +kernel
theorem dX8_isNearRam_80 : decode cX8_isNearRam 80 = .ok (.ireturn, 1) := by decide +kernel
theorem dX8_stepTo_0 : decode cX8_stepTo 0 = .ok (.aload_n 0, 1) := by decide +kernel
theorem dX8_stepTo_1 : decode cX8_stepTo 1 = .ok (.iload_n 2, 1) := by decide +kernel
theorem dX8_stepTo_2 : decode cX8_stepTo 2 = .ok (.iload_n 3, 1) := by decide +kernel
theorem dX8_stepTo_3 : decode cX8_stepTo 3 = .ok (.invokevirtual 185, 3) := by decide +kernel
theorem dX8_stepTo_6 : decode cX8_stepTo 6 = .ok (.istore 5, 2) := by decide +kernel
theorem dX8_stepTo_8 : decode cX8_stepTo 8 = .ok (.iload 5, 2) := by decide +kernel
theorem dX8_stepTo_10 : decode cX8_stepTo 10 = .ok (.ifCond .lt 15, 3) := by decide +kernel
theorem dX8_stepTo_13 : decode cX8_stepTo 13 = .ok (.aload_n 0, 1) := by decide +kernel
theorem dX8_stepTo_14 : decode cX8_stepTo 14 = .ok (.getfield 7, 3) := by decide +kernel
theorem dX8_stepTo_17 : decode cX8_stepTo 17 = .ok (.iload 5, 2) := by decide +kernel
theorem dX8_stepTo_19 : decode cX8_stepTo 19 = .ok (.iaload, 1) := by decide +kernel
theorem dX8_stepTo_20 : decode cX8_stepTo 20 = .ok (.bipush 9, 2) := by decide +kernel
theorem dX8_stepTo_22 : decode cX8_stepTo 22 = .ok (.if_icmp .ne 6, 3) := by decide +kernel
theorem dX8_stepTo_25 : decode cX8_stepTo 25 = .ok (.bipush (-4), 2) := by decide +kernel
theorem dX8_stepTo_27 : decode cX8_stepTo 27 = .ok (.ireturn, 1) := by decide +kernel
theorem dX8_stepTo_28 : decode cX8_stepTo 28 = .ok (.aload_n 0, 1) := by decide +kernel
theorem dX8_stepTo_29 : decode cX8_stepTo 29 = .ok (.iload 5, 2) := by decide +kernel
theorem dX8_stepTo_31 : decode cX8_stepTo 31 = .ok (.invokevirtual 189, 3) := by decide +kernel
theorem dX8_stepTo_34 : decode cX8_stepTo 34 = .ok (.istore 6, 2) := by decide +kernel
theorem dX8_stepTo_36 : decode cX8_stepTo 36 = .ok (.iload 6, 2) := by decide +kernel
theorem dX8_stepTo_38 : decode cX8_stepTo 38 = .ok (.ifCond .lt 24, 3) := by decide +kernel
theorem dX8_stepTo_41 : decode cX8_stepTo 41 = .ok (.aload_n 0, 1) := by decide +kernel
theorem dX8_stepTo_42 : decode cX8_stepTo 42 = .ok (.getfield 16, 3) := by decide +kernel
theorem dX8_stepTo_45 : decode cX8_stepTo 45 = .ok (.iload 6, 2) := by decide +kernel
theorem dX8_stepTo_47 : decode cX8_stepTo 47 = .ok (.iaload, 1) := by decide +kernel
theorem dX8_stepTo_48 : decode cX8_stepTo 48 = .ok (.aload_n 0, 1) := by decide +kernel
theorem dX8_stepTo_49 : decode cX8_stepTo 49 = .ok (.getfield 16, 3) := by decide +kernel
theorem dX8_stepTo_52 : decode cX8_stepTo 52 = .ok (.iload_n 1, 1) := by decide +kernel
theorem dX8_stepTo_53 : decode cX8_stepTo 53 = .ok (.iaload, 1) := by decide +kernel
theorem dX8_stepTo_54 : decode cX8_stepTo 54 = .ok (.if_icmp .eq 32, 3) := by decide +kernel
theorem dX8_stepTo_57 : decode cX8_stepTo 57 = .ok (.iload 4, 2) := by decide +kernel
theorem dX8_stepTo_59 : decode cX8_stepTo 59 = .ok (.ifCond .eq 27, 3) := by decide +kernel
theorem dX8_stepTo_62 : decode cX8_stepTo 62 = .ok (.aload_n 0, 1) := by decide +kernel
theorem dX8_stepTo_63 : decode cX8_stepTo 63 = .ok (.iload_n 1, 1) := by decide +kernel
theorem dX8_stepTo_64 : decode cX8_stepTo 64 = .ok (.invokevirtual 192, 3) := by decide +kernel
theorem dX8_stepTo_67 : decode cX8_stepTo 67 = .ok (.iconst 3, 1) := by decide +kernel
theorem dX8_stepTo_68 : decode cX8_stepTo 68 = .ok (.if_icmp .ne 21, 3) := by decide +kernel
theorem dX8_stepTo_71 : decode cX8_stepTo 71 = .ok (.aload_n 0, 1) := by decide +kernel
theorem dX8_stepTo_72 : decode cX8_stepTo 72 = .ok (.iload 5, 2) := by decide +kernel
theorem dX8_stepTo_74 : decode cX8_stepTo 74 = .ok (.aload_n 0, 1) := by decide +kernel
theorem dX8_stepTo_75 : decode cX8_stepTo 75 = .ok (.getfield 16, 3) := by decide +kernel
theorem dX8_stepTo_78 : decode cX8_stepTo 78 = .ok (.iload_n 1, 1) := by decide +kernel
theorem dX8_stepTo_79 : decode cX8_stepTo 79 = .ok (.iaload, 1) := by decide +kernel
theorem dX8_stepTo_80 : decode cX8_stepTo 80 = .ok (.invokevirtual 195, 3) := by decide +kernel
theorem dX8_stepTo_83 : decode cX8_stepTo 83 = .ok (.ifCond .eq 6, 3) := by decide +kernel
theorem dX8_stepTo_86 : decode cX8_stepTo 86 = .ok (.bipush (-4), 2) := by decide +kernel
theorem dX8_stepTo_88 : decode cX8_stepTo 88 = .ok (.ireturn, 1) := by decide +kernel
theorem dX8_stepTo_89 : decode cX8_stepTo 89 = .ok (.iload 5, 2) := by decide +kernel
theorem dX8_stepTo_91 : decode cX8_stepTo 91 = .ok (.ireturn, 1) := by decide +kernel
theorem dX8_comesTo_0 : decode cX8_comesTo 0 = .ok (.aload_n 0, 1) := by decide +kernel
theorem dX8_comesTo_1 : decode cX8_comesTo 1 = .ok (.iload_n 1, 1) := by decide +kernel
theorem dX8_comesTo_2 : decode cX8_comesTo 2 = .ok (.invokevirtual 192, 3) := by decide +kernel
theorem dX8_comesTo_5 : decode cX8_comesTo 5 = .ok (.istore 4, 2) := by decide +kernel
theorem dX8_comesTo_7 : decode cX8_comesTo 7 = .ok (.aload_n 0, 1) := by decide +kernel
theorem dX8_comesTo_8 : decode cX8_comesTo 8 = .ok (.bipush (-4), 2) := by decide +kernel
theorem dX8_comesTo_10 : decode cX8_comesTo 10 = .ok (.putfield 198, 3) := by decide +kernel
theorem dX8_comesTo_13 : decode cX8_comesTo 13 = .ok (.iload 4, 2) := by decide +kernel
theorem dX8_comesTo_15 : decode cX8_comesTo 15 = .ok (.iconst 2, 1) := by decide +kernel
theorem dX8_comesTo_16 : decode cX8_comesTo 16 = .ok (.if_icmp .ne 24, 3) := by decide +kernel
theorem dX8_comesTo_19 : decode cX8_comesTo 19 = .ok (.iload_n 2, 1) := by decide +kernel
theorem dX8_comesTo_20 : decode cX8_comesTo 20 = .ok (.aload_n 0, 1) := by decide +kernel
theorem dX8_comesTo_21 : decode cX8_comesTo 21 = .ok (.getfield 16, 3) := by decide +kernel
theorem dX8_comesTo_24 : decode cX8_comesTo 24 = .ok (.iload_n 1, 1) := by decide +kernel
theorem dX8_comesTo_25 : decode cX8_comesTo 25 = .ok (.iaload, 1) := by decide +kernel
theorem dX8_comesTo_26 : decode cX8_comesTo 26 = .ok (.ifCond .ne 7, 3) := by decide +kernel
theorem dX8_comesTo_29 : decode cX8_comesTo 29 = .ok (.iconst 0, 1) := by decide +kernel
theorem dX8_comesTo_30 : decode cX8_comesTo 30 = .ok (.goto 4, 3) := by decide +kernel
theorem dX8_comesTo_33 : decode cX8_comesTo 33 = .ok (.iconst 2, 1) := by decide +kernel
theorem dX8_comesTo_34 : decode cX8_comesTo 34 = .ok (.if_icmp .eq 6, 3) := by decide +kernel
theorem dX8_comesTo_37 : decode cX8_comesTo 37 = .ok (.bipush (-4), 2) := by decide +kernel
theorem dX8_comesTo_39 : decode cX8_comesTo 39 = .ok (.ireturn, 1) := by decide +kernel
theorem dX8_comesTo_40 : decode cX8_comesTo 40 = .ok (.iload_n 3, 1) := by decide +kernel
theorem dX8_comesTo_41 : decode cX8_comesTo 41 = .ok (.ifCond .eq 20, 3) := by decide +kernel
theorem dX8_comesTo_44 : decode cX8_comesTo 44 = .ok (.iload 4, 2) := by decide +kernel
theorem dX8_comesTo_46 : decode cX8_comesTo 46 = .ok (.iconst 2, 1) := by decide +kernel
theorem dX8_comesTo_47 : decode cX8_comesTo 47 = .ok (.if_icmp .eq 14, 3) := by decide +kernel
theorem dX8_comesTo_50 : decode cX8_comesTo 50 = .ok (.aload_n 0, 1) := by decide +kernel
theorem dX8_comesTo_51 : decode cX8_comesTo 51 = .ok (.invokevirtual 201, 3) := by decide +kernel
theorem dX8_comesTo_54 : decode cX8_comesTo 54 = .ok (.ifCond .ne 7, 3) := by decide +kernel
theorem dX8_comesTo_57 : decode cX8_comesTo 57 = .ok (.iconst 1, 1) := by decide +kernel
theorem dX8_comesTo_58 : decode cX8_comesTo 58 = .ok (.goto 4, 3) := by decide +kernel
theorem dX8_comesTo_61 : decode cX8_comesTo 61 = .ok (.iconst 0, 1) := by decide +kernel
theorem dX8_comesTo_62 : decode cX8_comesTo 62 = .ok (.istore 5, 2) := by decide +kernel
theorem dX8_comesTo_64 : decode cX8_comesTo 64 = .ok (.aload_n 0, 1) := by decide +kernel
theorem dX8_comesTo_65 : decode cX8_comesTo 65 = .ok (.iload_n 1, 1) := by decide +kernel
theorem dX8_comesTo_66 : decode cX8_comesTo 66 = .ok (.aload_n 0, 1) := by decide +kernel
theorem dX8_comesTo_67 : decode cX8_comesTo 67 = .ok (.getfield 55, 3) := by decide +kernel
theorem dX8_comesTo_70 : decode cX8_comesTo 70 = .ok (.bipush 37, 2) := by decide +kernel
theorem dX8_comesTo_72 : decode cX8_comesTo 72 = .ok (.iload_n 1, 1) := by decide +kernel
theorem dX8_comesTo_73 : decode cX8_comesTo 73 = .ok (.iadd, 1) := by decide +kernel
theorem dX8_comesTo_74 : decode cX8_comesTo 74 = .ok (.iaload, 1) := by decide +kernel
theorem dX8_comesTo_75 : decode cX8_comesTo 75 = .ok (.iload_n 2, 1) := by decide +kernel
theorem dX8_comesTo_76 : decode cX8_comesTo 76 = .ok (.iload 5, 2) := by decide +kernel
theorem dX8_comesTo_78 : decode cX8_comesTo 78 = .ok (.invokevirtual 204, 3) := by decide +kernel
theorem dX8_comesTo_81 : decode cX8_comesTo 81 = .ok (.istore 6, 2) := by decide +kernel
theorem dX8_comesTo_83 : decode cX8_comesTo 83 = .ok (.aload_n 0, 1) := by decide +kernel
theorem dX8_comesTo_84 : decode cX8_comesTo 84 = .ok (.iload 6, 2) := by decide +kernel
theorem dX8_comesTo_86 : decode cX8_comesTo 86 = .ok (.ifCond .ge 8, 3) := by decide +kernel
theorem dX8_comesTo_89 : decode cX8_comesTo 89 = .ok (.bipush (-4), 2) := by decide +kernel
theorem dX8_comesTo_91 : decode cX8_comesTo 91 = .ok (.goto 9, 3) := by decide +kernel
theorem dX8_comesTo_94 : decode cX8_comesTo 94 = .ok (.aload_n 0, 1) := by decide +kernel
theorem dX8_comesTo_95 : decode cX8_comesTo 95 = .ok (.iload 6, 2) := by decide +kernel
theorem dX8_comesTo_97 : decode cX8_comesTo 97 = .ok (.invokevirtual 189, 3) := by decide +kernel
theorem dX8_comesTo_100 : decode cX8_comesTo 100 = .ok (.putfield 198, 3) := by decide +kernel
theorem dX8_comesTo_103 : decode cX8_comesTo 103 = .ok (.iload 4, 2) := by decide +kernel
theorem dX8_comesTo_105 : decode cX8_comesTo 105 = .ok (.ifCond .ne 12, 3) := by decide +kernel
theorem dX8_comesTo_108 : decode cX8_comesTo 108 = .ok (.iload 6, 2) := by decide +kernel
theorem dX8_comesTo_110 : decode cX8_comesTo 110 = .ok (.ifCond .lt 7, 3) := by decide +kernel
theorem dX8_comesTo_113 : decode cX8_comesTo 113 = .ok (.iconst 1, 1) := by decide +kernel
theorem dX8_comesTo_114 : decode cX8_comesTo 114 = .ok (.goto 4, 3) := by decide +kernel
theorem dX8_comesTo_117 : decode cX8_comesTo 117 = .ok (.iconst 0, 1) := by decide +kernel
theorem dX8_comesTo_118 : decode cX8_comesTo 118 = .ok (.istore 7, 2) := by decide +kernel
theorem dX8_comesTo_120 : decode cX8_comesTo 120 = .ok (.iload 7, 2) := by decide +kernel
theorem dX8_comesTo_122 : decode cX8_comesTo 122 = .ok (.ifCond .eq 85, 3) := by decide +kernel
theorem dX8_comesTo_125 : decode cX8_comesTo 125 = .ok (.aload_n 0, 1) := by decide +kernel
theorem dX8_comesTo_126 : decode cX8_comesTo 126 = .ok (.getfield 198, 3) := by decide +kernel
theorem dX8_comesTo_129 : decode cX8_comesTo 129 = .ok (.ifCond .ge 78, 3) := by decide +kernel
theorem dX8_comesTo_132 : decode cX8_comesTo 132 = .ok (.aload_n 0, 1) := by decide +kernel
theorem dX8_comesTo_133 : decode cX8_comesTo 133 = .ok (.getfield 55, 3) := by decide +kernel
theorem dX8_comesTo_136 : decode cX8_comesTo 136 = .ok (.iconst 1, 1) := by decide +kernel
theorem dX8_comesTo_137 : decode cX8_comesTo 137 = .ok (.iload 6, 2) := by decide +kernel
theorem dX8_comesTo_139 : decode cX8_comesTo 139 = .ok (.iadd, 1) := by decide +kernel
theorem dX8_comesTo_140 : decode cX8_comesTo 140 = .ok (.iaload, 1) := by decide +kernel
theorem dX8_comesTo_141 : decode cX8_comesTo 141 = .ok (.ifCond .ne 66, 3) := by decide +kernel
theorem dX8_comesTo_144 : decode cX8_comesTo 144 = .ok (.aload_n 0, 1) := by decide +kernel
theorem dX8_comesTo_145 : decode cX8_comesTo 145 = .ok (.iload_n 1, 1) := by decide +kernel
theorem dX8_comesTo_146 : decode cX8_comesTo 146 = .ok (.iload 6, 2) := by decide +kernel
theorem dX8_comesTo_148 : decode cX8_comesTo 148 = .ok (.iload_n 2, 1) := by decide +kernel
theorem dX8_comesTo_149 : decode cX8_comesTo 149 = .ok (.iload 5, 2) := by decide +kernel
theorem dX8_comesTo_151 : decode cX8_comesTo 151 = .ok (.invokevirtual 204, 3) := by decide +kernel
theorem dX8_comesTo_154 : decode cX8_comesTo 154 = .ok (.istore 8, 2) := by decide +kernel
theorem dX8_comesTo_156 : decode cX8_comesTo 156 = .ok (.iload 8, 2) := by decide +kernel
theorem dX8_comesTo_158 : decode cX8_comesTo 158 = .ok (.ifCond .lt 7, 3) := by decide +kernel
theorem dX8_comesTo_161 : decode cX8_comesTo 161 = .ok (.iconst 1, 1) := by decide +kernel
theorem dX8_comesTo_162 : decode cX8_comesTo 162 = .ok (.goto 4, 3) := by decide +kernel
theorem dX8_comesTo_165 : decode cX8_comesTo 165 = .ok (.iconst 0, 1) := by decide +kernel
theorem dX8_comesTo_166 : decode cX8_comesTo 166 = .ok (.istore 7, 2) := by decide +kernel
theorem dX8_comesTo_168 : decode cX8_comesTo 168 = .ok (.iload 7, 2) := by decide +kernel
theorem dX8_comesTo_170 : decode cX8_comesTo 170 = .ok (.ifCond .eq 8, 3) := by decide +kernel
theorem dX8_comesTo_173 : decode cX8_comesTo 173 = .ok (.iload 8, 2) := by decide +kernel
theorem dX8_comesTo_175 : decode cX8_comesTo 175 = .ok (.goto 5, 3) := by decide +kernel
theorem dX8_comesTo_178 : decode cX8_comesTo 178 = .ok (.iload 6, 2) := by decide +kernel
theorem dX8_comesTo_180 : decode cX8_comesTo 180 = .ok (.istore 6, 2) := by decide +kernel
theorem dX8_comesTo_182 : decode cX8_comesTo 182 = .ok (.aload_n 0, 1) := by decide +kernel
theorem dX8_comesTo_183 : decode cX8_comesTo 183 = .ok (.iload 7, 2) := by decide +kernel
theorem dX8_comesTo_185 : decode cX8_comesTo 185 = .ok (.ifCond .eq 12, 3) := by decide +kernel
theorem dX8_comesTo_188 : decode cX8_comesTo 188 = .ok (.aload_n 0, 1) := by decide +kernel
theorem dX8_comesTo_189 : decode cX8_comesTo 189 = .ok (.iload 6, 2) := by decide +kernel
theorem dX8_comesTo_191 : decode cX8_comesTo 191 = .ok (.invokevirtual 189, 3) := by decide +kernel
theorem dX8_comesTo_194 : decode cX8_comesTo 194 = .ok (.goto 7, 3) := by decide +kernel
theorem dX8_comesTo_197 : decode cX8_comesTo 197 = .ok (.aload_n 0, 1) := by decide +kernel
theorem dX8_comesTo_198 : decode cX8_comesTo 198 = .ok (.getfield 198, 3) := by decide +kernel
theorem dX8_comesTo_201 : decode cX8_comesTo 201 = .ok (.putfield 198, 3) := by decide +kernel
theorem dX8_comesTo_204 : decode cX8_comesTo 204 = .ok (.goto (-84), 3) := by decide +kernel
theorem dX8_comesTo_207 : decode cX8_comesTo 207 = .ok (.iload 6, 2) := by decide +kernel
theorem dX8_comesTo_209 : decode cX8_comesTo 209 = .ok (.ireturn, 1) := by decide +kernel
theorem dX8_stands_0 : decode cX8_stands 0 = .ok (.aload_n 0, 1) := by decide +kernel
theorem dX8_stands_1 : decode cX8_stands 1 = .ok (.getfield 55, 3) := by decide +kernel
theorem dX8_stands_4 : decode cX8_stands 4 = .ok (.bipush 37, 2) := by decide +kernel
theorem dX8_stands_6 : decode cX8_stands 6 = .ok (.iload_n 1, 1) := by decide +kernel
theorem dX8_stands_7 : decode cX8_stands 7 = .ok (.iadd, 1) := by decide +kernel
theorem dX8_stands_8 : decode cX8_stands 8 = .ok (.iload_n 2, 1) := by decide +kernel
theorem dX8_stands_9 : decode cX8_stands 9 = .ok (.iastore, 1) := by decide +kernel
theorem dX8_stands_10 : decode cX8_stands 10 = .ok (.aload_n 0, 1) := by decide +kernel
theorem dX8_stands_11 : decode cX8_stands 11 = .ok (.getfield 16, 3) := by decide +kernel
theorem dX8_stands_14 : decode cX8_stands 14 = .ok (.iload_n 1, 1) := by decide +kernel
theorem dX8_stands_15 : decode cX8_stands 15 = .ok (.iaload, 1) := by decide +kernel
theorem dX8_stands_16 : decode cX8_stands 16 = .ok (.ifCond .ne 19, 3) := by decide +kernel
theorem dX8_stands_19 : decode cX8_stands 19 = .ok (.iload_n 2, 1) := by decide +kernel
theorem dX8_stands_20 : decode cX8_stands 20 = .ok (.aload_n 0, 1) := by decide +kernel
theorem dX8_stands_21 : decode cX8_stands 21 = .ok (.getfield 159, 3) := by decide +kernel
theorem dX8_stands_24 : decode cX8_stands 24 = .ok (.if_icmp .ge 7, 3) := by decide +kernel
theorem dX8_stands_27 : decode cX8_stands 27 = .ok (.iconst 1, 1) := by decide +kernel
theorem dX8_stands_28 : decode cX8_stands 28 = .ok (.goto 25, 3) := by decide +kernel
theorem dX8_stands_31 : decode cX8_stands 31 = .ok (.iconst 0, 1) := by decide +kernel
theorem dX8_stands_32 : decode cX8_stands 32 = .ok (.goto 21, 3) := by decide +kernel
theorem dX8_stands_35 : decode cX8_stands 35 = .ok (.iload_n 2, 1) := by decide +kernel
theorem dX8_stands_36 : decode cX8_stands 36 = .ok (.aload_n 0, 1) := by decide +kernel
theorem dX8_stands_37 : decode cX8_stands 37 = .ok (.getfield 119, 3) := by decide +kernel
theorem dX8_stands_40 : decode cX8_stands 40 = .ok (.aload_n 0, 1) := by decide +kernel
theorem dX8_stands_41 : decode cX8_stands 41 = .ok (.getfield 159, 3) := by decide +kernel
theorem dX8_stands_44 : decode cX8_stands 44 = .ok (.isub, 1) := by decide +kernel
theorem dX8_stands_45 : decode cX8_stands 45 = .ok (.if_icmp .lt 7, 3) := by decide +kernel
theorem dX8_stands_48 : decode cX8_stands 48 = .ok (.iconst 1, 1) := by decide +kernel
theorem dX8_stands_49 : decode cX8_stands 49 = .ok (.goto 4, 3) := by decide +kernel
theorem dX8_stands_52 : decode cX8_stands 52 = .ok (.iconst 0, 1) := by decide +kernel
theorem dX8_stands_53 : decode cX8_stands 53 = .ok (.istore_n 3, 1) := by decide +kernel
theorem dX8_stands_54 : decode cX8_stands 54 = .ok (.aload_n 0, 1) := by decide +kernel
theorem dX8_stands_55 : decode cX8_stands 55 = .ok (.getfield 55, 3) := by decide +kernel
theorem dX8_stands_58 : decode cX8_stands 58 = .ok (.bipush 53, 2) := by decide +kernel
theorem dX8_stands_60 : decode cX8_stands 60 = .ok (.dup2, 1) := by decide +kernel
theorem dX8_stands_61 : decode cX8_stands 61 = .ok (.iaload, 1) := by decide +kernel
theorem dX8_stands_62 : decode cX8_stands 62 = .ok (.aload_n 0, 1) := by decide +kernel
theorem dX8_stands_63 : decode cX8_stands 63 = .ok (.getfield 13, 3) := by decide +kernel
theorem dX8_stands_66 : decode cX8_stands 66 = .ok (.iload_n 1, 1) := by decide +kernel
theorem dX8_stands_67 : decode cX8_stands 67 = .ok (.iaload, 1) := by decide +kernel
theorem dX8_stands_68 : decode cX8_stands 68 = .ok (.iconst 2, 1) := by decide +kernel
theorem dX8_stands_69 : decode cX8_stands 69 = .ok (.if_icmp .ne 13, 3) := by decide +kernel
theorem dX8_stands_72 : decode cX8_stands 72 = .ok (.iload_n 3, 1) := by decide +kernel
theorem dX8_stands_73 : decode cX8_stands 73 = .ok (.ifCond .eq 9, 3) := by decide +kernel
theorem dX8_stands_76 : decode cX8_stands 76 = .ok (.iconst 1, 1) := by decide +kernel
theorem dX8_stands_77 : decode cX8_stands 77 = .ok (.iload_n 1, 1) := by decide +kernel
theorem dX8_stands_78 : decode cX8_stands 78 = .ok (.ishl, 1) := by decide +kernel
theorem dX8_stands_79 : decode cX8_stands 79 = .ok (.goto 4, 3) := by decide +kernel
theorem dX8_stands_82 : decode cX8_stands 82 = .ok (.iconst 0, 1) := by decide +kernel
theorem dX8_stands_83 : decode cX8_stands 83 = .ok (.ior, 1) := by decide +kernel
theorem dX8_stands_84 : decode cX8_stands 84 = .ok (.iastore, 1) := by decide +kernel
theorem dX8_stands_85 : decode cX8_stands 85 = .ok (.return_, 1) := by decide +kernel
theorem dX8_grazes_0 : decode cX8_grazes 0 = .ok (.iconst 0, 1) := by decide +kernel
theorem dX8_grazes_1 : decode cX8_grazes 1 = .ok (.istore_n 1, 1) := by decide +kernel
theorem dX8_grazes_2 : decode cX8_grazes 2 = .ok (.iload_n 1, 1) := by decide +kernel
theorem dX8_grazes_3 : decode cX8_grazes 3 = .ok (.aload_n 0, 1) := by decide +kernel
theorem dX8_grazes_4 : decode cX8_grazes 4 = .ok (.getfield 112, 3) := by decide +kernel
theorem dX8_grazes_7 : decode cX8_grazes 7 = .ok (.if_icmp .ge 111, 3) := by decide +kernel
theorem dX8_grazes_10 : decode cX8_grazes 10 = .ok (.aload_n 0, 1) := by decide +kernel
theorem dX8_grazes_11 : decode cX8_grazes 11 = .ok (.getfield 55, 3) := by decide +kernel
theorem dX8_grazes_14 : decode cX8_grazes 14 = .ok (.bipush 37, 2) := by decide +kernel
theorem dX8_grazes_16 : decode cX8_grazes 16 = .ok (.iload_n 1, 1) := by decide +kernel
theorem dX8_grazes_17 : decode cX8_grazes 17 = .ok (.iadd, 1) := by decide +kernel
theorem dX8_grazes_18 : decode cX8_grazes 18 = .ok (.iaload, 1) := by decide +kernel
theorem dX8_grazes_19 : decode cX8_grazes 19 = .ok (.istore_n 2, 1) := by decide +kernel
theorem dX8_grazes_20 : decode cX8_grazes 20 = .ok (.iload_n 2, 1) := by decide +kernel
theorem dX8_grazes_21 : decode cX8_grazes 21 = .ok (.bipush 36, 2) := by decide +kernel
theorem dX8_grazes_23 : decode cX8_grazes 23 = .ok (.if_icmp .eq 39, 3) := by decide +kernel
theorem dX8_grazes_26 : decode cX8_grazes 26 = .ok (.aload_n 0, 1) := by decide +kernel
theorem dX8_grazes_27 : decode cX8_grazes 27 = .ok (.getfield 55, 3) := by decide +kernel
theorem dX8_grazes_30 : decode cX8_grazes 30 = .ok (.iconst 1, 1) := by decide +kernel
theorem dX8_grazes_31 : decode cX8_grazes 31 = .ok (.iload_n 2, 1) := by decide +kernel
theorem dX8_grazes_32 : decode cX8_grazes 32 = .ok (.iadd, 1) := by decide +kernel
theorem dX8_grazes_33 : decode cX8_grazes 33 = .ok (.iaload, 1) := by decide +kernel
theorem dX8_grazes_34 : decode cX8_grazes 34 = .ok (.ifCond .le 28, 3) := by decide +kernel
theorem dX8_grazes_37 : decode cX8_grazes 37 = .ok (.aload_n 0, 1) := by decide +kernel
theorem dX8_grazes_38 : decode cX8_grazes 38 = .ok (.getfield 55, 3) := by decide +kernel
theorem dX8_grazes_41 : decode cX8_grazes 41 = .ok (.iconst 1, 1) := by decide +kernel
theorem dX8_grazes_42 : decode cX8_grazes 42 = .ok (.iload_n 2, 1) := by decide +kernel
theorem dX8_grazes_43 : decode cX8_grazes 43 = .ok (.iadd, 1) := by decide +kernel
theorem dX8_grazes_44 : decode cX8_grazes 44 = .ok (.dup2, 1) := by decide +kernel
theorem dX8_grazes_45 : decode cX8_grazes 45 = .ok (.iaload, 1) := by decide +kernel
theorem dX8_grazes_46 : decode cX8_grazes 46 = .ok (.iconst 1, 1) := by decide +kernel
theorem dX8_grazes_47 : decode cX8_grazes 47 = .ok (.isub, 1) := by decide +kernel
theorem dX8_grazes_48 : decode cX8_grazes 48 = .ok (.iastore, 1) := by decide +kernel
theorem dX8_grazes_49 : decode cX8_grazes 49 = .ok (.aload_n 0, 1) := by decide +kernel
theorem dX8_grazes_50 : decode cX8_grazes 50 = .ok (.getfield 55, 3) := by decide +kernel
theorem dX8_grazes_53 : decode cX8_grazes 53 = .ok (.bipush 45, 2) := by decide +kernel
theorem dX8_grazes_55 : decode cX8_grazes 55 = .ok (.iload_n 1, 1) := by decide +kernel
theorem dX8_grazes_56 : decode cX8_grazes 56 = .ok (.iadd, 1) := by decide +kernel
theorem dX8_grazes_57 : decode cX8_grazes 57 = .ok (.iconst 0, 1) := by decide +kernel
theorem dX8_grazes_58 : decode cX8_grazes 58 = .ok (.iastore, 1) := by decide +kernel
theorem dX8_grazes_59 : decode cX8_grazes 59 = .ok (.goto 53, 3) := by decide +kernel
theorem dX8_grazes_62 : decode cX8_grazes 62 = .ok (.iload_n 2, 1) := by decide +kernel
theorem dX8_grazes_63 : decode cX8_grazes 63 = .ok (.bipush 36, 2) := by decide +kernel
theorem dX8_grazes_65 : decode cX8_grazes 65 = .ok (.if_icmp .eq 47, 3) := by decide +kernel
theorem dX8_grazes_68 : decode cX8_grazes 68 = .ok (.aload_n 0, 1) := by decide +kernel
theorem dX8_grazes_69 : decode cX8_grazes 69 = .ok (.getfield 55, 3) := by decide +kernel
theorem dX8_grazes_72 : decode cX8_grazes 72 = .ok (.bipush 45, 2) := by decide +kernel
theorem dX8_grazes_74 : decode cX8_grazes 74 = .ok (.iload_n 1, 1) := by decide +kernel
theorem dX8_grazes_75 : decode cX8_grazes 75 = .ok (.iadd, 1) := by decide +kernel
theorem dX8_grazes_76 : decode cX8_grazes 76 = .ok (.dup2, 1) := by decide +kernel
theorem dX8_grazes_77 : decode cX8_grazes 77 = .ok (.iaload, 1) := by decide +kernel
theorem dX8_grazes_78 : decode cX8_grazes 78 = .ok (.iconst 1, 1) := by decide +kernel
theorem dX8_grazes_79 : decode cX8_grazes 79 = .ok (.iadd, 1) := by decide +kernel
theorem dX8_grazes_80 : decode cX8_grazes 80 = .ok (.iastore, 1) := by decide +kernel
theorem dX8_grazes_81 : decode cX8_grazes 81 = .ok (.aload_n 0, 1) := by decide +kernel
theorem dX8_grazes_82 : decode cX8_grazes 82 = .ok (.getfield 55, 3) := by decide +kernel
theorem dX8_grazes_85 : decode cX8_grazes 85 = .ok (.bipush 37, 2) := by decide +kernel
theorem dX8_grazes_87 : decode cX8_grazes 87 = .ok (.iload_n 1, 1) := by decide +kernel
theorem dX8_grazes_88 : decode cX8_grazes 88 = .ok (.iadd, 1) := by decide +kernel
theorem dX8_grazes_89 : decode cX8_grazes 89 = .ok (.aload_n 0, 1) := by decide +kernel
theorem dX8_grazes_90 : decode cX8_grazes 90 = .ok (.getfield 55, 3) := by decide +kernel
theorem dX8_grazes_93 : decode cX8_grazes 93 = .ok (.bipush 45, 2) := by decide +kernel
theorem dX8_grazes_95 : decode cX8_grazes 95 = .ok (.iload_n 1, 1) := by decide +kernel
theorem dX8_grazes_96 : decode cX8_grazes 96 = .ok (.iadd, 1) := by decide +kernel
theorem dX8_grazes_97 : decode cX8_grazes 97 = .ok (.iaload, 1) := by decide +kernel
theorem dX8_grazes_98 : decode cX8_grazes 98 = .ok (.aload_n 0, 1) := by decide +kernel
theorem dX8_grazes_99 : decode cX8_grazes 99 = .ok (.getfield 169, 3) := by decide +kernel
theorem dX8_grazes_102 : decode cX8_grazes 102 = .ok (.if_icmp .le 8, 3) := by decide +kernel
theorem dX8_grazes_105 : decode cX8_grazes 105 = .ok (.bipush 36, 2) := by decide +kernel
theorem dX8_grazes_107 : decode cX8_grazes 107 = .ok (.goto 4, 3) := by decide +kernel
theorem dX8_grazes_110 : decode cX8_grazes 110 = .ok (.iload_n 2, 1) := by decide +kernel
theorem dX8_grazes_111 : decode cX8_grazes 111 = .ok (.iastore, 1) := by decide +kernel
theorem dX8_grazes_112 : decode cX8_grazes 112 = .ok (.iinc 1 1, 3) := by decide +kernel
theorem dX8_grazes_115 : decode cX8_grazes 115 = .ok (.goto (-113), 3) := by decide +kernel
theorem dX8_grazes_118 : decode cX8_grazes 118 = .ok (.return_, 1) := by decide +kernel
theorem dX8_nextDay_0 : decode cX8_nextDay 0 = .ok (.aload_n 0, 1) := by decide +kernel
theorem dX8_nextDay_1 : decode cX8_nextDay 1 = .ok (.getfield 55, 3) := by decide +kernel
theorem dX8_nextDay_4 : decode cX8_nextDay 4 = .ok (.iconst 0, 1) := by decide +kernel
theorem dX8_nextDay_5 : decode cX8_nextDay 5 = .ok (.dup2, 1) := by decide +kernel
theorem dX8_nextDay_6 : decode cX8_nextDay 6 = .ok (.iaload, 1) := by decide +kernel
theorem dX8_nextDay_7 : decode cX8_nextDay 7 = .ok (.iconst 1, 1) := by decide +kernel
theorem dX8_nextDay_8 : decode cX8_nextDay 8 = .ok (.iadd, 1) := by decide +kernel
theorem dX8_nextDay_9 : decode cX8_nextDay 9 = .ok (.iastore, 1) := by decide +kernel
theorem dX8_nextDay_10 : decode cX8_nextDay 10 = .ok (.iconst 0, 1) := by decide +kernel
theorem dX8_nextDay_11 : decode cX8_nextDay 11 = .ok (.istore_n 1, 1) := by decide +kernel
theorem dX8_nextDay_12 : decode cX8_nextDay 12 = .ok (.iload_n 1, 1) := by decide +kernel
theorem dX8_nextDay_13 : decode cX8_nextDay 13 = .ok (.aload_n 0, 1) := by decide +kernel
theorem dX8_nextDay_14 : decode cX8_nextDay 14 = .ok (.getfield 119, 3) := by decide +kernel
theorem dX8_nextDay_17 : decode cX8_nextDay 17 = .ok (.if_icmp .ge 69, 3) := by decide +kernel
theorem dX8_nextDay_20 : decode cX8_nextDay 20 = .ok (.aload_n 0, 1) := by decide +kernel
theorem dX8_nextDay_21 : decode cX8_nextDay 21 = .ok (.getfield 55, 3) := by decide +kernel
theorem dX8_nextDay_24 : decode cX8_nextDay 24 = .ok (.iconst 0, 1) := by decide +kernel
theorem dX8_nextDay_25 : decode cX8_nextDay 25 = .ok (.iaload, 1) := by decide +kernel
theorem dX8_nextDay_26 : decode cX8_nextDay 26 = .ok (.bipush 9, 2) := by decide +kernel
theorem dX8_nextDay_28 : decode cX8_nextDay 28 = .ok (.irem, 1) := by decide +kernel
theorem dX8_nextDay_29 : decode cX8_nextDay 29 = .ok (.ifCond .ne 57, 3) := by decide +kernel
theorem dX8_nextDay_32 : decode cX8_nextDay 32 = .ok (.aload_n 0, 1) := by decide +kernel
theorem dX8_nextDay_33 : decode cX8_nextDay 33 = .ok (.getfield 55, 3) := by decide +kernel
theorem dX8_nextDay_36 : decode cX8_nextDay 36 = .ok (.iconst 1, 1) := by decide +kernel
theorem dX8_nextDay_37 : decode cX8_nextDay 37 = .ok (.iload_n 1, 1) := by decide +kernel
theorem dX8_nextDay_38 : decode cX8_nextDay 38 = .ok (.iadd, 1) := by decide +kernel
theorem dX8_nextDay_39 : decode cX8_nextDay 39 = .ok (.dup2, 1) := by decide +kernel
theorem dX8_nextDay_40 : decode cX8_nextDay 40 = .ok (.iaload, 1) := by decide +kernel
theorem dX8_nextDay_41 : decode cX8_nextDay 41 = .ok (.aload_n 0, 1) := by decide +kernel
theorem dX8_nextDay_42 : decode cX8_nextDay 42 = .ok (.getfield 7, 3) := by decide +kernel
theorem dX8_nextDay_45 : decode cX8_nextDay 45 = .ok (.iload_n 1, 1) := by decide +kernel
theorem dX8_nextDay_46 : decode cX8_nextDay 46 = .ok (.iaload, 1) := by decide +kernel
theorem dX8_nextDay_47 : decode cX8_nextDay 47 = .ok (.bipush 9, 2) := by decide +kernel
theorem dX8_nextDay_49 : decode cX8_nextDay 49 = .ok (.if_icmp .eq 28, 3) := by decide +kernel
theorem dX8_nextDay_52 : decode cX8_nextDay 52 = .ok (.aload_n 0, 1) := by decide +kernel
theorem dX8_nextDay_53 : decode cX8_nextDay 53 = .ok (.iload_n 1, 1) := by decide +kernel
theorem dX8_nextDay_54 : decode cX8_nextDay 54 = .ok (.invokevirtual 189, 3) := by decide +kernel
theorem dX8_nextDay_57 : decode cX8_nextDay 57 = .ok (.ifCond .ge 20, 3) := by decide +kernel
theorem dX8_nextDay_60 : decode cX8_nextDay 60 = .ok (.aload_n 0, 1) := by decide +kernel
theorem dX8_nextDay_61 : decode cX8_nextDay 61 = .ok (.getfield 55, 3) := by decide +kernel
theorem dX8_nextDay_64 : decode cX8_nextDay 64 = .ok (.iconst 1, 1) := by decide +kernel
theorem dX8_nextDay_65 : decode cX8_nextDay 65 = .ok (.iload_n 1, 1) := by decide +kernel
theorem dX8_nextDay_66 : decode cX8_nextDay 66 = .ok (.iadd, 1) := by decide +kernel
theorem dX8_nextDay_67 : decode cX8_nextDay 67 = .ok (.iaload, 1) := by decide +kernel
theorem dX8_nextDay_68 : decode cX8_nextDay 68 = .ok (.bipush 8, 2) := by decide +kernel
theorem dX8_nextDay_70 : decode cX8_nextDay 70 = .ok (.if_icmp .ge 7, 3) := by decide +kernel
theorem dX8_nextDay_73 : decode cX8_nextDay 73 = .ok (.iconst 1, 1) := by decide +kernel
theorem dX8_nextDay_74 : decode cX8_nextDay 74 = .ok (.goto 4, 3) := by decide +kernel
theorem dX8_nextDay_77 : decode cX8_nextDay 77 = .ok (.iconst 0, 1) := by decide +kernel
theorem dX8_nextDay_78 : decode cX8_nextDay 78 = .ok (.iadd, 1) := by decide +kernel
theorem dX8_nextDay_79 : decode cX8_nextDay 79 = .ok (.iastore, 1) := by decide +kernel
theorem dX8_nextDay_80 : decode cX8_nextDay 80 = .ok (.iinc 1 1, 3) := by decide +kernel
theorem dX8_nextDay_83 : decode cX8_nextDay 83 = .ok (.goto (-71), 3) := by decide +kernel
theorem dX8_nextDay_86 : decode cX8_nextDay 86 = .ok (.return_, 1) := by decide +kernel
theorem dX8_goesBy_0 : decode cX8_goesBy 0 = .ok (.iload_n 1, 1) := by decide +kernel
theorem dX8_goesBy_1 : decode cX8_goesBy 1 = .ok (.bipush 99, 2) := by decide +kernel
theorem dX8_goesBy_3 : decode cX8_goesBy 3 = .ok (.if_icmp .eq 46, 3) := by decide +kernel
theorem dX8_goesBy_6 : decode cX8_goesBy 6 = .ok (.iload_n 1, 1) := by decide +kernel
theorem dX8_goesBy_7 : decode cX8_goesBy 7 = .ok (.bipush 10, 2) := by decide +kernel
theorem dX8_goesBy_9 : decode cX8_goesBy 9 = .ok (.idiv, 1) := by decide +kernel
theorem dX8_goesBy_10 : decode cX8_goesBy 10 = .ok (.istore_n 2, 1) := by decide +kernel
theorem dX8_goesBy_11 : decode cX8_goesBy 11 = .ok (.aload_n 0, 1) := by decide +kernel
theorem dX8_goesBy_12 : decode cX8_goesBy 12 = .ok (.iload_n 2, 1) := by decide +kernel
theorem dX8_goesBy_13 : decode cX8_goesBy 13 = .ok (.iload_n 1, 1) := by decide +kernel
theorem dX8_goesBy_14 : decode cX8_goesBy 14 = .ok (.bipush 10, 2) := by decide +kernel
theorem dX8_goesBy_16 : decode cX8_goesBy 16 = .ok (.irem, 1) := by decide +kernel
theorem dX8_goesBy_17 : decode cX8_goesBy 17 = .ok (.iconst 1, 1) := by decide +kernel
theorem dX8_goesBy_18 : decode cX8_goesBy 18 = .ok (.invokevirtual 208, 3) := by decide +kernel
theorem dX8_goesBy_21 : decode cX8_goesBy 21 = .ok (.istore_n 3, 1) := by decide +kernel
theorem dX8_goesBy_22 : decode cX8_goesBy 22 = .ok (.aload_n 0, 1) := by decide +kernel
theorem dX8_goesBy_23 : decode cX8_goesBy 23 = .ok (.getfield 198, 3) := by decide +kernel
theorem dX8_goesBy_26 : decode cX8_goesBy 26 = .ok (.ifCond .lt 17, 3) := by decide +kernel
theorem dX8_goesBy_29 : decode cX8_goesBy 29 = .ok (.aload_n 0, 1) := by decide +kernel
theorem dX8_goesBy_30 : decode cX8_goesBy 30 = .ok (.getfield 55, 3) := by decide +kernel
theorem dX8_goesBy_33 : decode cX8_goesBy 33 = .ok (.bipush 37, 2) := by decide +kernel
theorem dX8_goesBy_35 : decode cX8_goesBy 35 = .ok (.aload_n 0, 1) := by decide +kernel
theorem dX8_goesBy_36 : decode cX8_goesBy 36 = .ok (.getfield 198, 3) := by decide +kernel
theorem dX8_goesBy_39 : decode cX8_goesBy 39 = .ok (.iadd, 1) := by decide +kernel
theorem dX8_goesBy_40 : decode cX8_goesBy 40 = .ok (.bipush 36, 2) := by decide +kernel
theorem dX8_goesBy_42 : decode cX8_goesBy 42 = .ok (.iastore, 1) := by decide +kernel
theorem dX8_goesBy_43 : decode cX8_goesBy 43 = .ok (.aload_n 0, 1) := by decide +kernel
theorem dX8_goesBy_44 : decode cX8_goesBy 44 = .ok (.iload_n 2, 1) := by decide +kernel
theorem dX8_goesBy_45 : decode cX8_goesBy 45 = .ok (.iload_n 3, 1) := by decide +kernel
theorem dX8_goesBy_46 : decode cX8_goesBy 46 = .ok (.invokevirtual 212, 3) := by decide +kernel
theorem dX8_goesBy_49 : decode cX8_goesBy 49 = .ok (.aload_n 0, 1) := by decide +kernel
theorem dX8_goesBy_50 : decode cX8_goesBy 50 = .ok (.invokevirtual 216, 3) := by decide +kernel
theorem dX8_goesBy_53 : decode cX8_goesBy 53 = .ok (.aload_n 0, 1) := by decide +kernel
theorem dX8_goesBy_54 : decode cX8_goesBy 54 = .ok (.invokevirtual 219, 3) := by decide +kernel
theorem dX8_goesBy_57 : decode cX8_goesBy 57 = .ok (.return_, 1) := by decide +kernel
theorem dX8_lost_0 : decode cX8_lost 0 = .ok (.iconst 0, 1) := by decide +kernel
theorem dX8_lost_1 : decode cX8_lost 1 = .ok (.istore_n 1, 1) := by decide +kernel
theorem dX8_lost_2 : decode cX8_lost 2 = .ok (.iconst 0, 1) := by decide +kernel
theorem dX8_lost_3 : decode cX8_lost 3 = .ok (.istore_n 2, 1) := by decide +kernel
theorem dX8_lost_4 : decode cX8_lost 4 = .ok (.iconst 0, 1) := by decide +kernel
theorem dX8_lost_5 : decode cX8_lost 5 = .ok (.istore_n 3, 1) := by decide +kernel
theorem dX8_lost_6 : decode cX8_lost 6 = .ok (.iload_n 3, 1) := by decide +kernel
theorem dX8_lost_7 : decode cX8_lost 7 = .ok (.aload_n 0, 1) := by decide +kernel
theorem dX8_lost_8 : decode cX8_lost 8 = .ok (.getfield 112, 3) := by decide +kernel
theorem dX8_lost_11 : decode cX8_lost 11 = .ok (.if_icmp .ge 73, 3) := by decide +kernel
theorem dX8_lost_14 : decode cX8_lost 14 = .ok (.iload_n 1, 1) := by decide +kernel
theorem dX8_lost_15 : decode cX8_lost 15 = .ok (.aload_n 0, 1) := by decide +kernel
theorem dX8_lost_16 : decode cX8_lost 16 = .ok (.getfield 13, 3) := by decide +kernel
theorem dX8_lost_19 : decode cX8_lost 19 = .ok (.iload_n 3, 1) := by decide +kernel
theorem dX8_lost_20 : decode cX8_lost 20 = .ok (.iaload, 1) := by decide +kernel
theorem dX8_lost_21 : decode cX8_lost 21 = .ok (.iconst 3, 1) := by decide +kernel
theorem dX8_lost_22 : decode cX8_lost 22 = .ok (.if_icmp .ne 14, 3) := by decide +kernel
theorem dX8_lost_25 : decode cX8_lost 25 = .ok (.iconst 1, 1) := by decide +kernel
theorem dX8_lost_26 : decode cX8_lost 26 = .ok (.aload_n 0, 1) := by decide +kernel
theorem dX8_lost_27 : decode cX8_lost 27 = .ok (.getfield 16, 3) := by decide +kernel
theorem dX8_lost_30 : decode cX8_lost 30 = .ok (.iload_n 3, 1) := by decide +kernel
theorem dX8_lost_31 : decode cX8_lost 31 = .ok (.iaload, 1) := by decide +kernel
theorem dX8_lost_32 : decode cX8_lost 32 = .ok (.ishl, 1) := by decide +kernel
theorem dX8_lost_33 : decode cX8_lost 33 = .ok (.goto 4, 3) := by decide +kernel
theorem dX8_lost_36 : decode cX8_lost 36 = .ok (.iconst 0, 1) := by decide +kernel
theorem dX8_lost_37 : decode cX8_lost 37 = .ok (.ior, 1) := by decide +kernel
theorem dX8_lost_38 : decode cX8_lost 38 = .ok (.istore_n 1, 1) := by decide +kernel
theorem dX8_lost_39 : decode cX8_lost 39 = .ok (.iload_n 2, 1) := by decide +kernel
theorem dX8_lost_40 : decode cX8_lost 40 = .ok (.aload_n 0, 1) := by decide +kernel
theorem dX8_lost_41 : decode cX8_lost 41 = .ok (.getfield 13, 3) := by decide +kernel
theorem dX8_lost_44 : decode cX8_lost 44 = .ok (.iload_n 3, 1) := by decide +kernel
theorem dX8_lost_45 : decode cX8_lost 45 = .ok (.iaload, 1) := by decide +kernel
theorem dX8_lost_46 : decode cX8_lost 46 = .ok (.iconst 3, 1) := by decide +kernel
theorem dX8_lost_47 : decode cX8_lost 47 = .ok (.if_icmp .ne 28, 3) := by decide +kernel
theorem dX8_lost_50 : decode cX8_lost 50 = .ok (.aload_n 0, 1) := by decide +kernel
theorem dX8_lost_51 : decode cX8_lost 51 = .ok (.getfield 55, 3) := by decide +kernel
theorem dX8_lost_54 : decode cX8_lost 54 = .ok (.bipush 37, 2) := by decide +kernel
theorem dX8_lost_56 : decode cX8_lost 56 = .ok (.iload_n 3, 1) := by decide +kernel
theorem dX8_lost_57 : decode cX8_lost 57 = .ok (.iadd, 1) := by decide +kernel
theorem dX8_lost_58 : decode cX8_lost 58 = .ok (.iaload, 1) := by decide +kernel
theorem dX8_lost_59 : decode cX8_lost 59 = .ok (.bipush 36, 2) := by decide +kernel
theorem dX8_lost_61 : decode cX8_lost 61 = .ok (.if_icmp .eq 14, 3) := by decide +kernel
theorem dX8_lost_64 : decode cX8_lost 64 = .ok (.iconst 1, 1) := by decide +kernel
theorem dX8_lost_65 : decode cX8_lost 65 = .ok (.aload_n 0, 1) := by decide +kernel
theorem dX8_lost_66 : decode cX8_lost 66 = .ok (.getfield 16, 3) := by decide +kernel
theorem dX8_lost_69 : decode cX8_lost 69 = .ok (.iload_n 3, 1) := by decide +kernel
theorem dX8_lost_70 : decode cX8_lost 70 = .ok (.iaload, 1) := by decide +kernel
theorem dX8_lost_71 : decode cX8_lost 71 = .ok (.ishl, 1) := by decide +kernel
theorem dX8_lost_72 : decode cX8_lost 72 = .ok (.goto 4, 3) := by decide +kernel
theorem dX8_lost_75 : decode cX8_lost 75 = .ok (.iconst 0, 1) := by decide +kernel
theorem dX8_lost_76 : decode cX8_lost 76 = .ok (.ior, 1) := by decide +kernel
theorem dX8_lost_77 : decode cX8_lost 77 = .ok (.istore_n 2, 1) := by decide +kernel
theorem dX8_lost_78 : decode cX8_lost 78 = .ok (.iinc 3 1, 3) := by decide +kernel
theorem dX8_lost_81 : decode cX8_lost 81 = .ok (.goto (-75), 3) := by decide +kernel
theorem dX8_lost_84 : decode cX8_lost 84 = .ok (.iload_n 1, 1) := by decide +kernel
theorem dX8_lost_85 : decode cX8_lost 85 = .ok (.iload_n 2, 1) := by decide +kernel
theorem dX8_lost_86 : decode cX8_lost 86 = .ok (.iconst (-1), 1) := by decide +kernel
theorem dX8_lost_87 : decode cX8_lost 87 = .ok (.ixor, 1) := by decide +kernel
theorem dX8_lost_88 : decode cX8_lost 88 = .ok (.iand, 1) := by decide +kernel
theorem dX8_lost_89 : decode cX8_lost 89 = .ok (.ireturn, 1) := by decide +kernel
theorem dX8_canDrive_0 : decode cX8_canDrive 0 = .ok (.iload_n 1, 1) := by decide +kernel
theorem dX8_canDrive_1 : decode cX8_canDrive 1 = .ok (.bipush 10, 2) := by decide +kernel
theorem dX8_canDrive_3 : decode cX8_canDrive 3 = .ok (.idiv, 1) := by decide +kernel
theorem dX8_canDrive_4 : decode cX8_canDrive 4 = .ok (.istore_n 2, 1) := by decide +kernel
theorem dX8_canDrive_5 : decode cX8_canDrive 5 = .ok (.iload_n 2, 1) := by decide +kernel
theorem dX8_canDrive_6 : decode cX8_canDrive 6 = .ok (.aload_n 0, 1) := by decide +kernel
theorem dX8_canDrive_7 : decode cX8_canDrive 7 = .ok (.getfield 112, 3) := by decide +kernel
theorem dX8_canDrive_10 : decode cX8_canDrive 10 = .ok (.if_icmp .ge 66, 3) := by decide +kernel
theorem dX8_canDrive_13 : decode cX8_canDrive 13 = .ok (.iload_n 1, 1) := by decide +kernel
theorem dX8_canDrive_14 : decode cX8_canDrive 14 = .ok (.bipush 10, 2) := by decide +kernel
theorem dX8_canDrive_16 : decode cX8_canDrive 16 = .ok (.irem, 1) := by decide +kernel
theorem dX8_canDrive_17 : decode cX8_canDrive 17 = .ok (.iconst 4, 1) := by decide +kernel
theorem dX8_canDrive_18 : decode cX8_canDrive 18 = .ok (.if_icmp .ge 58, 3) := by decide +kernel
theorem dX8_canDrive_21 : decode cX8_canDrive 21 = .ok (.aload_n 0, 1) := by decide +kernel
theorem dX8_canDrive_22 : decode cX8_canDrive 22 = .ok (.getfield 55, 3) := by decide +kernel
theorem dX8_canDrive_25 : decode cX8_canDrive 25 = .ok (.bipush 37, 2) := by decide +kernel
theorem dX8_canDrive_27 : decode cX8_canDrive 27 = .ok (.iload_n 2, 1) := by decide +kernel
theorem dX8_canDrive_28 : decode cX8_canDrive 28 = .ok (.iadd, 1) := by decide +kernel
theorem dX8_canDrive_29 : decode cX8_canDrive 29 = .ok (.iaload, 1) := by decide +kernel
theorem dX8_canDrive_30 : decode cX8_canDrive 30 = .ok (.bipush 36, 2) := by decide +kernel
theorem dX8_canDrive_32 : decode cX8_canDrive 32 = .ok (.if_icmp .eq 44, 3) := by decide +kernel
theorem dX8_canDrive_35 : decode cX8_canDrive 35 = .ok (.aload_n 0, 1) := by decide +kernel
theorem dX8_canDrive_36 : decode cX8_canDrive 36 = .ok (.getfield 16, 3) := by decide +kernel
theorem dX8_canDrive_39 : decode cX8_canDrive 39 = .ok (.iload_n 2, 1) := by decide +kernel
theorem dX8_canDrive_40 : decode cX8_canDrive 40 = .ok (.iaload, 1) := by decide +kernel
theorem dX8_canDrive_41 : decode cX8_canDrive 41 = .ok (.aload_n 0, 1) := by decide +kernel
theorem dX8_canDrive_42 : decode cX8_canDrive 42 = .ok (.getfield 55, 3) := by decide +kernel
theorem dX8_canDrive_45 : decode cX8_canDrive 45 = .ok (.iconst 0, 1) := by decide +kernel
theorem dX8_canDrive_46 : decode cX8_canDrive 46 = .ok (.iaload, 1) := by decide +kernel
theorem dX8_canDrive_47 : decode cX8_canDrive 47 = .ok (.iconst 2, 1) := by decide +kernel
theorem dX8_canDrive_48 : decode cX8_canDrive 48 = .ok (.irem, 1) := by decide +kernel
theorem dX8_canDrive_49 : decode cX8_canDrive 49 = .ok (.if_icmp .ne 27, 3) := by decide +kernel
theorem dX8_canDrive_52 : decode cX8_canDrive 52 = .ok (.aload_n 0, 1) := by decide +kernel
theorem dX8_canDrive_53 : decode cX8_canDrive 53 = .ok (.invokevirtual 222, 3) := by decide +kernel
theorem dX8_canDrive_56 : decode cX8_canDrive 56 = .ok (.ifCond .ne 20, 3) := by decide +kernel
theorem dX8_canDrive_59 : decode cX8_canDrive 59 = .ok (.aload_n 0, 1) := by decide +kernel
theorem dX8_canDrive_60 : decode cX8_canDrive 60 = .ok (.iload_n 2, 1) := by decide +kernel
theorem dX8_canDrive_61 : decode cX8_canDrive 61 = .ok (.iload_n 1, 1) := by decide +kernel
theorem dX8_canDrive_62 : decode cX8_canDrive 62 = .ok (.bipush 10, 2) := by decide +kernel
theorem dX8_canDrive_64 : decode cX8_canDrive 64 = .ok (.irem, 1) := by decide +kernel
theorem dX8_canDrive_65 : decode cX8_canDrive 65 = .ok (.iconst 1, 1) := by decide +kernel
theorem dX8_canDrive_66 : decode cX8_canDrive 66 = .ok (.invokevirtual 208, 3) := by decide +kernel
theorem dX8_canDrive_69 : decode cX8_canDrive 69 = .ok (.ifCond .lt 7, 3) := by decide +kernel
theorem dX8_canDrive_72 : decode cX8_canDrive 72 = .ok (.iconst 1, 1) := by decide +kernel
theorem dX8_canDrive_73 : decode cX8_canDrive 73 = .ok (.goto 4, 3) := by decide +kernel
theorem dX8_canDrive_76 : decode cX8_canDrive 76 = .ok (.iconst 0, 1) := by decide +kernel
theorem dX8_canDrive_77 : decode cX8_canDrive 77 = .ok (.ireturn, 1) := by decide +kernel
theorem dX8_worth_0 : decode cX8_worth 0 = .ok (.iconst 0, 1) := by decide +kernel
theorem dX8_worth_1 : decode cX8_worth 1 = .ok (.istore_n 1, 1) := by decide +kernel
theorem dX8_worth_2 : decode cX8_worth 2 = .ok (.iconst 0, 1) := by decide +kernel
theorem dX8_worth_3 : decode cX8_worth 3 = .ok (.istore_n 2, 1) := by decide +kernel
theorem dX8_worth_4 : decode cX8_worth 4 = .ok (.iload_n 2, 1) := by decide +kernel
theorem dX8_worth_5 : decode cX8_worth 5 = .ok (.aload_n 0, 1) := by decide +kernel
theorem dX8_worth_6 : decode cX8_worth 6 = .ok (.getfield 112, 3) := by decide +kernel
theorem dX8_worth_9 : decode cX8_worth 9 = .ok (.if_icmp .ge 83, 3) := by decide +kernel
theorem dX8_worth_12 : decode cX8_worth 12 = .ok (.aload_n 0, 1) := by decide +kernel
theorem dX8_worth_13 : decode cX8_worth 13 = .ok (.iload_n 2, 1) := by decide +kernel
theorem dX8_worth_14 : decode cX8_worth 14 = .ok (.invokevirtual 192, 3) := by decide +kernel
theorem dX8_worth_17 : decode cX8_worth 17 = .ok (.istore_n 3, 1) := by decide +kernel
theorem dX8_worth_18 : decode cX8_worth 18 = .ok (.iload_n 3, 1) := by decide +kernel
theorem dX8_worth_19 : decode cX8_worth 19 = .ok (.ifCond .ne 7, 3) := by decide +kernel
theorem dX8_worth_22 : decode cX8_worth 22 = .ok (.iconst 5, 1) := by decide +kernel
theorem dX8_worth_23 : decode cX8_worth 23 = .ok (.goto 23, 3) := by decide +kernel
theorem dX8_worth_26 : decode cX8_worth 26 = .ok (.iload_n 3, 1) := by decide +kernel
theorem dX8_worth_27 : decode cX8_worth 27 = .ok (.iconst 1, 1) := by decide +kernel
theorem dX8_worth_28 : decode cX8_worth 28 = .ok (.if_icmp .ne 7, 3) := by decide +kernel
theorem dX8_worth_31 : decode cX8_worth 31 = .ok (.iconst 3, 1) := by decide +kernel
theorem dX8_worth_32 : decode cX8_worth 32 = .ok (.goto 14, 3) := by decide +kernel
theorem dX8_worth_35 : decode cX8_worth 35 = .ok (.iload_n 3, 1) := by decide +kernel
theorem dX8_worth_36 : decode cX8_worth 36 = .ok (.iconst 2, 1) := by decide +kernel
theorem dX8_worth_37 : decode cX8_worth 37 = .ok (.if_icmp .ne 7, 3) := by decide +kernel
theorem dX8_worth_40 : decode cX8_worth 40 = .ok (.iconst 1, 1) := by decide +kernel
theorem dX8_worth_41 : decode cX8_worth 41 = .ok (.goto 5, 3) := by decide +kernel
theorem dX8_worth_44 : decode cX8_worth 44 = .ok (.bipush 20, 2) := by decide +kernel
theorem dX8_worth_46 : decode cX8_worth 46 = .ok (.istore 4, 2) := by decide +kernel
theorem dX8_worth_48 : decode cX8_worth 48 = .ok (.iload_n 1, 1) := by decide +kernel
theorem dX8_worth_49 : decode cX8_worth 49 = .ok (.aload_n 0, 1) := by decide +kernel
theorem dX8_worth_50 : decode cX8_worth 50 = .ok (.getfield 55, 3) := by decide +kernel
theorem dX8_worth_53 : decode cX8_worth 53 = .ok (.bipush 37, 2) := by decide +kernel
theorem dX8_worth_55 : decode cX8_worth 55 = .ok (.iload_n 2, 1) := by decide +kernel
theorem dX8_worth_56 : decode cX8_worth 56 = .ok (.iadd, 1) := by decide +kernel
theorem dX8_worth_57 : decode cX8_worth 57 = .ok (.iaload, 1) := by decide +kernel
theorem dX8_worth_58 : decode cX8_worth 58 = .ok (.bipush 36, 2) := by decide +kernel
theorem dX8_worth_60 : decode cX8_worth 60 = .ok (.if_icmp .ne 7, 3) := by decide +kernel
theorem dX8_worth_63 : decode cX8_worth 63 = .ok (.iconst 0, 1) := by decide +kernel
theorem dX8_worth_64 : decode cX8_worth 64 = .ok (.goto 20, 3) := by decide +kernel
theorem dX8_worth_67 : decode cX8_worth 67 = .ok (.aload_n 0, 1) := by decide +kernel
theorem dX8_worth_68 : decode cX8_worth 68 = .ok (.getfield 16, 3) := by decide +kernel
theorem dX8_worth_71 : decode cX8_worth 71 = .ok (.iload_n 2, 1) := by decide +kernel
theorem dX8_worth_72 : decode cX8_worth 72 = .ok (.iaload, 1) := by decide +kernel
theorem dX8_worth_73 : decode cX8_worth 73 = .ok (.ifCond .ne 8, 3) := by decide +kernel
theorem dX8_worth_76 : decode cX8_worth 76 = .ok (.iload 4, 2) := by decide +kernel
theorem dX8_worth_78 : decode cX8_worth 78 = .ok (.goto 6, 3) := by decide +kernel
theorem dX8_worth_81 : decode cX8_worth 81 = .ok (.iload 4, 2) := by decide +kernel
theorem dX8_worth_83 : decode cX8_worth 83 = .ok (.ineg, 1) := by decide +kernel
theorem dX8_worth_84 : decode cX8_worth 84 = .ok (.iadd, 1) := by decide +kernel
theorem dX8_worth_85 : decode cX8_worth 85 = .ok (.istore_n 1, 1) := by decide +kernel
theorem dX8_worth_86 : decode cX8_worth 86 = .ok (.iinc 2 1, 3) := by decide +kernel
theorem dX8_worth_89 : decode cX8_worth 89 = .ok (.goto (-85), 3) := by decide +kernel
theorem dX8_worth_92 : decode cX8_worth 92 = .ok (.iload_n 1, 1) := by decide +kernel
theorem dX8_worth_93 : decode cX8_worth 93 = .ok (.ireturn, 1) := by decide +kernel
theorem dX8_onMeadow_0 : decode cX8_onMeadow 0 = .ok (.iconst 0, 1) := by decide +kernel
theorem dX8_onMeadow_1 : decode cX8_onMeadow 1 = .ok (.istore_n 2, 1) := by decide +kernel
theorem dX8_onMeadow_2 : decode cX8_onMeadow 2 = .ok (.iconst 0, 1) := by decide +kernel
theorem dX8_onMeadow_3 : decode cX8_onMeadow 3 = .ok (.istore_n 3, 1) := by decide +kernel
theorem dX8_onMeadow_4 : decode cX8_onMeadow 4 = .ok (.iload_n 3, 1) := by decide +kernel
theorem dX8_onMeadow_5 : decode cX8_onMeadow 5 = .ok (.aload_n 0, 1) := by decide +kernel
theorem dX8_onMeadow_6 : decode cX8_onMeadow 6 = .ok (.getfield 112, 3) := by decide +kernel
theorem dX8_onMeadow_9 : decode cX8_onMeadow 9 = .ok (.if_icmp .ge 41, 3) := by decide +kernel
theorem dX8_onMeadow_12 : decode cX8_onMeadow 12 = .ok (.iload_n 2, 1) := by decide +kernel
theorem dX8_onMeadow_13 : decode cX8_onMeadow 13 = .ok (.aload_n 0, 1) := by decide +kernel
theorem dX8_onMeadow_14 : decode cX8_onMeadow 14 = .ok (.getfield 55, 3) := by decide +kernel
theorem dX8_onMeadow_17 : decode cX8_onMeadow 17 = .ok (.bipush 37, 2) := by decide +kernel
theorem dX8_onMeadow_19 : decode cX8_onMeadow 19 = .ok (.iload_n 3, 1) := by decide +kernel
theorem dX8_onMeadow_20 : decode cX8_onMeadow 20 = .ok (.iadd, 1) := by decide +kernel
theorem dX8_onMeadow_21 : decode cX8_onMeadow 21 = .ok (.iaload, 1) := by decide +kernel
theorem dX8_onMeadow_22 : decode cX8_onMeadow 22 = .ok (.bipush 36, 2) := by decide +kernel
theorem dX8_onMeadow_24 : decode cX8_onMeadow 24 = .ok (.if_icmp .eq 17, 3) := by decide +kernel
theorem dX8_onMeadow_27 : decode cX8_onMeadow 27 = .ok (.aload_n 0, 1) := by decide +kernel
theorem dX8_onMeadow_28 : decode cX8_onMeadow 28 = .ok (.getfield 16, 3) := by decide +kernel
theorem dX8_onMeadow_31 : decode cX8_onMeadow 31 = .ok (.iload_n 3, 1) := by decide +kernel
theorem dX8_onMeadow_32 : decode cX8_onMeadow 32 = .ok (.iaload, 1) := by decide +kernel
theorem dX8_onMeadow_33 : decode cX8_onMeadow 33 = .ok (.iload_n 1, 1) := by decide +kernel
theorem dX8_onMeadow_34 : decode cX8_onMeadow 34 = .ok (.if_icmp .ne 7, 3) := by decide +kernel
theorem dX8_onMeadow_37 : decode cX8_onMeadow 37 = .ok (.iconst 1, 1) := by decide +kernel
theorem dX8_onMeadow_38 : decode cX8_onMeadow 38 = .ok (.goto 4, 3) := by decide +kernel
theorem dX8_onMeadow_41 : decode cX8_onMeadow 41 = .ok (.iconst 0, 1) := by decide +kernel
theorem dX8_onMeadow_42 : decode cX8_onMeadow 42 = .ok (.iadd, 1) := by decide +kernel
theorem dX8_onMeadow_43 : decode cX8_onMeadow 43 = .ok (.istore_n 2, 1) := by decide +kernel
theorem dX8_onMeadow_44 : decode cX8_onMeadow 44 = .ok (.iinc 3 1, 3) := by decide +kernel
theorem dX8_onMeadow_47 : decode cX8_onMeadow 47 = .ok (.goto (-43), 3) := by decide +kernel
theorem dX8_onMeadow_50 : decode cX8_onMeadow 50 = .ok (.iload_n 2, 1) := by decide +kernel
theorem dX8_onMeadow_51 : decode cX8_onMeadow 51 = .ok (.ireturn, 1) := by decide +kernel
theorem dX8_orNone_0 : decode cX8_orNone 0 = .ok (.iload_n 0, 1) := by decide +kernel
theorem dX8_orNone_1 : decode cX8_orNone 1 = .ok (.bipush 36, 2) := by decide +kernel
theorem dX8_orNone_3 : decode cX8_orNone 3 = .ok (.if_icmp .ne 8, 3) := by decide +kernel
theorem dX8_orNone_6 : decode cX8_orNone 6 = .ok (.bipush (-4), 2) := by decide +kernel
theorem dX8_orNone_8 : decode cX8_orNone 8 = .ok (.goto 4, 3) := by decide +kernel
theorem dX8_orNone_11 : decode cX8_orNone 11 = .ok (.iload_n 0, 1) := by decide +kernel
theorem dX8_orNone_12 : decode cX8_orNone 12 = .ok (.ireturn, 1) := by decide +kernel
theorem dX8_square_0 : decode cX8_square 0 = .ok (.aload_n 0, 1) := by decide +kernel
theorem dX8_square_1 : decode cX8_square 1 = .ok (.iload_n 1, 1) := by decide +kernel
theorem dX8_square_2 : decode cX8_square 2 = .ok (.invokevirtual 225, 3) := by decide +kernel
theorem dX8_square_5 : decode cX8_square 5 = .ok (.ifCond .eq 12, 3) := by decide +kernel
theorem dX8_square_8 : decode cX8_square 8 = .ok (.iload_n 2, 1) := by decide +kernel
theorem dX8_square_9 : decode cX8_square 9 = .ok (.iconst 0, 1) := by decide +kernel
theorem dX8_square_10 : decode cX8_square 10 = .ok (.iconst 1, 1) := by decide +kernel
theorem dX8_square_11 : decode cX8_square 11 = .ok (.invokestatic 115, 3) := by decide +kernel
theorem dX8_square_14 : decode cX8_square 14 = .ok (.ifCond .ne 5, 3) := by decide +kernel
theorem dX8_square_17 : decode cX8_square 17 = .ok (.iconst (-1), 1) := by decide +kernel
theorem dX8_square_18 : decode cX8_square 18 = .ok (.ireturn, 1) := by decide +kernel
theorem dX8_square_19 : decode cX8_square 19 = .ok (.aload_n 0, 1) := by decide +kernel
theorem dX8_square_20 : decode cX8_square 20 = .ok (.invokevirtual 228, 3) := by decide +kernel
theorem dX8_square_23 : decode cX8_square 23 = .ok (.iload_n 2, 1) := by decide +kernel
theorem dX8_square_24 : decode cX8_square 24 = .ok (.iconst 1, 1) := by decide +kernel
theorem dX8_square_25 : decode cX8_square 25 = .ok (.if_icmp .ne 11, 3) := by decide +kernel
theorem dX8_square_28 : decode cX8_square 28 = .ok (.aload_n 0, 1) := by decide +kernel
theorem dX8_square_29 : decode cX8_square 29 = .ok (.iload_n 1, 1) := by decide +kernel
theorem dX8_square_30 : decode cX8_square 30 = .ok (.invokevirtual 189, 3) := by decide +kernel
theorem dX8_square_33 : decode cX8_square 33 = .ok (.goto 27, 3) := by decide +kernel
theorem dX8_square_36 : decode cX8_square 36 = .ok (.aload_n 0, 1) := by decide +kernel
theorem dX8_square_37 : decode cX8_square 37 = .ok (.getfield 7, 3) := by decide +kernel
theorem dX8_square_40 : decode cX8_square 40 = .ok (.iload_n 1, 1) := by decide +kernel
theorem dX8_square_41 : decode cX8_square 41 = .ok (.iaload, 1) := by decide +kernel
theorem dX8_square_42 : decode cX8_square 42 = .ok (.bipush 9, 2) := by decide +kernel
theorem dX8_square_44 : decode cX8_square 44 = .ok (.if_icmp .ne 8, 3) := by decide +kernel
theorem dX8_square_47 : decode cX8_square 47 = .ok (.bipush 9, 2) := by decide +kernel
theorem dX8_square_49 : decode cX8_square 49 = .ok (.goto 11, 3) := by decide +kernel
theorem dX8_square_52 : decode cX8_square 52 = .ok (.aload_n 0, 1) := by decide +kernel
theorem dX8_square_53 : decode cX8_square 53 = .ok (.getfield 22, 3) := by decide +kernel
theorem dX8_square_56 : decode cX8_square 56 = .ok (.iconst 1, 1) := by decide +kernel
theorem dX8_square_57 : decode cX8_square 57 = .ok (.iload_n 1, 1) := by decide +kernel
theorem dX8_square_58 : decode cX8_square 58 = .ok (.iadd, 1) := by decide +kernel
theorem dX8_square_59 : decode cX8_square 59 = .ok (.iaload, 1) := by decide +kernel
theorem dX8_square_60 : decode cX8_square 60 = .ok (.ireturn, 1) := by decide +kernel
theorem dX8_beast_0 : decode cX8_beast 0 = .ok (.aload_n 0, 1) := by decide +kernel
theorem dX8_beast_1 : decode cX8_beast 1 = .ok (.iload_n 1, 1) := by decide +kernel
theorem dX8_beast_2 : decode cX8_beast 2 = .ok (.invokevirtual 231, 3) := by decide +kernel
theorem dX8_beast_5 : decode cX8_beast 5 = .ok (.ifCond .ne 5, 3) := by decide +kernel
theorem dX8_beast_8 : decode cX8_beast 8 = .ok (.iconst (-1), 1) := by decide +kernel
theorem dX8_beast_9 : decode cX8_beast 9 = .ok (.ireturn, 1) := by decide +kernel

theorem dX12_init_0 : decode cX12_init 0 = .ok (.aload_n 0, 1) := by decide +kernel
theorem dX12_init_1 : decode cX12_init 1 = .ok (.invokespecial 1, 3) := by decide +kernel
theorem dX12_init_4 : decode cX12_init 4 = .ok (.aload_n 0, 1) := by decide +kernel
theorem dX12_init_5 : decode cX12_init 5 = .ok (.sipush 320, 3) := by decide +kernel
theorem dX12_init_8 : decode cX12_init 8 = .ok (.newarray .int, 2) := by decide +kernel
theorem dX12_init_10 : decode cX12_init 10 = .ok (.putfield 9, 3) := by decide +kernel
theorem dX12_init_13 : decode cX12_init 13 = .ok (.aload_n 0, 1) := by decide +kernel
theorem dX12_init_14 : decode cX12_init 14 = .ok (.bipush 80, 2) := by decide +kernel
theorem dX12_init_16 : decode cX12_init 16 = .ok (.newarray .boolean, 2) := by decide +kernel
theorem dX12_init_18 : decode cX12_init 18 = .ok (.putfield 13, 3) := by decide +kernel
theorem dX12_init_21 : decode cX12_init 21 = .ok (.aload_n 0, 1) := by decide +kernel
theorem dX12_init_22 : decode cX12_init 22 = .ok (.iconst 4, 1) := by decide +kernel
theorem dX12_init_23 : decode cX12_init 23 = .ok (.newarray .boolean, 2) := by decide +kernel
theorem dX12_init_25 : decode cX12_init 25 = .ok (.putfield 17, 3) := by decide +kernel
theorem dX12_init_28 : decode cX12_init 28 = .ok (.aload_n 0, 1) := by decide +kernel
theorem dX12_init_29 : decode cX12_init 29 = .ok (.iconst 4, 1) := by decide +kernel
theorem dX12_init_30 : decode cX12_init 30 = .ok (.newarray .int, 2) := by decide +kernel
theorem dX12_init_32 : decode cX12_init 32 = .ok (.putfield 20, 3) := by decide +kernel
theorem dX12_init_35 : decode cX12_init 35 = .ok (.aload_n 0, 1) := by decide +kernel
theorem dX12_init_36 : decode cX12_init 36 = .ok (.bipush 60, 2) := by decide +kernel
theorem dX12_init_38 : decode cX12_init 38 = .ok (.newarray .int, 2) := by decide +kernel
theorem dX12_init_40 : decode cX12_init 40 = .ok (.putfield 23, 3) := by decide +kernel
theorem dX12_init_43 : decode cX12_init 43 = .ok (.aload_n 0, 1) := by decide +kernel
theorem dX12_init_44 : decode cX12_init 44 = .ok (.sipush 160, 3) := by decide +kernel
theorem dX12_init_47 : decode cX12_init 47 = .ok (.newarray .int, 2) := by decide +kernel
theorem dX12_init_49 : decode cX12_init 49 = .ok (.putfield 26, 3) := by decide +kernel
theorem dX12_init_52 : decode cX12_init 52 = .ok (.aload_n 0, 1) := by decide +kernel
theorem dX12_init_53 : decode cX12_init 53 = .ok (.sipush 160, 3) := by decide +kernel
theorem dX12_init_56 : decode cX12_init 56 = .ok (.newarray .int, 2) := by decide +kernel
theorem dX12_init_58 : decode cX12_init 58 = .ok (.putfield 29, 3) := by decide +kernel
theorem dX12_init_61 : decode cX12_init 61 = .ok (.aload_n 0, 1) := by decide +kernel
theorem dX12_init_62 : decode cX12_init 62 = .ok (.sipush 160, 3) := by decide +kernel
theorem dX12_init_65 : decode cX12_init 65 = .ok (.newarray .int, 2) := by decide +kernel
theorem dX12_init_67 : decode cX12_init 67 = .ok (.putfield 32, 3) := by decide +kernel
theorem dX12_init_70 : decode cX12_init 70 = .ok (.aload_n 0, 1) := by decide +kernel
theorem dX12_init_71 : decode cX12_init 71 = .ok (.bipush 10, 2) := by decide +kernel
theorem dX12_init_73 : decode cX12_init 73 = .ok (.newarray .int, 2) := by decide +kernel
theorem dX12_init_75 : decode cX12_init 75 = .ok (.putfield 35, 3) := by decide +kernel
theorem dX12_init_78 : decode cX12_init 78 = .ok (.aload_n 0, 1) := by decide +kernel
theorem dX12_init_79 : decode cX12_init 79 = .ok (.bipush 10, 2) := by decide +kernel
theorem dX12_init_81 : decode cX12_init 81 = .ok (.newarray .int, 2) := by decide +kernel
theorem dX12_init_83 : decode cX12_init 83 = .ok (.putfield 38, 3) := by decide +kernel
theorem dX12_init_86 : decode cX12_init 86 = .ok (.aload_n 0, 1) := by decide +kernel
theorem dX12_init_87 : decode cX12_init 87 = .ok (.bipush 10, 2) := by decide +kernel
theorem dX12_init_89 : decode cX12_init 89 = .ok (.newarray .int, 2) := by decide +kernel
theorem dX12_init_91 : decode cX12_init 91 = .ok (.putfield 41, 3) := by decide +kernel
theorem dX12_init_94 : decode cX12_init 94 = .ok (.aload_n 0, 1) := by decide +kernel
theorem dX12_init_95 : decode cX12_init 95 = .ok (.bipush 10, 2) := by decide +kernel
theorem dX12_init_97 : decode cX12_init 97 = .ok (.newarray .int, 2) := by decide +kernel
theorem dX12_init_99 : decode cX12_init 99 = .ok (.putfield 44, 3) := by decide +kernel
theorem dX12_init_102 : decode cX12_init 102 = .ok (.aload_n 0, 1) := by decide +kernel
theorem dX12_init_103 : decode cX12_init 103 = .ok (.bipush 10, 2) := by decide +kernel
theorem dX12_init_105 : decode cX12_init 105 = .ok (.newarray .int, 2) := by decide +kernel
theorem dX12_init_107 : decode cX12_init 107 = .ok (.putfield 47, 3) := by decide +kernel
theorem dX12_init_110 : decode cX12_init 110 = .ok (.aload_n 0, 1) := by decide +kernel
theorem dX12_init_111 : decode cX12_init 111 = .ok (.bipush 10, 2) := by decide +kernel
theorem dX12_init_113 : decode cX12_init 113 = .ok (.newarray .int, 2) := by decide +kernel
theorem dX12_init_115 : decode cX12_init 115 = .ok (.putfield 50, 3) := by decide +kernel
theorem dX12_init_118 : decode cX12_init 118 = .ok (.aload_n 0, 1) := by decide +kernel
theorem dX12_init_119 : decode cX12_init 119 = .ok (.sipush 800, 3) := by decide +kernel
theorem dX12_init_122 : decode cX12_init 122 = .ok (.newarray .int, 2) := by decide +kernel
theorem dX12_init_124 : decode cX12_init 124 = .ok (.putfield 53, 3) := by decide +kernel
theorem dX12_init_127 : decode cX12_init 127 = .ok (.aload_n 0, 1) := by decide +kernel
theorem dX12_init_128 : decode cX12_init 128 = .ok (.bipush 10, 2) := by decide +kernel
theorem dX12_init_130 : decode cX12_init 130 = .ok (.newarray .int, 2) := by decide +kernel
theorem dX12_init_132 : decode cX12_init 132 = .ok (.putfield 56, 3) := by decide +kernel
theorem dX12_init_135 : decode cX12_init 135 = .ok (.aload_n 0, 1) := by decide +kernel
theorem dX12_init_136 : decode cX12_init 136 = .ok (.sipush 800, 3) := by decide +kernel
theorem dX12_init_139 : decode cX12_init 139 = .ok (.newarray .int, 2) := by decide +kernel
theorem dX12_init_141 : decode cX12_init 141 = .ok (.putfield 59, 3) := by decide +kernel
theorem dX12_init_144 : decode cX12_init 144 = .ok (.aload_n 0, 1) := by decide +kernel
theorem dX12_init_145 : decode cX12_init 145 = .ok (.sipush 800, 3) := by decide +kernel
theorem dX12_init_148 : decode cX12_init 148 = .ok (.newarray .int, 2) := by decide +kernel
theorem dX12_init_150 : decode cX12_init 150 = .ok (.putfield 62, 3) := by decide +kernel
theorem dX12_init_153 : decode cX12_init 153 = .ok (.aload_n 0, 1) := by decide +kernel
theorem dX12_init_154 : decode cX12_init 154 = .ok (.bipush 10, 2) := by decide +kernel
theorem dX12_init_156 : decode cX12_init 156 = .ok (.newarray .int, 2) := by decide +kernel
theorem dX12_init_158 : decode cX12_init 158 = .ok (.putfield 65, 3) := by decide +kernel
theorem dX12_init_161 : decode cX12_init 161 = .ok (.aload_n 0, 1) := by decide +kernel
theorem dX12_init_162 : decode cX12_init 162 = .ok (.bipush 10, 2) := by decide +kernel
theorem dX12_init_164 : decode cX12_init 164 = .ok (.newarray .int, 2) := by decide +kernel
theorem dX12_init_166 : decode cX12_init 166 = .ok (.putfield 68, 3) := by decide +kernel
theorem dX12_init_169 : decode cX12_init 169 = .ok (.aload_n 0, 1) := by decide +kernel
theorem dX12_init_170 : decode cX12_init 170 = .ok (.bipush 10, 2) := by decide +kernel
theorem dX12_init_172 : decode cX12_init 172 = .ok (.newarray .int, 2) := by decide +kernel
theorem dX12_init_174 : decode cX12_init 174 = .ok (.putfield 71, 3) := by decide +kernel
theorem dX12_init_177 : decode cX12_init 177 = .ok (.aload_n 0, 1) := by decide +kernel
theorem dX12_init_178 : decode cX12_init 178 = .ok (.bipush 10, 2) := by decide +kernel
theorem dX12_init_180 : decode cX12_init 180 = .ok (.newarray .int, 2) := by decide +kernel
theorem dX12_init_182 : decode cX12_init 182 = .ok (.putfield 74, 3) := by decide +kernel
theorem dX12_init_185 : decode cX12_init 185 = .ok (.aload_n 0, 1) := by decide +kernel
theorem dX12_init_186 : decode cX12_init 186 = .ok (.bipush 12, 2) := by decide +kernel
theorem dX12_init_188 : decode cX12_init 188 = .ok (.newarray .int, 2) := by decide +kernel
theorem dX12_init_190 : decode cX12_init 190 = .ok (.putfield 77, 3) := by decide +kernel
theorem dX12_init_193 : decode cX12_init 193 = .ok (.aload_n 0, 1) := by decide +kernel
theorem dX12_init_194 : decode cX12_init 194 = .ok (.bipush 12, 2) := by decide +kernel
theorem dX12_init_196 : decode cX12_init 196 = .ok (.newarray .int, 2) := by decide +kernel
theorem dX12_init_198 : decode cX12_init 198 = .ok (.putfield 80, 3) := by decide +kernel
theorem dX12_init_201 : decode cX12_init 201 = .ok (.aload_n 0, 1) := by decide +kernel
theorem dX12_init_202 : decode cX12_init 202 = .ok (.bipush 60, 2) := by decide +kernel
theorem dX12_init_204 : decode cX12_init 204 = .ok (.newarray .int, 2) := by decide +kernel
theorem dX12_init_206 : decode cX12_init 206 = .ok (.putfield 83, 3) := by decide +kernel
theorem dX12_init_209 : decode cX12_init 209 = .ok (.aload_n 0, 1) := by decide +kernel
theorem dX12_init_210 : decode cX12_init 210 = .ok (.bipush 8, 2) := by decide +kernel
theorem dX12_init_212 : decode cX12_init 212 = .ok (.newarray .int, 2) := by decide +kernel
theorem dX12_init_214 : decode cX12_init 214 = .ok (.putfield 86, 3) := by decide +kernel
theorem dX12_init_217 : decode cX12_init 217 = .ok (.aload_n 0, 1) := by decide +kernel
theorem dX12_init_218 : decode cX12_init 218 = .ok (.bipush 8, 2) := by decide +kernel
theorem dX12_init_220 : decode cX12_init 220 = .ok (.newarray .int, 2) := by decide +kernel
theorem dX12_init_222 : decode cX12_init 222 = .ok (.putfield 89, 3) := by decide +kernel
theorem dX12_init_225 : decode cX12_init 225 = .ok (.aload_n 0, 1) := by decide +kernel
theorem dX12_init_226 : decode cX12_init 226 = .ok (.bipush 9, 2) := by decide +kernel
theorem dX12_init_228 : decode cX12_init 228 = .ok (.newarray .int, 2) := by decide +kernel
theorem dX12_init_230 : decode cX12_init 230 = .ok (.putfield 92, 3) := by decide +kernel
theorem dX12_init_233 : decode cX12_init 233 = .ok (.aload_n 0, 1) := by decide +kernel
theorem dX12_init_234 : decode cX12_init 234 = .ok (.bipush 10, 2) := by decide +kernel
theorem dX12_init_236 : decode cX12_init 236 = .ok (.newarray .int, 2) := by decide +kernel
theorem dX12_init_238 : decode cX12_init 238 = .ok (.putfield 95, 3) := by decide +kernel
theorem dX12_init_241 : decode cX12_init 241 = .ok (.aload_n 0, 1) := by decide +kernel
theorem dX12_init_242 : decode cX12_init 242 = .ok (.iconst (-1), 1) := by decide +kernel
theorem dX12_init_243 : decode cX12_init 243 = .ok (.putfield 98, 3) := by decide +kernel
theorem dX12_init_246 : decode cX12_init 246 = .ok (.aload_n 0, 1) := by decide +kernel
theorem dX12_init_247 : decode cX12_init 247 = .ok (.bipush 100, 2) := by decide +kernel
theorem dX12_init_249 : decode cX12_init 249 = .ok (.newarray .int, 2) := by decide +kernel
theorem dX12_init_251 : decode cX12_init 251 = .ok (.putfield 102, 3) := by decide +kernel
theorem dX12_init_254 : decode cX12_init 254 = .ok (.aload_n 0, 1) := by decide +kernel
theorem dX12_init_255 : decode cX12_init 255 = .ok (.iconst 4, 1) := by decide +kernel
theorem dX12_init_256 : decode cX12_init 256 = .ok (.newarray .boolean, 2) := by decide +kernel
theorem dX12_init_258 : decode cX12_init 258 = .ok (.putfield 105, 3) := by decide +kernel
theorem dX12_init_261 : decode cX12_init 261 = .ok (.aload_n 0, 1) := by decide +kernel
theorem dX12_init_262 : decode cX12_init 262 = .ok (.sipush 320, 3) := by decide +kernel
theorem dX12_init_265 : decode cX12_init 265 = .ok (.newarray .boolean, 2) := by decide +kernel
theorem dX12_init_267 : decode cX12_init 267 = .ok (.putfield 108, 3) := by decide +kernel
theorem dX12_init_270 : decode cX12_init 270 = .ok (.aload_n 0, 1) := by decide +kernel
theorem dX12_init_271 : decode cX12_init 271 = .ok (.iconst 4, 1) := by decide +kernel
theorem dX12_init_272 : decode cX12_init 272 = .ok (.newarray .int, 2) := by decide +kernel
theorem dX12_init_274 : decode cX12_init 274 = .ok (.putfield 111, 3) := by decide +kernel
theorem dX12_init_277 : decode cX12_init 277 = .ok (.aload_n 0, 1) := by decide +kernel
theorem dX12_init_278 : decode cX12_init 278 = .ok (.bipush 24, 2) := by decide +kernel
theorem dX12_init_280 : decode cX12_init 280 = .ok (.newarray .int, 2) := by decide +kernel
theorem dX12_init_282 : decode cX12_init 282 = .ok (.putfield 114, 3) := by decide +kernel
theorem dX12_init_285 : decode cX12_init 285 = .ok (.aload_n 0, 1) := by decide +kernel
theorem dX12_init_286 : decode cX12_init 286 = .ok (.bipush 6, 2) := by decide +kernel
theorem dX12_init_288 : decode cX12_init 288 = .ok (.newarray .int, 2) := by decide +kernel
theorem dX12_init_290 : decode cX12_init 290 = .ok (.putfield 117, 3) := by decide +kernel
theorem dX12_init_293 : decode cX12_init 293 = .ok (.aload_n 0, 1) := by decide +kernel
theorem dX12_init_294 : decode cX12_init 294 = .ok (.bipush 6, 2) := by decide +kernel
theorem dX12_init_296 : decode cX12_init 296 = .ok (.newarray .int, 2) := by decide +kernel
theorem dX12_init_298 : decode cX12_init 298 = .ok (.putfield 120, 3) := by decide +kernel
theorem dX12_init_301 : decode cX12_init 301 = .ok (.aload_n 0, 1) := by decide +kernel
theorem dX12_init_302 : decode cX12_init 302 = .ok (.sipush 360, 3) := by decide +kernel
theorem dX12_init_305 : decode cX12_init 305 = .ok (.newarray .long, 2) := by decide +kernel
theorem dX12_init_307 : decode cX12_init 307 = .ok (.putfield 123, 3) := by decide +kernel
theorem dX12_init_310 : decode cX12_init 310 = .ok (.aload_n 0, 1) := by decide +kernel
theorem dX12_init_311 : decode cX12_init 311 = .ok (.bipush 60, 2) := by decide +kernel
theorem dX12_init_313 : decode cX12_init 313 = .ok (.newarray .long, 2) := by decide +kernel
theorem dX12_init_315 : decode cX12_init 315 = .ok (.putfield 127, 3) := by decide +kernel
theorem dX12_init_318 : decode cX12_init 318 = .ok (.iconst 0, 1) := by decide +kernel
theorem dX12_init_319 : decode cX12_init 319 = .ok (.istore_n 1, 1) := by decide +kernel
theorem dX12_init_320 : decode cX12_init 320 = .ok (.iload_n 1, 1) := by decide +kernel
theorem dX12_init_321 : decode cX12_init 321 = .ok (.iconst 4, 1) := by decide +kernel
theorem dX12_init_322 : decode cX12_init 322 = .ok (.if_icmp .ge 16, 3) := by decide +kernel
theorem dX12_init_325 : decode cX12_init 325 = .ok (.aload_n 0, 1) := by decide +kernel
theorem dX12_init_326 : decode cX12_init 326 = .ok (.getfield 20, 3) := by decide +kernel
theorem dX12_init_329 : decode cX12_init 329 = .ok (.iload_n 1, 1) := by decide +kernel
theorem dX12_init_330 : decode cX12_init 330 = .ok (.iconst (-1), 1) := by decide +kernel
theorem dX12_init_331 : decode cX12_init 331 = .ok (.iastore, 1) := by decide +kernel
theorem dX12_init_332 : decode cX12_init 332 = .ok (.iinc 1 1, 3) := by decide +kernel
theorem dX12_init_335 : decode cX12_init 335 = .ok (.goto (-15), 3) := by decide +kernel
theorem dX12_init_338 : decode cX12_init 338 = .ok (.iconst 0, 1) := by decide +kernel
theorem dX12_init_339 : decode cX12_init 339 = .ok (.istore_n 1, 1) := by decide +kernel
theorem dX12_init_340 : decode cX12_init 340 = .ok (.iload_n 1, 1) := by decide +kernel
theorem dX12_init_341 : decode cX12_init 341 = .ok (.bipush 6, 2) := by decide +kernel
theorem dX12_init_343 : decode cX12_init 343 = .ok (.if_icmp .ge 16, 3) := by decide +kernel
theorem dX12_init_346 : decode cX12_init 346 = .ok (.aload_n 0, 1) := by decide +kernel
theorem dX12_init_347 : decode cX12_init 347 = .ok (.getfield 117, 3) := by decide +kernel
theorem dX12_init_350 : decode cX12_init 350 = .ok (.iload_n 1, 1) := by decide +kernel
theorem dX12_init_351 : decode cX12_init 351 = .ok (.iconst (-1), 1) := by decide +kernel
theorem dX12_init_352 : decode cX12_init 352 = .ok (.iastore, 1) := by decide +kernel
theorem dX12_init_353 : decode cX12_init 353 = .ok (.iinc 1 1, 3) := by decide +kernel
theorem dX12_init_356 : decode cX12_init 356 = .ok (.goto (-16), 3) := by decide +kernel
theorem dX12_init_359 : decode cX12_init 359 = .ok (.return_, 1) := by decide +kernel
theorem dX12_within_0 : decode cX12_within 0 = .ok (.lload_n 0, 1) := by decide +kernel
theorem dX12_within_1 : decode cX12_within 1 = .ok (.lload_n 2, 1) := by decide +kernel
theorem dX12_within_2 : decode cX12_within 2 = .ok (.lcmp, 1) := by decide +kernel
theorem dX12_within_3 : decode cX12_within 3 = .ok (.ifCond .lt 14, 3) := by decide +kernel
theorem dX12_within_6 : decode cX12_within 6 = .ok (.lload_n 0, 1) := by decide +kernel
theorem dX12_within_7 : decode cX12_within 7 = .ok (.lload 4, 2) := by decide +kernel
theorem dX12_within_9 : decode cX12_within 9 = .ok (.lcmp, 1) := by decide +kernel
theorem dX12_within_10 : decode cX12_within 10 = .ok (.ifCond .gt 7, 3) := by decide +kernel
theorem dX12_within_13 : decode cX12_within 13 = .ok (.iconst 1, 1) := by decide +kernel
theorem dX12_within_14 : decode cX12_within 14 = .ok (.goto 4, 3) := by decide +kernel
theorem dX12_within_17 : decode cX12_within 17 = .ok (.iconst 0, 1) := by decide +kernel
theorem dX12_within_18 : decode cX12_within 18 = .ok (.ireturn, 1) := by decide +kernel
theorem dX12_isThing_0 : decode cX12_isThing 0 = .ok (.iload_n 1, 1) := by decide +kernel
theorem dX12_isThing_1 : decode cX12_isThing 1 = .ok (.ifCond .lt 15, 3) := by decide +kernel
theorem dX12_isThing_4 : decode cX12_isThing 4 = .ok (.iload_n 1, 1) := by decide +kernel
theorem dX12_isThing_5 : decode cX12_isThing 5 = .ok (.aload_n 0, 1) := by decide +kernel
theorem dX12_isThing_6 : decode cX12_isThing 6 = .ok (.getfield 130, 3) := by decide +kernel
theorem dX12_isThing_9 : decode cX12_isThing 9 = .ok (.if_icmp .ge 7, 3) := by decide +kernel
theorem dX12_isThing_12 : decode cX12_isThing 12 = .ok (.iconst 1, 1) := by decide +kernel
theorem dX12_isThing_13 : decode cX12_isThing 13 = .ok (.goto 4, 3) := by decide +kernel
theorem dX12_isThing_16 : decode cX12_isThing 16 = .ok (.iconst 0, 1) := by decide +kernel
theorem dX12_isThing_17 : decode cX12_isThing 17 = .ok (.ireturn, 1) := by decide +kernel
theorem dX12_isField_0 : decode cX12_isField 0 = .ok (.iload_n 0, 1) := by decide +kernel
theorem dX12_isField_1 : decode cX12_isField 1 = .ok (.i2l, 1) := by decide +kernel
theorem dX12_isField_2 : decode cX12_isField 2 = .ok (.lconst 0, 1) := by decide +kernel
theorem dX12_isField_3 : decode cX12_isField 3 = .ok (.ldc2_w 133, 3) := by decide +kernel
theorem dX12_isField_6 : decode cX12_isField 6 = .ok (.invokestatic 135, 3) := by decide +kernel
theorem dX12_isField_9 : decode cX12_isField 9 = .ok (.ireturn, 1) := by decide +kernel
theorem dX12_isValue_0 : decode cX12_isValue 0 = .ok (.iload_n 0, 1) := by decide +kernel
theorem dX12_isValue_1 : decode cX12_isValue 1 = .ok (.i2l, 1) := by decide +kernel
theorem dX12_isValue_2 : decode cX12_isValue 2 = .ok (.lconst 0, 1) := by decide +kernel
theorem dX12_isValue_3 : decode cX12_isValue 3 = .ok (.ldc2_w 139, 3) := by decide +kernel
theorem dX12_isValue_6 : decode cX12_isValue 6 = .ok (.invokestatic 135, 3) := by decide +kernel
theorem dX12_isValue_9 : decode cX12_isValue 9 = .ok (.ireturn, 1) := by decide +kernel
theorem dX12_sumOf_0 : decode cX12_sumOf 0 = .ok (.iconst 0, 1) := by decide +kernel
theorem dX12_sumOf_1 : decode cX12_sumOf 1 = .ok (.istore_n 2, 1) := by decide +kernel
theorem dX12_sumOf_2 : decode cX12_sumOf 2 = .ok (.iconst 0, 1) := by decide +kernel
theorem dX12_sumOf_3 : decode cX12_sumOf 3 = .ok (.istore_n 3, 1) := by decide +kernel
theorem dX12_sumOf_4 : decode cX12_sumOf 4 = .ok (.iload_n 3, 1) := by decide +kernel
theorem dX12_sumOf_5 : decode cX12_sumOf 5 = .ok (.aload_n 0, 1) := by decide +kernel
theorem dX12_sumOf_6 : decode cX12_sumOf 6 = .ok (.getfield 130, 3) := by decide +kernel
theorem dX12_sumOf_9 : decode cX12_sumOf 9 = .ok (.if_icmp .ge 35, 3) := by decide +kernel
theorem dX12_sumOf_12 : decode cX12_sumOf 12 = .ok (.iload_n 2, 1) := by decide +kernel
theorem dX12_sumOf_13 : decode cX12_sumOf 13 = .ok (.aload_n 0, 1) := by decide +kernel
theorem dX12_sumOf_14 : decode cX12_sumOf 14 = .ok (.getfield 13, 3) := by decide +kernel
theorem dX12_sumOf_17 : decode cX12_sumOf 17 = .ok (.iload_n 3, 1) := by decide +kernel
theorem dX12_sumOf_18 : decode cX12_sumOf 18 = .ok (.baload, 1) := by decide +kernel
theorem dX12_sumOf_19 : decode cX12_sumOf 19 = .ok (.ifCond .eq 16, 3) := by decide +kernel
theorem dX12_sumOf_22 : decode cX12_sumOf 22 = .ok (.aload_n 0, 1) := by decide +kernel
theorem dX12_sumOf_23 : decode cX12_sumOf 23 = .ok (.getfield 9, 3) := by decide +kernel
theorem dX12_sumOf_26 : decode cX12_sumOf 26 = .ok (.iconst 4, 1) := by decide +kernel
theorem dX12_sumOf_27 : decode cX12_sumOf 27 = .ok (.iload_n 3, 1) := by decide +kernel
theorem dX12_sumOf_28 : decode cX12_sumOf 28 = .ok (.imul, 1) := by decide +kernel
theorem dX12_sumOf_29 : decode cX12_sumOf 29 = .ok (.iload_n 1, 1) := by decide +kernel
theorem dX12_sumOf_30 : decode cX12_sumOf 30 = .ok (.iadd, 1) := by decide +kernel
theorem dX12_sumOf_31 : decode cX12_sumOf 31 = .ok (.iaload, 1) := by decide +kernel
theorem dX12_sumOf_32 : decode cX12_sumOf 32 = .ok (.goto 4, 3) := by decide +kernel
theorem dX12_sumOf_35 : decode cX12_sumOf 35 = .ok (.iconst 0, 1) := by decide +kernel
theorem dX12_sumOf_36 : decode cX12_sumOf 36 = .ok (.iadd, 1) := by decide +kernel
theorem dX12_sumOf_37 : decode cX12_sumOf 37 = .ok (.istore_n 2, 1) := by decide +kernel
theorem dX12_sumOf_38 : decode cX12_sumOf 38 = .ok (.iinc 3 1, 3) := by decide +kernel
theorem dX12_sumOf_41 : decode cX12_sumOf 41 = .ok (.goto (-37), 3) := by decide +kernel
theorem dX12_sumOf_44 : decode cX12_sumOf 44 = .ok (.iload_n 2, 1) := by decide +kernel
theorem dX12_sumOf_45 : decode cX12_sumOf 45 = .ok (.ireturn, 1) := by decide +kernel
theorem dX12_breaks_0 : decode cX12_breaks 0 = .ok (.iconst 0, 1) := by decide +kernel
theorem dX12_breaks_1 : decode cX12_breaks 1 = .ok (.istore_n 3, 1) := by decide +kernel
theorem dX12_breaks_2 : decode cX12_breaks 2 = .ok (.iconst 0, 1) := by decide +kernel
theorem dX12_breaks_3 : decode cX12_breaks 3 = .ok (.istore 4, 2) := by decide +kernel
theorem dX12_breaks_5 : decode cX12_breaks 5 = .ok (.iload 4, 2) := by decide +kernel
theorem dX12_breaks_7 : decode cX12_breaks 7 = .ok (.aload_n 0, 1) := by decide +kernel
theorem dX12_breaks_8 : decode cX12_breaks 8 = .ok (.getfield 130, 3) := by decide +kernel
theorem dX12_breaks_11 : decode cX12_breaks 11 = .ok (.if_icmp .ge 44, 3) := by decide +kernel
theorem dX12_breaks_14 : decode cX12_breaks 14 = .ok (.iload_n 3, 1) := by decide +kernel
theorem dX12_breaks_15 : decode cX12_breaks 15 = .ok (.ifCond .ne 28, 3) := by decide +kernel
theorem dX12_breaks_18 : decode cX12_breaks 18 = .ok (.aload_n 0, 1) := by decide +kernel
theorem dX12_breaks_19 : decode cX12_breaks 19 = .ok (.getfield 13, 3) := by decide +kernel
theorem dX12_breaks_22 : decode cX12_breaks 22 = .ok (.iload 4, 2) := by decide +kernel
theorem dX12_breaks_24 : decode cX12_breaks 24 = .ok (.baload, 1) := by decide +kernel
theorem dX12_breaks_25 : decode cX12_breaks 25 = .ok (.ifCond .eq 22, 3) := by decide +kernel
theorem dX12_breaks_28 : decode cX12_breaks 28 = .ok (.aload_n 0, 1) := by decide +kernel
theorem dX12_breaks_29 : decode cX12_breaks 29 = .ok (.getfield 9, 3) := by decide +kernel
theorem dX12_breaks_32 : decode cX12_breaks 32 = .ok (.iconst 4, 1) := by decide +kernel
theorem dX12_breaks_33 : decode cX12_breaks 33 = .ok (.iload 4, 2) := by decide +kernel
theorem dX12_breaks_35 : decode cX12_breaks 35 = .ok (.imul, 1) := by decide +kernel
theorem dX12_breaks_36 : decode cX12_breaks 36 = .ok (.iload_n 1, 1) := by decide +kernel
theorem dX12_breaks_37 : decode cX12_breaks 37 = .ok (.iadd, 1) := by decide +kernel
theorem dX12_breaks_38 : decode cX12_breaks 38 = .ok (.iaload, 1) := by decide +kernel
theorem dX12_breaks_39 : decode cX12_breaks 39 = .ok (.iload_n 2, 1) := by decide +kernel
theorem dX12_breaks_40 : decode cX12_breaks 40 = .ok (.if_icmp .ne 7, 3) := by decide +kernel
theorem dX12_breaks_43 : decode cX12_breaks 43 = .ok (.iconst 1, 1) := by decide +kernel
theorem dX12_breaks_44 : decode cX12_breaks 44 = .ok (.goto 4, 3) := by decide +kernel
theorem dX12_breaks_47 : decode cX12_breaks 47 = .ok (.iconst 0, 1) := by decide +kernel
theorem dX12_breaks_48 : decode cX12_breaks 48 = .ok (.istore_n 3, 1) := by decide +kernel
theorem dX12_breaks_49 : decode cX12_breaks 49 = .ok (.iinc 4 1, 3) := by decide +kernel
theorem dX12_breaks_52 : decode cX12_breaks 52 = .ok (.goto (-47), 3) := by decide +kernel
theorem dX12_breaks_55 : decode cX12_breaks 55 = .ok (.aload_n 0, 1) := by decide +kernel
theorem dX12_breaks_56 : decode cX12_breaks 56 = .ok (.getfield 17, 3) := by decide +kernel
theorem dX12_breaks_59 : decode cX12_breaks 59 = .ok (.iload_n 1, 1) := by decide +kernel
theorem dX12_breaks_60 : decode cX12_breaks 60 = .ok (.baload, 1) := by decide +kernel
theorem dX12_breaks_61 : decode cX12_breaks 61 = .ok (.ifCond .eq 7, 3) := by decide +kernel
theorem dX12_breaks_64 : decode cX12_breaks 64 = .ok (.iload_n 3, 1) := by decide +kernel
theorem dX12_breaks_65 : decode cX12_breaks 65 = .ok (.ifCond .ne 28, 3) := by decide +kernel
theorem dX12_breaks_68 : decode cX12_breaks 68 = .ok (.aload_n 0, 1) := by decide +kernel
theorem dX12_breaks_69 : decode cX12_breaks 69 = .ok (.getfield 20, 3) := by decide +kernel
theorem dX12_breaks_72 : decode cX12_breaks 72 = .ok (.iload_n 1, 1) := by decide +kernel
theorem dX12_breaks_73 : decode cX12_breaks 73 = .ok (.iaload, 1) := by decide +kernel
theorem dX12_breaks_74 : decode cX12_breaks 74 = .ok (.ifCond .lt 23, 3) := by decide +kernel
theorem dX12_breaks_77 : decode cX12_breaks 77 = .ok (.aload_n 0, 1) := by decide +kernel
theorem dX12_breaks_78 : decode cX12_breaks 78 = .ok (.iload_n 1, 1) := by decide +kernel
theorem dX12_breaks_79 : decode cX12_breaks 79 = .ok (.invokevirtual 141, 3) := by decide +kernel
theorem dX12_breaks_82 : decode cX12_breaks 82 = .ok (.iload_n 2, 1) := by decide +kernel
theorem dX12_breaks_83 : decode cX12_breaks 83 = .ok (.iadd, 1) := by decide +kernel
theorem dX12_breaks_84 : decode cX12_breaks 84 = .ok (.aload_n 0, 1) := by decide +kernel
theorem dX12_breaks_85 : decode cX12_breaks 85 = .ok (.getfield 20, 3) := by decide +kernel
theorem dX12_breaks_88 : decode cX12_breaks 88 = .ok (.iload_n 1, 1) := by decide +kernel
theorem dX12_breaks_89 : decode cX12_breaks 89 = .ok (.iaload, 1) := by decide +kernel
theorem dX12_breaks_90 : decode cX12_breaks 90 = .ok (.if_icmp .le 7, 3) := by decide +kernel
theorem dX12_breaks_93 : decode cX12_breaks 93 = .ok (.iconst 1, 1) := by decide +kernel
theorem dX12_breaks_94 : decode cX12_breaks 94 = .ok (.goto 4, 3) := by decide +kernel
theorem dX12_breaks_97 : decode cX12_breaks 97 = .ok (.iconst 0, 1) := by decide +kernel
theorem dX12_breaks_98 : decode cX12_breaks 98 = .ok (.ireturn, 1) := by decide +kernel
theorem dX12_put_0 : decode cX12_put 0 = .ok (.iload_n 1, 1) := by decide +kernel
theorem dX12_put_1 : decode cX12_put 1 = .ok (.invokestatic 145, 3) := by decide +kernel
theorem dX12_put_4 : decode cX12_put 4 = .ok (.ifCond .eq 25, 3) := by decide +kernel
theorem dX12_put_7 : decode cX12_put 7 = .ok (.iload_n 2, 1) := by decide +kernel
theorem dX12_put_8 : decode cX12_put 8 = .ok (.invokestatic 145, 3) := by decide +kernel
theorem dX12_put_11 : decode cX12_put 11 = .ok (.ifCond .eq 18, 3) := by decide +kernel
theorem dX12_put_14 : decode cX12_put 14 = .ok (.iload_n 3, 1) := by decide +kernel
theorem dX12_put_15 : decode cX12_put 15 = .ok (.invokestatic 145, 3) := by decide +kernel
theorem dX12_put_18 : decode cX12_put 18 = .ok (.ifCond .eq 11, 3) := by decide +kernel
theorem dX12_put_21 : decode cX12_put 21 = .ok (.iload 4, 2) := by decide +kernel
theorem dX12_put_23 : decode cX12_put 23 = .ok (.invokestatic 145, 3) := by decide +kernel
theorem dX12_put_26 : decode cX12_put 26 = .ok (.ifCond .ne 5, 3) := by decide +kernel
theorem dX12_put_29 : decode cX12_put 29 = .ok (.iconst (-1), 1) := by decide +kernel
theorem dX12_put_30 : decode cX12_put 30 = .ok (.ireturn, 1) := by decide +kernel
theorem dX12_put_31 : decode cX12_put 31 = .ok (.aload_n 0, 1) := by decide +kernel
theorem dX12_put_32 : decode cX12_put 32 = .ok (.iconst 0, 1) := by decide +kernel
theorem dX12_put_33 : decode cX12_put 33 = .ok (.iload_n 1, 1) := by decide +kernel
theorem dX12_put_34 : decode cX12_put 34 = .ok (.invokevirtual 149, 3) := by decide +kernel
theorem dX12_put_37 : decode cX12_put 37 = .ok (.ifCond .ne 31, 3) := by decide +kernel
theorem dX12_put_40 : decode cX12_put 40 = .ok (.aload_n 0, 1) := by decide +kernel
theorem dX12_put_41 : decode cX12_put 41 = .ok (.iconst 1, 1) := by decide +kernel
theorem dX12_put_42 : decode cX12_put 42 = .ok (.iload_n 2, 1) := by decide +kernel
theorem dX12_put_43 : decode cX12_put 43 = .ok (.invokevirtual 149, 3) := by decide +kernel
theorem dX12_put_46 : decode cX12_put 46 = .ok (.ifCond .ne 22, 3) := by decide +kernel
theorem dX12_put_49 : decode cX12_put 49 = .ok (.aload_n 0, 1) := by decide +kernel
theorem dX12_put_50 : decode cX12_put 50 = .ok (.iconst 2, 1) := by decide +kernel
theorem dX12_put_51 : decode cX12_put 51 = .ok (.iload_n 3, 1) := by decide +kernel
theorem dX12_put_52 : decode cX12_put 52 = .ok (.invokevirtual 149, 3) := by decide +kernel
theorem dX12_put_55 : decode cX12_put 55 = .ok (.ifCond .ne 13, 3) := by decide +kernel
theorem dX12_put_58 : decode cX12_put 58 = .ok (.aload_n 0, 1) := by decide +kernel
theorem dX12_put_59 : decode cX12_put 59 = .ok (.iconst 3, 1) := by decide +kernel
theorem dX12_put_60 : decode cX12_put 60 = .ok (.iload 4, 2) := by decide +kernel
theorem dX12_put_62 : decode cX12_put 62 = .ok (.invokevirtual 149, 3) := by decide +kernel
theorem dX12_put_65 : decode cX12_put 65 = .ok (.ifCond .eq 6, 3) := by decide +kernel
theorem dX12_put_68 : decode cX12_put 68 = .ok (.bipush (-5), 2) := by decide +kernel
theorem dX12_put_70 : decode cX12_put 70 = .ok (.ireturn, 1) := by decide +kernel
theorem dX12_put_71 : decode cX12_put 71 = .ok (.aload_n 0, 1) := by decide +kernel
theorem dX12_put_72 : decode cX12_put 72 = .ok (.getfield 130, 3) := by decide +kernel
theorem dX12_put_75 : decode cX12_put 75 = .ok (.bipush 80, 2) := by decide +kernel
theorem dX12_put_77 : decode cX12_put 77 = .ok (.if_icmp .ne 6, 3) := by decide +kernel
theorem dX12_put_80 : decode cX12_put 80 = .ok (.bipush (-3), 2) := by decide +kernel
theorem dX12_put_82 : decode cX12_put 82 = .ok (.ireturn, 1) := by decide +kernel
theorem dX12_put_83 : decode cX12_put 83 = .ok (.aload_n 0, 1) := by decide +kernel
theorem dX12_put_84 : decode cX12_put 84 = .ok (.getfield 9, 3) := by decide +kernel
theorem dX12_put_87 : decode cX12_put 87 = .ok (.iconst 4, 1) := by decide +kernel
theorem dX12_put_88 : decode cX12_put 88 = .ok (.aload_n 0, 1) := by decide +kernel
theorem dX12_put_89 : decode cX12_put 89 = .ok (.getfield 130, 3) := by decide +kernel
theorem dX12_put_92 : decode cX12_put 92 = .ok (.imul, 1) := by decide +kernel
theorem dX12_put_93 : decode cX12_put 93 = .ok (.iload_n 1, 1) := by decide +kernel
theorem dX12_put_94 : decode cX12_put 94 = .ok (.iastore, 1) := by decide +kernel
theorem dX12_put_95 : decode cX12_put 95 = .ok (.aload_n 0, 1) := by decide +kernel
theorem dX12_put_96 : decode cX12_put 96 = .ok (.getfield 9, 3) := by decide +kernel
theorem dX12_put_99 : decode cX12_put 99 = .ok (.iconst 4, 1) := by decide +kernel
theorem dX12_put_100 : decode cX12_put 100 = .ok (.aload_n 0, 1) := by decide +kernel
theorem dX12_put_101 : decode cX12_put 101 = .ok (.getfield 130, 3) := by decide +kernel
theorem dX12_put_104 : decode cX12_put 104 = .ok (.imul, 1) := by decide +kernel
theorem dX12_put_105 : decode cX12_put 105 = .ok (.iconst 1, 1) := by decide +kernel
theorem dX12_put_106 : decode cX12_put 106 = .ok (.iadd, 1) := by decide +kernel
theorem dX12_put_107 : decode cX12_put 107 = .ok (.iload_n 2, 1) := by decide +kernel
theorem dX12_put_108 : decode cX12_put 108 = .ok (.iastore, 1) := by decide +kernel
theorem dX12_put_109 : decode cX12_put 109 = .ok (.aload_n 0, 1) := by decide +kernel
theorem dX12_put_110 : decode cX12_put 110 = .ok (.getfield 9, 3) := by decide +kernel
theorem dX12_put_113 : decode cX12_put 113 = .ok (.iconst 4, 1) := by decide +kernel
theorem dX12_put_114 : decode cX12_put 114 = .ok (.aload_n 0, 1) := by decide +kernel
theorem dX12_put_115 : decode cX12_put 115 = .ok (.getfield 130, 3) := by decide +kernel
theorem dX12_put_118 : decode cX12_put 118 = .ok (.imul, 1) := by decide +kernel
theorem dX12_put_119 : decode cX12_put 119 = .ok (.iconst 2, 1) := by decide +kernel
theorem dX12_put_120 : decode cX12_put 120 = .ok (.iadd, 1) := by decide +kernel
theorem dX12_put_121 : decode cX12_put 121 = .ok (.iload_n 3, 1) := by decide +kernel
theorem dX12_put_122 : decode cX12_put 122 = .ok (.iastore, 1) := by decide +kernel
theorem dX12_put_123 : decode cX12_put 123 = .ok (.aload_n 0, 1) := by decide +kernel
theorem dX12_put_124 : decode cX12_put 124 = .ok (.getfield 9, 3) := by decide +kernel
theorem dX12_put_127 : decode cX12_put 127 = .ok (.iconst 4, 1) := by decide +kernel
theorem dX12_put_128 : decode cX12_put 128 = .ok (.aload_n 0, 1) := by decide +kernel
theorem dX12_put_129 : decode cX12_put 129 = .ok (.getfield 130, 3) := by decide +kernel
theorem dX12_put_132 : decode cX12_put 132 = .ok (.imul, 1) := by decide +kernel
theorem dX12_put_133 : decode cX12_put 133 = .ok (.iconst 3, 1) := by decide +kernel
theorem dX12_put_134 : decode cX12_put 134 = .ok (.iadd, 1) := by decide +kernel
theorem dX12_put_135 : decode cX12_put 135 = .ok (.iload 4, 2) := by decide +kernel
theorem dX12_put_137 : decode cX12_put 137 = .ok (.iastore, 1) := by decide +kernel
theorem dX12_put_138 : decode cX12_put 138 = .ok (.aload_n 0, 1) := by decide +kernel
theorem dX12_put_139 : decode cX12_put 139 = .ok (.getfield 13, 3) := by decide +kernel
theorem dX12_put_142 : decode cX12_put 142 = .ok (.aload_n 0, 1) := by decide +kernel
theorem dX12_put_143 : decode cX12_put 143 = .ok (.getfield 130, 3) := by decide +kernel
theorem dX12_put_146 : decode cX12_put 146 = .ok (.iconst 1, 1) := by decide +kernel
theorem dX12_put_147 : decode cX12_put 147 = .ok (.bastore, 1) := by decide +kernel
theorem dX12_put_148 : decode cX12_put 148 = .ok (.aload_n 0, 1) := by decide +kernel
theorem dX12_put_149 : decode cX12_put 149 = .ok (.dup, 1) := by decide +kernel
theorem dX12_put_150 : decode cX12_put 150 = .ok (.getfield 130, 3) := by decide +kernel
theorem dX12_put_153 : decode cX12_put 153 = .ok (.iconst 1, 1) := by decide +kernel
theorem dX12_put_154 : decode cX12_put 154 = .ok (.iadd, 1) := by decide +kernel
theorem dX12_put_155 : decode cX12_put 155 = .ok (.putfield 130, 3) := by decide +kernel
theorem dX12_put_158 : decode cX12_put 158 = .ok (.iconst 0, 1) := by decide +kernel
theorem dX12_put_159 : decode cX12_put 159 = .ok (.istore 5, 2) := by decide +kernel
theorem dX12_put_161 : decode cX12_put 161 = .ok (.iload 5, 2) := by decide +kernel
theorem dX12_put_163 : decode cX12_put 163 = .ok (.aload_n 0, 1) := by decide +kernel
theorem dX12_put_164 : decode cX12_put 164 = .ok (.getfield 153, 3) := by decide +kernel
theorem dX12_put_167 : decode cX12_put 167 = .ok (.if_icmp .ge 21, 3) := by decide +kernel
theorem dX12_put_170 : decode cX12_put 170 = .ok (.aload_n 0, 1) := by decide +kernel
theorem dX12_put_171 : decode cX12_put 171 = .ok (.iload 5, 2) := by decide +kernel
theorem dX12_put_173 : decode cX12_put 173 = .ok (.aload_n 0, 1) := by decide +kernel
theorem dX12_put_174 : decode cX12_put 174 = .ok (.getfield 130, 3) := by decide +kernel
theorem dX12_put_177 : decode cX12_put 177 = .ok (.iconst 1, 1) := by decide +kernel
theorem dX12_put_178 : decode cX12_put 178 = .ok (.isub, 1) := by decide +kernel
theorem dX12_put_179 : decode cX12_put 179 = .ok (.invokevirtual 156, 3) := by decide +kernel
theorem dX12_put_182 : decode cX12_put 182 = .ok (.iinc 5 1, 3) := by decide +kernel
theorem dX12_put_185 : decode cX12_put 185 = .ok (.goto (-24), 3) := by decide +kernel
theorem dX12_put_188 : decode cX12_put 188 = .ok (.aload_n 0, 1) := by decide +kernel
theorem dX12_put_189 : decode cX12_put 189 = .ok (.getfield 130, 3) := by decide +kernel
theorem dX12_put_192 : decode cX12_put 192 = .ok (.iconst 1, 1) := by decide +kernel
theorem dX12_put_193 : decode cX12_put 193 = .ok (.isub, 1) := by decide +kernel
theorem dX12_put_194 : decode cX12_put 194 = .ok (.ireturn, 1) := by decide +kernel
theorem dX12_take_0 : decode cX12_take 0 = .ok (.aload_n 0, 1) := by decide +kernel
theorem dX12_take_1 : decode cX12_take 1 = .ok (.iload_n 1, 1) := by decide +kernel
theorem dX12_take_2 : decode cX12_take 2 = .ok (.invokevirtual 160, 3) := by decide +kernel
theorem dX12_take_5 : decode cX12_take 5 = .ok (.ifCond .ne 5, 3) := by decide +kernel
theorem dX12_take_8 : decode cX12_take 8 = .ok (.iconst (-1), 1) := by decide +kernel
theorem dX12_take_9 : decode cX12_take 9 = .ok (.ireturn, 1) := by decide +kernel
theorem dX12_take_10 : decode cX12_take 10 = .ok (.aload_n 0, 1) := by decide +kernel
theorem dX12_take_11 : decode cX12_take 11 = .ok (.getfield 13, 3) := by decide +kernel
theorem dX12_take_14 : decode cX12_take 14 = .ok (.iload_n 1, 1) := by decide +kernel
theorem dX12_take_15 : decode cX12_take 15 = .ok (.baload, 1) := by decide +kernel
theorem dX12_take_16 : decode cX12_take 16 = .ok (.ifCond .ne 6, 3) := by decide +kernel
theorem dX12_take_19 : decode cX12_take 19 = .ok (.bipush (-2), 2) := by decide +kernel
theorem dX12_take_21 : decode cX12_take 21 = .ok (.ireturn, 1) := by decide +kernel
theorem dX12_take_22 : decode cX12_take 22 = .ok (.aload_n 0, 1) := by decide +kernel
theorem dX12_take_23 : decode cX12_take 23 = .ok (.getfield 13, 3) := by decide +kernel
theorem dX12_take_26 : decode cX12_take 26 = .ok (.iload_n 1, 1) := by decide +kernel
theorem dX12_take_27 : decode cX12_take 27 = .ok (.iconst 0, 1) := by decide +kernel
theorem dX12_take_28 : decode cX12_take 28 = .ok (.bastore, 1) := by decide +kernel
theorem dX12_take_29 : decode cX12_take 29 = .ok (.iconst 0, 1) := by decide +kernel
theorem dX12_take_30 : decode cX12_take 30 = .ok (.istore_n 2, 1) := by decide +kernel
theorem dX12_take_31 : decode cX12_take 31 = .ok (.iload_n 2, 1) := by decide +kernel
theorem dX12_take_32 : decode cX12_take 32 = .ok (.aload_n 0, 1) := by decide +kernel
theorem dX12_take_33 : decode cX12_take 33 = .ok (.getfield 153, 3) := by decide +kernel
theorem dX12_take_36 : decode cX12_take 36 = .ok (.if_icmp .ge 15, 3) := by decide +kernel
theorem dX12_take_39 : decode cX12_take 39 = .ok (.aload_n 0, 1) := by decide +kernel
theorem dX12_take_40 : decode cX12_take 40 = .ok (.iload_n 2, 1) := by decide +kernel
theorem dX12_take_41 : decode cX12_take 41 = .ok (.iload_n 1, 1) := by decide +kernel
theorem dX12_take_42 : decode cX12_take 42 = .ok (.invokevirtual 163, 3) := by decide +kernel
theorem dX12_take_45 : decode cX12_take 45 = .ok (.iinc 2 1, 3) := by decide +kernel
theorem dX12_take_48 : decode cX12_take 48 = .ok (.goto (-17), 3) := by decide +kernel
theorem dX12_take_51 : decode cX12_take 51 = .ok (.iconst 1, 1) := by decide +kernel
theorem dX12_take_52 : decode cX12_take 52 = .ok (.ireturn, 1) := by decide +kernel
theorem dX12_of_0 : decode cX12_of 0 = .ok (.aload_n 0, 1) := by decide +kernel
theorem dX12_of_1 : decode cX12_of 1 = .ok (.iload_n 1, 1) := by decide +kernel
theorem dX12_of_2 : decode cX12_of 2 = .ok (.invokevirtual 160, 3) := by decide +kernel
theorem dX12_of_5 : decode cX12_of 5 = .ok (.ifCond .eq 15, 3) := by decide +kernel
theorem dX12_of_8 : decode cX12_of 8 = .ok (.iload_n 2, 1) := by decide +kernel
theorem dX12_of_9 : decode cX12_of 9 = .ok (.i2l, 1) := by decide +kernel
theorem dX12_of_10 : decode cX12_of 10 = .ok (.lconst 0, 1) := by decide +kernel
theorem dX12_of_11 : decode cX12_of 11 = .ok (.ldc2_w 166, 3) := by decide +kernel
theorem dX12_of_14 : decode cX12_of 14 = .ok (.invokestatic 135, 3) := by decide +kernel
theorem dX12_of_17 : decode cX12_of 17 = .ok (.ifCond .ne 5, 3) := by decide +kernel
theorem dX12_of_20 : decode cX12_of 20 = .ok (.iconst (-1), 1) := by decide +kernel
theorem dX12_of_21 : decode cX12_of 21 = .ok (.ireturn, 1) := by decide +kernel
theorem dX12_of_22 : decode cX12_of 22 = .ok (.iload_n 2, 1) := by decide +kernel
theorem dX12_of_23 : decode cX12_of 23 = .ok (.iconst 4, 1) := by decide +kernel
theorem dX12_of_24 : decode cX12_of 24 = .ok (.if_icmp .ge 16, 3) := by decide +kernel
theorem dX12_of_27 : decode cX12_of 27 = .ok (.aload_n 0, 1) := by decide +kernel
theorem dX12_of_28 : decode cX12_of 28 = .ok (.getfield 9, 3) := by decide +kernel
theorem dX12_of_31 : decode cX12_of 31 = .ok (.iconst 4, 1) := by decide +kernel
theorem dX12_of_32 : decode cX12_of 32 = .ok (.iload_n 1, 1) := by decide +kernel
theorem dX12_of_33 : decode cX12_of 33 = .ok (.imul, 1) := by decide +kernel
theorem dX12_of_34 : decode cX12_of 34 = .ok (.iload_n 2, 1) := by decide +kernel
theorem dX12_of_35 : decode cX12_of 35 = .ok (.iadd, 1) := by decide +kernel
theorem dX12_of_36 : decode cX12_of 36 = .ok (.iaload, 1) := by decide +kernel
theorem dX12_of_37 : decode cX12_of 37 = .ok (.goto 17, 3) := by decide +kernel
theorem dX12_of_40 : decode cX12_of 40 = .ok (.aload_n 0, 1) := by decide +kernel
theorem dX12_of_41 : decode cX12_of 41 = .ok (.getfield 13, 3) := by decide +kernel
theorem dX12_of_44 : decode cX12_of 44 = .ok (.iload_n 1, 1) := by decide +kernel
theorem dX12_of_45 : decode cX12_of 45 = .ok (.baload, 1) := by decide +kernel
theorem dX12_of_46 : decode cX12_of 46 = .ok (.ifCond .eq 7, 3) := by decide +kernel
theorem dX12_of_49 : decode cX12_of 49 = .ok (.iconst 1, 1) := by decide +kernel
theorem dX12_of_50 : decode cX12_of 50 = .ok (.goto 4, 3) := by decide +kernel
theorem dX12_of_53 : decode cX12_of 53 = .ok (.iconst 0, 1) := by decide +kernel
theorem dX12_of_54 : decode cX12_of 54 = .ok (.ireturn, 1) := by decide +kernel
theorem dX12_unlike_0 : decode cX12_unlike 0 = .ok (.iload_n 1, 1) := by decide +kernel
theorem dX12_unlike_1 : decode cX12_unlike 1 = .ok (.invokestatic 168, 3) := by decide +kernel
theorem dX12_unlike_4 : decode cX12_unlike 4 = .ok (.ifCond .eq 13, 3) := by decide +kernel
theorem dX12_unlike_7 : decode cX12_unlike 7 = .ok (.iload_n 2, 1) := by decide +kernel
theorem dX12_unlike_8 : decode cX12_unlike 8 = .ok (.i2l, 1) := by decide +kernel
theorem dX12_unlike_9 : decode cX12_unlike 9 = .ok (.lconst 0, 1) := by decide +kernel
theorem dX12_unlike_10 : decode cX12_unlike 10 = .ok (.lconst 1, 1) := by decide +kernel
theorem dX12_unlike_11 : decode cX12_unlike 11 = .ok (.invokestatic 135, 3) := by decide +kernel
theorem dX12_unlike_14 : decode cX12_unlike 14 = .ok (.ifCond .ne 5, 3) := by decide +kernel
theorem dX12_unlike_17 : decode cX12_unlike 17 = .ok (.iconst (-1), 1) := by decide +kernel
theorem dX12_unlike_18 : decode cX12_unlike 18 = .ok (.ireturn, 1) := by decide +kernel
theorem dX12_unlike_19 : decode cX12_unlike 19 = .ok (.iconst 1, 1) := by decide +kernel
theorem dX12_unlike_20 : decode cX12_unlike 20 = .ok (.istore_n 3, 1) := by decide +kernel
theorem dX12_unlike_21 : decode cX12_unlike 21 = .ok (.iconst 0, 1) := by decide +kernel
theorem dX12_unlike_22 : decode cX12_unlike 22 = .ok (.istore 4, 2) := by decide +kernel
theorem dX12_unlike_24 : decode cX12_unlike 24 = .ok (.iload 4, 2) := by decide +kernel
theorem dX12_unlike_26 : decode cX12_unlike 26 = .ok (.aload_n 0, 1) := by decide +kernel
theorem dX12_unlike_27 : decode cX12_unlike 27 = .ok (.getfield 130, 3) := by decide +kernel
theorem dX12_unlike_30 : decode cX12_unlike 30 = .ok (.if_icmp .ge 80, 3) := by decide +kernel
theorem dX12_unlike_33 : decode cX12_unlike 33 = .ok (.iconst 0, 1) := by decide +kernel
theorem dX12_unlike_34 : decode cX12_unlike 34 = .ok (.istore 5, 2) := by decide +kernel
theorem dX12_unlike_36 : decode cX12_unlike 36 = .ok (.iload 5, 2) := by decide +kernel
theorem dX12_unlike_38 : decode cX12_unlike 38 = .ok (.iload 4, 2) := by decide +kernel
theorem dX12_unlike_40 : decode cX12_unlike 40 = .ok (.if_icmp .ge 64, 3) := by decide +kernel
theorem dX12_unlike_43 : decode cX12_unlike 43 = .ok (.iload_n 3, 1) := by decide +kernel
theorem dX12_unlike_44 : decode cX12_unlike 44 = .ok (.ifCond .eq 52, 3) := by decide +kernel
theorem dX12_unlike_47 : decode cX12_unlike 47 = .ok (.aload_n 0, 1) := by decide +kernel
theorem dX12_unlike_48 : decode cX12_unlike 48 = .ok (.getfield 13, 3) := by decide +kernel
theorem dX12_unlike_51 : decode cX12_unlike 51 = .ok (.iload 4, 2) := by decide +kernel
theorem dX12_unlike_53 : decode cX12_unlike 53 = .ok (.baload, 1) := by decide +kernel
theorem dX12_unlike_54 : decode cX12_unlike 54 = .ok (.ifCond .eq 38, 3) := by decide +kernel
theorem dX12_unlike_57 : decode cX12_unlike 57 = .ok (.aload_n 0, 1) := by decide +kernel
theorem dX12_unlike_58 : decode cX12_unlike 58 = .ok (.getfield 13, 3) := by decide +kernel
theorem dX12_unlike_61 : decode cX12_unlike 61 = .ok (.iload 5, 2) := by decide +kernel
theorem dX12_unlike_63 : decode cX12_unlike 63 = .ok (.baload, 1) := by decide +kernel
theorem dX12_unlike_64 : decode cX12_unlike 64 = .ok (.ifCond .eq 28, 3) := by decide +kernel
theorem dX12_unlike_67 : decode cX12_unlike 67 = .ok (.aload_n 0, 1) := by decide +kernel
theorem dX12_unlike_68 : decode cX12_unlike 68 = .ok (.getfield 9, 3) := by decide +kernel
theorem dX12_unlike_71 : decode cX12_unlike 71 = .ok (.iconst 4, 1) := by decide +kernel
theorem dX12_unlike_72 : decode cX12_unlike 72 = .ok (.iload 4, 2) := by decide +kernel
theorem dX12_unlike_74 : decode cX12_unlike 74 = .ok (.imul, 1) := by decide +kernel
theorem dX12_unlike_75 : decode cX12_unlike 75 = .ok (.iload_n 1, 1) := by decide +kernel
theorem dX12_unlike_76 : decode cX12_unlike 76 = .ok (.iadd, 1) := by decide +kernel
theorem dX12_unlike_77 : decode cX12_unlike 77 = .ok (.iaload, 1) := by decide +kernel
theorem dX12_unlike_78 : decode cX12_unlike 78 = .ok (.aload_n 0, 1) := by decide +kernel
theorem dX12_unlike_79 : decode cX12_unlike 79 = .ok (.getfield 9, 3) := by decide +kernel
theorem dX12_unlike_82 : decode cX12_unlike 82 = .ok (.iconst 4, 1) := by decide +kernel
theorem dX12_unlike_83 : decode cX12_unlike 83 = .ok (.iload 5, 2) := by decide +kernel
theorem dX12_unlike_85 : decode cX12_unlike 85 = .ok (.imul, 1) := by decide +kernel
theorem dX12_unlike_86 : decode cX12_unlike 86 = .ok (.iload_n 1, 1) := by decide +kernel
theorem dX12_unlike_87 : decode cX12_unlike 87 = .ok (.iadd, 1) := by decide +kernel
theorem dX12_unlike_88 : decode cX12_unlike 88 = .ok (.iaload, 1) := by decide +kernel
theorem dX12_unlike_89 : decode cX12_unlike 89 = .ok (.if_icmp .eq 7, 3) := by decide +kernel
theorem dX12_unlike_92 : decode cX12_unlike 92 = .ok (.iconst 1, 1) := by decide +kernel
theorem dX12_unlike_93 : decode cX12_unlike 93 = .ok (.goto 4, 3) := by decide +kernel
theorem dX12_unlike_96 : decode cX12_unlike 96 = .ok (.iconst 0, 1) := by decide +kernel
theorem dX12_unlike_97 : decode cX12_unlike 97 = .ok (.istore_n 3, 1) := by decide +kernel
theorem dX12_unlike_98 : decode cX12_unlike 98 = .ok (.iinc 5 1, 3) := by decide +kernel
theorem dX12_unlike_101 : decode cX12_unlike 101 = .ok (.goto (-65), 3) := by decide +kernel
theorem dX12_unlike_104 : decode cX12_unlike 104 = .ok (.iinc 4 1, 3) := by decide +kernel
theorem dX12_unlike_107 : decode cX12_unlike 107 = .ok (.goto (-83), 3) := by decide +kernel
theorem dX12_unlike_110 : decode cX12_unlike 110 = .ok (.iload_n 2, 1) := by decide +kernel
theorem dX12_unlike_111 : decode cX12_unlike 111 = .ok (.iconst 1, 1) := by decide +kernel
theorem dX12_unlike_112 : decode cX12_unlike 112 = .ok (.if_icmp .ne 10, 3) := by decide +kernel
theorem dX12_unlike_115 : decode cX12_unlike 115 = .ok (.iload_n 3, 1) := by decide +kernel
theorem dX12_unlike_116 : decode cX12_unlike 116 = .ok (.ifCond .ne 6, 3) := by decide +kernel
theorem dX12_unlike_119 : decode cX12_unlike 119 = .ok (.bipush (-5), 2) := by decide +kernel
theorem dX12_unlike_121 : decode cX12_unlike 121 = .ok (.ireturn, 1) := by decide +kernel
theorem dX12_unlike_122 : decode cX12_unlike 122 = .ok (.aload_n 0, 1) := by decide +kernel
theorem dX12_unlike_123 : decode cX12_unlike 123 = .ok (.getfield 17, 3) := by decide +kernel
theorem dX12_unlike_126 : decode cX12_unlike 126 = .ok (.iload_n 1, 1) := by decide +kernel
theorem dX12_unlike_127 : decode cX12_unlike 127 = .ok (.baload, 1) := by decide +kernel
theorem dX12_unlike_128 : decode cX12_unlike 128 = .ok (.ifCond .eq 7, 3) := by decide +kernel
theorem dX12_unlike_131 : decode cX12_unlike 131 = .ok (.iconst 1, 1) := by decide +kernel
theorem dX12_unlike_132 : decode cX12_unlike 132 = .ok (.goto 4, 3) := by decide +kernel
theorem dX12_unlike_135 : decode cX12_unlike 135 = .ok (.iconst 0, 1) := by decide +kernel
theorem dX12_unlike_136 : decode cX12_unlike 136 = .ok (.istore 4, 2) := by decide +kernel
theorem dX12_unlike_138 : decode cX12_unlike 138 = .ok (.aload_n 0, 1) := by decide +kernel
theorem dX12_unlike_139 : decode cX12_unlike 139 = .ok (.getfield 17, 3) := by decide +kernel
theorem dX12_unlike_142 : decode cX12_unlike 142 = .ok (.iload_n 1, 1) := by decide +kernel
theorem dX12_unlike_143 : decode cX12_unlike 143 = .ok (.iload_n 2, 1) := by decide +kernel
theorem dX12_unlike_144 : decode cX12_unlike 144 = .ok (.iconst 1, 1) := by decide +kernel
theorem dX12_unlike_145 : decode cX12_unlike 145 = .ok (.if_icmp .ne 7, 3) := by decide +kernel
theorem dX12_unlike_148 : decode cX12_unlike 148 = .ok (.iconst 1, 1) := by decide +kernel
theorem dX12_unlike_149 : decode cX12_unlike 149 = .ok (.goto 4, 3) := by decide +kernel
theorem dX12_unlike_152 : decode cX12_unlike 152 = .ok (.iconst 0, 1) := by decide +kernel
theorem dX12_unlike_153 : decode cX12_unlike 153 = .ok (.bastore, 1) := by decide +kernel
theorem dX12_unlike_154 : decode cX12_unlike 154 = .ok (.iload 4, 2) := by decide +kernel
theorem dX12_unlike_156 : decode cX12_unlike 156 = .ok (.ireturn, 1) := by decide +kernel
theorem dX12_most_0 : decode cX12_most 0 = .ok (.iload_n 1, 1) := by decide +kernel
theorem dX12_most_1 : decode cX12_most 1 = .ok (.invokestatic 168, 3) := by decide +kernel
theorem dX12_most_4 : decode cX12_most 4 = .ok (.ifCond .eq 17, 3) := by decide +kernel
theorem dX12_most_7 : decode cX12_most 7 = .ok (.iload_n 2, 1) := by decide +kernel
theorem dX12_most_8 : decode cX12_most 8 = .ok (.i2l, 1) := by decide +kernel
theorem dX12_most_9 : decode cX12_most 9 = .ok (.ldc2_w 171, 3) := by decide +kernel
theorem dX12_most_12 : decode cX12_most 12 = .ok (.ldc2_w 173, 3) := by decide +kernel
theorem dX12_most_15 : decode cX12_most 15 = .ok (.invokestatic 135, 3) := by decide +kernel
theorem dX12_most_18 : decode cX12_most 18 = .ok (.ifCond .ne 6, 3) := by decide +kernel
theorem dX12_most_21 : decode cX12_most 21 = .ok (.ldc 175, 2) := by decide +kernel
theorem dX12_most_23 : decode cX12_most 23 = .ok (.ireturn, 1) := by decide +kernel
theorem dX12_most_24 : decode cX12_most 24 = .ok (.iload_n 2, 1) := by decide +kernel
theorem dX12_most_25 : decode cX12_most 25 = .ok (.ifCond .lt 15, 3) := by decide +kernel
theorem dX12_most_28 : decode cX12_most 28 = .ok (.aload_n 0, 1) := by decide +kernel
theorem dX12_most_29 : decode cX12_most 29 = .ok (.iload_n 1, 1) := by decide +kernel
theorem dX12_most_30 : decode cX12_most 30 = .ok (.invokevirtual 141, 3) := by decide +kernel
theorem dX12_most_33 : decode cX12_most 33 = .ok (.iload_n 2, 1) := by decide +kernel
theorem dX12_most_34 : decode cX12_most 34 = .ok (.if_icmp .le 6, 3) := by decide +kernel
theorem dX12_most_37 : decode cX12_most 37 = .ok (.bipush (-2), 2) := by decide +kernel
theorem dX12_most_39 : decode cX12_most 39 = .ok (.ireturn, 1) := by decide +kernel
theorem dX12_most_40 : decode cX12_most 40 = .ok (.aload_n 0, 1) := by decide +kernel
theorem dX12_most_41 : decode cX12_most 41 = .ok (.getfield 20, 3) := by decide +kernel
theorem dX12_most_44 : decode cX12_most 44 = .ok (.iload_n 1, 1) := by decide +kernel
theorem dX12_most_45 : decode cX12_most 45 = .ok (.iaload, 1) := by decide +kernel
theorem dX12_most_46 : decode cX12_most 46 = .ok (.istore_n 3, 1) := by decide +kernel
theorem dX12_most_47 : decode cX12_most 47 = .ok (.aload_n 0, 1) := by decide +kernel
theorem dX12_most_48 : decode cX12_most 48 = .ok (.getfield 20, 3) := by decide +kernel
theorem dX12_most_51 : decode cX12_most 51 = .ok (.iload_n 1, 1) := by decide +kernel
theorem dX12_most_52 : decode cX12_most 52 = .ok (.iload_n 2, 1) := by decide +kernel
theorem dX12_most_53 : decode cX12_most 53 = .ok (.iastore, 1) := by decide +kernel
theorem dX12_most_54 : decode cX12_most 54 = .ok (.iload_n 3, 1) := by decide +kernel
theorem dX12_most_55 : decode cX12_most 55 = .ok (.ireturn, 1) := by decide +kernel
theorem dX12_feed_0 : decode cX12_feed 0 = .ok (.iload_n 1, 1) := by decide +kernel
theorem dX12_feed_1 : decode cX12_feed 1 = .ok (.i2l, 1) := by decide +kernel
theorem dX12_feed_2 : decode cX12_feed 2 = .ok (.lconst 1, 1) := by decide +kernel
theorem dX12_feed_3 : decode cX12_feed 3 = .ok (.ldc2_w 166, 3) := by decide +kernel
theorem dX12_feed_6 : decode cX12_feed 6 = .ok (.invokestatic 135, 3) := by decide +kernel
theorem dX12_feed_9 : decode cX12_feed 9 = .ok (.ifCond .ne 5, 3) := by decide +kernel
theorem dX12_feed_12 : decode cX12_feed 12 = .ok (.iconst (-1), 1) := by decide +kernel
theorem dX12_feed_13 : decode cX12_feed 13 = .ok (.ireturn, 1) := by decide +kernel
theorem dX12_feed_14 : decode cX12_feed 14 = .ok (.aload_n 0, 1) := by decide +kernel
theorem dX12_feed_15 : decode cX12_feed 15 = .ok (.getfield 176, 3) := by decide +kernel
theorem dX12_feed_18 : decode cX12_feed 18 = .ok (.iload_n 1, 1) := by decide +kernel
theorem dX12_feed_19 : decode cX12_feed 19 = .ok (.iadd, 1) := by decide +kernel
theorem dX12_feed_20 : decode cX12_feed 20 = .ok (.bipush 60, 2) := by decide +kernel
theorem dX12_feed_22 : decode cX12_feed 22 = .ok (.if_icmp .le 6, 3) := by decide +kernel
theorem dX12_feed_25 : decode cX12_feed 25 = .ok (.bipush (-3), 2) := by decide +kernel
theorem dX12_feed_27 : decode cX12_feed 27 = .ok (.ireturn, 1) := by decide +kernel
theorem dX12_feed_28 : decode cX12_feed 28 = .ok (.iconst 0, 1) := by decide +kernel
theorem dX12_feed_29 : decode cX12_feed 29 = .ok (.istore_n 3, 1) := by decide +kernel
theorem dX12_feed_30 : decode cX12_feed 30 = .ok (.iload_n 3, 1) := by decide +kernel
theorem dX12_feed_31 : decode cX12_feed 31 = .ok (.iload_n 1, 1) := by decide +kernel
theorem dX12_feed_32 : decode cX12_feed 32 = .ok (.if_icmp .ge 38, 3) := by decide +kernel
theorem dX12_feed_35 : decode cX12_feed 35 = .ok (.aload_n 0, 1) := by decide +kernel
theorem dX12_feed_36 : decode cX12_feed 36 = .ok (.getfield 23, 3) := by decide +kernel
theorem dX12_feed_39 : decode cX12_feed 39 = .ok (.aload_n 0, 1) := by decide +kernel
theorem dX12_feed_40 : decode cX12_feed 40 = .ok (.getfield 176, 3) := by decide +kernel
theorem dX12_feed_43 : decode cX12_feed 43 = .ok (.iload_n 2, 1) := by decide +kernel
theorem dX12_feed_44 : decode cX12_feed 44 = .ok (.bipush 8, 2) := by decide +kernel
theorem dX12_feed_46 : decode cX12_feed 46 = .ok (.iload_n 3, 1) := by decide +kernel
theorem dX12_feed_47 : decode cX12_feed 47 = .ok (.imul, 1) := by decide +kernel
theorem dX12_feed_48 : decode cX12_feed 48 = .ok (.ishr, 1) := by decide +kernel
theorem dX12_feed_49 : decode cX12_feed 49 = .ok (.sipush 255, 3) := by decide +kernel
theorem dX12_feed_52 : decode cX12_feed 52 = .ok (.iand, 1) := by decide +kernel
theorem dX12_feed_53 : decode cX12_feed 53 = .ok (.iastore, 1) := by decide +kernel
theorem dX12_feed_54 : decode cX12_feed 54 = .ok (.aload_n 0, 1) := by decide +kernel
theorem dX12_feed_55 : decode cX12_feed 55 = .ok (.dup, 1) := by decide +kernel
theorem dX12_feed_56 : decode cX12_feed 56 = .ok (.getfield 176, 3) := by decide +kernel
theorem dX12_feed_59 : decode cX12_feed 59 = .ok (.iconst 1, 1) := by decide +kernel
theorem dX12_feed_60 : decode cX12_feed 60 = .ok (.iadd, 1) := by decide +kernel
theorem dX12_feed_61 : decode cX12_feed 61 = .ok (.putfield 176, 3) := by decide +kernel
theorem dX12_feed_64 : decode cX12_feed 64 = .ok (.iinc 3 1, 3) := by decide +kernel
theorem dX12_feed_67 : decode cX12_feed 67 = .ok (.goto (-37), 3) := by decide +kernel
theorem dX12_feed_70 : decode cX12_feed 70 = .ok (.aload_n 0, 1) := by decide +kernel
theorem dX12_feed_71 : decode cX12_feed 71 = .ok (.getfield 176, 3) := by decide +kernel
theorem dX12_feed_74 : decode cX12_feed 74 = .ok (.ireturn, 1) := by decide +kernel
theorem dX12_byteAt_0 : decode cX12_byteAt 0 = .ok (.aload_n 0, 1) := by decide +kernel
theorem dX12_byteAt_1 : decode cX12_byteAt 1 = .ok (.getfield 179, 3) := by decide +kernel
theorem dX12_byteAt_4 : decode cX12_byteAt 4 = .ok (.aload_n 0, 1) := by decide +kernel
theorem dX12_byteAt_5 : decode cX12_byteAt 5 = .ok (.getfield 176, 3) := by decide +kernel
theorem dX12_byteAt_8 : decode cX12_byteAt 8 = .ok (.if_icmp .ge 15, 3) := by decide +kernel
theorem dX12_byteAt_11 : decode cX12_byteAt 11 = .ok (.aload_n 0, 1) := by decide +kernel
theorem dX12_byteAt_12 : decode cX12_byteAt 12 = .ok (.getfield 23, 3) := by decide +kernel
theorem dX12_byteAt_15 : decode cX12_byteAt 15 = .ok (.aload_n 0, 1) := by decide +kernel
theorem dX12_byteAt_16 : decode cX12_byteAt 16 = .ok (.getfield 179, 3) := by decide +kernel
theorem dX12_byteAt_19 : decode cX12_byteAt 19 = .ok (.iaload, 1) := by decide +kernel
theorem dX12_byteAt_20 : decode cX12_byteAt 20 = .ok (.goto 4, 3) := by decide +kernel
theorem dX12_byteAt_23 : decode cX12_byteAt 23 = .ok (.iconst (-1), 1) := by decide +kernel
theorem dX12_byteAt_24 : decode cX12_byteAt 24 = .ok (.ireturn, 1) := by decide +kernel
theorem dX12_isFieldSign_0 : decode cX12_isFieldSign 0 = .ok (.iload_n 0, 1) := by decide +kernel
theorem dX12_isFieldSign_1 : decode cX12_isFieldSign 1 = .ok (.i2l, 1) := by decide +kernel
theorem dX12_isFieldSign_2 : decode cX12_isFieldSign 2 = .ok (.ldc2_w 182, 3) := by decide +kernel
theorem dX12_isFieldSign_5 : decode cX12_isFieldSign 5 = .ok (.ldc2_w 184, 3) := by decide +kernel
theorem dX12_isFieldSign_8 : decode cX12_isFieldSign 8 = .ok (.invokestatic 135, 3) := by decide +kernel
theorem dX12_isFieldSign_11 : decode cX12_isFieldSign 11 = .ok (.ireturn, 1) := by decide +kernel
theorem dX12_readOne_0 : decode cX12_readOne 0 = .ok (.aload_n 0, 1) := by decide +kernel
theorem dX12_readOne_1 : decode cX12_readOne 1 = .ok (.invokevirtual 186, 3) := by decide +kernel
theorem dX12_readOne_4 : decode cX12_readOne 4 = .ok (.invokestatic 190, 3) := by decide +kernel
theorem dX12_readOne_7 : decode cX12_readOne 7 = .ok (.ifCond .ne 5, 3) := by decide +kernel
theorem dX12_readOne_10 : decode cX12_readOne 10 = .ok (.iconst 0, 1) := by decide +kernel
theorem dX12_readOne_11 : decode cX12_readOne 11 = .ok (.ireturn, 1) := by decide +kernel
theorem dX12_readOne_12 : decode cX12_readOne 12 = .ok (.aload_n 0, 1) := by decide +kernel
theorem dX12_readOne_13 : decode cX12_readOne 13 = .ok (.getfield 26, 3) := by decide +kernel
theorem dX12_readOne_16 : decode cX12_readOne 16 = .ok (.iload_n 1, 1) := by decide +kernel
theorem dX12_readOne_17 : decode cX12_readOne 17 = .ok (.aload_n 0, 1) := by decide +kernel
theorem dX12_readOne_18 : decode cX12_readOne 18 = .ok (.invokevirtual 186, 3) := by decide +kernel
theorem dX12_readOne_21 : decode cX12_readOne 21 = .ok (.bipush 48, 2) := by decide +kernel
theorem dX12_readOne_23 : decode cX12_readOne 23 = .ok (.isub, 1) := by decide +kernel
theorem dX12_readOne_24 : decode cX12_readOne 24 = .ok (.iastore, 1) := by decide +kernel
theorem dX12_readOne_25 : decode cX12_readOne 25 = .ok (.aload_n 0, 1) := by decide +kernel
theorem dX12_readOne_26 : decode cX12_readOne 26 = .ok (.dup, 1) := by decide +kernel
theorem dX12_readOne_27 : decode cX12_readOne 27 = .ok (.getfield 179, 3) := by decide +kernel
theorem dX12_readOne_30 : decode cX12_readOne 30 = .ok (.iconst 1, 1) := by decide +kernel
theorem dX12_readOne_31 : decode cX12_readOne 31 = .ok (.iadd, 1) := by decide +kernel
theorem dX12_readOne_32 : decode cX12_readOne 32 = .ok (.putfield 179, 3) := by decide +kernel
theorem dX12_readOne_35 : decode cX12_readOne 35 = .ok (.aload_n 0, 1) := by decide +kernel
theorem dX12_readOne_36 : decode cX12_readOne 36 = .ok (.invokevirtual 186, 3) := by decide +kernel
theorem dX12_readOne_39 : decode cX12_readOne 39 = .ok (.istore_n 2, 1) := by decide +kernel
theorem dX12_readOne_40 : decode cX12_readOne 40 = .ok (.iload_n 2, 1) := by decide +kernel
theorem dX12_readOne_41 : decode cX12_readOne 41 = .ok (.bipush 61, 2) := by decide +kernel
theorem dX12_readOne_43 : decode cX12_readOne 43 = .ok (.if_icmp .eq 17, 3) := by decide +kernel
theorem dX12_readOne_46 : decode cX12_readOne 46 = .ok (.iload_n 2, 1) := by decide +kernel
theorem dX12_readOne_47 : decode cX12_readOne 47 = .ok (.bipush 60, 2) := by decide +kernel
theorem dX12_readOne_49 : decode cX12_readOne 49 = .ok (.if_icmp .eq 11, 3) := by decide +kernel
theorem dX12_readOne_52 : decode cX12_readOne 52 = .ok (.iload_n 2, 1) := by decide +kernel
theorem dX12_readOne_53 : decode cX12_readOne 53 = .ok (.bipush 62, 2) := by decide +kernel
theorem dX12_readOne_55 : decode cX12_readOne 55 = .ok (.if_icmp .eq 5, 3) := by decide +kernel
theorem dX12_readOne_58 : decode cX12_readOne 58 = .ok (.iconst 0, 1) := by decide +kernel
theorem dX12_readOne_59 : decode cX12_readOne 59 = .ok (.ireturn, 1) := by decide +kernel
theorem dX12_readOne_60 : decode cX12_readOne 60 = .ok (.aload_n 0, 1) := by decide +kernel
theorem dX12_readOne_61 : decode cX12_readOne 61 = .ok (.getfield 29, 3) := by decide +kernel
theorem dX12_readOne_64 : decode cX12_readOne 64 = .ok (.iload_n 1, 1) := by decide +kernel
theorem dX12_readOne_65 : decode cX12_readOne 65 = .ok (.iload_n 2, 1) := by decide +kernel
theorem dX12_readOne_66 : decode cX12_readOne 66 = .ok (.iastore, 1) := by decide +kernel
theorem dX12_readOne_67 : decode cX12_readOne 67 = .ok (.aload_n 0, 1) := by decide +kernel
theorem dX12_readOne_68 : decode cX12_readOne 68 = .ok (.dup, 1) := by decide +kernel
theorem dX12_readOne_69 : decode cX12_readOne 69 = .ok (.getfield 179, 3) := by decide +kernel
theorem dX12_readOne_72 : decode cX12_readOne 72 = .ok (.iconst 1, 1) := by decide +kernel
theorem dX12_readOne_73 : decode cX12_readOne 73 = .ok (.iadd, 1) := by decide +kernel
theorem dX12_readOne_74 : decode cX12_readOne 74 = .ok (.putfield 179, 3) := by decide +kernel
theorem dX12_readOne_77 : decode cX12_readOne 77 = .ok (.aload_n 0, 1) := by decide +kernel
theorem dX12_readOne_78 : decode cX12_readOne 78 = .ok (.invokevirtual 186, 3) := by decide +kernel
theorem dX12_readOne_81 : decode cX12_readOne 81 = .ok (.istore_n 2, 1) := by decide +kernel
theorem dX12_readOne_82 : decode cX12_readOne 82 = .ok (.iload_n 2, 1) := by decide +kernel
theorem dX12_readOne_83 : decode cX12_readOne 83 = .ok (.bipush 97, 2) := by decide +kernel
theorem dX12_readOne_85 : decode cX12_readOne 85 = .ok (.if_icmp .eq 9, 3) := by decide +kernel
theorem dX12_readOne_88 : decode cX12_readOne 88 = .ok (.iload_n 2, 1) := by decide +kernel
theorem dX12_readOne_89 : decode cX12_readOne 89 = .ok (.bipush 98, 2) := by decide +kernel
theorem dX12_readOne_91 : decode cX12_readOne 91 = .ok (.if_icmp .ne 28, 3) := by decide +kernel
theorem dX12_readOne_94 : decode cX12_readOne 94 = .ok (.aload_n 0, 1) := by decide +kernel
theorem dX12_readOne_95 : decode cX12_readOne 95 = .ok (.getfield 32, 3) := by decide +kernel
theorem dX12_readOne_98 : decode cX12_readOne 98 = .ok (.iload_n 1, 1) := by decide +kernel
theorem dX12_readOne_99 : decode cX12_readOne 99 = .ok (.bipush 100, 2) := by decide +kernel
theorem dX12_readOne_101 : decode cX12_readOne 101 = .ok (.iload_n 2, 1) := by decide +kernel
theorem dX12_readOne_102 : decode cX12_readOne 102 = .ok (.iadd, 1) := by decide +kernel
theorem dX12_readOne_103 : decode cX12_readOne 103 = .ok (.bipush 97, 2) := by decide +kernel
theorem dX12_readOne_105 : decode cX12_readOne 105 = .ok (.isub, 1) := by decide +kernel
theorem dX12_readOne_106 : decode cX12_readOne 106 = .ok (.iastore, 1) := by decide +kernel
theorem dX12_readOne_107 : decode cX12_readOne 107 = .ok (.aload_n 0, 1) := by decide +kernel
theorem dX12_readOne_108 : decode cX12_readOne 108 = .ok (.dup, 1) := by decide +kernel
theorem dX12_readOne_109 : decode cX12_readOne 109 = .ok (.getfield 179, 3) := by decide +kernel
theorem dX12_readOne_112 : decode cX12_readOne 112 = .ok (.iconst 1, 1) := by decide +kernel
theorem dX12_readOne_113 : decode cX12_readOne 113 = .ok (.iadd, 1) := by decide +kernel
theorem dX12_readOne_114 : decode cX12_readOne 114 = .ok (.putfield 179, 3) := by decide +kernel
theorem dX12_readOne_117 : decode cX12_readOne 117 = .ok (.iconst 1, 1) := by decide +kernel
theorem dX12_readOne_118 : decode cX12_readOne 118 = .ok (.ireturn, 1) := by decide +kernel
theorem dX12_readOne_119 : decode cX12_readOne 119 = .ok (.iconst 0, 1) := by decide +kernel
theorem dX12_readOne_120 : decode cX12_readOne 120 = .ok (.istore_n 3, 1) := by decide +kernel
theorem dX12_readOne_121 : decode cX12_readOne 121 = .ok (.iconst 0, 1) := by decide +kernel
theorem dX12_readOne_122 : decode cX12_readOne 122 = .ok (.istore 4, 2) := by decide +kernel
theorem dX12_readOne_124 : decode cX12_readOne 124 = .ok (.iload 4, 2) := by decide +kernel
theorem dX12_readOne_126 : decode cX12_readOne 126 = .ok (.iconst 2, 1) := by decide +kernel
theorem dX12_readOne_127 : decode cX12_readOne 127 = .ok (.if_icmp .ge 51, 3) := by decide +kernel
theorem dX12_readOne_130 : decode cX12_readOne 130 = .ok (.aload_n 0, 1) := by decide +kernel
theorem dX12_readOne_131 : decode cX12_readOne 131 = .ok (.invokevirtual 186, 3) := by decide +kernel
theorem dX12_readOne_134 : decode cX12_readOne 134 = .ok (.i2l, 1) := by decide +kernel
theorem dX12_readOne_135 : decode cX12_readOne 135 = .ok (.ldc2_w 182, 3) := by decide +kernel
theorem dX12_readOne_138 : decode cX12_readOne 138 = .ok (.ldc2_w 193, 3) := by decide +kernel
theorem dX12_readOne_141 : decode cX12_readOne 141 = .ok (.invokestatic 135, 3) := by decide +kernel
theorem dX12_readOne_144 : decode cX12_readOne 144 = .ok (.ifCond .ne 5, 3) := by decide +kernel
theorem dX12_readOne_147 : decode cX12_readOne 147 = .ok (.iconst 0, 1) := by decide +kernel
theorem dX12_readOne_148 : decode cX12_readOne 148 = .ok (.ireturn, 1) := by decide +kernel
theorem dX12_readOne_149 : decode cX12_readOne 149 = .ok (.bipush 10, 2) := by decide +kernel
theorem dX12_readOne_151 : decode cX12_readOne 151 = .ok (.iload_n 3, 1) := by decide +kernel
theorem dX12_readOne_152 : decode cX12_readOne 152 = .ok (.imul, 1) := by decide +kernel
theorem dX12_readOne_153 : decode cX12_readOne 153 = .ok (.aload_n 0, 1) := by decide +kernel
theorem dX12_readOne_154 : decode cX12_readOne 154 = .ok (.invokevirtual 186, 3) := by decide +kernel
theorem dX12_readOne_157 : decode cX12_readOne 157 = .ok (.iadd, 1) := by decide +kernel
theorem dX12_readOne_158 : decode cX12_readOne 158 = .ok (.bipush 48, 2) := by decide +kernel
theorem dX12_readOne_160 : decode cX12_readOne 160 = .ok (.isub, 1) := by decide +kernel
theorem dX12_readOne_161 : decode cX12_readOne 161 = .ok (.istore_n 3, 1) := by decide +kernel
theorem dX12_readOne_162 : decode cX12_readOne 162 = .ok (.aload_n 0, 1) := by decide +kernel
theorem dX12_readOne_163 : decode cX12_readOne 163 = .ok (.dup, 1) := by decide +kernel
theorem dX12_readOne_164 : decode cX12_readOne 164 = .ok (.getfield 179, 3) := by decide +kernel
theorem dX12_readOne_167 : decode cX12_readOne 167 = .ok (.iconst 1, 1) := by decide +kernel
theorem dX12_readOne_168 : decode cX12_readOne 168 = .ok (.iadd, 1) := by decide +kernel
theorem dX12_readOne_169 : decode cX12_readOne 169 = .ok (.putfield 179, 3) := by decide +kernel
theorem dX12_readOne_172 : decode cX12_readOne 172 = .ok (.iinc 4 1, 3) := by decide +kernel
theorem dX12_readOne_175 : decode cX12_readOne 175 = .ok (.goto (-51), 3) := by decide +kernel
theorem dX12_readOne_178 : decode cX12_readOne 178 = .ok (.aload_n 0, 1) := by decide +kernel
theorem dX12_readOne_179 : decode cX12_readOne 179 = .ok (.getfield 32, 3) := by decide +kernel
theorem dX12_readOne_182 : decode cX12_readOne 182 = .ok (.iload_n 1, 1) := by decide +kernel
theorem dX12_readOne_183 : decode cX12_readOne 183 = .ok (.iload_n 3, 1) := by decide +kernel
theorem dX12_readOne_184 : decode cX12_readOne 184 = .ok (.iastore, 1) := by decide +kernel
theorem dX12_readOne_185 : decode cX12_readOne 185 = .ok (.iconst 1, 1) := by decide +kernel
theorem dX12_readOne_186 : decode cX12_readOne 186 = .ok (.ireturn, 1) := by decide +kernel
theorem dX12_readAsk_0 : decode cX12_readAsk 0 = .ok (.aload_n 0, 1) := by decide +kernel
theorem dX12_readAsk_1 : decode cX12_readAsk 1 = .ok (.iconst 0, 1) := by decide +kernel
theorem dX12_readAsk_2 : decode cX12_readAsk 2 = .ok (.putfield 179, 3) := by decide +kernel
theorem dX12_readAsk_5 : decode cX12_readAsk 5 = .ok (.aload_n 0, 1) := by decide +kernel
theorem dX12_readAsk_6 : decode cX12_readAsk 6 = .ok (.getfield 35, 3) := by decide +kernel
theorem dX12_readAsk_9 : decode cX12_readAsk 9 = .ok (.iload_n 1, 1) := by decide +kernel
theorem dX12_readAsk_10 : decode cX12_readAsk 10 = .ok (.iconst 0, 1) := by decide +kernel
theorem dX12_readAsk_11 : decode cX12_readAsk 11 = .ok (.iastore, 1) := by decide +kernel
theorem dX12_readAsk_12 : decode cX12_readAsk 12 = .ok (.aload_n 0, 1) := by decide +kernel
theorem dX12_readAsk_13 : decode cX12_readAsk 13 = .ok (.invokevirtual 186, 3) := by decide +kernel
theorem dX12_readAsk_16 : decode cX12_readAsk 16 = .ok (.bipush 58, 2) := by decide +kernel
theorem dX12_readAsk_18 : decode cX12_readAsk 18 = .ok (.if_icmp .eq 86, 3) := by decide +kernel
theorem dX12_readAsk_21 : decode cX12_readAsk 21 = .ok (.iconst 1, 1) := by decide +kernel
theorem dX12_readAsk_22 : decode cX12_readAsk 22 = .ok (.istore_n 2, 1) := by decide +kernel
theorem dX12_readAsk_23 : decode cX12_readAsk 23 = .ok (.iload_n 2, 1) := by decide +kernel
theorem dX12_readAsk_24 : decode cX12_readAsk 24 = .ok (.ifCond .eq 69, 3) := by decide +kernel
theorem dX12_readAsk_27 : decode cX12_readAsk 27 = .ok (.aload_n 0, 1) := by decide +kernel
theorem dX12_readAsk_28 : decode cX12_readAsk 28 = .ok (.bipush 16, 2) := by decide +kernel
theorem dX12_readAsk_30 : decode cX12_readAsk 30 = .ok (.iload_n 1, 1) := by decide +kernel
theorem dX12_readAsk_31 : decode cX12_readAsk 31 = .ok (.imul, 1) := by decide +kernel
theorem dX12_readAsk_32 : decode cX12_readAsk 32 = .ok (.aload_n 0, 1) := by decide +kernel
theorem dX12_readAsk_33 : decode cX12_readAsk 33 = .ok (.getfield 35, 3) := by decide +kernel
theorem dX12_readAsk_36 : decode cX12_readAsk 36 = .ok (.iload_n 1, 1) := by decide +kernel
theorem dX12_readAsk_37 : decode cX12_readAsk 37 = .ok (.iaload, 1) := by decide +kernel
theorem dX12_readAsk_38 : decode cX12_readAsk 38 = .ok (.iadd, 1) := by decide +kernel
theorem dX12_readAsk_39 : decode cX12_readAsk 39 = .ok (.invokevirtual 195, 3) := by decide +kernel
theorem dX12_readAsk_42 : decode cX12_readAsk 42 = .ok (.ifCond .ne 5, 3) := by decide +kernel
theorem dX12_readAsk_45 : decode cX12_readAsk 45 = .ok (.iconst 0, 1) := by decide +kernel
theorem dX12_readAsk_46 : decode cX12_readAsk 46 = .ok (.ireturn, 1) := by decide +kernel
theorem dX12_readAsk_47 : decode cX12_readAsk 47 = .ok (.aload_n 0, 1) := by decide +kernel
theorem dX12_readAsk_48 : decode cX12_readAsk 48 = .ok (.getfield 35, 3) := by decide +kernel
theorem dX12_readAsk_51 : decode cX12_readAsk 51 = .ok (.iload_n 1, 1) := by decide +kernel
theorem dX12_readAsk_52 : decode cX12_readAsk 52 = .ok (.dup2, 1) := by decide +kernel
theorem dX12_readAsk_53 : decode cX12_readAsk 53 = .ok (.iaload, 1) := by decide +kernel
theorem dX12_readAsk_54 : decode cX12_readAsk 54 = .ok (.iconst 1, 1) := by decide +kernel
theorem dX12_readAsk_55 : decode cX12_readAsk 55 = .ok (.iadd, 1) := by decide +kernel
theorem dX12_readAsk_56 : decode cX12_readAsk 56 = .ok (.iastore, 1) := by decide +kernel
theorem dX12_readAsk_57 : decode cX12_readAsk 57 = .ok (.aload_n 0, 1) := by decide +kernel
theorem dX12_readAsk_58 : decode cX12_readAsk 58 = .ok (.invokevirtual 186, 3) := by decide +kernel
theorem dX12_readAsk_61 : decode cX12_readAsk 61 = .ok (.bipush 38, 2) := by decide +kernel
theorem dX12_readAsk_63 : decode cX12_readAsk 63 = .ok (.if_icmp .ne 7, 3) := by decide +kernel
theorem dX12_readAsk_66 : decode cX12_readAsk 66 = .ok (.iconst 1, 1) := by decide +kernel
theorem dX12_readAsk_67 : decode cX12_readAsk 67 = .ok (.goto 4, 3) := by decide +kernel
theorem dX12_readAsk_70 : decode cX12_readAsk 70 = .ok (.iconst 0, 1) := by decide +kernel
theorem dX12_readAsk_71 : decode cX12_readAsk 71 = .ok (.istore_n 2, 1) := by decide +kernel
theorem dX12_readAsk_72 : decode cX12_readAsk 72 = .ok (.aload_n 0, 1) := by decide +kernel
theorem dX12_readAsk_73 : decode cX12_readAsk 73 = .ok (.dup, 1) := by decide +kernel
theorem dX12_readAsk_74 : decode cX12_readAsk 74 = .ok (.getfield 179, 3) := by decide +kernel
theorem dX12_readAsk_77 : decode cX12_readAsk 77 = .ok (.iload_n 2, 1) := by decide +kernel
theorem dX12_readAsk_78 : decode cX12_readAsk 78 = .ok (.ifCond .eq 7, 3) := by decide +kernel
theorem dX12_readAsk_81 : decode cX12_readAsk 81 = .ok (.iconst 1, 1) := by decide +kernel
theorem dX12_readAsk_82 : decode cX12_readAsk 82 = .ok (.goto 4, 3) := by decide +kernel
theorem dX12_readAsk_85 : decode cX12_readAsk 85 = .ok (.iconst 0, 1) := by decide +kernel
theorem dX12_readAsk_86 : decode cX12_readAsk 86 = .ok (.iadd, 1) := by decide +kernel
theorem dX12_readAsk_87 : decode cX12_readAsk 87 = .ok (.putfield 179, 3) := by decide +kernel
theorem dX12_readAsk_90 : decode cX12_readAsk 90 = .ok (.goto (-67), 3) := by decide +kernel
theorem dX12_readAsk_93 : decode cX12_readAsk 93 = .ok (.aload_n 0, 1) := by decide +kernel
theorem dX12_readAsk_94 : decode cX12_readAsk 94 = .ok (.invokevirtual 186, 3) := by decide +kernel
theorem dX12_readAsk_97 : decode cX12_readAsk 97 = .ok (.bipush 58, 2) := by decide +kernel
theorem dX12_readAsk_99 : decode cX12_readAsk 99 = .ok (.if_icmp .eq 5, 3) := by decide +kernel
theorem dX12_readAsk_102 : decode cX12_readAsk 102 = .ok (.iconst 0, 1) := by decide +kernel
theorem dX12_readAsk_103 : decode cX12_readAsk 103 = .ok (.ireturn, 1) := by decide +kernel
theorem dX12_readAsk_104 : decode cX12_readAsk 104 = .ok (.aload_n 0, 1) := by decide +kernel
theorem dX12_readAsk_105 : decode cX12_readAsk 105 = .ok (.dup, 1) := by decide +kernel
theorem dX12_readAsk_106 : decode cX12_readAsk 106 = .ok (.getfield 179, 3) := by decide +kernel
theorem dX12_readAsk_109 : decode cX12_readAsk 109 = .ok (.iconst 1, 1) := by decide +kernel
theorem dX12_readAsk_110 : decode cX12_readAsk 110 = .ok (.iadd, 1) := by decide +kernel
theorem dX12_readAsk_111 : decode cX12_readAsk 111 = .ok (.putfield 179, 3) := by decide +kernel
theorem dX12_readAsk_114 : decode cX12_readAsk 114 = .ok (.aload_n 0, 1) := by decide +kernel
theorem dX12_readAsk_115 : decode cX12_readAsk 115 = .ok (.invokevirtual 186, 3) := by decide +kernel
theorem dX12_readAsk_118 : decode cX12_readAsk 118 = .ok (.istore_n 2, 1) := by decide +kernel
theorem dX12_readAsk_119 : decode cX12_readAsk 119 = .ok (.iload_n 2, 1) := by decide +kernel
theorem dX12_readAsk_120 : decode cX12_readAsk 120 = .ok (.bipush 110, 2) := by decide +kernel
theorem dX12_readAsk_122 : decode cX12_readAsk 122 = .ok (.if_icmp .eq 23, 3) := by decide +kernel
theorem dX12_readAsk_125 : decode cX12_readAsk 125 = .ok (.iload_n 2, 1) := by decide +kernel
theorem dX12_readAsk_126 : decode cX12_readAsk 126 = .ok (.bipush 109, 2) := by decide +kernel
theorem dX12_readAsk_128 : decode cX12_readAsk 128 = .ok (.if_icmp .eq 17, 3) := by decide +kernel
theorem dX12_readAsk_131 : decode cX12_readAsk 131 = .ok (.iload_n 2, 1) := by decide +kernel
theorem dX12_readAsk_132 : decode cX12_readAsk 132 = .ok (.bipush 120, 2) := by decide +kernel
theorem dX12_readAsk_134 : decode cX12_readAsk 134 = .ok (.if_icmp .eq 11, 3) := by decide +kernel
theorem dX12_readAsk_137 : decode cX12_readAsk 137 = .ok (.iload_n 2, 1) := by decide +kernel
theorem dX12_readAsk_138 : decode cX12_readAsk 138 = .ok (.bipush 115, 2) := by decide +kernel
theorem dX12_readAsk_140 : decode cX12_readAsk 140 = .ok (.if_icmp .eq 5, 3) := by decide +kernel
theorem dX12_readAsk_143 : decode cX12_readAsk 143 = .ok (.iconst 0, 1) := by decide +kernel
theorem dX12_readAsk_144 : decode cX12_readAsk 144 = .ok (.ireturn, 1) := by decide +kernel
theorem dX12_readAsk_145 : decode cX12_readAsk 145 = .ok (.aload_n 0, 1) := by decide +kernel
theorem dX12_readAsk_146 : decode cX12_readAsk 146 = .ok (.getfield 38, 3) := by decide +kernel
theorem dX12_readAsk_149 : decode cX12_readAsk 149 = .ok (.iload_n 1, 1) := by decide +kernel
theorem dX12_readAsk_150 : decode cX12_readAsk 150 = .ok (.iload_n 2, 1) := by decide +kernel
theorem dX12_readAsk_151 : decode cX12_readAsk 151 = .ok (.iastore, 1) := by decide +kernel
theorem dX12_readAsk_152 : decode cX12_readAsk 152 = .ok (.aload_n 0, 1) := by decide +kernel
theorem dX12_readAsk_153 : decode cX12_readAsk 153 = .ok (.dup, 1) := by decide +kernel
theorem dX12_readAsk_154 : decode cX12_readAsk 154 = .ok (.getfield 179, 3) := by decide +kernel
theorem dX12_readAsk_157 : decode cX12_readAsk 157 = .ok (.iconst 1, 1) := by decide +kernel
theorem dX12_readAsk_158 : decode cX12_readAsk 158 = .ok (.iadd, 1) := by decide +kernel
theorem dX12_readAsk_159 : decode cX12_readAsk 159 = .ok (.putfield 179, 3) := by decide +kernel
theorem dX12_readAsk_162 : decode cX12_readAsk 162 = .ok (.iload_n 2, 1) := by decide +kernel
theorem dX12_readAsk_163 : decode cX12_readAsk 163 = .ok (.bipush 110, 2) := by decide +kernel
theorem dX12_readAsk_165 : decode cX12_readAsk 165 = .ok (.if_icmp .eq 38, 3) := by decide +kernel
theorem dX12_readAsk_168 : decode cX12_readAsk 168 = .ok (.aload_n 0, 1) := by decide +kernel
theorem dX12_readAsk_169 : decode cX12_readAsk 169 = .ok (.invokevirtual 186, 3) := by decide +kernel
theorem dX12_readAsk_172 : decode cX12_readAsk 172 = .ok (.invokestatic 190, 3) := by decide +kernel
theorem dX12_readAsk_175 : decode cX12_readAsk 175 = .ok (.ifCond .ne 5, 3) := by decide +kernel
theorem dX12_readAsk_178 : decode cX12_readAsk 178 = .ok (.iconst 0, 1) := by decide +kernel
theorem dX12_readAsk_179 : decode cX12_readAsk 179 = .ok (.ireturn, 1) := by decide +kernel
theorem dX12_readAsk_180 : decode cX12_readAsk 180 = .ok (.aload_n 0, 1) := by decide +kernel
theorem dX12_readAsk_181 : decode cX12_readAsk 181 = .ok (.getfield 41, 3) := by decide +kernel
theorem dX12_readAsk_184 : decode cX12_readAsk 184 = .ok (.iload_n 1, 1) := by decide +kernel
theorem dX12_readAsk_185 : decode cX12_readAsk 185 = .ok (.aload_n 0, 1) := by decide +kernel
theorem dX12_readAsk_186 : decode cX12_readAsk 186 = .ok (.invokevirtual 186, 3) := by decide +kernel
theorem dX12_readAsk_189 : decode cX12_readAsk 189 = .ok (.bipush 48, 2) := by decide +kernel
theorem dX12_readAsk_191 : decode cX12_readAsk 191 = .ok (.isub, 1) := by decide +kernel
theorem dX12_readAsk_192 : decode cX12_readAsk 192 = .ok (.iastore, 1) := by decide +kernel
theorem dX12_readAsk_193 : decode cX12_readAsk 193 = .ok (.aload_n 0, 1) := by decide +kernel
theorem dX12_readAsk_194 : decode cX12_readAsk 194 = .ok (.dup, 1) := by decide +kernel
theorem dX12_readAsk_195 : decode cX12_readAsk 195 = .ok (.getfield 179, 3) := by decide +kernel
theorem dX12_readAsk_198 : decode cX12_readAsk 198 = .ok (.iconst 1, 1) := by decide +kernel
theorem dX12_readAsk_199 : decode cX12_readAsk 199 = .ok (.iadd, 1) := by decide +kernel
theorem dX12_readAsk_200 : decode cX12_readAsk 200 = .ok (.putfield 179, 3) := by decide +kernel
theorem dX12_readAsk_203 : decode cX12_readAsk 203 = .ok (.aload_n 0, 1) := by decide +kernel
theorem dX12_readAsk_204 : decode cX12_readAsk 204 = .ok (.getfield 179, 3) := by decide +kernel
theorem dX12_readAsk_207 : decode cX12_readAsk 207 = .ok (.aload_n 0, 1) := by decide +kernel
theorem dX12_readAsk_208 : decode cX12_readAsk 208 = .ok (.getfield 176, 3) := by decide +kernel
theorem dX12_readAsk_211 : decode cX12_readAsk 211 = .ok (.if_icmp .ne 7, 3) := by decide +kernel
theorem dX12_readAsk_214 : decode cX12_readAsk 214 = .ok (.iconst 1, 1) := by decide +kernel
theorem dX12_readAsk_215 : decode cX12_readAsk 215 = .ok (.goto 4, 3) := by decide +kernel
theorem dX12_readAsk_218 : decode cX12_readAsk 218 = .ok (.iconst 0, 1) := by decide +kernel
theorem dX12_readAsk_219 : decode cX12_readAsk 219 = .ok (.ireturn, 1) := by decide +kernel
theorem dX12_ask_0 : decode cX12_ask 0 = .ok (.aload_n 0, 1) := by decide +kernel
theorem dX12_ask_1 : decode cX12_ask 1 = .ok (.getfield 198, 3) := by decide +kernel
theorem dX12_ask_4 : decode cX12_ask 4 = .ok (.bipush 10, 2) := by decide +kernel
theorem dX12_ask_6 : decode cX12_ask 6 = .ok (.if_icmp .ne 6, 3) := by decide +kernel
theorem dX12_ask_9 : decode cX12_ask 9 = .ok (.bipush (-3), 2) := by decide +kernel
theorem dX12_ask_11 : decode cX12_ask 11 = .ok (.ireturn, 1) := by decide +kernel
theorem dX12_ask_12 : decode cX12_ask 12 = .ok (.aload_n 0, 1) := by decide +kernel
theorem dX12_ask_13 : decode cX12_ask 13 = .ok (.aload_n 0, 1) := by decide +kernel
theorem dX12_ask_14 : decode cX12_ask 14 = .ok (.getfield 198, 3) := by decide +kernel
theorem dX12_ask_17 : decode cX12_ask 17 = .ok (.invokevirtual 201, 3) := by decide +kernel
theorem dX12_ask_20 : decode cX12_ask 20 = .ok (.istore_n 1, 1) := by decide +kernel
theorem dX12_ask_21 : decode cX12_ask 21 = .ok (.aload_n 0, 1) := by decide +kernel
theorem dX12_ask_22 : decode cX12_ask 22 = .ok (.iconst 0, 1) := by decide +kernel
theorem dX12_ask_23 : decode cX12_ask 23 = .ok (.putfield 176, 3) := by decide +kernel
theorem dX12_ask_26 : decode cX12_ask 26 = .ok (.iload_n 1, 1) := by decide +kernel
theorem dX12_ask_27 : decode cX12_ask 27 = .ok (.ifCond .ne 11, 3) := by decide +kernel
theorem dX12_ask_30 : decode cX12_ask 30 = .ok (.bipush (-100), 2) := by decide +kernel
theorem dX12_ask_32 : decode cX12_ask 32 = .ok (.aload_n 0, 1) := by decide +kernel
theorem dX12_ask_33 : decode cX12_ask 33 = .ok (.getfield 179, 3) := by decide +kernel
theorem dX12_ask_36 : decode cX12_ask 36 = .ok (.isub, 1) := by decide +kernel
theorem dX12_ask_37 : decode cX12_ask 37 = .ok (.ireturn, 1) := by decide +kernel
theorem dX12_ask_38 : decode cX12_ask 38 = .ok (.aload_n 0, 1) := by decide +kernel
theorem dX12_ask_39 : decode cX12_ask 39 = .ok (.getfield 44, 3) := by decide +kernel
theorem dX12_ask_42 : decode cX12_ask 42 = .ok (.aload_n 0, 1) := by decide +kernel
theorem dX12_ask_43 : decode cX12_ask 43 = .ok (.getfield 198, 3) := by decide +kernel
theorem dX12_ask_46 : decode cX12_ask 46 = .ok (.iconst 1, 1) := by decide +kernel
theorem dX12_ask_47 : decode cX12_ask 47 = .ok (.iastore, 1) := by decide +kernel
theorem dX12_ask_48 : decode cX12_ask 48 = .ok (.aload_n 0, 1) := by decide +kernel
theorem dX12_ask_49 : decode cX12_ask 49 = .ok (.dup, 1) := by decide +kernel
theorem dX12_ask_50 : decode cX12_ask 50 = .ok (.getfield 198, 3) := by decide +kernel
theorem dX12_ask_53 : decode cX12_ask 53 = .ok (.iconst 1, 1) := by decide +kernel
theorem dX12_ask_54 : decode cX12_ask 54 = .ok (.iadd, 1) := by decide +kernel
theorem dX12_ask_55 : decode cX12_ask 55 = .ok (.putfield 198, 3) := by decide +kernel
theorem dX12_ask_58 : decode cX12_ask 58 = .ok (.aload_n 0, 1) := by decide +kernel
theorem dX12_ask_59 : decode cX12_ask 59 = .ok (.getfield 198, 3) := by decide +kernel
theorem dX12_ask_62 : decode cX12_ask 62 = .ok (.iconst 1, 1) := by decide +kernel
theorem dX12_ask_63 : decode cX12_ask 63 = .ok (.isub, 1) := by decide +kernel
theorem dX12_ask_64 : decode cX12_ask 64 = .ok (.ireturn, 1) := by decide +kernel
theorem dX12_isAsk_0 : decode cX12_isAsk 0 = .ok (.iload_n 1, 1) := by decide +kernel
theorem dX12_isAsk_1 : decode cX12_isAsk 1 = .ok (.ifCond .lt 15, 3) := by decide +kernel
theorem dX12_isAsk_4 : decode cX12_isAsk 4 = .ok (.iload_n 1, 1) := by decide +kernel
theorem dX12_isAsk_5 : decode cX12_isAsk 5 = .ok (.aload_n 0, 1) := by decide +kernel
theorem dX12_isAsk_6 : decode cX12_isAsk 6 = .ok (.getfield 198, 3) := by decide +kernel
theorem dX12_isAsk_9 : decode cX12_isAsk 9 = .ok (.if_icmp .ge 7, 3) := by decide +kernel
theorem dX12_isAsk_12 : decode cX12_isAsk 12 = .ok (.iconst 1, 1) := by decide +kernel
theorem dX12_isAsk_13 : decode cX12_isAsk 13 = .ok (.goto 4, 3) := by decide +kernel
theorem dX12_isAsk_16 : decode cX12_isAsk 16 = .ok (.iconst 0, 1) := by decide +kernel
theorem dX12_isAsk_17 : decode cX12_isAsk 17 = .ok (.ireturn, 1) := by decide +kernel
theorem dX12_often_0 : decode cX12_often 0 = .ok (.aload_n 0, 1) := by decide +kernel
theorem dX12_often_1 : decode cX12_often 1 = .ok (.iload_n 1, 1) := by decide +kernel
theorem dX12_often_2 : decode cX12_often 2 = .ok (.invokevirtual 204, 3) := by decide +kernel
theorem dX12_often_5 : decode cX12_often 5 = .ok (.ifCond .eq 10, 3) := by decide +kernel
theorem dX12_often_8 : decode cX12_often 8 = .ok (.iload_n 2, 1) := by decide +kernel
theorem dX12_often_9 : decode cX12_often 9 = .ok (.invokestatic 145, 3) := by decide +kernel
theorem dX12_often_12 : decode cX12_often 12 = .ok (.ifCond .ne 5, 3) := by decide +kernel
theorem dX12_often_15 : decode cX12_often 15 = .ok (.iconst (-1), 1) := by decide +kernel
theorem dX12_often_16 : decode cX12_often 16 = .ok (.ireturn, 1) := by decide +kernel
theorem dX12_often_17 : decode cX12_often 17 = .ok (.aload_n 0, 1) := by decide +kernel
theorem dX12_often_18 : decode cX12_often 18 = .ok (.getfield 44, 3) := by decide +kernel
theorem dX12_often_21 : decode cX12_often 21 = .ok (.iload_n 1, 1) := by decide +kernel
theorem dX12_often_22 : decode cX12_often 22 = .ok (.iaload, 1) := by decide +kernel
theorem dX12_often_23 : decode cX12_often 23 = .ok (.istore_n 3, 1) := by decide +kernel
theorem dX12_often_24 : decode cX12_often 24 = .ok (.aload_n 0, 1) := by decide +kernel
theorem dX12_often_25 : decode cX12_often 25 = .ok (.getfield 44, 3) := by decide +kernel
theorem dX12_often_28 : decode cX12_often 28 = .ok (.iload_n 1, 1) := by decide +kernel
theorem dX12_often_29 : decode cX12_often 29 = .ok (.iload_n 2, 1) := by decide +kernel
theorem dX12_often_30 : decode cX12_often 30 = .ok (.iastore, 1) := by decide +kernel
theorem dX12_often_31 : decode cX12_often 31 = .ok (.iload_n 3, 1) := by decide +kernel
theorem dX12_often_32 : decode cX12_often 32 = .ok (.ireturn, 1) := by decide +kernel
theorem dX12_valueOf_0 : decode cX12_valueOf 0 = .ok (.aload_n 0, 1) := by decide +kernel
theorem dX12_valueOf_1 : decode cX12_valueOf 1 = .ok (.getfield 32, 3) := by decide +kernel
theorem dX12_valueOf_4 : decode cX12_valueOf 4 = .ok (.iload_n 1, 1) := by decide +kernel
theorem dX12_valueOf_5 : decode cX12_valueOf 5 = .ok (.iaload, 1) := by decide +kernel
theorem dX12_valueOf_6 : decode cX12_valueOf 6 = .ok (.bipush 100, 2) := by decide +kernel
theorem dX12_valueOf_8 : decode cX12_valueOf 8 = .ok (.if_icmp .ne 10, 3) := by decide +kernel
theorem dX12_valueOf_11 : decode cX12_valueOf 11 = .ok (.aload_n 0, 1) := by decide +kernel
theorem dX12_valueOf_12 : decode cX12_valueOf 12 = .ok (.getfield 207, 3) := by decide +kernel
theorem dX12_valueOf_15 : decode cX12_valueOf 15 = .ok (.goto 27, 3) := by decide +kernel
theorem dX12_valueOf_18 : decode cX12_valueOf 18 = .ok (.aload_n 0, 1) := by decide +kernel
theorem dX12_valueOf_19 : decode cX12_valueOf 19 = .ok (.getfield 32, 3) := by decide +kernel
theorem dX12_valueOf_22 : decode cX12_valueOf 22 = .ok (.iload_n 1, 1) := by decide +kernel
theorem dX12_valueOf_23 : decode cX12_valueOf 23 = .ok (.iaload, 1) := by decide +kernel
theorem dX12_valueOf_24 : decode cX12_valueOf 24 = .ok (.bipush 101, 2) := by decide +kernel
theorem dX12_valueOf_26 : decode cX12_valueOf 26 = .ok (.if_icmp .ne 10, 3) := by decide +kernel
theorem dX12_valueOf_29 : decode cX12_valueOf 29 = .ok (.aload_n 0, 1) := by decide +kernel
theorem dX12_valueOf_30 : decode cX12_valueOf 30 = .ok (.getfield 210, 3) := by decide +kernel
theorem dX12_valueOf_33 : decode cX12_valueOf 33 = .ok (.goto 9, 3) := by decide +kernel
theorem dX12_valueOf_36 : decode cX12_valueOf 36 = .ok (.aload_n 0, 1) := by decide +kernel
theorem dX12_valueOf_37 : decode cX12_valueOf 37 = .ok (.getfield 32, 3) := by decide +kernel
theorem dX12_valueOf_40 : decode cX12_valueOf 40 = .ok (.iload_n 1, 1) := by decide +kernel
theorem dX12_valueOf_41 : decode cX12_valueOf 41 = .ok (.iaload, 1) := by decide +kernel
theorem dX12_valueOf_42 : decode cX12_valueOf 42 = .ok (.ireturn, 1) := by decide +kernel
theorem dX12_holds_0 : decode cX12_holds 0 = .ok (.iconst 1, 1) := by decide +kernel
theorem dX12_holds_1 : decode cX12_holds 1 = .ok (.istore_n 3, 1) := by decide +kernel
theorem dX12_holds_2 : decode cX12_holds 2 = .ok (.bipush 16, 2) := by decide +kernel
theorem dX12_holds_4 : decode cX12_holds 4 = .ok (.iload_n 1, 1) := by decide +kernel
theorem dX12_holds_5 : decode cX12_holds 5 = .ok (.imul, 1) := by decide +kernel
theorem dX12_holds_6 : decode cX12_holds 6 = .ok (.istore 4, 2) := by decide +kernel
theorem dX12_holds_8 : decode cX12_holds 8 = .ok (.iload 4, 2) := by decide +kernel
theorem dX12_holds_10 : decode cX12_holds 10 = .ok (.bipush 16, 2) := by decide +kernel
theorem dX12_holds_12 : decode cX12_holds 12 = .ok (.iload_n 1, 1) := by decide +kernel
theorem dX12_holds_13 : decode cX12_holds 13 = .ok (.imul, 1) := by decide +kernel
theorem dX12_holds_14 : decode cX12_holds 14 = .ok (.aload_n 0, 1) := by decide +kernel
theorem dX12_holds_15 : decode cX12_holds 15 = .ok (.getfield 35, 3) := by decide +kernel
theorem dX12_holds_18 : decode cX12_holds 18 = .ok (.iload_n 1, 1) := by decide +kernel
theorem dX12_holds_19 : decode cX12_holds 19 = .ok (.iaload, 1) := by decide +kernel
theorem dX12_holds_20 : decode cX12_holds 20 = .ok (.iadd, 1) := by decide +kernel
theorem dX12_holds_21 : decode cX12_holds 21 = .ok (.if_icmp .ge 96, 3) := by decide +kernel
theorem dX12_holds_24 : decode cX12_holds 24 = .ok (.aload_n 0, 1) := by decide +kernel
theorem dX12_holds_25 : decode cX12_holds 25 = .ok (.getfield 9, 3) := by decide +kernel
theorem dX12_holds_28 : decode cX12_holds 28 = .ok (.iconst 4, 1) := by decide +kernel
theorem dX12_holds_29 : decode cX12_holds 29 = .ok (.iload_n 2, 1) := by decide +kernel
theorem dX12_holds_30 : decode cX12_holds 30 = .ok (.imul, 1) := by decide +kernel
theorem dX12_holds_31 : decode cX12_holds 31 = .ok (.aload_n 0, 1) := by decide +kernel
theorem dX12_holds_32 : decode cX12_holds 32 = .ok (.getfield 26, 3) := by decide +kernel
theorem dX12_holds_35 : decode cX12_holds 35 = .ok (.iload 4, 2) := by decide +kernel
theorem dX12_holds_37 : decode cX12_holds 37 = .ok (.iaload, 1) := by decide +kernel
theorem dX12_holds_38 : decode cX12_holds 38 = .ok (.iadd, 1) := by decide +kernel
theorem dX12_holds_39 : decode cX12_holds 39 = .ok (.iaload, 1) := by decide +kernel
theorem dX12_holds_40 : decode cX12_holds 40 = .ok (.istore 5, 2) := by decide +kernel
theorem dX12_holds_42 : decode cX12_holds 42 = .ok (.aload_n 0, 1) := by decide +kernel
theorem dX12_holds_43 : decode cX12_holds 43 = .ok (.iload 4, 2) := by decide +kernel
theorem dX12_holds_45 : decode cX12_holds 45 = .ok (.invokevirtual 213, 3) := by decide +kernel
theorem dX12_holds_48 : decode cX12_holds 48 = .ok (.istore 6, 2) := by decide +kernel
theorem dX12_holds_50 : decode cX12_holds 50 = .ok (.iload_n 3, 1) := by decide +kernel
theorem dX12_holds_51 : decode cX12_holds 51 = .ok (.ifCond .eq 58, 3) := by decide +kernel
theorem dX12_holds_54 : decode cX12_holds 54 = .ok (.aload_n 0, 1) := by decide +kernel
theorem dX12_holds_55 : decode cX12_holds 55 = .ok (.getfield 29, 3) := by decide +kernel
theorem dX12_holds_58 : decode cX12_holds 58 = .ok (.iload 4, 2) := by decide +kernel
theorem dX12_holds_60 : decode cX12_holds 60 = .ok (.iaload, 1) := by decide +kernel
theorem dX12_holds_61 : decode cX12_holds 61 = .ok (.bipush 61, 2) := by decide +kernel
theorem dX12_holds_63 : decode cX12_holds 63 = .ok (.if_icmp .ne 13, 3) := by decide +kernel
theorem dX12_holds_66 : decode cX12_holds 66 = .ok (.iload 5, 2) := by decide +kernel
theorem dX12_holds_68 : decode cX12_holds 68 = .ok (.iload 6, 2) := by decide +kernel
theorem dX12_holds_70 : decode cX12_holds 70 = .ok (.if_icmp .ne 39, 3) := by decide +kernel
theorem dX12_holds_73 : decode cX12_holds 73 = .ok (.goto 32, 3) := by decide +kernel
theorem dX12_holds_76 : decode cX12_holds 76 = .ok (.aload_n 0, 1) := by decide +kernel
theorem dX12_holds_77 : decode cX12_holds 77 = .ok (.getfield 29, 3) := by decide +kernel
theorem dX12_holds_80 : decode cX12_holds 80 = .ok (.iload 4, 2) := by decide +kernel
theorem dX12_holds_82 : decode cX12_holds 82 = .ok (.iaload, 1) := by decide +kernel
theorem dX12_holds_83 : decode cX12_holds 83 = .ok (.bipush 60, 2) := by decide +kernel
theorem dX12_holds_85 : decode cX12_holds 85 = .ok (.if_icmp .ne 13, 3) := by decide +kernel
theorem dX12_holds_88 : decode cX12_holds 88 = .ok (.iload 5, 2) := by decide +kernel
theorem dX12_holds_90 : decode cX12_holds 90 = .ok (.iload 6, 2) := by decide +kernel
theorem dX12_holds_92 : decode cX12_holds 92 = .ok (.if_icmp .ge 17, 3) := by decide +kernel
theorem dX12_holds_95 : decode cX12_holds 95 = .ok (.goto 10, 3) := by decide +kernel
theorem dX12_holds_98 : decode cX12_holds 98 = .ok (.iload 5, 2) := by decide +kernel
theorem dX12_holds_100 : decode cX12_holds 100 = .ok (.iload 6, 2) := by decide +kernel
theorem dX12_holds_102 : decode cX12_holds 102 = .ok (.if_icmp .le 7, 3) := by decide +kernel
theorem dX12_holds_105 : decode cX12_holds 105 = .ok (.iconst 1, 1) := by decide +kernel
theorem dX12_holds_106 : decode cX12_holds 106 = .ok (.goto 4, 3) := by decide +kernel
theorem dX12_holds_109 : decode cX12_holds 109 = .ok (.iconst 0, 1) := by decide +kernel
theorem dX12_holds_110 : decode cX12_holds 110 = .ok (.istore_n 3, 1) := by decide +kernel
theorem dX12_holds_111 : decode cX12_holds 111 = .ok (.iinc 4 1, 3) := by decide +kernel
theorem dX12_holds_114 : decode cX12_holds 114 = .ok (.goto (-106), 3) := by decide +kernel
theorem dX12_holds_117 : decode cX12_holds 117 = .ok (.iload_n 3, 1) := by decide +kernel
theorem dX12_holds_118 : decode cX12_holds 118 = .ok (.ireturn, 1) := by decide +kernel
theorem dX12_begin_0 : decode cX12_begin 0 = .ok (.aload_n 0, 1) := by decide +kernel
theorem dX12_begin_1 : decode cX12_begin 1 = .ok (.iload_n 1, 1) := by decide +kernel
theorem dX12_begin_2 : decode cX12_begin 2 = .ok (.putfield 207, 3) := by decide +kernel
theorem dX12_begin_5 : decode cX12_begin 5 = .ok (.aload_n 0, 1) := by decide +kernel
theorem dX12_begin_6 : decode cX12_begin 6 = .ok (.iload_n 2, 1) := by decide +kernel
theorem dX12_begin_7 : decode cX12_begin 7 = .ok (.putfield 210, 3) := by decide +kernel
theorem dX12_begin_10 : decode cX12_begin 10 = .ok (.aload_n 0, 1) := by decide +kernel
theorem dX12_begin_11 : decode cX12_begin 11 = .ok (.iconst 0, 1) := by decide +kernel
theorem dX12_begin_12 : decode cX12_begin 12 = .ok (.putfield 216, 3) := by decide +kernel
theorem dX12_begin_15 : decode cX12_begin 15 = .ok (.aload_n 0, 1) := by decide +kernel
theorem dX12_begin_16 : decode cX12_begin 16 = .ok (.iconst (-1), 1) := by decide +kernel
theorem dX12_begin_17 : decode cX12_begin 17 = .ok (.putfield 219, 3) := by decide +kernel
theorem dX12_begin_20 : decode cX12_begin 20 = .ok (.aload_n 0, 1) := by decide +kernel
theorem dX12_begin_21 : decode cX12_begin 21 = .ok (.iconst 0, 1) := by decide +kernel
theorem dX12_begin_22 : decode cX12_begin 22 = .ok (.putfield 222, 3) := by decide +kernel
theorem dX12_begin_25 : decode cX12_begin 25 = .ok (.aload_n 0, 1) := by decide +kernel
theorem dX12_begin_26 : decode cX12_begin 26 = .ok (.iconst 0, 1) := by decide +kernel
theorem dX12_begin_27 : decode cX12_begin 27 = .ok (.putfield 225, 3) := by decide +kernel
theorem dX12_begin_30 : decode cX12_begin 30 = .ok (.return_, 1) := by decide +kernel
theorem dX12_see_0 : decode cX12_see 0 = .ok (.aload_n 0, 1) := by decide +kernel
theorem dX12_see_1 : decode cX12_see 1 = .ok (.iload_n 1, 1) := by decide +kernel
theorem dX12_see_2 : decode cX12_see 2 = .ok (.iload_n 2, 1) := by decide +kernel
theorem dX12_see_3 : decode cX12_see 3 = .ok (.invokevirtual 228, 3) := by decide +kernel
theorem dX12_see_6 : decode cX12_see 6 = .ok (.ifCond .ne 4, 3) := by decide +kernel
theorem dX12_see_9 : decode cX12_see 9 = .ok (.return_, 1) := by decide +kernel
theorem dX12_see_10 : decode cX12_see 10 = .ok (.aload_n 0, 1) := by decide +kernel
theorem dX12_see_11 : decode cX12_see 11 = .ok (.dup, 1) := by decide +kernel
theorem dX12_see_12 : decode cX12_see 12 = .ok (.getfield 216, 3) := by decide +kernel
theorem dX12_see_15 : decode cX12_see 15 = .ok (.iconst 1, 1) := by decide +kernel
theorem dX12_see_16 : decode cX12_see 16 = .ok (.iadd, 1) := by decide +kernel
theorem dX12_see_17 : decode cX12_see 17 = .ok (.putfield 216, 3) := by decide +kernel
theorem dX12_see_20 : decode cX12_see 20 = .ok (.aload_n 0, 1) := by decide +kernel
theorem dX12_see_21 : decode cX12_see 21 = .ok (.getfield 9, 3) := by decide +kernel
theorem dX12_see_24 : decode cX12_see 24 = .ok (.iconst 4, 1) := by decide +kernel
theorem dX12_see_25 : decode cX12_see 25 = .ok (.iload_n 2, 1) := by decide +kernel
theorem dX12_see_26 : decode cX12_see 26 = .ok (.imul, 1) := by decide +kernel
theorem dX12_see_27 : decode cX12_see 27 = .ok (.aload_n 0, 1) := by decide +kernel
theorem dX12_see_28 : decode cX12_see 28 = .ok (.getfield 41, 3) := by decide +kernel
theorem dX12_see_31 : decode cX12_see 31 = .ok (.iload_n 1, 1) := by decide +kernel
theorem dX12_see_32 : decode cX12_see 32 = .ok (.iaload, 1) := by decide +kernel
theorem dX12_see_33 : decode cX12_see 33 = .ok (.iadd, 1) := by decide +kernel
theorem dX12_see_34 : decode cX12_see 34 = .ok (.iaload, 1) := by decide +kernel
theorem dX12_see_35 : decode cX12_see 35 = .ok (.istore_n 3, 1) := by decide +kernel
theorem dX12_see_36 : decode cX12_see 36 = .ok (.aload_n 0, 1) := by decide +kernel
theorem dX12_see_37 : decode cX12_see 37 = .ok (.dup, 1) := by decide +kernel
theorem dX12_see_38 : decode cX12_see 38 = .ok (.getfield 222, 3) := by decide +kernel
theorem dX12_see_41 : decode cX12_see 41 = .ok (.iload_n 3, 1) := by decide +kernel
theorem dX12_see_42 : decode cX12_see 42 = .ok (.iadd, 1) := by decide +kernel
theorem dX12_see_43 : decode cX12_see 43 = .ok (.putfield 222, 3) := by decide +kernel
theorem dX12_see_46 : decode cX12_see 46 = .ok (.aload_n 0, 1) := by decide +kernel
theorem dX12_see_47 : decode cX12_see 47 = .ok (.getfield 219, 3) := by decide +kernel
theorem dX12_see_50 : decode cX12_see 50 = .ok (.ifCond .ge 7, 3) := by decide +kernel
theorem dX12_see_53 : decode cX12_see 53 = .ok (.iconst 0, 1) := by decide +kernel
theorem dX12_see_54 : decode cX12_see 54 = .ok (.goto 23, 3) := by decide +kernel
theorem dX12_see_57 : decode cX12_see 57 = .ok (.iload_n 3, 1) := by decide +kernel
theorem dX12_see_58 : decode cX12_see 58 = .ok (.aload_n 0, 1) := by decide +kernel
theorem dX12_see_59 : decode cX12_see 59 = .ok (.getfield 9, 3) := by decide +kernel
theorem dX12_see_62 : decode cX12_see 62 = .ok (.iconst 4, 1) := by decide +kernel
theorem dX12_see_63 : decode cX12_see 63 = .ok (.aload_n 0, 1) := by decide +kernel
theorem dX12_see_64 : decode cX12_see 64 = .ok (.getfield 219, 3) := by decide +kernel
theorem dX12_see_67 : decode cX12_see 67 = .ok (.imul, 1) := by decide +kernel
theorem dX12_see_68 : decode cX12_see 68 = .ok (.aload_n 0, 1) := by decide +kernel
theorem dX12_see_69 : decode cX12_see 69 = .ok (.getfield 41, 3) := by decide +kernel
theorem dX12_see_72 : decode cX12_see 72 = .ok (.iload_n 1, 1) := by decide +kernel
theorem dX12_see_73 : decode cX12_see 73 = .ok (.iaload, 1) := by decide +kernel
theorem dX12_see_74 : decode cX12_see 74 = .ok (.iadd, 1) := by decide +kernel
theorem dX12_see_75 : decode cX12_see 75 = .ok (.iaload, 1) := by decide +kernel
theorem dX12_see_76 : decode cX12_see 76 = .ok (.isub, 1) := by decide +kernel
theorem dX12_see_77 : decode cX12_see 77 = .ok (.istore 4, 2) := by decide +kernel
theorem dX12_see_79 : decode cX12_see 79 = .ok (.aload_n 0, 1) := by decide +kernel
theorem dX12_see_80 : decode cX12_see 80 = .ok (.getfield 219, 3) := by decide +kernel
theorem dX12_see_83 : decode cX12_see 83 = .ok (.ifCond .lt 40, 3) := by decide +kernel
theorem dX12_see_86 : decode cX12_see 86 = .ok (.aload_n 0, 1) := by decide +kernel
theorem dX12_see_87 : decode cX12_see 87 = .ok (.getfield 38, 3) := by decide +kernel
theorem dX12_see_90 : decode cX12_see 90 = .ok (.iload_n 1, 1) := by decide +kernel
theorem dX12_see_91 : decode cX12_see 91 = .ok (.iaload, 1) := by decide +kernel
theorem dX12_see_92 : decode cX12_see 92 = .ok (.bipush 109, 2) := by decide +kernel
theorem dX12_see_94 : decode cX12_see 94 = .ok (.if_icmp .ne 11, 3) := by decide +kernel
theorem dX12_see_97 : decode cX12_see 97 = .ok (.iload 4, 2) := by decide +kernel
theorem dX12_see_99 : decode cX12_see 99 = .ok (.ifCond .ge 11, 3) := by decide +kernel
theorem dX12_see_102 : decode cX12_see 102 = .ok (.goto 21, 3) := by decide +kernel
theorem dX12_see_105 : decode cX12_see 105 = .ok (.iload 4, 2) := by decide +kernel
theorem dX12_see_107 : decode cX12_see 107 = .ok (.ifCond .gt 16, 3) := by decide +kernel
theorem dX12_see_110 : decode cX12_see 110 = .ok (.iload 4, 2) := by decide +kernel
theorem dX12_see_112 : decode cX12_see 112 = .ok (.ifCond .ne 15, 3) := by decide +kernel
theorem dX12_see_115 : decode cX12_see 115 = .ok (.iload_n 2, 1) := by decide +kernel
theorem dX12_see_116 : decode cX12_see 116 = .ok (.aload_n 0, 1) := by decide +kernel
theorem dX12_see_117 : decode cX12_see 117 = .ok (.getfield 219, 3) := by decide +kernel
theorem dX12_see_120 : decode cX12_see 120 = .ok (.if_icmp .ge 7, 3) := by decide +kernel
theorem dX12_see_123 : decode cX12_see 123 = .ok (.iconst 1, 1) := by decide +kernel
theorem dX12_see_124 : decode cX12_see 124 = .ok (.goto 4, 3) := by decide +kernel
theorem dX12_see_127 : decode cX12_see 127 = .ok (.iconst 0, 1) := by decide +kernel
theorem dX12_see_128 : decode cX12_see 128 = .ok (.istore 5, 2) := by decide +kernel
theorem dX12_see_130 : decode cX12_see 130 = .ok (.aload_n 0, 1) := by decide +kernel
theorem dX12_see_131 : decode cX12_see 131 = .ok (.iload 5, 2) := by decide +kernel
theorem dX12_see_133 : decode cX12_see 133 = .ok (.ifCond .eq 7, 3) := by decide +kernel
theorem dX12_see_136 : decode cX12_see 136 = .ok (.iload_n 2, 1) := by decide +kernel
theorem dX12_see_137 : decode cX12_see 137 = .ok (.goto 7, 3) := by decide +kernel
theorem dX12_see_140 : decode cX12_see 140 = .ok (.aload_n 0, 1) := by decide +kernel
theorem dX12_see_141 : decode cX12_see 141 = .ok (.getfield 219, 3) := by decide +kernel
theorem dX12_see_144 : decode cX12_see 144 = .ok (.putfield 219, 3) := by decide +kernel
theorem dX12_see_147 : decode cX12_see 147 = .ok (.return_, 1) := by decide +kernel
theorem dX12_told_0 : decode cX12_told 0 = .ok (.aload_n 0, 1) := by decide +kernel
theorem dX12_told_1 : decode cX12_told 1 = .ok (.getfield 38, 3) := by decide +kernel
theorem dX12_told_4 : decode cX12_told 4 = .ok (.iload_n 1, 1) := by decide +kernel
theorem dX12_told_5 : decode cX12_told 5 = .ok (.iaload, 1) := by decide +kernel
theorem dX12_told_6 : decode cX12_told 6 = .ok (.bipush 110, 2) := by decide +kernel
theorem dX12_told_8 : decode cX12_told 8 = .ok (.if_icmp .ne 10, 3) := by decide +kernel
theorem dX12_told_11 : decode cX12_told 11 = .ok (.aload_n 0, 1) := by decide +kernel
theorem dX12_told_12 : decode cX12_told 12 = .ok (.getfield 216, 3) := by decide +kernel
theorem dX12_told_15 : decode cX12_told 15 = .ok (.goto 25, 3) := by decide +kernel
theorem dX12_told_18 : decode cX12_told 18 = .ok (.aload_n 0, 1) := by decide +kernel
theorem dX12_told_19 : decode cX12_told 19 = .ok (.getfield 38, 3) := by decide +kernel
theorem dX12_told_22 : decode cX12_told 22 = .ok (.iload_n 1, 1) := by decide +kernel
theorem dX12_told_23 : decode cX12_told 23 = .ok (.iaload, 1) := by decide +kernel
theorem dX12_told_24 : decode cX12_told 24 = .ok (.bipush 115, 2) := by decide +kernel
theorem dX12_told_26 : decode cX12_told 26 = .ok (.if_icmp .ne 10, 3) := by decide +kernel
theorem dX12_told_29 : decode cX12_told 29 = .ok (.aload_n 0, 1) := by decide +kernel
theorem dX12_told_30 : decode cX12_told 30 = .ok (.getfield 222, 3) := by decide +kernel
theorem dX12_told_33 : decode cX12_told 33 = .ok (.goto 7, 3) := by decide +kernel
theorem dX12_told_36 : decode cX12_told 36 = .ok (.aload_n 0, 1) := by decide +kernel
theorem dX12_told_37 : decode cX12_told 37 = .ok (.getfield 219, 3) := by decide +kernel
theorem dX12_told_40 : decode cX12_told 40 = .ok (.ireturn, 1) := by decide +kernel
theorem dX12_answerOf_0 : decode cX12_answerOf 0 = .ok (.aload_n 0, 1) := by decide +kernel
theorem dX12_answerOf_1 : decode cX12_answerOf 1 = .ok (.iload_n 2, 1) := by decide +kernel
theorem dX12_answerOf_2 : decode cX12_answerOf 2 = .ok (.iload_n 3, 1) := by decide +kernel
theorem dX12_answerOf_3 : decode cX12_answerOf 3 = .ok (.invokevirtual 231, 3) := by decide +kernel
theorem dX12_answerOf_6 : decode cX12_answerOf 6 = .ok (.iconst 0, 1) := by decide +kernel
theorem dX12_answerOf_7 : decode cX12_answerOf 7 = .ok (.istore 4, 2) := by decide +kernel
theorem dX12_answerOf_9 : decode cX12_answerOf 9 = .ok (.iload 4, 2) := by decide +kernel
theorem dX12_answerOf_11 : decode cX12_answerOf 11 = .ok (.aload_n 0, 1) := by decide +kernel
theorem dX12_answerOf_12 : decode cX12_answerOf 12 = .ok (.getfield 130, 3) := by decide +kernel
theorem dX12_answerOf_15 : decode cX12_answerOf 15 = .ok (.if_icmp .ge 26, 3) := by decide +kernel
theorem dX12_answerOf_18 : decode cX12_answerOf 18 = .ok (.aload_n 0, 1) := by decide +kernel
theorem dX12_answerOf_19 : decode cX12_answerOf 19 = .ok (.getfield 13, 3) := by decide +kernel
theorem dX12_answerOf_22 : decode cX12_answerOf 22 = .ok (.iload 4, 2) := by decide +kernel
theorem dX12_answerOf_24 : decode cX12_answerOf 24 = .ok (.baload, 1) := by decide +kernel
theorem dX12_answerOf_25 : decode cX12_answerOf 25 = .ok (.ifCond .eq 10, 3) := by decide +kernel
theorem dX12_answerOf_28 : decode cX12_answerOf 28 = .ok (.aload_n 0, 1) := by decide +kernel
theorem dX12_answerOf_29 : decode cX12_answerOf 29 = .ok (.iload_n 1, 1) := by decide +kernel
theorem dX12_answerOf_30 : decode cX12_answerOf 30 = .ok (.iload 4, 2) := by decide +kernel
theorem dX12_answerOf_32 : decode cX12_answerOf 32 = .ok (.invokevirtual 234, 3) := by decide +kernel
theorem dX12_answerOf_35 : decode cX12_answerOf 35 = .ok (.iinc 4 1, 3) := by decide +kernel
theorem dX12_answerOf_38 : decode cX12_answerOf 38 = .ok (.goto (-29), 3) := by decide +kernel
theorem dX12_answerOf_41 : decode cX12_answerOf 41 = .ok (.aload_n 0, 1) := by decide +kernel
theorem dX12_answerOf_42 : decode cX12_answerOf 42 = .ok (.iload_n 1, 1) := by decide +kernel
theorem dX12_answerOf_43 : decode cX12_answerOf 43 = .ok (.invokevirtual 237, 3) := by decide +kernel
theorem dX12_answerOf_46 : decode cX12_answerOf 46 = .ok (.ireturn, 1) := by decide +kernel
theorem dX12_answer_0 : decode cX12_answer 0 = .ok (.aload_n 0, 1) := by decide +kernel
theorem dX12_answer_1 : decode cX12_answer 1 = .ok (.getfield 225, 3) := by decide +kernel
theorem dX12_answer_4 : decode cX12_answer 4 = .ok (.istore 4, 2) := by decide +kernel
theorem dX12_answer_6 : decode cX12_answer 6 = .ok (.aload_n 0, 1) := by decide +kernel
theorem dX12_answer_7 : decode cX12_answer 7 = .ok (.iload_n 1, 1) := by decide +kernel
theorem dX12_answer_8 : decode cX12_answer 8 = .ok (.invokevirtual 204, 3) := by decide +kernel
theorem dX12_answer_11 : decode cX12_answer 11 = .ok (.ifCond .eq 27, 3) := by decide +kernel
theorem dX12_answer_14 : decode cX12_answer 14 = .ok (.iload_n 2, 1) := by decide +kernel
theorem dX12_answer_15 : decode cX12_answer 15 = .ok (.invokestatic 145, 3) := by decide +kernel
theorem dX12_answer_18 : decode cX12_answer 18 = .ok (.ifCond .eq 20, 3) := by decide +kernel
theorem dX12_answer_21 : decode cX12_answer 21 = .ok (.iload_n 3, 1) := by decide +kernel
theorem dX12_answer_22 : decode cX12_answer 22 = .ok (.invokestatic 145, 3) := by decide +kernel
theorem dX12_answer_25 : decode cX12_answer 25 = .ok (.ifCond .eq 13, 3) := by decide +kernel
theorem dX12_answer_28 : decode cX12_answer 28 = .ok (.aload_n 0, 1) := by decide +kernel
theorem dX12_answer_29 : decode cX12_answer 29 = .ok (.iload_n 1, 1) := by decide +kernel
theorem dX12_answer_30 : decode cX12_answer 30 = .ok (.iload_n 2, 1) := by decide +kernel
theorem dX12_answer_31 : decode cX12_answer 31 = .ok (.iload_n 3, 1) := by decide +kernel
theorem dX12_answer_32 : decode cX12_answer 32 = .ok (.invokevirtual 240, 3) := by decide +kernel
theorem dX12_answer_35 : decode cX12_answer 35 = .ok (.goto 5, 3) := by decide +kernel
theorem dX12_answer_38 : decode cX12_answer 38 = .ok (.ldc 175, 2) := by decide +kernel
theorem dX12_answer_40 : decode cX12_answer 40 = .ok (.istore 5, 2) := by decide +kernel
theorem dX12_answer_42 : decode cX12_answer 42 = .ok (.aload_n 0, 1) := by decide +kernel
theorem dX12_answer_43 : decode cX12_answer 43 = .ok (.iload 4, 2) := by decide +kernel
theorem dX12_answer_45 : decode cX12_answer 45 = .ok (.putfield 225, 3) := by decide +kernel
theorem dX12_answer_48 : decode cX12_answer 48 = .ok (.iload 5, 2) := by decide +kernel
theorem dX12_answer_50 : decode cX12_answer 50 = .ok (.ireturn, 1) := by decide +kernel
theorem dX12_keyIn_0 : decode cX12_keyIn 0 = .ok (.aload_n 0, 1) := by decide +kernel
theorem dX12_keyIn_1 : decode cX12_keyIn 1 = .ok (.getfield 9, 3) := by decide +kernel
theorem dX12_keyIn_4 : decode cX12_keyIn 4 = .ok (.iconst 4, 1) := by decide +kernel
theorem dX12_keyIn_5 : decode cX12_keyIn 5 = .ok (.iload_n 2, 1) := by decide +kernel
theorem dX12_keyIn_6 : decode cX12_keyIn 6 = .ok (.imul, 1) := by decide +kernel
theorem dX12_keyIn_7 : decode cX12_keyIn 7 = .ok (.aload_n 0, 1) := by decide +kernel
theorem dX12_keyIn_8 : decode cX12_keyIn 8 = .ok (.getfield 50, 3) := by decide +kernel
theorem dX12_keyIn_11 : decode cX12_keyIn 11 = .ok (.iload_n 1, 1) := by decide +kernel
theorem dX12_keyIn_12 : decode cX12_keyIn 12 = .ok (.iaload, 1) := by decide +kernel
theorem dX12_keyIn_13 : decode cX12_keyIn 13 = .ok (.iadd, 1) := by decide +kernel
theorem dX12_keyIn_14 : decode cX12_keyIn 14 = .ok (.iaload, 1) := by decide +kernel
theorem dX12_keyIn_15 : decode cX12_keyIn 15 = .ok (.ireturn, 1) := by decide +kernel
theorem dX12_isAhead_0 : decode cX12_isAhead 0 = .ok (.aload_n 0, 1) := by decide +kernel
theorem dX12_isAhead_1 : decode cX12_isAhead 1 = .ok (.iload_n 1, 1) := by decide +kernel
theorem dX12_isAhead_2 : decode cX12_isAhead 2 = .ok (.iload_n 2, 1) := by decide +kernel
theorem dX12_isAhead_3 : decode cX12_isAhead 3 = .ok (.invokevirtual 244, 3) := by decide +kernel
theorem dX12_isAhead_6 : decode cX12_isAhead 6 = .ok (.iload_n 3, 1) := by decide +kernel
theorem dX12_isAhead_7 : decode cX12_isAhead 7 = .ok (.if_icmp .lt 19, 3) := by decide +kernel
theorem dX12_isAhead_10 : decode cX12_isAhead 10 = .ok (.aload_n 0, 1) := by decide +kernel
theorem dX12_isAhead_11 : decode cX12_isAhead 11 = .ok (.iload_n 1, 1) := by decide +kernel
theorem dX12_isAhead_12 : decode cX12_isAhead 12 = .ok (.iload_n 2, 1) := by decide +kernel
theorem dX12_isAhead_13 : decode cX12_isAhead 13 = .ok (.invokevirtual 244, 3) := by decide +kernel
theorem dX12_isAhead_16 : decode cX12_isAhead 16 = .ok (.iload_n 3, 1) := by decide +kernel
theorem dX12_isAhead_17 : decode cX12_isAhead 17 = .ok (.if_icmp .ne 13, 3) := by decide +kernel
theorem dX12_isAhead_20 : decode cX12_isAhead 20 = .ok (.iload_n 2, 1) := by decide +kernel
theorem dX12_isAhead_21 : decode cX12_isAhead 21 = .ok (.iload 4, 2) := by decide +kernel
theorem dX12_isAhead_23 : decode cX12_isAhead 23 = .ok (.if_icmp .ge 7, 3) := by decide +kernel
theorem dX12_isAhead_26 : decode cX12_isAhead 26 = .ok (.iconst 1, 1) := by decide +kernel
theorem dX12_isAhead_27 : decode cX12_isAhead 27 = .ok (.goto 4, 3) := by decide +kernel
theorem dX12_isAhead_30 : decode cX12_isAhead 30 = .ok (.iconst 0, 1) := by decide +kernel
theorem dX12_isAhead_31 : decode cX12_isAhead 31 = .ok (.ireturn, 1) := by decide +kernel
theorem dX12_isLess_0 : decode cX12_isLess 0 = .ok (.aload_n 0, 1) := by decide +kernel
theorem dX12_isLess_1 : decode cX12_isLess 1 = .ok (.iload_n 1, 1) := by decide +kernel
theorem dX12_isLess_2 : decode cX12_isLess 2 = .ok (.iload_n 2, 1) := by decide +kernel
theorem dX12_isLess_3 : decode cX12_isLess 3 = .ok (.aload_n 0, 1) := by decide +kernel
theorem dX12_isLess_4 : decode cX12_isLess 4 = .ok (.iload_n 1, 1) := by decide +kernel
theorem dX12_isLess_5 : decode cX12_isLess 5 = .ok (.iload_n 3, 1) := by decide +kernel
theorem dX12_isLess_6 : decode cX12_isLess 6 = .ok (.invokevirtual 244, 3) := by decide +kernel
theorem dX12_isLess_9 : decode cX12_isLess 9 = .ok (.iload_n 3, 1) := by decide +kernel
theorem dX12_isLess_10 : decode cX12_isLess 10 = .ok (.invokevirtual 248, 3) := by decide +kernel
theorem dX12_isLess_13 : decode cX12_isLess 13 = .ok (.ireturn, 1) := by decide +kernel
theorem dX12_placeOf_0 : decode cX12_placeOf 0 = .ok (.iconst 0, 1) := by decide +kernel
theorem dX12_placeOf_1 : decode cX12_placeOf 1 = .ok (.istore 4, 2) := by decide +kernel
theorem dX12_placeOf_3 : decode cX12_placeOf 3 = .ok (.aload_n 0, 1) := by decide +kernel
theorem dX12_placeOf_4 : decode cX12_placeOf 4 = .ok (.getfield 56, 3) := by decide +kernel
theorem dX12_placeOf_7 : decode cX12_placeOf 7 = .ok (.iload_n 1, 1) := by decide +kernel
theorem dX12_placeOf_8 : decode cX12_placeOf 8 = .ok (.iaload, 1) := by decide +kernel
theorem dX12_placeOf_9 : decode cX12_placeOf 9 = .ok (.istore 5, 2) := by decide +kernel
theorem dX12_placeOf_11 : decode cX12_placeOf 11 = .ok (.iload 4, 2) := by decide +kernel
theorem dX12_placeOf_13 : decode cX12_placeOf 13 = .ok (.iload 5, 2) := by decide +kernel
theorem dX12_placeOf_15 : decode cX12_placeOf 15 = .ok (.if_icmp .ge 60, 3) := by decide +kernel
theorem dX12_placeOf_18 : decode cX12_placeOf 18 = .ok (.iload 4, 2) := by decide +kernel
theorem dX12_placeOf_20 : decode cX12_placeOf 20 = .ok (.iload 5, 2) := by decide +kernel
theorem dX12_placeOf_22 : decode cX12_placeOf 22 = .ok (.iadd, 1) := by decide +kernel
theorem dX12_placeOf_23 : decode cX12_placeOf 23 = .ok (.iconst 2, 1) := by decide +kernel
theorem dX12_placeOf_24 : decode cX12_placeOf 24 = .ok (.idiv, 1) := by decide +kernel
theorem dX12_placeOf_25 : decode cX12_placeOf 25 = .ok (.istore 6, 2) := by decide +kernel
theorem dX12_placeOf_27 : decode cX12_placeOf 27 = .ok (.aload_n 0, 1) := by decide +kernel
theorem dX12_placeOf_28 : decode cX12_placeOf 28 = .ok (.dup, 1) := by decide +kernel
theorem dX12_placeOf_29 : decode cX12_placeOf 29 = .ok (.getfield 252, 3) := by decide +kernel
theorem dX12_placeOf_32 : decode cX12_placeOf 32 = .ok (.iconst 1, 1) := by decide +kernel
theorem dX12_placeOf_33 : decode cX12_placeOf 33 = .ok (.iadd, 1) := by decide +kernel
theorem dX12_placeOf_34 : decode cX12_placeOf 34 = .ok (.putfield 252, 3) := by decide +kernel
theorem dX12_placeOf_37 : decode cX12_placeOf 37 = .ok (.aload_n 0, 1) := by decide +kernel
theorem dX12_placeOf_38 : decode cX12_placeOf 38 = .ok (.iload_n 1, 1) := by decide +kernel
theorem dX12_placeOf_39 : decode cX12_placeOf 39 = .ok (.aload_n 0, 1) := by decide +kernel
theorem dX12_placeOf_40 : decode cX12_placeOf 40 = .ok (.getfield 53, 3) := by decide +kernel
theorem dX12_placeOf_43 : decode cX12_placeOf 43 = .ok (.bipush 80, 2) := by decide +kernel
theorem dX12_placeOf_45 : decode cX12_placeOf 45 = .ok (.iload_n 1, 1) := by decide +kernel
theorem dX12_placeOf_46 : decode cX12_placeOf 46 = .ok (.imul, 1) := by decide +kernel
theorem dX12_placeOf_47 : decode cX12_placeOf 47 = .ok (.iload 6, 2) := by decide +kernel
theorem dX12_placeOf_49 : decode cX12_placeOf 49 = .ok (.iadd, 1) := by decide +kernel
theorem dX12_placeOf_50 : decode cX12_placeOf 50 = .ok (.iaload, 1) := by decide +kernel
theorem dX12_placeOf_51 : decode cX12_placeOf 51 = .ok (.iload_n 2, 1) := by decide +kernel
theorem dX12_placeOf_52 : decode cX12_placeOf 52 = .ok (.iload_n 3, 1) := by decide +kernel
theorem dX12_placeOf_53 : decode cX12_placeOf 53 = .ok (.invokevirtual 248, 3) := by decide +kernel
theorem dX12_placeOf_56 : decode cX12_placeOf 56 = .ok (.ifCond .eq 12, 3) := by decide +kernel
theorem dX12_placeOf_59 : decode cX12_placeOf 59 = .ok (.iload 6, 2) := by decide +kernel
theorem dX12_placeOf_61 : decode cX12_placeOf 61 = .ok (.iconst 1, 1) := by decide +kernel
theorem dX12_placeOf_62 : decode cX12_placeOf 62 = .ok (.iadd, 1) := by decide +kernel
theorem dX12_placeOf_63 : decode cX12_placeOf 63 = .ok (.istore 4, 2) := by decide +kernel
theorem dX12_placeOf_65 : decode cX12_placeOf 65 = .ok (.goto 7, 3) := by decide +kernel
theorem dX12_placeOf_68 : decode cX12_placeOf 68 = .ok (.iload 6, 2) := by decide +kernel
theorem dX12_placeOf_70 : decode cX12_placeOf 70 = .ok (.istore 5, 2) := by decide +kernel
theorem dX12_placeOf_72 : decode cX12_placeOf 72 = .ok (.goto (-61), 3) := by decide +kernel
theorem dX12_placeOf_75 : decode cX12_placeOf 75 = .ok (.iload 4, 2) := by decide +kernel
theorem dX12_placeOf_77 : decode cX12_placeOf 77 = .ok (.ireturn, 1) := by decide +kernel
theorem dX12_insert_0 : decode cX12_insert 0 = .ok (.aload_n 0, 1) := by decide +kernel
theorem dX12_insert_1 : decode cX12_insert 1 = .ok (.getfield 56, 3) := by decide +kernel
theorem dX12_insert_4 : decode cX12_insert 4 = .ok (.iload_n 1, 1) := by decide +kernel
theorem dX12_insert_5 : decode cX12_insert 5 = .ok (.iaload, 1) := by decide +kernel
theorem dX12_insert_6 : decode cX12_insert 6 = .ok (.istore 4, 2) := by decide +kernel
theorem dX12_insert_8 : decode cX12_insert 8 = .ok (.iload 4, 2) := by decide +kernel
theorem dX12_insert_10 : decode cX12_insert 10 = .ok (.iload_n 2, 1) := by decide +kernel
theorem dX12_insert_11 : decode cX12_insert 11 = .ok (.if_icmp .le 35, 3) := by decide +kernel
theorem dX12_insert_14 : decode cX12_insert 14 = .ok (.aload_n 0, 1) := by decide +kernel
theorem dX12_insert_15 : decode cX12_insert 15 = .ok (.getfield 53, 3) := by decide +kernel
theorem dX12_insert_18 : decode cX12_insert 18 = .ok (.bipush 80, 2) := by decide +kernel
theorem dX12_insert_20 : decode cX12_insert 20 = .ok (.iload_n 1, 1) := by decide +kernel
theorem dX12_insert_21 : decode cX12_insert 21 = .ok (.imul, 1) := by decide +kernel
theorem dX12_insert_22 : decode cX12_insert 22 = .ok (.iload 4, 2) := by decide +kernel
theorem dX12_insert_24 : decode cX12_insert 24 = .ok (.iadd, 1) := by decide +kernel
theorem dX12_insert_25 : decode cX12_insert 25 = .ok (.aload_n 0, 1) := by decide +kernel
theorem dX12_insert_26 : decode cX12_insert 26 = .ok (.getfield 53, 3) := by decide +kernel
theorem dX12_insert_29 : decode cX12_insert 29 = .ok (.bipush 80, 2) := by decide +kernel
theorem dX12_insert_31 : decode cX12_insert 31 = .ok (.iload_n 1, 1) := by decide +kernel
theorem dX12_insert_32 : decode cX12_insert 32 = .ok (.imul, 1) := by decide +kernel
theorem dX12_insert_33 : decode cX12_insert 33 = .ok (.iload 4, 2) := by decide +kernel
theorem dX12_insert_35 : decode cX12_insert 35 = .ok (.iadd, 1) := by decide +kernel
theorem dX12_insert_36 : decode cX12_insert 36 = .ok (.iconst 1, 1) := by decide +kernel
theorem dX12_insert_37 : decode cX12_insert 37 = .ok (.isub, 1) := by decide +kernel
theorem dX12_insert_38 : decode cX12_insert 38 = .ok (.iaload, 1) := by decide +kernel
theorem dX12_insert_39 : decode cX12_insert 39 = .ok (.iastore, 1) := by decide +kernel
theorem dX12_insert_40 : decode cX12_insert 40 = .ok (.iinc 4 (-1), 3) := by decide +kernel
theorem dX12_insert_43 : decode cX12_insert 43 = .ok (.goto (-35), 3) := by decide +kernel
theorem dX12_insert_46 : decode cX12_insert 46 = .ok (.aload_n 0, 1) := by decide +kernel
theorem dX12_insert_47 : decode cX12_insert 47 = .ok (.getfield 53, 3) := by decide +kernel
theorem dX12_insert_50 : decode cX12_insert 50 = .ok (.bipush 80, 2) := by decide +kernel
theorem dX12_insert_52 : decode cX12_insert 52 = .ok (.iload_n 1, 1) := by decide +kernel
theorem dX12_insert_53 : decode cX12_insert 53 = .ok (.imul, 1) := by decide +kernel
theorem dX12_insert_54 : decode cX12_insert 54 = .ok (.iload_n 2, 1) := by decide +kernel
theorem dX12_insert_55 : decode cX12_insert 55 = .ok (.iadd, 1) := by decide +kernel
theorem dX12_insert_56 : decode cX12_insert 56 = .ok (.iload_n 3, 1) := by decide +kernel
theorem dX12_insert_57 : decode cX12_insert 57 = .ok (.iastore, 1) := by decide +kernel
theorem dX12_insert_58 : decode cX12_insert 58 = .ok (.aload_n 0, 1) := by decide +kernel
theorem dX12_insert_59 : decode cX12_insert 59 = .ok (.getfield 56, 3) := by decide +kernel
theorem dX12_insert_62 : decode cX12_insert 62 = .ok (.iload_n 1, 1) := by decide +kernel
theorem dX12_insert_63 : decode cX12_insert 63 = .ok (.dup2, 1) := by decide +kernel
theorem dX12_insert_64 : decode cX12_insert 64 = .ok (.iaload, 1) := by decide +kernel
theorem dX12_insert_65 : decode cX12_insert 65 = .ok (.iconst 1, 1) := by decide +kernel
theorem dX12_insert_66 : decode cX12_insert 66 = .ok (.iadd, 1) := by decide +kernel
theorem dX12_insert_67 : decode cX12_insert 67 = .ok (.iastore, 1) := by decide +kernel
theorem dX12_insert_68 : decode cX12_insert 68 = .ok (.return_, 1) := by decide +kernel
theorem dX12_remove_0 : decode cX12_remove 0 = .ok (.aload_n 0, 1) := by decide +kernel
theorem dX12_remove_1 : decode cX12_remove 1 = .ok (.getfield 56, 3) := by decide +kernel
theorem dX12_remove_4 : decode cX12_remove 4 = .ok (.iload_n 1, 1) := by decide +kernel
theorem dX12_remove_5 : decode cX12_remove 5 = .ok (.dup2, 1) := by decide +kernel
theorem dX12_remove_6 : decode cX12_remove 6 = .ok (.iaload, 1) := by decide +kernel
theorem dX12_remove_7 : decode cX12_remove 7 = .ok (.iconst 1, 1) := by decide +kernel
theorem dX12_remove_8 : decode cX12_remove 8 = .ok (.isub, 1) := by decide +kernel
theorem dX12_remove_9 : decode cX12_remove 9 = .ok (.iastore, 1) := by decide +kernel
theorem dX12_remove_10 : decode cX12_remove 10 = .ok (.iload_n 2, 1) := by decide +kernel
theorem dX12_remove_11 : decode cX12_remove 11 = .ok (.istore_n 3, 1) := by decide +kernel
theorem dX12_remove_12 : decode cX12_remove 12 = .ok (.iload_n 3, 1) := by decide +kernel
theorem dX12_remove_13 : decode cX12_remove 13 = .ok (.aload_n 0, 1) := by decide +kernel
theorem dX12_remove_14 : decode cX12_remove 14 = .ok (.getfield 56, 3) := by decide +kernel
theorem dX12_remove_17 : decode cX12_remove 17 = .ok (.iload_n 1, 1) := by decide +kernel
theorem dX12_remove_18 : decode cX12_remove 18 = .ok (.iaload, 1) := by decide +kernel
theorem dX12_remove_19 : decode cX12_remove 19 = .ok (.if_icmp .ge 33, 3) := by decide +kernel
theorem dX12_remove_22 : decode cX12_remove 22 = .ok (.aload_n 0, 1) := by decide +kernel
theorem dX12_remove_23 : decode cX12_remove 23 = .ok (.getfield 53, 3) := by decide +kernel
theorem dX12_remove_26 : decode cX12_remove 26 = .ok (.bipush 80, 2) := by decide +kernel
theorem dX12_remove_28 : decode cX12_remove 28 = .ok (.iload_n 1, 1) := by decide +kernel
theorem dX12_remove_29 : decode cX12_remove 29 = .ok (.imul, 1) := by decide +kernel
theorem dX12_remove_30 : decode cX12_remove 30 = .ok (.iload_n 3, 1) := by decide +kernel
theorem dX12_remove_31 : decode cX12_remove 31 = .ok (.iadd, 1) := by decide +kernel
theorem dX12_remove_32 : decode cX12_remove 32 = .ok (.aload_n 0, 1) := by decide +kernel
theorem dX12_remove_33 : decode cX12_remove 33 = .ok (.getfield 53, 3) := by decide +kernel
theorem dX12_remove_36 : decode cX12_remove 36 = .ok (.bipush 80, 2) := by decide +kernel
theorem dX12_remove_38 : decode cX12_remove 38 = .ok (.iload_n 1, 1) := by decide +kernel
theorem dX12_remove_39 : decode cX12_remove 39 = .ok (.imul, 1) := by decide +kernel
theorem dX12_remove_40 : decode cX12_remove 40 = .ok (.iload_n 3, 1) := by decide +kernel
theorem dX12_remove_41 : decode cX12_remove 41 = .ok (.iadd, 1) := by decide +kernel
theorem dX12_remove_42 : decode cX12_remove 42 = .ok (.iconst 1, 1) := by decide +kernel
theorem dX12_remove_43 : decode cX12_remove 43 = .ok (.iadd, 1) := by decide +kernel
theorem dX12_remove_44 : decode cX12_remove 44 = .ok (.iaload, 1) := by decide +kernel
theorem dX12_remove_45 : decode cX12_remove 45 = .ok (.iastore, 1) := by decide +kernel
theorem dX12_remove_46 : decode cX12_remove 46 = .ok (.iinc 3 1, 3) := by decide +kernel
theorem dX12_remove_49 : decode cX12_remove 49 = .ok (.goto (-37), 3) := by decide +kernel
theorem dX12_remove_52 : decode cX12_remove 52 = .ok (.return_, 1) := by decide +kernel
theorem dX12_placeIn_0 : decode cX12_placeIn 0 = .ok (.iconst 0, 1) := by decide +kernel
theorem dX12_placeIn_1 : decode cX12_placeIn 1 = .ok (.istore_n 3, 1) := by decide +kernel
theorem dX12_placeIn_2 : decode cX12_placeIn 2 = .ok (.aload_n 0, 1) := by decide +kernel
theorem dX12_placeIn_3 : decode cX12_placeIn 3 = .ok (.getfield 53, 3) := by decide +kernel
theorem dX12_placeIn_6 : decode cX12_placeIn 6 = .ok (.bipush 80, 2) := by decide +kernel
theorem dX12_placeIn_8 : decode cX12_placeIn 8 = .ok (.iload_n 1, 1) := by decide +kernel
theorem dX12_placeIn_9 : decode cX12_placeIn 9 = .ok (.imul, 1) := by decide +kernel
theorem dX12_placeIn_10 : decode cX12_placeIn 10 = .ok (.iload_n 3, 1) := by decide +kernel
theorem dX12_placeIn_11 : decode cX12_placeIn 11 = .ok (.iadd, 1) := by decide +kernel
theorem dX12_placeIn_12 : decode cX12_placeIn 12 = .ok (.iaload, 1) := by decide +kernel
theorem dX12_placeIn_13 : decode cX12_placeIn 13 = .ok (.iload_n 2, 1) := by decide +kernel
theorem dX12_placeIn_14 : decode cX12_placeIn 14 = .ok (.if_icmp .eq 9, 3) := by decide +kernel
theorem dX12_placeIn_17 : decode cX12_placeIn 17 = .ok (.iinc 3 1, 3) := by decide +kernel
theorem dX12_placeIn_20 : decode cX12_placeIn 20 = .ok (.goto (-18), 3) := by decide +kernel
theorem dX12_placeIn_23 : decode cX12_placeIn 23 = .ok (.iload_n 3, 1) := by decide +kernel
theorem dX12_placeIn_24 : decode cX12_placeIn 24 = .ok (.ireturn, 1) := by decide +kernel
theorem dX12_change_0 : decode cX12_change 0 = .ok (.aload_n 0, 1) := by decide +kernel
theorem dX12_change_1 : decode cX12_change 1 = .ok (.getfield 53, 3) := by decide +kernel
theorem dX12_change_4 : decode cX12_change 4 = .ok (.bipush 80, 2) := by decide +kernel
theorem dX12_change_6 : decode cX12_change 6 = .ok (.iload_n 1, 1) := by decide +kernel
theorem dX12_change_7 : decode cX12_change 7 = .ok (.imul, 1) := by decide +kernel
theorem dX12_change_8 : decode cX12_change 8 = .ok (.iload_n 2, 1) := by decide +kernel
theorem dX12_change_9 : decode cX12_change 9 = .ok (.iadd, 1) := by decide +kernel
theorem dX12_change_10 : decode cX12_change 10 = .ok (.iaload, 1) := by decide +kernel
theorem dX12_change_11 : decode cX12_change 11 = .ok (.istore 4, 2) := by decide +kernel
theorem dX12_change_13 : decode cX12_change 13 = .ok (.aload_n 0, 1) := by decide +kernel
theorem dX12_change_14 : decode cX12_change 14 = .ok (.getfield 53, 3) := by decide +kernel
theorem dX12_change_17 : decode cX12_change 17 = .ok (.bipush 80, 2) := by decide +kernel
theorem dX12_change_19 : decode cX12_change 19 = .ok (.iload_n 1, 1) := by decide +kernel
theorem dX12_change_20 : decode cX12_change 20 = .ok (.imul, 1) := by decide +kernel
theorem dX12_change_21 : decode cX12_change 21 = .ok (.iload_n 2, 1) := by decide +kernel
theorem dX12_change_22 : decode cX12_change 22 = .ok (.iadd, 1) := by decide +kernel
theorem dX12_change_23 : decode cX12_change 23 = .ok (.aload_n 0, 1) := by decide +kernel
theorem dX12_change_24 : decode cX12_change 24 = .ok (.getfield 53, 3) := by decide +kernel
theorem dX12_change_27 : decode cX12_change 27 = .ok (.bipush 80, 2) := by decide +kernel
theorem dX12_change_29 : decode cX12_change 29 = .ok (.iload_n 1, 1) := by decide +kernel
theorem dX12_change_30 : decode cX12_change 30 = .ok (.imul, 1) := by decide +kernel
theorem dX12_change_31 : decode cX12_change 31 = .ok (.iload_n 3, 1) := by decide +kernel
theorem dX12_change_32 : decode cX12_change 32 = .ok (.iadd, 1) := by decide +kernel
theorem dX12_change_33 : decode cX12_change 33 = .ok (.iaload, 1) := by decide +kernel
theorem dX12_change_34 : decode cX12_change 34 = .ok (.iastore, 1) := by decide +kernel
theorem dX12_change_35 : decode cX12_change 35 = .ok (.aload_n 0, 1) := by decide +kernel
theorem dX12_change_36 : decode cX12_change 36 = .ok (.getfield 53, 3) := by decide +kernel
theorem dX12_change_39 : decode cX12_change 39 = .ok (.bipush 80, 2) := by decide +kernel
theorem dX12_change_41 : decode cX12_change 41 = .ok (.iload_n 1, 1) := by decide +kernel
theorem dX12_change_42 : decode cX12_change 42 = .ok (.imul, 1) := by decide +kernel
theorem dX12_change_43 : decode cX12_change 43 = .ok (.iload_n 3, 1) := by decide +kernel
theorem dX12_change_44 : decode cX12_change 44 = .ok (.iadd, 1) := by decide +kernel
theorem dX12_change_45 : decode cX12_change 45 = .ok (.iload 4, 2) := by decide +kernel
theorem dX12_change_47 : decode cX12_change 47 = .ok (.iastore, 1) := by decide +kernel
theorem dX12_change_48 : decode cX12_change 48 = .ok (.return_, 1) := by decide +kernel
theorem dX12_goUp_0 : decode cX12_goUp 0 = .ok (.iload_n 2, 1) := by decide +kernel
theorem dX12_goUp_1 : decode cX12_goUp 1 = .ok (.istore_n 3, 1) := by decide +kernel
theorem dX12_goUp_2 : decode cX12_goUp 2 = .ok (.iload_n 3, 1) := by decide +kernel
theorem dX12_goUp_3 : decode cX12_goUp 3 = .ok (.ifCond .le 7, 3) := by decide +kernel
theorem dX12_goUp_6 : decode cX12_goUp 6 = .ok (.iconst 1, 1) := by decide +kernel
theorem dX12_goUp_7 : decode cX12_goUp 7 = .ok (.goto 4, 3) := by decide +kernel
theorem dX12_goUp_10 : decode cX12_goUp 10 = .ok (.iconst 0, 1) := by decide +kernel
theorem dX12_goUp_11 : decode cX12_goUp 11 = .ok (.istore 4, 2) := by decide +kernel
theorem dX12_goUp_13 : decode cX12_goUp 13 = .ok (.iload 4, 2) := by decide +kernel
theorem dX12_goUp_15 : decode cX12_goUp 15 = .ok (.ifCond .eq 85, 3) := by decide +kernel
theorem dX12_goUp_18 : decode cX12_goUp 18 = .ok (.iload_n 3, 1) := by decide +kernel
theorem dX12_goUp_19 : decode cX12_goUp 19 = .ok (.iconst 1, 1) := by decide +kernel
theorem dX12_goUp_20 : decode cX12_goUp 20 = .ok (.isub, 1) := by decide +kernel
theorem dX12_goUp_21 : decode cX12_goUp 21 = .ok (.iconst 2, 1) := by decide +kernel
theorem dX12_goUp_22 : decode cX12_goUp 22 = .ok (.idiv, 1) := by decide +kernel
theorem dX12_goUp_23 : decode cX12_goUp 23 = .ok (.istore 5, 2) := by decide +kernel
theorem dX12_goUp_25 : decode cX12_goUp 25 = .ok (.aload_n 0, 1) := by decide +kernel
theorem dX12_goUp_26 : decode cX12_goUp 26 = .ok (.dup, 1) := by decide +kernel
theorem dX12_goUp_27 : decode cX12_goUp 27 = .ok (.getfield 252, 3) := by decide +kernel
theorem dX12_goUp_30 : decode cX12_goUp 30 = .ok (.iconst 1, 1) := by decide +kernel
theorem dX12_goUp_31 : decode cX12_goUp 31 = .ok (.iadd, 1) := by decide +kernel
theorem dX12_goUp_32 : decode cX12_goUp 32 = .ok (.putfield 252, 3) := by decide +kernel
theorem dX12_goUp_35 : decode cX12_goUp 35 = .ok (.aload_n 0, 1) := by decide +kernel
theorem dX12_goUp_36 : decode cX12_goUp 36 = .ok (.iload_n 1, 1) := by decide +kernel
theorem dX12_goUp_37 : decode cX12_goUp 37 = .ok (.aload_n 0, 1) := by decide +kernel
theorem dX12_goUp_38 : decode cX12_goUp 38 = .ok (.getfield 53, 3) := by decide +kernel
theorem dX12_goUp_41 : decode cX12_goUp 41 = .ok (.bipush 80, 2) := by decide +kernel
theorem dX12_goUp_43 : decode cX12_goUp 43 = .ok (.iload_n 1, 1) := by decide +kernel
theorem dX12_goUp_44 : decode cX12_goUp 44 = .ok (.imul, 1) := by decide +kernel
theorem dX12_goUp_45 : decode cX12_goUp 45 = .ok (.iload_n 3, 1) := by decide +kernel
theorem dX12_goUp_46 : decode cX12_goUp 46 = .ok (.iadd, 1) := by decide +kernel
theorem dX12_goUp_47 : decode cX12_goUp 47 = .ok (.iaload, 1) := by decide +kernel
theorem dX12_goUp_48 : decode cX12_goUp 48 = .ok (.aload_n 0, 1) := by decide +kernel
theorem dX12_goUp_49 : decode cX12_goUp 49 = .ok (.getfield 53, 3) := by decide +kernel
theorem dX12_goUp_52 : decode cX12_goUp 52 = .ok (.bipush 80, 2) := by decide +kernel
theorem dX12_goUp_54 : decode cX12_goUp 54 = .ok (.iload_n 1, 1) := by decide +kernel
theorem dX12_goUp_55 : decode cX12_goUp 55 = .ok (.imul, 1) := by decide +kernel
theorem dX12_goUp_56 : decode cX12_goUp 56 = .ok (.iload 5, 2) := by decide +kernel
theorem dX12_goUp_58 : decode cX12_goUp 58 = .ok (.iadd, 1) := by decide +kernel
theorem dX12_goUp_59 : decode cX12_goUp 59 = .ok (.iaload, 1) := by decide +kernel
theorem dX12_goUp_60 : decode cX12_goUp 60 = .ok (.invokevirtual 255, 3) := by decide +kernel
theorem dX12_goUp_63 : decode cX12_goUp 63 = .ok (.istore 4, 2) := by decide +kernel
theorem dX12_goUp_65 : decode cX12_goUp 65 = .ok (.iload 4, 2) := by decide +kernel
theorem dX12_goUp_67 : decode cX12_goUp 67 = .ok (.ifCond .eq 14, 3) := by decide +kernel
theorem dX12_goUp_70 : decode cX12_goUp 70 = .ok (.aload_n 0, 1) := by decide +kernel
theorem dX12_goUp_71 : decode cX12_goUp 71 = .ok (.iload_n 1, 1) := by decide +kernel
theorem dX12_goUp_72 : decode cX12_goUp 72 = .ok (.iload_n 3, 1) := by decide +kernel
theorem dX12_goUp_73 : decode cX12_goUp 73 = .ok (.iload 5, 2) := by decide +kernel
theorem dX12_goUp_75 : decode cX12_goUp 75 = .ok (.invokevirtual 259, 3) := by decide +kernel
theorem dX12_goUp_78 : decode cX12_goUp 78 = .ok (.iload 5, 2) := by decide +kernel
theorem dX12_goUp_80 : decode cX12_goUp 80 = .ok (.istore_n 3, 1) := by decide +kernel
theorem dX12_goUp_81 : decode cX12_goUp 81 = .ok (.iload 4, 2) := by decide +kernel
theorem dX12_goUp_83 : decode cX12_goUp 83 = .ok (.ifCond .eq 11, 3) := by decide +kernel
theorem dX12_goUp_86 : decode cX12_goUp 86 = .ok (.iload_n 3, 1) := by decide +kernel
theorem dX12_goUp_87 : decode cX12_goUp 87 = .ok (.ifCond .le 7, 3) := by decide +kernel
theorem dX12_goUp_90 : decode cX12_goUp 90 = .ok (.iconst 1, 1) := by decide +kernel
theorem dX12_goUp_91 : decode cX12_goUp 91 = .ok (.goto 4, 3) := by decide +kernel
theorem dX12_goUp_94 : decode cX12_goUp 94 = .ok (.iconst 0, 1) := by decide +kernel
theorem dX12_goUp_95 : decode cX12_goUp 95 = .ok (.istore 4, 2) := by decide +kernel
theorem dX12_goUp_97 : decode cX12_goUp 97 = .ok (.goto (-84), 3) := by decide +kernel
theorem dX12_goUp_100 : decode cX12_goUp 100 = .ok (.iload_n 3, 1) := by decide +kernel
theorem dX12_goUp_101 : decode cX12_goUp 101 = .ok (.ireturn, 1) := by decide +kernel
theorem dX12_goDown_0 : decode cX12_goDown 0 = .ok (.iload_n 2, 1) := by decide +kernel
theorem dX12_goDown_1 : decode cX12_goDown 1 = .ok (.istore_n 3, 1) := by decide +kernel
theorem dX12_goDown_2 : decode cX12_goDown 2 = .ok (.iconst 2, 1) := by decide +kernel
theorem dX12_goDown_3 : decode cX12_goDown 3 = .ok (.iload_n 3, 1) := by decide +kernel
theorem dX12_goDown_4 : decode cX12_goDown 4 = .ok (.imul, 1) := by decide +kernel
theorem dX12_goDown_5 : decode cX12_goDown 5 = .ok (.iconst 1, 1) := by decide +kernel
theorem dX12_goDown_6 : decode cX12_goDown 6 = .ok (.iadd, 1) := by decide +kernel
theorem dX12_goDown_7 : decode cX12_goDown 7 = .ok (.aload_n 0, 1) := by decide +kernel
theorem dX12_goDown_8 : decode cX12_goDown 8 = .ok (.getfield 56, 3) := by decide +kernel
theorem dX12_goDown_11 : decode cX12_goDown 11 = .ok (.iload_n 1, 1) := by decide +kernel
theorem dX12_goDown_12 : decode cX12_goDown 12 = .ok (.iaload, 1) := by decide +kernel
theorem dX12_goDown_13 : decode cX12_goDown 13 = .ok (.if_icmp .ge 7, 3) := by decide +kernel
theorem dX12_goDown_16 : decode cX12_goDown 16 = .ok (.iconst 1, 1) := by decide +kernel
theorem dX12_goDown_17 : decode cX12_goDown 17 = .ok (.goto 4, 3) := by decide +kernel
theorem dX12_goDown_20 : decode cX12_goDown 20 = .ok (.iconst 0, 1) := by decide +kernel
theorem dX12_goDown_21 : decode cX12_goDown 21 = .ok (.istore 4, 2) := by decide +kernel
theorem dX12_goDown_23 : decode cX12_goDown 23 = .ok (.iload 4, 2) := by decide +kernel
theorem dX12_goDown_25 : decode cX12_goDown 25 = .ok (.ifCond .eq 162, 3) := by decide +kernel
theorem dX12_goDown_28 : decode cX12_goDown 28 = .ok (.iconst 2, 1) := by decide +kernel
theorem dX12_goDown_29 : decode cX12_goDown 29 = .ok (.iload_n 3, 1) := by decide +kernel
theorem dX12_goDown_30 : decode cX12_goDown 30 = .ok (.imul, 1) := by decide +kernel
theorem dX12_goDown_31 : decode cX12_goDown 31 = .ok (.iconst 1, 1) := by decide +kernel
theorem dX12_goDown_32 : decode cX12_goDown 32 = .ok (.iadd, 1) := by decide +kernel
theorem dX12_goDown_33 : decode cX12_goDown 33 = .ok (.istore 5, 2) := by decide +kernel
theorem dX12_goDown_35 : decode cX12_goDown 35 = .ok (.iload 5, 2) := by decide +kernel
theorem dX12_goDown_37 : decode cX12_goDown 37 = .ok (.iconst 1, 1) := by decide +kernel
theorem dX12_goDown_38 : decode cX12_goDown 38 = .ok (.iadd, 1) := by decide +kernel
theorem dX12_goDown_39 : decode cX12_goDown 39 = .ok (.aload_n 0, 1) := by decide +kernel
theorem dX12_goDown_40 : decode cX12_goDown 40 = .ok (.getfield 56, 3) := by decide +kernel
theorem dX12_goDown_43 : decode cX12_goDown 43 = .ok (.iload_n 1, 1) := by decide +kernel
theorem dX12_goDown_44 : decode cX12_goDown 44 = .ok (.iaload, 1) := by decide +kernel
theorem dX12_goDown_45 : decode cX12_goDown 45 = .ok (.if_icmp .ge 57, 3) := by decide +kernel
theorem dX12_goDown_48 : decode cX12_goDown 48 = .ok (.aload_n 0, 1) := by decide +kernel
theorem dX12_goDown_49 : decode cX12_goDown 49 = .ok (.dup, 1) := by decide +kernel
theorem dX12_goDown_50 : decode cX12_goDown 50 = .ok (.getfield 252, 3) := by decide +kernel
theorem dX12_goDown_53 : decode cX12_goDown 53 = .ok (.iconst 1, 1) := by decide +kernel
theorem dX12_goDown_54 : decode cX12_goDown 54 = .ok (.iadd, 1) := by decide +kernel
theorem dX12_goDown_55 : decode cX12_goDown 55 = .ok (.putfield 252, 3) := by decide +kernel
theorem dX12_goDown_58 : decode cX12_goDown 58 = .ok (.iload 5, 2) := by decide +kernel
theorem dX12_goDown_60 : decode cX12_goDown 60 = .ok (.aload_n 0, 1) := by decide +kernel
theorem dX12_goDown_61 : decode cX12_goDown 61 = .ok (.iload_n 1, 1) := by decide +kernel
theorem dX12_goDown_62 : decode cX12_goDown 62 = .ok (.aload_n 0, 1) := by decide +kernel
theorem dX12_goDown_63 : decode cX12_goDown 63 = .ok (.getfield 53, 3) := by decide +kernel
theorem dX12_goDown_66 : decode cX12_goDown 66 = .ok (.bipush 80, 2) := by decide +kernel
theorem dX12_goDown_68 : decode cX12_goDown 68 = .ok (.iload_n 1, 1) := by decide +kernel
theorem dX12_goDown_69 : decode cX12_goDown 69 = .ok (.imul, 1) := by decide +kernel
theorem dX12_goDown_70 : decode cX12_goDown 70 = .ok (.iload 5, 2) := by decide +kernel
theorem dX12_goDown_72 : decode cX12_goDown 72 = .ok (.iadd, 1) := by decide +kernel
theorem dX12_goDown_73 : decode cX12_goDown 73 = .ok (.iconst 1, 1) := by decide +kernel
theorem dX12_goDown_74 : decode cX12_goDown 74 = .ok (.iadd, 1) := by decide +kernel
theorem dX12_goDown_75 : decode cX12_goDown 75 = .ok (.iaload, 1) := by decide +kernel
theorem dX12_goDown_76 : decode cX12_goDown 76 = .ok (.aload_n 0, 1) := by decide +kernel
theorem dX12_goDown_77 : decode cX12_goDown 77 = .ok (.getfield 53, 3) := by decide +kernel
theorem dX12_goDown_80 : decode cX12_goDown 80 = .ok (.bipush 80, 2) := by decide +kernel
theorem dX12_goDown_82 : decode cX12_goDown 82 = .ok (.iload_n 1, 1) := by decide +kernel
theorem dX12_goDown_83 : decode cX12_goDown 83 = .ok (.imul, 1) := by decide +kernel
theorem dX12_goDown_84 : decode cX12_goDown 84 = .ok (.iload 5, 2) := by decide +kernel
theorem dX12_goDown_86 : decode cX12_goDown 86 = .ok (.iadd, 1) := by decide +kernel
theorem dX12_goDown_87 : decode cX12_goDown 87 = .ok (.iaload, 1) := by decide +kernel
theorem dX12_goDown_88 : decode cX12_goDown 88 = .ok (.invokevirtual 255, 3) := by decide +kernel
theorem dX12_goDown_91 : decode cX12_goDown 91 = .ok (.ifCond .eq 7, 3) := by decide +kernel
theorem dX12_goDown_94 : decode cX12_goDown 94 = .ok (.iconst 1, 1) := by decide +kernel
theorem dX12_goDown_95 : decode cX12_goDown 95 = .ok (.goto 4, 3) := by decide +kernel
theorem dX12_goDown_98 : decode cX12_goDown 98 = .ok (.iconst 0, 1) := by decide +kernel
theorem dX12_goDown_99 : decode cX12_goDown 99 = .ok (.iadd, 1) := by decide +kernel
theorem dX12_goDown_100 : decode cX12_goDown 100 = .ok (.istore 5, 2) := by decide +kernel
theorem dX12_goDown_102 : decode cX12_goDown 102 = .ok (.aload_n 0, 1) := by decide +kernel
theorem dX12_goDown_103 : decode cX12_goDown 103 = .ok (.dup, 1) := by decide +kernel
theorem dX12_goDown_104 : decode cX12_goDown 104 = .ok (.getfield 252, 3) := by decide +kernel
theorem dX12_goDown_107 : decode cX12_goDown 107 = .ok (.iconst 1, 1) := by decide +kernel
theorem dX12_goDown_108 : decode cX12_goDown 108 = .ok (.iadd, 1) := by decide +kernel
theorem dX12_goDown_109 : decode cX12_goDown 109 = .ok (.putfield 252, 3) := by decide +kernel
theorem dX12_goDown_112 : decode cX12_goDown 112 = .ok (.aload_n 0, 1) := by decide +kernel
theorem dX12_goDown_113 : decode cX12_goDown 113 = .ok (.iload_n 1, 1) := by decide +kernel
theorem dX12_goDown_114 : decode cX12_goDown 114 = .ok (.aload_n 0, 1) := by decide +kernel
theorem dX12_goDown_115 : decode cX12_goDown 115 = .ok (.getfield 53, 3) := by decide +kernel
theorem dX12_goDown_118 : decode cX12_goDown 118 = .ok (.bipush 80, 2) := by decide +kernel
theorem dX12_goDown_120 : decode cX12_goDown 120 = .ok (.iload_n 1, 1) := by decide +kernel
theorem dX12_goDown_121 : decode cX12_goDown 121 = .ok (.imul, 1) := by decide +kernel
theorem dX12_goDown_122 : decode cX12_goDown 122 = .ok (.iload 5, 2) := by decide +kernel
theorem dX12_goDown_124 : decode cX12_goDown 124 = .ok (.iadd, 1) := by decide +kernel
theorem dX12_goDown_125 : decode cX12_goDown 125 = .ok (.iaload, 1) := by decide +kernel
theorem dX12_goDown_126 : decode cX12_goDown 126 = .ok (.aload_n 0, 1) := by decide +kernel
theorem dX12_goDown_127 : decode cX12_goDown 127 = .ok (.getfield 53, 3) := by decide +kernel
theorem dX12_goDown_130 : decode cX12_goDown 130 = .ok (.bipush 80, 2) := by decide +kernel
theorem dX12_goDown_132 : decode cX12_goDown 132 = .ok (.iload_n 1, 1) := by decide +kernel
theorem dX12_goDown_133 : decode cX12_goDown 133 = .ok (.imul, 1) := by decide +kernel
theorem dX12_goDown_134 : decode cX12_goDown 134 = .ok (.iload_n 3, 1) := by decide +kernel
theorem dX12_goDown_135 : decode cX12_goDown 135 = .ok (.iadd, 1) := by decide +kernel
theorem dX12_goDown_136 : decode cX12_goDown 136 = .ok (.iaload, 1) := by decide +kernel
theorem dX12_goDown_137 : decode cX12_goDown 137 = .ok (.invokevirtual 255, 3) := by decide +kernel
theorem dX12_goDown_140 : decode cX12_goDown 140 = .ok (.istore 4, 2) := by decide +kernel
theorem dX12_goDown_142 : decode cX12_goDown 142 = .ok (.iload 4, 2) := by decide +kernel
theorem dX12_goDown_144 : decode cX12_goDown 144 = .ok (.ifCond .eq 14, 3) := by decide +kernel
theorem dX12_goDown_147 : decode cX12_goDown 147 = .ok (.aload_n 0, 1) := by decide +kernel
theorem dX12_goDown_148 : decode cX12_goDown 148 = .ok (.iload_n 1, 1) := by decide +kernel
theorem dX12_goDown_149 : decode cX12_goDown 149 = .ok (.iload_n 3, 1) := by decide +kernel
theorem dX12_goDown_150 : decode cX12_goDown 150 = .ok (.iload 5, 2) := by decide +kernel
theorem dX12_goDown_152 : decode cX12_goDown 152 = .ok (.invokevirtual 259, 3) := by decide +kernel
theorem dX12_goDown_155 : decode cX12_goDown 155 = .ok (.iload 5, 2) := by decide +kernel
theorem dX12_goDown_157 : decode cX12_goDown 157 = .ok (.istore_n 3, 1) := by decide +kernel
theorem dX12_goDown_158 : decode cX12_goDown 158 = .ok (.iload 4, 2) := by decide +kernel
theorem dX12_goDown_160 : decode cX12_goDown 160 = .ok (.ifCond .eq 21, 3) := by decide +kernel
theorem dX12_goDown_163 : decode cX12_goDown 163 = .ok (.iconst 2, 1) := by decide +kernel
theorem dX12_goDown_164 : decode cX12_goDown 164 = .ok (.iload_n 3, 1) := by decide +kernel
theorem dX12_goDown_165 : decode cX12_goDown 165 = .ok (.imul, 1) := by decide +kernel
theorem dX12_goDown_166 : decode cX12_goDown 166 = .ok (.iconst 1, 1) := by decide +kernel
theorem dX12_goDown_167 : decode cX12_goDown 167 = .ok (.iadd, 1) := by decide +kernel
theorem dX12_goDown_168 : decode cX12_goDown 168 = .ok (.aload_n 0, 1) := by decide +kernel
theorem dX12_goDown_169 : decode cX12_goDown 169 = .ok (.getfield 56, 3) := by decide +kernel
theorem dX12_goDown_172 : decode cX12_goDown 172 = .ok (.iload_n 1, 1) := by decide +kernel
theorem dX12_goDown_173 : decode cX12_goDown 173 = .ok (.iaload, 1) := by decide +kernel
theorem dX12_goDown_174 : decode cX12_goDown 174 = .ok (.if_icmp .ge 7, 3) := by decide +kernel
theorem dX12_goDown_177 : decode cX12_goDown 177 = .ok (.iconst 1, 1) := by decide +kernel
theorem dX12_goDown_178 : decode cX12_goDown 178 = .ok (.goto 4, 3) := by decide +kernel
theorem dX12_goDown_181 : decode cX12_goDown 181 = .ok (.iconst 0, 1) := by decide +kernel
theorem dX12_goDown_182 : decode cX12_goDown 182 = .ok (.istore 4, 2) := by decide +kernel
theorem dX12_goDown_184 : decode cX12_goDown 184 = .ok (.goto (-161), 3) := by decide +kernel
theorem dX12_goDown_187 : decode cX12_goDown 187 = .ok (.return_, 1) := by decide +kernel
theorem dX12_bitsOf_0 : decode cX12_bitsOf 0 = .ok (.iconst 1, 1) := by decide +kernel
theorem dX12_bitsOf_1 : decode cX12_bitsOf 1 = .ok (.iload_n 0, 1) := by decide +kernel
theorem dX12_bitsOf_2 : decode cX12_bitsOf 2 = .ok (.bipush 7, 2) := by decide +kernel
theorem dX12_bitsOf_4 : decode cX12_bitsOf 4 = .ok (.imul, 1) := by decide +kernel
theorem dX12_bitsOf_5 : decode cX12_bitsOf 5 = .ok (.bipush 32, 2) := by decide +kernel
theorem dX12_bitsOf_7 : decode cX12_bitsOf 7 = .ok (.irem, 1) := by decide +kernel
theorem dX12_bitsOf_8 : decode cX12_bitsOf 8 = .ok (.ishl, 1) := by decide +kernel
theorem dX12_bitsOf_9 : decode cX12_bitsOf 9 = .ok (.iconst 1, 1) := by decide +kernel
theorem dX12_bitsOf_10 : decode cX12_bitsOf 10 = .ok (.iload_n 0, 1) := by decide +kernel
theorem dX12_bitsOf_11 : decode cX12_bitsOf 11 = .ok (.bipush 11, 2) := by decide +kernel
theorem dX12_bitsOf_13 : decode cX12_bitsOf 13 = .ok (.imul, 1) := by decide +kernel
theorem dX12_bitsOf_14 : decode cX12_bitsOf 14 = .ok (.bipush 32, 2) := by decide +kernel
theorem dX12_bitsOf_16 : decode cX12_bitsOf 16 = .ok (.irem, 1) := by decide +kernel
theorem dX12_bitsOf_17 : decode cX12_bitsOf 17 = .ok (.ishl, 1) := by decide +kernel
theorem dX12_bitsOf_18 : decode cX12_bitsOf 18 = .ok (.ior, 1) := by decide +kernel
theorem dX12_bitsOf_19 : decode cX12_bitsOf 19 = .ok (.ireturn, 1) := by decide +kernel
theorem dX12_putInTree_0 : decode cX12_putInTree 0 = .ok (.aload_n 0, 1) := by decide +kernel
theorem dX12_putInTree_1 : decode cX12_putInTree 1 = .ok (.getfield 59, 3) := by decide +kernel
theorem dX12_putInTree_4 : decode cX12_putInTree 4 = .ok (.bipush 80, 2) := by decide +kernel
theorem dX12_putInTree_6 : decode cX12_putInTree 6 = .ok (.iload_n 1, 1) := by decide +kernel
theorem dX12_putInTree_7 : decode cX12_putInTree 7 = .ok (.imul, 1) := by decide +kernel
theorem dX12_putInTree_8 : decode cX12_putInTree 8 = .ok (.iload_n 2, 1) := by decide +kernel
theorem dX12_putInTree_9 : decode cX12_putInTree 9 = .ok (.iadd, 1) := by decide +kernel
theorem dX12_putInTree_10 : decode cX12_putInTree 10 = .ok (.iconst (-1), 1) := by decide +kernel
theorem dX12_putInTree_11 : decode cX12_putInTree 11 = .ok (.iastore, 1) := by decide +kernel
theorem dX12_putInTree_12 : decode cX12_putInTree 12 = .ok (.aload_n 0, 1) := by decide +kernel
theorem dX12_putInTree_13 : decode cX12_putInTree 13 = .ok (.getfield 62, 3) := by decide +kernel
theorem dX12_putInTree_16 : decode cX12_putInTree 16 = .ok (.bipush 80, 2) := by decide +kernel
theorem dX12_putInTree_18 : decode cX12_putInTree 18 = .ok (.iload_n 1, 1) := by decide +kernel
theorem dX12_putInTree_19 : decode cX12_putInTree 19 = .ok (.imul, 1) := by decide +kernel
theorem dX12_putInTree_20 : decode cX12_putInTree 20 = .ok (.iload_n 2, 1) := by decide +kernel
theorem dX12_putInTree_21 : decode cX12_putInTree 21 = .ok (.iadd, 1) := by decide +kernel
theorem dX12_putInTree_22 : decode cX12_putInTree 22 = .ok (.iconst (-1), 1) := by decide +kernel
theorem dX12_putInTree_23 : decode cX12_putInTree 23 = .ok (.iastore, 1) := by decide +kernel
theorem dX12_putInTree_24 : decode cX12_putInTree 24 = .ok (.aload_n 0, 1) := by decide +kernel
theorem dX12_putInTree_25 : decode cX12_putInTree 25 = .ok (.getfield 56, 3) := by decide +kernel
theorem dX12_putInTree_28 : decode cX12_putInTree 28 = .ok (.iload_n 1, 1) := by decide +kernel
theorem dX12_putInTree_29 : decode cX12_putInTree 29 = .ok (.dup2, 1) := by decide +kernel
theorem dX12_putInTree_30 : decode cX12_putInTree 30 = .ok (.iaload, 1) := by decide +kernel
theorem dX12_putInTree_31 : decode cX12_putInTree 31 = .ok (.iconst 1, 1) := by decide +kernel
theorem dX12_putInTree_32 : decode cX12_putInTree 32 = .ok (.iadd, 1) := by decide +kernel
theorem dX12_putInTree_33 : decode cX12_putInTree 33 = .ok (.iastore, 1) := by decide +kernel
theorem dX12_putInTree_34 : decode cX12_putInTree 34 = .ok (.aload_n 0, 1) := by decide +kernel
theorem dX12_putInTree_35 : decode cX12_putInTree 35 = .ok (.getfield 65, 3) := by decide +kernel
theorem dX12_putInTree_38 : decode cX12_putInTree 38 = .ok (.iload_n 1, 1) := by decide +kernel
theorem dX12_putInTree_39 : decode cX12_putInTree 39 = .ok (.iaload, 1) := by decide +kernel
theorem dX12_putInTree_40 : decode cX12_putInTree 40 = .ok (.ifCond .ge 11, 3) := by decide +kernel
theorem dX12_putInTree_43 : decode cX12_putInTree 43 = .ok (.aload_n 0, 1) := by decide +kernel
theorem dX12_putInTree_44 : decode cX12_putInTree 44 = .ok (.getfield 65, 3) := by decide +kernel
theorem dX12_putInTree_47 : decode cX12_putInTree 47 = .ok (.iload_n 1, 1) := by decide +kernel
theorem dX12_putInTree_48 : decode cX12_putInTree 48 = .ok (.iload_n 2, 1) := by decide +kernel
theorem dX12_putInTree_49 : decode cX12_putInTree 49 = .ok (.iastore, 1) := by decide +kernel
theorem dX12_putInTree_50 : decode cX12_putInTree 50 = .ok (.return_, 1) := by decide +kernel
theorem dX12_putInTree_51 : decode cX12_putInTree 51 = .ok (.aload_n 0, 1) := by decide +kernel
theorem dX12_putInTree_52 : decode cX12_putInTree 52 = .ok (.getfield 65, 3) := by decide +kernel
theorem dX12_putInTree_55 : decode cX12_putInTree 55 = .ok (.iload_n 1, 1) := by decide +kernel
theorem dX12_putInTree_56 : decode cX12_putInTree 56 = .ok (.iaload, 1) := by decide +kernel
theorem dX12_putInTree_57 : decode cX12_putInTree 57 = .ok (.istore_n 3, 1) := by decide +kernel
theorem dX12_putInTree_58 : decode cX12_putInTree 58 = .ok (.iconst 1, 1) := by decide +kernel
theorem dX12_putInTree_59 : decode cX12_putInTree 59 = .ok (.istore 4, 2) := by decide +kernel
theorem dX12_putInTree_61 : decode cX12_putInTree 61 = .ok (.iload 4, 2) := by decide +kernel
theorem dX12_putInTree_63 : decode cX12_putInTree 63 = .ok (.ifCond .eq 112, 3) := by decide +kernel
theorem dX12_putInTree_66 : decode cX12_putInTree 66 = .ok (.aload_n 0, 1) := by decide +kernel
theorem dX12_putInTree_67 : decode cX12_putInTree 67 = .ok (.dup, 1) := by decide +kernel
theorem dX12_putInTree_68 : decode cX12_putInTree 68 = .ok (.getfield 252, 3) := by decide +kernel
theorem dX12_putInTree_71 : decode cX12_putInTree 71 = .ok (.iconst 1, 1) := by decide +kernel
theorem dX12_putInTree_72 : decode cX12_putInTree 72 = .ok (.iadd, 1) := by decide +kernel
theorem dX12_putInTree_73 : decode cX12_putInTree 73 = .ok (.putfield 252, 3) := by decide +kernel
theorem dX12_putInTree_76 : decode cX12_putInTree 76 = .ok (.aload_n 0, 1) := by decide +kernel
theorem dX12_putInTree_77 : decode cX12_putInTree 77 = .ok (.iload_n 1, 1) := by decide +kernel
theorem dX12_putInTree_78 : decode cX12_putInTree 78 = .ok (.iload_n 2, 1) := by decide +kernel
theorem dX12_putInTree_79 : decode cX12_putInTree 79 = .ok (.iload_n 3, 1) := by decide +kernel
theorem dX12_putInTree_80 : decode cX12_putInTree 80 = .ok (.invokevirtual 255, 3) := by decide +kernel
theorem dX12_putInTree_83 : decode cX12_putInTree 83 = .ok (.istore 5, 2) := by decide +kernel
theorem dX12_putInTree_85 : decode cX12_putInTree 85 = .ok (.iload 5, 2) := by decide +kernel
theorem dX12_putInTree_87 : decode cX12_putInTree 87 = .ok (.ifCond .eq 17, 3) := by decide +kernel
theorem dX12_putInTree_90 : decode cX12_putInTree 90 = .ok (.aload_n 0, 1) := by decide +kernel
theorem dX12_putInTree_91 : decode cX12_putInTree 91 = .ok (.getfield 59, 3) := by decide +kernel
theorem dX12_putInTree_94 : decode cX12_putInTree 94 = .ok (.bipush 80, 2) := by decide +kernel
theorem dX12_putInTree_96 : decode cX12_putInTree 96 = .ok (.iload_n 1, 1) := by decide +kernel
theorem dX12_putInTree_97 : decode cX12_putInTree 97 = .ok (.imul, 1) := by decide +kernel
theorem dX12_putInTree_98 : decode cX12_putInTree 98 = .ok (.iload_n 3, 1) := by decide +kernel
theorem dX12_putInTree_99 : decode cX12_putInTree 99 = .ok (.iadd, 1) := by decide +kernel
theorem dX12_putInTree_100 : decode cX12_putInTree 100 = .ok (.iaload, 1) := by decide +kernel
theorem dX12_putInTree_101 : decode cX12_putInTree 101 = .ok (.goto 14, 3) := by decide +kernel
theorem dX12_putInTree_104 : decode cX12_putInTree 104 = .ok (.aload_n 0, 1) := by decide +kernel
theorem dX12_putInTree_105 : decode cX12_putInTree 105 = .ok (.getfield 62, 3) := by decide +kernel
theorem dX12_putInTree_108 : decode cX12_putInTree 108 = .ok (.bipush 80, 2) := by decide +kernel
theorem dX12_putInTree_110 : decode cX12_putInTree 110 = .ok (.iload_n 1, 1) := by decide +kernel
theorem dX12_putInTree_111 : decode cX12_putInTree 111 = .ok (.imul, 1) := by decide +kernel
theorem dX12_putInTree_112 : decode cX12_putInTree 112 = .ok (.iload_n 3, 1) := by decide +kernel
theorem dX12_putInTree_113 : decode cX12_putInTree 113 = .ok (.iadd, 1) := by decide +kernel
theorem dX12_putInTree_114 : decode cX12_putInTree 114 = .ok (.iaload, 1) := by decide +kernel
theorem dX12_putInTree_115 : decode cX12_putInTree 115 = .ok (.istore 6, 2) := by decide +kernel
theorem dX12_putInTree_117 : decode cX12_putInTree 117 = .ok (.iload 6, 2) := by decide +kernel
theorem dX12_putInTree_119 : decode cX12_putInTree 119 = .ok (.ifCond .lt 7, 3) := by decide +kernel
theorem dX12_putInTree_122 : decode cX12_putInTree 122 = .ok (.iconst 1, 1) := by decide +kernel
theorem dX12_putInTree_123 : decode cX12_putInTree 123 = .ok (.goto 4, 3) := by decide +kernel
theorem dX12_putInTree_126 : decode cX12_putInTree 126 = .ok (.iconst 0, 1) := by decide +kernel
theorem dX12_putInTree_127 : decode cX12_putInTree 127 = .ok (.istore 4, 2) := by decide +kernel
theorem dX12_putInTree_129 : decode cX12_putInTree 129 = .ok (.iload 4, 2) := by decide +kernel
theorem dX12_putInTree_131 : decode cX12_putInTree 131 = .ok (.ifCond .eq 9, 3) := by decide +kernel
theorem dX12_putInTree_134 : decode cX12_putInTree 134 = .ok (.iload 6, 2) := by decide +kernel
theorem dX12_putInTree_136 : decode cX12_putInTree 136 = .ok (.istore_n 3, 1) := by decide +kernel
theorem dX12_putInTree_137 : decode cX12_putInTree 137 = .ok (.goto 35, 3) := by decide +kernel
theorem dX12_putInTree_140 : decode cX12_putInTree 140 = .ok (.iload 5, 2) := by decide +kernel
theorem dX12_putInTree_142 : decode cX12_putInTree 142 = .ok (.ifCond .eq 18, 3) := by decide +kernel
theorem dX12_putInTree_145 : decode cX12_putInTree 145 = .ok (.aload_n 0, 1) := by decide +kernel
theorem dX12_putInTree_146 : decode cX12_putInTree 146 = .ok (.getfield 59, 3) := by decide +kernel
theorem dX12_putInTree_149 : decode cX12_putInTree 149 = .ok (.bipush 80, 2) := by decide +kernel
theorem dX12_putInTree_151 : decode cX12_putInTree 151 = .ok (.iload_n 1, 1) := by decide +kernel
theorem dX12_putInTree_152 : decode cX12_putInTree 152 = .ok (.imul, 1) := by decide +kernel
theorem dX12_putInTree_153 : decode cX12_putInTree 153 = .ok (.iload_n 3, 1) := by decide +kernel
theorem dX12_putInTree_154 : decode cX12_putInTree 154 = .ok (.iadd, 1) := by decide +kernel
theorem dX12_putInTree_155 : decode cX12_putInTree 155 = .ok (.iload_n 2, 1) := by decide +kernel
theorem dX12_putInTree_156 : decode cX12_putInTree 156 = .ok (.iastore, 1) := by decide +kernel
theorem dX12_putInTree_157 : decode cX12_putInTree 157 = .ok (.goto 15, 3) := by decide +kernel
theorem dX12_putInTree_160 : decode cX12_putInTree 160 = .ok (.aload_n 0, 1) := by decide +kernel
theorem dX12_putInTree_161 : decode cX12_putInTree 161 = .ok (.getfield 62, 3) := by decide +kernel
theorem dX12_putInTree_164 : decode cX12_putInTree 164 = .ok (.bipush 80, 2) := by decide +kernel
theorem dX12_putInTree_166 : decode cX12_putInTree 166 = .ok (.iload_n 1, 1) := by decide +kernel
theorem dX12_putInTree_167 : decode cX12_putInTree 167 = .ok (.imul, 1) := by decide +kernel
theorem dX12_putInTree_168 : decode cX12_putInTree 168 = .ok (.iload_n 3, 1) := by decide +kernel
theorem dX12_putInTree_169 : decode cX12_putInTree 169 = .ok (.iadd, 1) := by decide +kernel
theorem dX12_putInTree_170 : decode cX12_putInTree 170 = .ok (.iload_n 2, 1) := by decide +kernel
theorem dX12_putInTree_171 : decode cX12_putInTree 171 = .ok (.iastore, 1) := by decide +kernel
theorem dX12_putInTree_172 : decode cX12_putInTree 172 = .ok (.goto (-111), 3) := by decide +kernel
theorem dX12_putInTree_175 : decode cX12_putInTree 175 = .ok (.return_, 1) := by decide +kernel
theorem dX12_hang_0 : decode cX12_hang 0 = .ok (.iload_n 2, 1) := by decide +kernel
theorem dX12_hang_1 : decode cX12_hang 1 = .ok (.ifCond .ge 14, 3) := by decide +kernel
theorem dX12_hang_4 : decode cX12_hang 4 = .ok (.aload_n 0, 1) := by decide +kernel
theorem dX12_hang_5 : decode cX12_hang 5 = .ok (.getfield 65, 3) := by decide +kernel
theorem dX12_hang_8 : decode cX12_hang 8 = .ok (.iload_n 1, 1) := by decide +kernel
theorem dX12_hang_9 : decode cX12_hang 9 = .ok (.iload 4, 2) := by decide +kernel
theorem dX12_hang_11 : decode cX12_hang 11 = .ok (.iastore, 1) := by decide +kernel
theorem dX12_hang_12 : decode cX12_hang 12 = .ok (.goto 47, 3) := by decide +kernel
theorem dX12_hang_15 : decode cX12_hang 15 = .ok (.aload_n 0, 1) := by decide +kernel
theorem dX12_hang_16 : decode cX12_hang 16 = .ok (.getfield 59, 3) := by decide +kernel
theorem dX12_hang_19 : decode cX12_hang 19 = .ok (.bipush 80, 2) := by decide +kernel
theorem dX12_hang_21 : decode cX12_hang 21 = .ok (.iload_n 1, 1) := by decide +kernel
theorem dX12_hang_22 : decode cX12_hang 22 = .ok (.imul, 1) := by decide +kernel
theorem dX12_hang_23 : decode cX12_hang 23 = .ok (.iload_n 2, 1) := by decide +kernel
theorem dX12_hang_24 : decode cX12_hang 24 = .ok (.iadd, 1) := by decide +kernel
theorem dX12_hang_25 : decode cX12_hang 25 = .ok (.iaload, 1) := by decide +kernel
theorem dX12_hang_26 : decode cX12_hang 26 = .ok (.iload_n 3, 1) := by decide +kernel
theorem dX12_hang_27 : decode cX12_hang 27 = .ok (.if_icmp .ne 19, 3) := by decide +kernel
theorem dX12_hang_30 : decode cX12_hang 30 = .ok (.aload_n 0, 1) := by decide +kernel
theorem dX12_hang_31 : decode cX12_hang 31 = .ok (.getfield 59, 3) := by decide +kernel
theorem dX12_hang_34 : decode cX12_hang 34 = .ok (.bipush 80, 2) := by decide +kernel
theorem dX12_hang_36 : decode cX12_hang 36 = .ok (.iload_n 1, 1) := by decide +kernel
theorem dX12_hang_37 : decode cX12_hang 37 = .ok (.imul, 1) := by decide +kernel
theorem dX12_hang_38 : decode cX12_hang 38 = .ok (.iload_n 2, 1) := by decide +kernel
theorem dX12_hang_39 : decode cX12_hang 39 = .ok (.iadd, 1) := by decide +kernel
theorem dX12_hang_40 : decode cX12_hang 40 = .ok (.iload 4, 2) := by decide +kernel
theorem dX12_hang_42 : decode cX12_hang 42 = .ok (.iastore, 1) := by decide +kernel
theorem dX12_hang_43 : decode cX12_hang 43 = .ok (.goto 16, 3) := by decide +kernel
theorem dX12_hang_46 : decode cX12_hang 46 = .ok (.aload_n 0, 1) := by decide +kernel
theorem dX12_hang_47 : decode cX12_hang 47 = .ok (.getfield 62, 3) := by decide +kernel
theorem dX12_hang_50 : decode cX12_hang 50 = .ok (.bipush 80, 2) := by decide +kernel
theorem dX12_hang_52 : decode cX12_hang 52 = .ok (.iload_n 1, 1) := by decide +kernel
theorem dX12_hang_53 : decode cX12_hang 53 = .ok (.imul, 1) := by decide +kernel
theorem dX12_hang_54 : decode cX12_hang 54 = .ok (.iload_n 2, 1) := by decide +kernel
theorem dX12_hang_55 : decode cX12_hang 55 = .ok (.iadd, 1) := by decide +kernel
theorem dX12_hang_56 : decode cX12_hang 56 = .ok (.iload 4, 2) := by decide +kernel
theorem dX12_hang_58 : decode cX12_hang 58 = .ok (.iastore, 1) := by decide +kernel
theorem dX12_hang_59 : decode cX12_hang 59 = .ok (.return_, 1) := by decide +kernel
theorem dX12_takeFromTree_0 : decode cX12_takeFromTree 0 = .ok (.iconst (-1), 1) := by decide +kernel
theorem dX12_takeFromTree_1 : decode cX12_takeFromTree 1 = .ok (.istore_n 3, 1) := by decide +kernel
theorem dX12_takeFromTree_2 : decode cX12_takeFromTree 2 = .ok (.aload_n 0, 1) := by decide +kernel
theorem dX12_takeFromTree_3 : decode cX12_takeFromTree 3 = .ok (.getfield 65, 3) := by decide +kernel
theorem dX12_takeFromTree_6 : decode cX12_takeFromTree 6 = .ok (.iload_n 1, 1) := by decide +kernel
theorem dX12_takeFromTree_7 : decode cX12_takeFromTree 7 = .ok (.iaload, 1) := by decide +kernel
theorem dX12_takeFromTree_8 : decode cX12_takeFromTree 8 = .ok (.istore 4, 2) := by decide +kernel
theorem dX12_takeFromTree_10 : decode cX12_takeFromTree 10 = .ok (.aload_n 0, 1) := by decide +kernel
theorem dX12_takeFromTree_11 : decode cX12_takeFromTree 11 = .ok (.dup, 1) := by decide +kernel
theorem dX12_takeFromTree_12 : decode cX12_takeFromTree 12 = .ok (.getfield 252, 3) := by decide +kernel
theorem dX12_takeFromTree_15 : decode cX12_takeFromTree 15 = .ok (.iconst 1, 1) := by decide +kernel
theorem dX12_takeFromTree_16 : decode cX12_takeFromTree 16 = .ok (.iadd, 1) := by decide +kernel
theorem dX12_takeFromTree_17 : decode cX12_takeFromTree 17 = .ok (.putfield 252, 3) := by decide +kernel
theorem dX12_takeFromTree_20 : decode cX12_takeFromTree 20 = .ok (.iload 4, 2) := by decide +kernel
theorem dX12_takeFromTree_22 : decode cX12_takeFromTree 22 = .ok (.iload_n 2, 1) := by decide +kernel
theorem dX12_takeFromTree_23 : decode cX12_takeFromTree 23 = .ok (.if_icmp .eq 59, 3) := by decide +kernel
theorem dX12_takeFromTree_26 : decode cX12_takeFromTree 26 = .ok (.iload 4, 2) := by decide +kernel
theorem dX12_takeFromTree_28 : decode cX12_takeFromTree 28 = .ok (.istore_n 3, 1) := by decide +kernel
theorem dX12_takeFromTree_29 : decode cX12_takeFromTree 29 = .ok (.aload_n 0, 1) := by decide +kernel
theorem dX12_takeFromTree_30 : decode cX12_takeFromTree 30 = .ok (.iload_n 1, 1) := by decide +kernel
theorem dX12_takeFromTree_31 : decode cX12_takeFromTree 31 = .ok (.iload_n 2, 1) := by decide +kernel
theorem dX12_takeFromTree_32 : decode cX12_takeFromTree 32 = .ok (.iload 4, 2) := by decide +kernel
theorem dX12_takeFromTree_34 : decode cX12_takeFromTree 34 = .ok (.invokevirtual 255, 3) := by decide +kernel
theorem dX12_takeFromTree_37 : decode cX12_takeFromTree 37 = .ok (.ifCond .eq 18, 3) := by decide +kernel
theorem dX12_takeFromTree_40 : decode cX12_takeFromTree 40 = .ok (.aload_n 0, 1) := by decide +kernel
theorem dX12_takeFromTree_41 : decode cX12_takeFromTree 41 = .ok (.getfield 59, 3) := by decide +kernel
theorem dX12_takeFromTree_44 : decode cX12_takeFromTree 44 = .ok (.bipush 80, 2) := by decide +kernel
theorem dX12_takeFromTree_46 : decode cX12_takeFromTree 46 = .ok (.iload_n 1, 1) := by decide +kernel
theorem dX12_takeFromTree_47 : decode cX12_takeFromTree 47 = .ok (.imul, 1) := by decide +kernel
theorem dX12_takeFromTree_48 : decode cX12_takeFromTree 48 = .ok (.iload 4, 2) := by decide +kernel
theorem dX12_takeFromTree_50 : decode cX12_takeFromTree 50 = .ok (.iadd, 1) := by decide +kernel
theorem dX12_takeFromTree_51 : decode cX12_takeFromTree 51 = .ok (.iaload, 1) := by decide +kernel
theorem dX12_takeFromTree_52 : decode cX12_takeFromTree 52 = .ok (.goto 15, 3) := by decide +kernel
theorem dX12_takeFromTree_55 : decode cX12_takeFromTree 55 = .ok (.aload_n 0, 1) := by decide +kernel
theorem dX12_takeFromTree_56 : decode cX12_takeFromTree 56 = .ok (.getfield 62, 3) := by decide +kernel
theorem dX12_takeFromTree_59 : decode cX12_takeFromTree 59 = .ok (.bipush 80, 2) := by decide +kernel
theorem dX12_takeFromTree_61 : decode cX12_takeFromTree 61 = .ok (.iload_n 1, 1) := by decide +kernel
theorem dX12_takeFromTree_62 : decode cX12_takeFromTree 62 = .ok (.imul, 1) := by decide +kernel
theorem dX12_takeFromTree_63 : decode cX12_takeFromTree 63 = .ok (.iload 4, 2) := by decide +kernel
theorem dX12_takeFromTree_65 : decode cX12_takeFromTree 65 = .ok (.iadd, 1) := by decide +kernel
theorem dX12_takeFromTree_66 : decode cX12_takeFromTree 66 = .ok (.iaload, 1) := by decide +kernel
theorem dX12_takeFromTree_67 : decode cX12_takeFromTree 67 = .ok (.istore 4, 2) := by decide +kernel
theorem dX12_takeFromTree_69 : decode cX12_takeFromTree 69 = .ok (.aload_n 0, 1) := by decide +kernel
theorem dX12_takeFromTree_70 : decode cX12_takeFromTree 70 = .ok (.dup, 1) := by decide +kernel
theorem dX12_takeFromTree_71 : decode cX12_takeFromTree 71 = .ok (.getfield 252, 3) := by decide +kernel
theorem dX12_takeFromTree_74 : decode cX12_takeFromTree 74 = .ok (.iconst 1, 1) := by decide +kernel
theorem dX12_takeFromTree_75 : decode cX12_takeFromTree 75 = .ok (.iadd, 1) := by decide +kernel
theorem dX12_takeFromTree_76 : decode cX12_takeFromTree 76 = .ok (.putfield 252, 3) := by decide +kernel
theorem dX12_takeFromTree_79 : decode cX12_takeFromTree 79 = .ok (.goto (-59), 3) := by decide +kernel
theorem dX12_takeFromTree_82 : decode cX12_takeFromTree 82 = .ok (.aload_n 0, 1) := by decide +kernel
theorem dX12_takeFromTree_83 : decode cX12_takeFromTree 83 = .ok (.getfield 56, 3) := by decide +kernel
theorem dX12_takeFromTree_86 : decode cX12_takeFromTree 86 = .ok (.iload_n 1, 1) := by decide +kernel
theorem dX12_takeFromTree_87 : decode cX12_takeFromTree 87 = .ok (.dup2, 1) := by decide +kernel
theorem dX12_takeFromTree_88 : decode cX12_takeFromTree 88 = .ok (.iaload, 1) := by decide +kernel
theorem dX12_takeFromTree_89 : decode cX12_takeFromTree 89 = .ok (.iconst 1, 1) := by decide +kernel
theorem dX12_takeFromTree_90 : decode cX12_takeFromTree 90 = .ok (.isub, 1) := by decide +kernel
theorem dX12_takeFromTree_91 : decode cX12_takeFromTree 91 = .ok (.iastore, 1) := by decide +kernel
theorem dX12_takeFromTree_92 : decode cX12_takeFromTree 92 = .ok (.aload_n 0, 1) := by decide +kernel
theorem dX12_takeFromTree_93 : decode cX12_takeFromTree 93 = .ok (.getfield 59, 3) := by decide +kernel
theorem dX12_takeFromTree_96 : decode cX12_takeFromTree 96 = .ok (.bipush 80, 2) := by decide +kernel
theorem dX12_takeFromTree_98 : decode cX12_takeFromTree 98 = .ok (.iload_n 1, 1) := by decide +kernel
theorem dX12_takeFromTree_99 : decode cX12_takeFromTree 99 = .ok (.imul, 1) := by decide +kernel
theorem dX12_takeFromTree_100 : decode cX12_takeFromTree 100 = .ok (.iload_n 2, 1) := by decide +kernel
theorem dX12_takeFromTree_101 : decode cX12_takeFromTree 101 = .ok (.iadd, 1) := by decide +kernel
theorem dX12_takeFromTree_102 : decode cX12_takeFromTree 102 = .ok (.iaload, 1) := by decide +kernel
theorem dX12_takeFromTree_103 : decode cX12_takeFromTree 103 = .ok (.istore 5, 2) := by decide +kernel
theorem dX12_takeFromTree_105 : decode cX12_takeFromTree 105 = .ok (.aload_n 0, 1) := by decide +kernel
theorem dX12_takeFromTree_106 : decode cX12_takeFromTree 106 = .ok (.getfield 62, 3) := by decide +kernel
theorem dX12_takeFromTree_109 : decode cX12_takeFromTree 109 = .ok (.bipush 80, 2) := by decide +kernel
theorem dX12_takeFromTree_111 : decode cX12_takeFromTree 111 = .ok (.iload_n 1, 1) := by decide +kernel
theorem dX12_takeFromTree_112 : decode cX12_takeFromTree 112 = .ok (.imul, 1) := by decide +kernel
theorem dX12_takeFromTree_113 : decode cX12_takeFromTree 113 = .ok (.iload_n 2, 1) := by decide +kernel
theorem dX12_takeFromTree_114 : decode cX12_takeFromTree 114 = .ok (.iadd, 1) := by decide +kernel
theorem dX12_takeFromTree_115 : decode cX12_takeFromTree 115 = .ok (.iaload, 1) := by decide +kernel
theorem dX12_takeFromTree_116 : decode cX12_takeFromTree 116 = .ok (.istore 6, 2) := by decide +kernel
theorem dX12_takeFromTree_118 : decode cX12_takeFromTree 118 = .ok (.iload 5, 2) := by decide +kernel
theorem dX12_takeFromTree_120 : decode cX12_takeFromTree 120 = .ok (.ifCond .lt 8, 3) := by decide +kernel
theorem dX12_takeFromTree_123 : decode cX12_takeFromTree 123 = .ok (.iload 6, 2) := by decide +kernel
theorem dX12_takeFromTree_125 : decode cX12_takeFromTree 125 = .ok (.ifCond .ge 23, 3) := by decide +kernel
theorem dX12_takeFromTree_128 : decode cX12_takeFromTree 128 = .ok (.aload_n 0, 1) := by decide +kernel
theorem dX12_takeFromTree_129 : decode cX12_takeFromTree 129 = .ok (.iload_n 1, 1) := by decide +kernel
theorem dX12_takeFromTree_130 : decode cX12_takeFromTree 130 = .ok (.iload_n 3, 1) := by decide +kernel
theorem dX12_takeFromTree_131 : decode cX12_takeFromTree 131 = .ok (.iload_n 2, 1) := by decide +kernel
theorem dX12_takeFromTree_132 : decode cX12_takeFromTree 132 = .ok (.iload 5, 2) := by decide +kernel
theorem dX12_takeFromTree_134 : decode cX12_takeFromTree 134 = .ok (.ifCond .ge 8, 3) := by decide +kernel
theorem dX12_takeFromTree_137 : decode cX12_takeFromTree 137 = .ok (.iload 6, 2) := by decide +kernel
theorem dX12_takeFromTree_139 : decode cX12_takeFromTree 139 = .ok (.goto 5, 3) := by decide +kernel
theorem dX12_takeFromTree_142 : decode cX12_takeFromTree 142 = .ok (.iload 5, 2) := by decide +kernel
theorem dX12_takeFromTree_144 : decode cX12_takeFromTree 144 = .ok (.invokevirtual 263, 3) := by decide +kernel
theorem dX12_takeFromTree_147 : decode cX12_takeFromTree 147 = .ok (.return_, 1) := by decide +kernel
theorem dX12_takeFromTree_148 : decode cX12_takeFromTree 148 = .ok (.iload_n 2, 1) := by decide +kernel
theorem dX12_takeFromTree_149 : decode cX12_takeFromTree 149 = .ok (.istore 7, 2) := by decide +kernel
theorem dX12_takeFromTree_151 : decode cX12_takeFromTree 151 = .ok (.iload 6, 2) := by decide +kernel
theorem dX12_takeFromTree_153 : decode cX12_takeFromTree 153 = .ok (.istore 8, 2) := by decide +kernel
theorem dX12_takeFromTree_155 : decode cX12_takeFromTree 155 = .ok (.aload_n 0, 1) := by decide +kernel
theorem dX12_takeFromTree_156 : decode cX12_takeFromTree 156 = .ok (.dup, 1) := by decide +kernel
theorem dX12_takeFromTree_157 : decode cX12_takeFromTree 157 = .ok (.getfield 252, 3) := by decide +kernel
theorem dX12_takeFromTree_160 : decode cX12_takeFromTree 160 = .ok (.iconst 1, 1) := by decide +kernel
theorem dX12_takeFromTree_161 : decode cX12_takeFromTree 161 = .ok (.iadd, 1) := by decide +kernel
theorem dX12_takeFromTree_162 : decode cX12_takeFromTree 162 = .ok (.putfield 252, 3) := by decide +kernel
theorem dX12_takeFromTree_165 : decode cX12_takeFromTree 165 = .ok (.aload_n 0, 1) := by decide +kernel
theorem dX12_takeFromTree_166 : decode cX12_takeFromTree 166 = .ok (.getfield 59, 3) := by decide +kernel
theorem dX12_takeFromTree_169 : decode cX12_takeFromTree 169 = .ok (.bipush 80, 2) := by decide +kernel
theorem dX12_takeFromTree_171 : decode cX12_takeFromTree 171 = .ok (.iload_n 1, 1) := by decide +kernel
theorem dX12_takeFromTree_172 : decode cX12_takeFromTree 172 = .ok (.imul, 1) := by decide +kernel
theorem dX12_takeFromTree_173 : decode cX12_takeFromTree 173 = .ok (.iload 8, 2) := by decide +kernel
theorem dX12_takeFromTree_175 : decode cX12_takeFromTree 175 = .ok (.iadd, 1) := by decide +kernel
theorem dX12_takeFromTree_176 : decode cX12_takeFromTree 176 = .ok (.iaload, 1) := by decide +kernel
theorem dX12_takeFromTree_177 : decode cX12_takeFromTree 177 = .ok (.ifCond .lt 34, 3) := by decide +kernel
theorem dX12_takeFromTree_180 : decode cX12_takeFromTree 180 = .ok (.iload 8, 2) := by decide +kernel
theorem dX12_takeFromTree_182 : decode cX12_takeFromTree 182 = .ok (.istore 7, 2) := by decide +kernel
theorem dX12_takeFromTree_184 : decode cX12_takeFromTree 184 = .ok (.aload_n 0, 1) := by decide +kernel
theorem dX12_takeFromTree_185 : decode cX12_takeFromTree 185 = .ok (.getfield 59, 3) := by decide +kernel
theorem dX12_takeFromTree_188 : decode cX12_takeFromTree 188 = .ok (.bipush 80, 2) := by decide +kernel
theorem dX12_takeFromTree_190 : decode cX12_takeFromTree 190 = .ok (.iload_n 1, 1) := by decide +kernel
theorem dX12_takeFromTree_191 : decode cX12_takeFromTree 191 = .ok (.imul, 1) := by decide +kernel
theorem dX12_takeFromTree_192 : decode cX12_takeFromTree 192 = .ok (.iload 8, 2) := by decide +kernel
theorem dX12_takeFromTree_194 : decode cX12_takeFromTree 194 = .ok (.iadd, 1) := by decide +kernel
theorem dX12_takeFromTree_195 : decode cX12_takeFromTree 195 = .ok (.iaload, 1) := by decide +kernel
theorem dX12_takeFromTree_196 : decode cX12_takeFromTree 196 = .ok (.istore 8, 2) := by decide +kernel
theorem dX12_takeFromTree_198 : decode cX12_takeFromTree 198 = .ok (.aload_n 0, 1) := by decide +kernel
theorem dX12_takeFromTree_199 : decode cX12_takeFromTree 199 = .ok (.dup, 1) := by decide +kernel
theorem dX12_takeFromTree_200 : decode cX12_takeFromTree 200 = .ok (.getfield 252, 3) := by decide +kernel
theorem dX12_takeFromTree_203 : decode cX12_takeFromTree 203 = .ok (.iconst 1, 1) := by decide +kernel
theorem dX12_takeFromTree_204 : decode cX12_takeFromTree 204 = .ok (.iadd, 1) := by decide +kernel
theorem dX12_takeFromTree_205 : decode cX12_takeFromTree 205 = .ok (.putfield 252, 3) := by decide +kernel
theorem dX12_takeFromTree_208 : decode cX12_takeFromTree 208 = .ok (.goto (-43), 3) := by decide +kernel
theorem dX12_takeFromTree_211 : decode cX12_takeFromTree 211 = .ok (.iload 7, 2) := by decide +kernel
theorem dX12_takeFromTree_213 : decode cX12_takeFromTree 213 = .ok (.iload_n 2, 1) := by decide +kernel
theorem dX12_takeFromTree_214 : decode cX12_takeFromTree 214 = .ok (.if_icmp .eq 41, 3) := by decide +kernel
theorem dX12_takeFromTree_217 : decode cX12_takeFromTree 217 = .ok (.aload_n 0, 1) := by decide +kernel
theorem dX12_takeFromTree_218 : decode cX12_takeFromTree 218 = .ok (.getfield 59, 3) := by decide +kernel
theorem dX12_takeFromTree_221 : decode cX12_takeFromTree 221 = .ok (.bipush 80, 2) := by decide +kernel
theorem dX12_takeFromTree_223 : decode cX12_takeFromTree 223 = .ok (.iload_n 1, 1) := by decide +kernel
theorem dX12_takeFromTree_224 : decode cX12_takeFromTree 224 = .ok (.imul, 1) := by decide +kernel
theorem dX12_takeFromTree_225 : decode cX12_takeFromTree 225 = .ok (.iload 7, 2) := by decide +kernel
theorem dX12_takeFromTree_227 : decode cX12_takeFromTree 227 = .ok (.iadd, 1) := by decide +kernel
theorem dX12_takeFromTree_228 : decode cX12_takeFromTree 228 = .ok (.aload_n 0, 1) := by decide +kernel
theorem dX12_takeFromTree_229 : decode cX12_takeFromTree 229 = .ok (.getfield 62, 3) := by decide +kernel
theorem dX12_takeFromTree_232 : decode cX12_takeFromTree 232 = .ok (.bipush 80, 2) := by decide +kernel
theorem dX12_takeFromTree_234 : decode cX12_takeFromTree 234 = .ok (.iload_n 1, 1) := by decide +kernel
theorem dX12_takeFromTree_235 : decode cX12_takeFromTree 235 = .ok (.imul, 1) := by decide +kernel
theorem dX12_takeFromTree_236 : decode cX12_takeFromTree 236 = .ok (.iload 8, 2) := by decide +kernel
theorem dX12_takeFromTree_238 : decode cX12_takeFromTree 238 = .ok (.iadd, 1) := by decide +kernel
theorem dX12_takeFromTree_239 : decode cX12_takeFromTree 239 = .ok (.iaload, 1) := by decide +kernel
theorem dX12_takeFromTree_240 : decode cX12_takeFromTree 240 = .ok (.iastore, 1) := by decide +kernel
theorem dX12_takeFromTree_241 : decode cX12_takeFromTree 241 = .ok (.aload_n 0, 1) := by decide +kernel
theorem dX12_takeFromTree_242 : decode cX12_takeFromTree 242 = .ok (.getfield 62, 3) := by decide +kernel
theorem dX12_takeFromTree_245 : decode cX12_takeFromTree 245 = .ok (.bipush 80, 2) := by decide +kernel
theorem dX12_takeFromTree_247 : decode cX12_takeFromTree 247 = .ok (.iload_n 1, 1) := by decide +kernel
theorem dX12_takeFromTree_248 : decode cX12_takeFromTree 248 = .ok (.imul, 1) := by decide +kernel
theorem dX12_takeFromTree_249 : decode cX12_takeFromTree 249 = .ok (.iload 8, 2) := by decide +kernel
theorem dX12_takeFromTree_251 : decode cX12_takeFromTree 251 = .ok (.iadd, 1) := by decide +kernel
theorem dX12_takeFromTree_252 : decode cX12_takeFromTree 252 = .ok (.iload 6, 2) := by decide +kernel
theorem dX12_takeFromTree_254 : decode cX12_takeFromTree 254 = .ok (.iastore, 1) := by decide +kernel
theorem dX12_takeFromTree_255 : decode cX12_takeFromTree 255 = .ok (.aload_n 0, 1) := by decide +kernel
theorem dX12_takeFromTree_256 : decode cX12_takeFromTree 256 = .ok (.getfield 59, 3) := by decide +kernel
theorem dX12_takeFromTree_259 : decode cX12_takeFromTree 259 = .ok (.bipush 80, 2) := by decide +kernel
theorem dX12_takeFromTree_261 : decode cX12_takeFromTree 261 = .ok (.iload_n 1, 1) := by decide +kernel
theorem dX12_takeFromTree_262 : decode cX12_takeFromTree 262 = .ok (.imul, 1) := by decide +kernel
theorem dX12_takeFromTree_263 : decode cX12_takeFromTree 263 = .ok (.iload 8, 2) := by decide +kernel
theorem dX12_takeFromTree_265 : decode cX12_takeFromTree 265 = .ok (.iadd, 1) := by decide +kernel
theorem dX12_takeFromTree_266 : decode cX12_takeFromTree 266 = .ok (.iload 5, 2) := by decide +kernel
theorem dX12_takeFromTree_268 : decode cX12_takeFromTree 268 = .ok (.iastore, 1) := by decide +kernel
theorem dX12_takeFromTree_269 : decode cX12_takeFromTree 269 = .ok (.aload_n 0, 1) := by decide +kernel
theorem dX12_takeFromTree_270 : decode cX12_takeFromTree 270 = .ok (.iload_n 1, 1) := by decide +kernel
theorem dX12_takeFromTree_271 : decode cX12_takeFromTree 271 = .ok (.iload_n 3, 1) := by decide +kernel
theorem dX12_takeFromTree_272 : decode cX12_takeFromTree 272 = .ok (.iload_n 2, 1) := by decide +kernel
theorem dX12_takeFromTree_273 : decode cX12_takeFromTree 273 = .ok (.iload 8, 2) := by decide +kernel
theorem dX12_takeFromTree_275 : decode cX12_takeFromTree 275 = .ok (.invokevirtual 263, 3) := by decide +kernel
theorem dX12_takeFromTree_278 : decode cX12_takeFromTree 278 = .ok (.return_, 1) := by decide +kernel
theorem dX12_putIn_0 : decode cX12_putIn 0 = .ok (.aload_n 0, 1) := by decide +kernel
theorem dX12_putIn_1 : decode cX12_putIn 1 = .ok (.iconst 0, 1) := by decide +kernel
theorem dX12_putIn_2 : decode cX12_putIn 2 = .ok (.putfield 252, 3) := by decide +kernel
theorem dX12_putIn_5 : decode cX12_putIn 5 = .ok (.aload_n 0, 1) := by decide +kernel
theorem dX12_putIn_6 : decode cX12_putIn 6 = .ok (.getfield 47, 3) := by decide +kernel
theorem dX12_putIn_9 : decode cX12_putIn 9 = .ok (.iload_n 1, 1) := by decide +kernel
theorem dX12_putIn_10 : decode cX12_putIn 10 = .ok (.iaload, 1) := by decide +kernel
theorem dX12_putIn_11 : decode cX12_putIn 11 = .ok (.tableswitch 186 1 7 #[41, 61, 101, 131, 151, 160, 61], 41) := by decide +kernel
theorem dX12_putIn_52 : decode cX12_putIn 52 = .ok (.aload_n 0, 1) := by decide +kernel
theorem dX12_putIn_53 : decode cX12_putIn 53 = .ok (.iload_n 1, 1) := by decide +kernel
theorem dX12_putIn_54 : decode cX12_putIn 54 = .ok (.aload_n 0, 1) := by decide +kernel
theorem dX12_putIn_55 : decode cX12_putIn 55 = .ok (.getfield 56, 3) := by decide +kernel
theorem dX12_putIn_58 : decode cX12_putIn 58 = .ok (.iload_n 1, 1) := by decide +kernel
theorem dX12_putIn_59 : decode cX12_putIn 59 = .ok (.iaload, 1) := by decide +kernel
theorem dX12_putIn_60 : decode cX12_putIn 60 = .ok (.iload_n 2, 1) := by decide +kernel
theorem dX12_putIn_61 : decode cX12_putIn 61 = .ok (.invokevirtual 267, 3) := by decide +kernel
theorem dX12_putIn_64 : decode cX12_putIn 64 = .ok (.aload_n 0, 1) := by decide +kernel
theorem dX12_putIn_65 : decode cX12_putIn 65 = .ok (.iconst 1, 1) := by decide +kernel
theorem dX12_putIn_66 : decode cX12_putIn 66 = .ok (.putfield 252, 3) := by decide +kernel
theorem dX12_putIn_69 : decode cX12_putIn 69 = .ok (.goto 128, 3) := by decide +kernel
theorem dX12_putIn_72 : decode cX12_putIn 72 = .ok (.aload_n 0, 1) := by decide +kernel
theorem dX12_putIn_73 : decode cX12_putIn 73 = .ok (.iload_n 1, 1) := by decide +kernel
theorem dX12_putIn_74 : decode cX12_putIn 74 = .ok (.aload_n 0, 1) := by decide +kernel
theorem dX12_putIn_75 : decode cX12_putIn 75 = .ok (.iload_n 1, 1) := by decide +kernel
theorem dX12_putIn_76 : decode cX12_putIn 76 = .ok (.iload_n 2, 1) := by decide +kernel
theorem dX12_putIn_77 : decode cX12_putIn 77 = .ok (.invokevirtual 244, 3) := by decide +kernel
theorem dX12_putIn_80 : decode cX12_putIn 80 = .ok (.iload_n 2, 1) := by decide +kernel
theorem dX12_putIn_81 : decode cX12_putIn 81 = .ok (.invokevirtual 270, 3) := by decide +kernel
theorem dX12_putIn_84 : decode cX12_putIn 84 = .ok (.istore_n 3, 1) := by decide +kernel
theorem dX12_putIn_85 : decode cX12_putIn 85 = .ok (.aload_n 0, 1) := by decide +kernel
theorem dX12_putIn_86 : decode cX12_putIn 86 = .ok (.dup, 1) := by decide +kernel
theorem dX12_putIn_87 : decode cX12_putIn 87 = .ok (.getfield 252, 3) := by decide +kernel
theorem dX12_putIn_90 : decode cX12_putIn 90 = .ok (.aload_n 0, 1) := by decide +kernel
theorem dX12_putIn_91 : decode cX12_putIn 91 = .ok (.getfield 56, 3) := by decide +kernel
theorem dX12_putIn_94 : decode cX12_putIn 94 = .ok (.iload_n 1, 1) := by decide +kernel
theorem dX12_putIn_95 : decode cX12_putIn 95 = .ok (.iaload, 1) := by decide +kernel
theorem dX12_putIn_96 : decode cX12_putIn 96 = .ok (.iload_n 3, 1) := by decide +kernel
theorem dX12_putIn_97 : decode cX12_putIn 97 = .ok (.isub, 1) := by decide +kernel
theorem dX12_putIn_98 : decode cX12_putIn 98 = .ok (.iadd, 1) := by decide +kernel
theorem dX12_putIn_99 : decode cX12_putIn 99 = .ok (.putfield 252, 3) := by decide +kernel
theorem dX12_putIn_102 : decode cX12_putIn 102 = .ok (.aload_n 0, 1) := by decide +kernel
theorem dX12_putIn_103 : decode cX12_putIn 103 = .ok (.iload_n 1, 1) := by decide +kernel
theorem dX12_putIn_104 : decode cX12_putIn 104 = .ok (.iload_n 3, 1) := by decide +kernel
theorem dX12_putIn_105 : decode cX12_putIn 105 = .ok (.iload_n 2, 1) := by decide +kernel
theorem dX12_putIn_106 : decode cX12_putIn 106 = .ok (.invokevirtual 267, 3) := by decide +kernel
theorem dX12_putIn_109 : decode cX12_putIn 109 = .ok (.goto 88, 3) := by decide +kernel
theorem dX12_putIn_112 : decode cX12_putIn 112 = .ok (.aload_n 0, 1) := by decide +kernel
theorem dX12_putIn_113 : decode cX12_putIn 113 = .ok (.iload_n 1, 1) := by decide +kernel
theorem dX12_putIn_114 : decode cX12_putIn 114 = .ok (.aload_n 0, 1) := by decide +kernel
theorem dX12_putIn_115 : decode cX12_putIn 115 = .ok (.getfield 56, 3) := by decide +kernel
theorem dX12_putIn_118 : decode cX12_putIn 118 = .ok (.iload_n 1, 1) := by decide +kernel
theorem dX12_putIn_119 : decode cX12_putIn 119 = .ok (.iaload, 1) := by decide +kernel
theorem dX12_putIn_120 : decode cX12_putIn 120 = .ok (.iload_n 2, 1) := by decide +kernel
theorem dX12_putIn_121 : decode cX12_putIn 121 = .ok (.invokevirtual 267, 3) := by decide +kernel
theorem dX12_putIn_124 : decode cX12_putIn 124 = .ok (.aload_n 0, 1) := by decide +kernel
theorem dX12_putIn_125 : decode cX12_putIn 125 = .ok (.iload_n 1, 1) := by decide +kernel
theorem dX12_putIn_126 : decode cX12_putIn 126 = .ok (.aload_n 0, 1) := by decide +kernel
theorem dX12_putIn_127 : decode cX12_putIn 127 = .ok (.getfield 56, 3) := by decide +kernel
theorem dX12_putIn_130 : decode cX12_putIn 130 = .ok (.iload_n 1, 1) := by decide +kernel
theorem dX12_putIn_131 : decode cX12_putIn 131 = .ok (.iaload, 1) := by decide +kernel
theorem dX12_putIn_132 : decode cX12_putIn 132 = .ok (.iconst 1, 1) := by decide +kernel
theorem dX12_putIn_133 : decode cX12_putIn 133 = .ok (.isub, 1) := by decide +kernel
theorem dX12_putIn_134 : decode cX12_putIn 134 = .ok (.invokevirtual 273, 3) := by decide +kernel
theorem dX12_putIn_137 : decode cX12_putIn 137 = .ok (.istore 4, 2) := by decide +kernel
theorem dX12_putIn_139 : decode cX12_putIn 139 = .ok (.goto 58, 3) := by decide +kernel
theorem dX12_putIn_142 : decode cX12_putIn 142 = .ok (.aload_n 0, 1) := by decide +kernel
theorem dX12_putIn_143 : decode cX12_putIn 143 = .ok (.iload_n 1, 1) := by decide +kernel
theorem dX12_putIn_144 : decode cX12_putIn 144 = .ok (.aload_n 0, 1) := by decide +kernel
theorem dX12_putIn_145 : decode cX12_putIn 145 = .ok (.getfield 56, 3) := by decide +kernel
theorem dX12_putIn_148 : decode cX12_putIn 148 = .ok (.iload_n 1, 1) := by decide +kernel
theorem dX12_putIn_149 : decode cX12_putIn 149 = .ok (.iaload, 1) := by decide +kernel
theorem dX12_putIn_150 : decode cX12_putIn 150 = .ok (.iload_n 2, 1) := by decide +kernel
theorem dX12_putIn_151 : decode cX12_putIn 151 = .ok (.invokevirtual 267, 3) := by decide +kernel
theorem dX12_putIn_154 : decode cX12_putIn 154 = .ok (.aload_n 0, 1) := by decide +kernel
theorem dX12_putIn_155 : decode cX12_putIn 155 = .ok (.iconst 1, 1) := by decide +kernel
theorem dX12_putIn_156 : decode cX12_putIn 156 = .ok (.putfield 252, 3) := by decide +kernel
theorem dX12_putIn_159 : decode cX12_putIn 159 = .ok (.goto 38, 3) := by decide +kernel
theorem dX12_putIn_162 : decode cX12_putIn 162 = .ok (.aload_n 0, 1) := by decide +kernel
theorem dX12_putIn_163 : decode cX12_putIn 163 = .ok (.iload_n 1, 1) := by decide +kernel
theorem dX12_putIn_164 : decode cX12_putIn 164 = .ok (.iload_n 2, 1) := by decide +kernel
theorem dX12_putIn_165 : decode cX12_putIn 165 = .ok (.invokevirtual 276, 3) := by decide +kernel
theorem dX12_putIn_168 : decode cX12_putIn 168 = .ok (.goto 29, 3) := by decide +kernel
theorem dX12_putIn_171 : decode cX12_putIn 171 = .ok (.aload_n 0, 1) := by decide +kernel
theorem dX12_putIn_172 : decode cX12_putIn 172 = .ok (.getfield 68, 3) := by decide +kernel
theorem dX12_putIn_175 : decode cX12_putIn 175 = .ok (.iload_n 1, 1) := by decide +kernel
theorem dX12_putIn_176 : decode cX12_putIn 176 = .ok (.dup2, 1) := by decide +kernel
theorem dX12_putIn_177 : decode cX12_putIn 177 = .ok (.iaload, 1) := by decide +kernel
theorem dX12_putIn_178 : decode cX12_putIn 178 = .ok (.aload_n 0, 1) := by decide +kernel
theorem dX12_putIn_179 : decode cX12_putIn 179 = .ok (.iload_n 1, 1) := by decide +kernel
theorem dX12_putIn_180 : decode cX12_putIn 180 = .ok (.iload_n 2, 1) := by decide +kernel
theorem dX12_putIn_181 : decode cX12_putIn 181 = .ok (.invokevirtual 244, 3) := by decide +kernel
theorem dX12_putIn_184 : decode cX12_putIn 184 = .ok (.invokestatic 279, 3) := by decide +kernel
theorem dX12_putIn_187 : decode cX12_putIn 187 = .ok (.ior, 1) := by decide +kernel
theorem dX12_putIn_188 : decode cX12_putIn 188 = .ok (.iastore, 1) := by decide +kernel
theorem dX12_putIn_189 : decode cX12_putIn 189 = .ok (.aload_n 0, 1) := by decide +kernel
theorem dX12_putIn_190 : decode cX12_putIn 190 = .ok (.iconst 2, 1) := by decide +kernel
theorem dX12_putIn_191 : decode cX12_putIn 191 = .ok (.putfield 252, 3) := by decide +kernel
theorem dX12_putIn_194 : decode cX12_putIn 194 = .ok (.goto 3, 3) := by decide +kernel
theorem dX12_putIn_197 : decode cX12_putIn 197 = .ok (.aload_n 0, 1) := by decide +kernel
theorem dX12_putIn_198 : decode cX12_putIn 198 = .ok (.getfield 71, 3) := by decide +kernel
theorem dX12_putIn_201 : decode cX12_putIn 201 = .ok (.iload_n 1, 1) := by decide +kernel
theorem dX12_putIn_202 : decode cX12_putIn 202 = .ok (.dup2, 1) := by decide +kernel
theorem dX12_putIn_203 : decode cX12_putIn 203 = .ok (.iaload, 1) := by decide +kernel
theorem dX12_putIn_204 : decode cX12_putIn 204 = .ok (.aload_n 0, 1) := by decide +kernel
theorem dX12_putIn_205 : decode cX12_putIn 205 = .ok (.getfield 252, 3) := by decide +kernel
theorem dX12_putIn_208 : decode cX12_putIn 208 = .ok (.iadd, 1) := by decide +kernel
theorem dX12_putIn_209 : decode cX12_putIn 209 = .ok (.iastore, 1) := by decide +kernel
theorem dX12_putIn_210 : decode cX12_putIn 210 = .ok (.aload_n 0, 1) := by decide +kernel
theorem dX12_putIn_211 : decode cX12_putIn 211 = .ok (.getfield 74, 3) := by decide +kernel
theorem dX12_putIn_214 : decode cX12_putIn 214 = .ok (.iload_n 1, 1) := by decide +kernel
theorem dX12_putIn_215 : decode cX12_putIn 215 = .ok (.aload_n 0, 1) := by decide +kernel
theorem dX12_putIn_216 : decode cX12_putIn 216 = .ok (.getfield 252, 3) := by decide +kernel
theorem dX12_putIn_219 : decode cX12_putIn 219 = .ok (.iastore, 1) := by decide +kernel
theorem dX12_putIn_220 : decode cX12_putIn 220 = .ok (.return_, 1) := by decide +kernel
theorem dX12_takeFromHeap_0 : decode cX12_takeFromHeap 0 = .ok (.aload_n 0, 1) := by decide +kernel
theorem dX12_takeFromHeap_1 : decode cX12_takeFromHeap 1 = .ok (.iload_n 1, 1) := by decide +kernel
theorem dX12_takeFromHeap_2 : decode cX12_takeFromHeap 2 = .ok (.iload_n 2, 1) := by decide +kernel
theorem dX12_takeFromHeap_3 : decode cX12_takeFromHeap 3 = .ok (.invokevirtual 282, 3) := by decide +kernel
theorem dX12_takeFromHeap_6 : decode cX12_takeFromHeap 6 = .ok (.istore_n 3, 1) := by decide +kernel
theorem dX12_takeFromHeap_7 : decode cX12_takeFromHeap 7 = .ok (.aload_n 0, 1) := by decide +kernel
theorem dX12_takeFromHeap_8 : decode cX12_takeFromHeap 8 = .ok (.iload_n 3, 1) := by decide +kernel
theorem dX12_takeFromHeap_9 : decode cX12_takeFromHeap 9 = .ok (.iconst 1, 1) := by decide +kernel
theorem dX12_takeFromHeap_10 : decode cX12_takeFromHeap 10 = .ok (.iadd, 1) := by decide +kernel
theorem dX12_takeFromHeap_11 : decode cX12_takeFromHeap 11 = .ok (.putfield 252, 3) := by decide +kernel
theorem dX12_takeFromHeap_14 : decode cX12_takeFromHeap 14 = .ok (.aload_n 0, 1) := by decide +kernel
theorem dX12_takeFromHeap_15 : decode cX12_takeFromHeap 15 = .ok (.getfield 56, 3) := by decide +kernel
theorem dX12_takeFromHeap_18 : decode cX12_takeFromHeap 18 = .ok (.iload_n 1, 1) := by decide +kernel
theorem dX12_takeFromHeap_19 : decode cX12_takeFromHeap 19 = .ok (.dup2, 1) := by decide +kernel
theorem dX12_takeFromHeap_20 : decode cX12_takeFromHeap 20 = .ok (.iaload, 1) := by decide +kernel
theorem dX12_takeFromHeap_21 : decode cX12_takeFromHeap 21 = .ok (.iconst 1, 1) := by decide +kernel
theorem dX12_takeFromHeap_22 : decode cX12_takeFromHeap 22 = .ok (.isub, 1) := by decide +kernel
theorem dX12_takeFromHeap_23 : decode cX12_takeFromHeap 23 = .ok (.iastore, 1) := by decide +kernel
theorem dX12_takeFromHeap_24 : decode cX12_takeFromHeap 24 = .ok (.iload_n 3, 1) := by decide +kernel
theorem dX12_takeFromHeap_25 : decode cX12_takeFromHeap 25 = .ok (.aload_n 0, 1) := by decide +kernel
theorem dX12_takeFromHeap_26 : decode cX12_takeFromHeap 26 = .ok (.getfield 56, 3) := by decide +kernel
theorem dX12_takeFromHeap_29 : decode cX12_takeFromHeap 29 = .ok (.iload_n 1, 1) := by decide +kernel
theorem dX12_takeFromHeap_30 : decode cX12_takeFromHeap 30 = .ok (.iaload, 1) := by decide +kernel
theorem dX12_takeFromHeap_31 : decode cX12_takeFromHeap 31 = .ok (.if_icmp .ge 46, 3) := by decide +kernel
theorem dX12_takeFromHeap_34 : decode cX12_takeFromHeap 34 = .ok (.aload_n 0, 1) := by decide +kernel
theorem dX12_takeFromHeap_35 : decode cX12_takeFromHeap 35 = .ok (.getfield 53, 3) := by decide +kernel
theorem dX12_takeFromHeap_38 : decode cX12_takeFromHeap 38 = .ok (.bipush 80, 2) := by decide +kernel
theorem dX12_takeFromHeap_40 : decode cX12_takeFromHeap 40 = .ok (.iload_n 1, 1) := by decide +kernel
theorem dX12_takeFromHeap_41 : decode cX12_takeFromHeap 41 = .ok (.imul, 1) := by decide +kernel
theorem dX12_takeFromHeap_42 : decode cX12_takeFromHeap 42 = .ok (.iload_n 3, 1) := by decide +kernel
theorem dX12_takeFromHeap_43 : decode cX12_takeFromHeap 43 = .ok (.iadd, 1) := by decide +kernel
theorem dX12_takeFromHeap_44 : decode cX12_takeFromHeap 44 = .ok (.aload_n 0, 1) := by decide +kernel
theorem dX12_takeFromHeap_45 : decode cX12_takeFromHeap 45 = .ok (.getfield 53, 3) := by decide +kernel
theorem dX12_takeFromHeap_48 : decode cX12_takeFromHeap 48 = .ok (.bipush 80, 2) := by decide +kernel
theorem dX12_takeFromHeap_50 : decode cX12_takeFromHeap 50 = .ok (.iload_n 1, 1) := by decide +kernel
theorem dX12_takeFromHeap_51 : decode cX12_takeFromHeap 51 = .ok (.imul, 1) := by decide +kernel
theorem dX12_takeFromHeap_52 : decode cX12_takeFromHeap 52 = .ok (.aload_n 0, 1) := by decide +kernel
theorem dX12_takeFromHeap_53 : decode cX12_takeFromHeap 53 = .ok (.getfield 56, 3) := by decide +kernel
theorem dX12_takeFromHeap_56 : decode cX12_takeFromHeap 56 = .ok (.iload_n 1, 1) := by decide +kernel
theorem dX12_takeFromHeap_57 : decode cX12_takeFromHeap 57 = .ok (.iaload, 1) := by decide +kernel
theorem dX12_takeFromHeap_58 : decode cX12_takeFromHeap 58 = .ok (.iadd, 1) := by decide +kernel
theorem dX12_takeFromHeap_59 : decode cX12_takeFromHeap 59 = .ok (.iaload, 1) := by decide +kernel
theorem dX12_takeFromHeap_60 : decode cX12_takeFromHeap 60 = .ok (.iastore, 1) := by decide +kernel
theorem dX12_takeFromHeap_61 : decode cX12_takeFromHeap 61 = .ok (.aload_n 0, 1) := by decide +kernel
theorem dX12_takeFromHeap_62 : decode cX12_takeFromHeap 62 = .ok (.iload_n 1, 1) := by decide +kernel
theorem dX12_takeFromHeap_63 : decode cX12_takeFromHeap 63 = .ok (.iload_n 3, 1) := by decide +kernel
theorem dX12_takeFromHeap_64 : decode cX12_takeFromHeap 64 = .ok (.invokevirtual 273, 3) := by decide +kernel
theorem dX12_takeFromHeap_67 : decode cX12_takeFromHeap 67 = .ok (.iload_n 3, 1) := by decide +kernel
theorem dX12_takeFromHeap_68 : decode cX12_takeFromHeap 68 = .ok (.if_icmp .ne 9, 3) := by decide +kernel
theorem dX12_takeFromHeap_71 : decode cX12_takeFromHeap 71 = .ok (.aload_n 0, 1) := by decide +kernel
theorem dX12_takeFromHeap_72 : decode cX12_takeFromHeap 72 = .ok (.iload_n 1, 1) := by decide +kernel
theorem dX12_takeFromHeap_73 : decode cX12_takeFromHeap 73 = .ok (.iload_n 3, 1) := by decide +kernel
theorem dX12_takeFromHeap_74 : decode cX12_takeFromHeap 74 = .ok (.invokevirtual 285, 3) := by decide +kernel
theorem dX12_takeFromHeap_77 : decode cX12_takeFromHeap 77 = .ok (.return_, 1) := by decide +kernel
theorem dX12_inBucket_0 : decode cX12_inBucket 0 = .ok (.iconst 0, 1) := by decide +kernel
theorem dX12_inBucket_1 : decode cX12_inBucket 1 = .ok (.istore_n 3, 1) := by decide +kernel
theorem dX12_inBucket_2 : decode cX12_inBucket 2 = .ok (.iconst 0, 1) := by decide +kernel
theorem dX12_inBucket_3 : decode cX12_inBucket 3 = .ok (.istore 4, 2) := by decide +kernel
theorem dX12_inBucket_5 : decode cX12_inBucket 5 = .ok (.iload 4, 2) := by decide +kernel
theorem dX12_inBucket_7 : decode cX12_inBucket 7 = .ok (.aload_n 0, 1) := by decide +kernel
theorem dX12_inBucket_8 : decode cX12_inBucket 8 = .ok (.iload_n 1, 1) := by decide +kernel
theorem dX12_inBucket_9 : decode cX12_inBucket 9 = .ok (.iload_n 2, 1) := by decide +kernel
theorem dX12_inBucket_10 : decode cX12_inBucket 10 = .ok (.invokevirtual 282, 3) := by decide +kernel
theorem dX12_inBucket_13 : decode cX12_inBucket 13 = .ok (.if_icmp .gt 49, 3) := by decide +kernel
theorem dX12_inBucket_16 : decode cX12_inBucket 16 = .ok (.iload_n 3, 1) := by decide +kernel
theorem dX12_inBucket_17 : decode cX12_inBucket 17 = .ok (.aload_n 0, 1) := by decide +kernel
theorem dX12_inBucket_18 : decode cX12_inBucket 18 = .ok (.iload_n 1, 1) := by decide +kernel
theorem dX12_inBucket_19 : decode cX12_inBucket 19 = .ok (.aload_n 0, 1) := by decide +kernel
theorem dX12_inBucket_20 : decode cX12_inBucket 20 = .ok (.getfield 53, 3) := by decide +kernel
theorem dX12_inBucket_23 : decode cX12_inBucket 23 = .ok (.bipush 80, 2) := by decide +kernel
theorem dX12_inBucket_25 : decode cX12_inBucket 25 = .ok (.iload_n 1, 1) := by decide +kernel
theorem dX12_inBucket_26 : decode cX12_inBucket 26 = .ok (.imul, 1) := by decide +kernel
theorem dX12_inBucket_27 : decode cX12_inBucket 27 = .ok (.iload 4, 2) := by decide +kernel
theorem dX12_inBucket_29 : decode cX12_inBucket 29 = .ok (.iadd, 1) := by decide +kernel
theorem dX12_inBucket_30 : decode cX12_inBucket 30 = .ok (.iaload, 1) := by decide +kernel
theorem dX12_inBucket_31 : decode cX12_inBucket 31 = .ok (.invokevirtual 244, 3) := by decide +kernel
theorem dX12_inBucket_34 : decode cX12_inBucket 34 = .ok (.bipush 8, 2) := by decide +kernel
theorem dX12_inBucket_36 : decode cX12_inBucket 36 = .ok (.irem, 1) := by decide +kernel
theorem dX12_inBucket_37 : decode cX12_inBucket 37 = .ok (.aload_n 0, 1) := by decide +kernel
theorem dX12_inBucket_38 : decode cX12_inBucket 38 = .ok (.iload_n 1, 1) := by decide +kernel
theorem dX12_inBucket_39 : decode cX12_inBucket 39 = .ok (.iload_n 2, 1) := by decide +kernel
theorem dX12_inBucket_40 : decode cX12_inBucket 40 = .ok (.invokevirtual 244, 3) := by decide +kernel
theorem dX12_inBucket_43 : decode cX12_inBucket 43 = .ok (.bipush 8, 2) := by decide +kernel
theorem dX12_inBucket_45 : decode cX12_inBucket 45 = .ok (.irem, 1) := by decide +kernel
theorem dX12_inBucket_46 : decode cX12_inBucket 46 = .ok (.if_icmp .ne 7, 3) := by decide +kernel
theorem dX12_inBucket_49 : decode cX12_inBucket 49 = .ok (.iconst 1, 1) := by decide +kernel
theorem dX12_inBucket_50 : decode cX12_inBucket 50 = .ok (.goto 4, 3) := by decide +kernel
theorem dX12_inBucket_53 : decode cX12_inBucket 53 = .ok (.iconst 0, 1) := by decide +kernel
theorem dX12_inBucket_54 : decode cX12_inBucket 54 = .ok (.iadd, 1) := by decide +kernel
theorem dX12_inBucket_55 : decode cX12_inBucket 55 = .ok (.istore_n 3, 1) := by decide +kernel
theorem dX12_inBucket_56 : decode cX12_inBucket 56 = .ok (.iinc 4 1, 3) := by decide +kernel
theorem dX12_inBucket_59 : decode cX12_inBucket 59 = .ok (.goto (-54), 3) := by decide +kernel
theorem dX12_inBucket_62 : decode cX12_inBucket 62 = .ok (.iload_n 3, 1) := by decide +kernel
theorem dX12_inBucket_63 : decode cX12_inBucket 63 = .ok (.ireturn, 1) := by decide +kernel
theorem dX12_takeFrom_0 : decode cX12_takeFrom 0 = .ok (.aload_n 0, 1) := by decide +kernel
theorem dX12_takeFrom_1 : decode cX12_takeFrom 1 = .ok (.iconst 0, 1) := by decide +kernel
theorem dX12_takeFrom_2 : decode cX12_takeFrom 2 = .ok (.putfield 252, 3) := by decide +kernel
theorem dX12_takeFrom_5 : decode cX12_takeFrom 5 = .ok (.aload_n 0, 1) := by decide +kernel
theorem dX12_takeFrom_6 : decode cX12_takeFrom 6 = .ok (.getfield 47, 3) := by decide +kernel
theorem dX12_takeFrom_9 : decode cX12_takeFrom 9 = .ok (.iload_n 1, 1) := by decide +kernel
theorem dX12_takeFrom_10 : decode cX12_takeFrom 10 = .ok (.iaload, 1) := by decide +kernel
theorem dX12_takeFrom_11 : decode cX12_takeFrom 11 = .ok (.tableswitch 158 1 7 #[41, 67, 108, 117, 141, 150, 67], 41) := by decide +kernel
theorem dX12_takeFrom_52 : decode cX12_takeFrom 52 = .ok (.aload_n 0, 1) := by decide +kernel
theorem dX12_takeFrom_53 : decode cX12_takeFrom 53 = .ok (.aload_n 0, 1) := by decide +kernel
theorem dX12_takeFrom_54 : decode cX12_takeFrom 54 = .ok (.iload_n 1, 1) := by decide +kernel
theorem dX12_takeFrom_55 : decode cX12_takeFrom 55 = .ok (.iload_n 2, 1) := by decide +kernel
theorem dX12_takeFrom_56 : decode cX12_takeFrom 56 = .ok (.invokevirtual 282, 3) := by decide +kernel
theorem dX12_takeFrom_59 : decode cX12_takeFrom 59 = .ok (.iconst 1, 1) := by decide +kernel
theorem dX12_takeFrom_60 : decode cX12_takeFrom 60 = .ok (.iadd, 1) := by decide +kernel
theorem dX12_takeFrom_61 : decode cX12_takeFrom 61 = .ok (.putfield 252, 3) := by decide +kernel
theorem dX12_takeFrom_64 : decode cX12_takeFrom 64 = .ok (.aload_n 0, 1) := by decide +kernel
theorem dX12_takeFrom_65 : decode cX12_takeFrom 65 = .ok (.iload_n 1, 1) := by decide +kernel
theorem dX12_takeFrom_66 : decode cX12_takeFrom 66 = .ok (.aload_n 0, 1) := by decide +kernel
theorem dX12_takeFrom_67 : decode cX12_takeFrom 67 = .ok (.iload_n 1, 1) := by decide +kernel
theorem dX12_takeFrom_68 : decode cX12_takeFrom 68 = .ok (.iload_n 2, 1) := by decide +kernel
theorem dX12_takeFrom_69 : decode cX12_takeFrom 69 = .ok (.invokevirtual 282, 3) := by decide +kernel
theorem dX12_takeFrom_72 : decode cX12_takeFrom 72 = .ok (.invokevirtual 288, 3) := by decide +kernel
theorem dX12_takeFrom_75 : decode cX12_takeFrom 75 = .ok (.goto 94, 3) := by decide +kernel
theorem dX12_takeFrom_78 : decode cX12_takeFrom 78 = .ok (.aload_n 0, 1) := by decide +kernel
theorem dX12_takeFrom_79 : decode cX12_takeFrom 79 = .ok (.iload_n 1, 1) := by decide +kernel
theorem dX12_takeFrom_80 : decode cX12_takeFrom 80 = .ok (.aload_n 0, 1) := by decide +kernel
theorem dX12_takeFrom_81 : decode cX12_takeFrom 81 = .ok (.iload_n 1, 1) := by decide +kernel
theorem dX12_takeFrom_82 : decode cX12_takeFrom 82 = .ok (.iload_n 2, 1) := by decide +kernel
theorem dX12_takeFrom_83 : decode cX12_takeFrom 83 = .ok (.invokevirtual 244, 3) := by decide +kernel
theorem dX12_takeFrom_86 : decode cX12_takeFrom 86 = .ok (.iload_n 2, 1) := by decide +kernel
theorem dX12_takeFrom_87 : decode cX12_takeFrom 87 = .ok (.invokevirtual 270, 3) := by decide +kernel
theorem dX12_takeFrom_90 : decode cX12_takeFrom 90 = .ok (.istore_n 3, 1) := by decide +kernel
theorem dX12_takeFrom_91 : decode cX12_takeFrom 91 = .ok (.aload_n 0, 1) := by decide +kernel
theorem dX12_takeFrom_92 : decode cX12_takeFrom 92 = .ok (.dup, 1) := by decide +kernel
theorem dX12_takeFrom_93 : decode cX12_takeFrom 93 = .ok (.getfield 252, 3) := by decide +kernel
theorem dX12_takeFrom_96 : decode cX12_takeFrom 96 = .ok (.aload_n 0, 1) := by decide +kernel
theorem dX12_takeFrom_97 : decode cX12_takeFrom 97 = .ok (.getfield 56, 3) := by decide +kernel
theorem dX12_takeFrom_100 : decode cX12_takeFrom 100 = .ok (.iload_n 1, 1) := by decide +kernel
theorem dX12_takeFrom_101 : decode cX12_takeFrom 101 = .ok (.iaload, 1) := by decide +kernel
theorem dX12_takeFrom_102 : decode cX12_takeFrom 102 = .ok (.iconst 1, 1) := by decide +kernel
theorem dX12_takeFrom_103 : decode cX12_takeFrom 103 = .ok (.isub, 1) := by decide +kernel
theorem dX12_takeFrom_104 : decode cX12_takeFrom 104 = .ok (.iload_n 3, 1) := by decide +kernel
theorem dX12_takeFrom_105 : decode cX12_takeFrom 105 = .ok (.isub, 1) := by decide +kernel
theorem dX12_takeFrom_106 : decode cX12_takeFrom 106 = .ok (.iadd, 1) := by decide +kernel
theorem dX12_takeFrom_107 : decode cX12_takeFrom 107 = .ok (.putfield 252, 3) := by decide +kernel
theorem dX12_takeFrom_110 : decode cX12_takeFrom 110 = .ok (.aload_n 0, 1) := by decide +kernel
theorem dX12_takeFrom_111 : decode cX12_takeFrom 111 = .ok (.iload_n 1, 1) := by decide +kernel
theorem dX12_takeFrom_112 : decode cX12_takeFrom 112 = .ok (.iload_n 3, 1) := by decide +kernel
theorem dX12_takeFrom_113 : decode cX12_takeFrom 113 = .ok (.invokevirtual 288, 3) := by decide +kernel
theorem dX12_takeFrom_116 : decode cX12_takeFrom 116 = .ok (.goto 53, 3) := by decide +kernel
theorem dX12_takeFrom_119 : decode cX12_takeFrom 119 = .ok (.aload_n 0, 1) := by decide +kernel
theorem dX12_takeFrom_120 : decode cX12_takeFrom 120 = .ok (.iload_n 1, 1) := by decide +kernel
theorem dX12_takeFrom_121 : decode cX12_takeFrom 121 = .ok (.iload_n 2, 1) := by decide +kernel
theorem dX12_takeFrom_122 : decode cX12_takeFrom 122 = .ok (.invokevirtual 291, 3) := by decide +kernel
theorem dX12_takeFrom_125 : decode cX12_takeFrom 125 = .ok (.goto 44, 3) := by decide +kernel
theorem dX12_takeFrom_128 : decode cX12_takeFrom 128 = .ok (.aload_n 0, 1) := by decide +kernel
theorem dX12_takeFrom_129 : decode cX12_takeFrom 129 = .ok (.aload_n 0, 1) := by decide +kernel
theorem dX12_takeFrom_130 : decode cX12_takeFrom 130 = .ok (.iload_n 1, 1) := by decide +kernel
theorem dX12_takeFrom_131 : decode cX12_takeFrom 131 = .ok (.iload_n 2, 1) := by decide +kernel
theorem dX12_takeFrom_132 : decode cX12_takeFrom 132 = .ok (.invokevirtual 294, 3) := by decide +kernel
theorem dX12_takeFrom_135 : decode cX12_takeFrom 135 = .ok (.putfield 252, 3) := by decide +kernel
theorem dX12_takeFrom_138 : decode cX12_takeFrom 138 = .ok (.aload_n 0, 1) := by decide +kernel
theorem dX12_takeFrom_139 : decode cX12_takeFrom 139 = .ok (.iload_n 1, 1) := by decide +kernel
theorem dX12_takeFrom_140 : decode cX12_takeFrom 140 = .ok (.aload_n 0, 1) := by decide +kernel
theorem dX12_takeFrom_141 : decode cX12_takeFrom 141 = .ok (.iload_n 1, 1) := by decide +kernel
theorem dX12_takeFrom_142 : decode cX12_takeFrom 142 = .ok (.iload_n 2, 1) := by decide +kernel
theorem dX12_takeFrom_143 : decode cX12_takeFrom 143 = .ok (.invokevirtual 282, 3) := by decide +kernel
theorem dX12_takeFrom_146 : decode cX12_takeFrom 146 = .ok (.invokevirtual 288, 3) := by decide +kernel
theorem dX12_takeFrom_149 : decode cX12_takeFrom 149 = .ok (.goto 20, 3) := by decide +kernel
theorem dX12_takeFrom_152 : decode cX12_takeFrom 152 = .ok (.aload_n 0, 1) := by decide +kernel
theorem dX12_takeFrom_153 : decode cX12_takeFrom 153 = .ok (.iload_n 1, 1) := by decide +kernel
theorem dX12_takeFrom_154 : decode cX12_takeFrom 154 = .ok (.iload_n 2, 1) := by decide +kernel
theorem dX12_takeFrom_155 : decode cX12_takeFrom 155 = .ok (.invokevirtual 297, 3) := by decide +kernel
theorem dX12_takeFrom_158 : decode cX12_takeFrom 158 = .ok (.goto 11, 3) := by decide +kernel
theorem dX12_takeFrom_161 : decode cX12_takeFrom 161 = .ok (.aload_n 0, 1) := by decide +kernel
theorem dX12_takeFrom_162 : decode cX12_takeFrom 162 = .ok (.iconst 1, 1) := by decide +kernel
theorem dX12_takeFrom_163 : decode cX12_takeFrom 163 = .ok (.putfield 252, 3) := by decide +kernel
theorem dX12_takeFrom_166 : decode cX12_takeFrom 166 = .ok (.goto 3, 3) := by decide +kernel
theorem dX12_takeFrom_169 : decode cX12_takeFrom 169 = .ok (.aload_n 0, 1) := by decide +kernel
theorem dX12_takeFrom_170 : decode cX12_takeFrom 170 = .ok (.getfield 71, 3) := by decide +kernel
theorem dX12_takeFrom_173 : decode cX12_takeFrom 173 = .ok (.iload_n 1, 1) := by decide +kernel
theorem dX12_takeFrom_174 : decode cX12_takeFrom 174 = .ok (.dup2, 1) := by decide +kernel
theorem dX12_takeFrom_175 : decode cX12_takeFrom 175 = .ok (.iaload, 1) := by decide +kernel
theorem dX12_takeFrom_176 : decode cX12_takeFrom 176 = .ok (.aload_n 0, 1) := by decide +kernel
theorem dX12_takeFrom_177 : decode cX12_takeFrom 177 = .ok (.getfield 252, 3) := by decide +kernel
theorem dX12_takeFrom_180 : decode cX12_takeFrom 180 = .ok (.iadd, 1) := by decide +kernel
theorem dX12_takeFrom_181 : decode cX12_takeFrom 181 = .ok (.iastore, 1) := by decide +kernel
theorem dX12_takeFrom_182 : decode cX12_takeFrom 182 = .ok (.aload_n 0, 1) := by decide +kernel
theorem dX12_takeFrom_183 : decode cX12_takeFrom 183 = .ok (.getfield 74, 3) := by decide +kernel
theorem dX12_takeFrom_186 : decode cX12_takeFrom 186 = .ok (.iload_n 1, 1) := by decide +kernel
theorem dX12_takeFrom_187 : decode cX12_takeFrom 187 = .ok (.aload_n 0, 1) := by decide +kernel
theorem dX12_takeFrom_188 : decode cX12_takeFrom 188 = .ok (.getfield 252, 3) := by decide +kernel
theorem dX12_takeFrom_191 : decode cX12_takeFrom 191 = .ok (.iastore, 1) := by decide +kernel
theorem dX12_takeFrom_192 : decode cX12_takeFrom 192 = .ok (.return_, 1) := by decide +kernel
theorem dX12_stone_0 : decode cX12_stone 0 = .ok (.iload_n 1, 1) := by decide +kernel
theorem dX12_stone_1 : decode cX12_stone 1 = .ok (.i2l, 1) := by decide +kernel
theorem dX12_stone_2 : decode cX12_stone 2 = .ok (.lconst 0, 1) := by decide +kernel
theorem dX12_stone_3 : decode cX12_stone 3 = .ok (.ldc2_w 300, 3) := by decide +kernel
theorem dX12_stone_6 : decode cX12_stone 6 = .ok (.invokestatic 135, 3) := by decide +kernel
theorem dX12_stone_9 : decode cX12_stone 9 = .ok (.ifCond .eq 10, 3) := by decide +kernel
theorem dX12_stone_12 : decode cX12_stone 12 = .ok (.iload_n 2, 1) := by decide +kernel
theorem dX12_stone_13 : decode cX12_stone 13 = .ok (.invokestatic 168, 3) := by decide +kernel
theorem dX12_stone_16 : decode cX12_stone 16 = .ok (.ifCond .ne 5, 3) := by decide +kernel
theorem dX12_stone_19 : decode cX12_stone 19 = .ok (.iconst (-1), 1) := by decide +kernel
theorem dX12_stone_20 : decode cX12_stone 20 = .ok (.ireturn, 1) := by decide +kernel
theorem dX12_stone_21 : decode cX12_stone 21 = .ok (.aload_n 0, 1) := by decide +kernel
theorem dX12_stone_22 : decode cX12_stone 22 = .ok (.getfield 153, 3) := by decide +kernel
theorem dX12_stone_25 : decode cX12_stone 25 = .ok (.bipush 10, 2) := by decide +kernel
theorem dX12_stone_27 : decode cX12_stone 27 = .ok (.if_icmp .ne 6, 3) := by decide +kernel
theorem dX12_stone_30 : decode cX12_stone 30 = .ok (.bipush (-3), 2) := by decide +kernel
theorem dX12_stone_32 : decode cX12_stone 32 = .ok (.ireturn, 1) := by decide +kernel
theorem dX12_stone_33 : decode cX12_stone 33 = .ok (.aload_n 0, 1) := by decide +kernel
theorem dX12_stone_34 : decode cX12_stone 34 = .ok (.getfield 47, 3) := by decide +kernel
theorem dX12_stone_37 : decode cX12_stone 37 = .ok (.aload_n 0, 1) := by decide +kernel
theorem dX12_stone_38 : decode cX12_stone 38 = .ok (.getfield 153, 3) := by decide +kernel
theorem dX12_stone_41 : decode cX12_stone 41 = .ok (.iload_n 1, 1) := by decide +kernel
theorem dX12_stone_42 : decode cX12_stone 42 = .ok (.iastore, 1) := by decide +kernel
theorem dX12_stone_43 : decode cX12_stone 43 = .ok (.aload_n 0, 1) := by decide +kernel
theorem dX12_stone_44 : decode cX12_stone 44 = .ok (.getfield 50, 3) := by decide +kernel
theorem dX12_stone_47 : decode cX12_stone 47 = .ok (.aload_n 0, 1) := by decide +kernel
theorem dX12_stone_48 : decode cX12_stone 48 = .ok (.getfield 153, 3) := by decide +kernel
theorem dX12_stone_51 : decode cX12_stone 51 = .ok (.iload_n 2, 1) := by decide +kernel
theorem dX12_stone_52 : decode cX12_stone 52 = .ok (.iastore, 1) := by decide +kernel
theorem dX12_stone_53 : decode cX12_stone 53 = .ok (.aload_n 0, 1) := by decide +kernel
theorem dX12_stone_54 : decode cX12_stone 54 = .ok (.getfield 65, 3) := by decide +kernel
theorem dX12_stone_57 : decode cX12_stone 57 = .ok (.aload_n 0, 1) := by decide +kernel
theorem dX12_stone_58 : decode cX12_stone 58 = .ok (.getfield 153, 3) := by decide +kernel
theorem dX12_stone_61 : decode cX12_stone 61 = .ok (.iconst (-1), 1) := by decide +kernel
theorem dX12_stone_62 : decode cX12_stone 62 = .ok (.iastore, 1) := by decide +kernel
theorem dX12_stone_63 : decode cX12_stone 63 = .ok (.aload_n 0, 1) := by decide +kernel
theorem dX12_stone_64 : decode cX12_stone 64 = .ok (.dup, 1) := by decide +kernel
theorem dX12_stone_65 : decode cX12_stone 65 = .ok (.getfield 153, 3) := by decide +kernel
theorem dX12_stone_68 : decode cX12_stone 68 = .ok (.iconst 1, 1) := by decide +kernel
theorem dX12_stone_69 : decode cX12_stone 69 = .ok (.iadd, 1) := by decide +kernel
theorem dX12_stone_70 : decode cX12_stone 70 = .ok (.putfield 153, 3) := by decide +kernel
theorem dX12_stone_73 : decode cX12_stone 73 = .ok (.iconst 0, 1) := by decide +kernel
theorem dX12_stone_74 : decode cX12_stone 74 = .ok (.istore_n 3, 1) := by decide +kernel
theorem dX12_stone_75 : decode cX12_stone 75 = .ok (.iload_n 3, 1) := by decide +kernel
theorem dX12_stone_76 : decode cX12_stone 76 = .ok (.aload_n 0, 1) := by decide +kernel
theorem dX12_stone_77 : decode cX12_stone 77 = .ok (.getfield 130, 3) := by decide +kernel
theorem dX12_stone_80 : decode cX12_stone 80 = .ok (.if_icmp .ge 29, 3) := by decide +kernel
theorem dX12_stone_83 : decode cX12_stone 83 = .ok (.aload_n 0, 1) := by decide +kernel
theorem dX12_stone_84 : decode cX12_stone 84 = .ok (.getfield 13, 3) := by decide +kernel
theorem dX12_stone_87 : decode cX12_stone 87 = .ok (.iload_n 3, 1) := by decide +kernel
theorem dX12_stone_88 : decode cX12_stone 88 = .ok (.baload, 1) := by decide +kernel
theorem dX12_stone_89 : decode cX12_stone 89 = .ok (.ifCond .eq 14, 3) := by decide +kernel
theorem dX12_stone_92 : decode cX12_stone 92 = .ok (.aload_n 0, 1) := by decide +kernel
theorem dX12_stone_93 : decode cX12_stone 93 = .ok (.aload_n 0, 1) := by decide +kernel
theorem dX12_stone_94 : decode cX12_stone 94 = .ok (.getfield 153, 3) := by decide +kernel
theorem dX12_stone_97 : decode cX12_stone 97 = .ok (.iconst 1, 1) := by decide +kernel
theorem dX12_stone_98 : decode cX12_stone 98 = .ok (.isub, 1) := by decide +kernel
theorem dX12_stone_99 : decode cX12_stone 99 = .ok (.iload_n 3, 1) := by decide +kernel
theorem dX12_stone_100 : decode cX12_stone 100 = .ok (.invokevirtual 156, 3) := by decide +kernel
theorem dX12_stone_103 : decode cX12_stone 103 = .ok (.iinc 3 1, 3) := by decide +kernel
theorem dX12_stone_106 : decode cX12_stone 106 = .ok (.goto (-31), 3) := by decide +kernel
theorem dX12_stone_109 : decode cX12_stone 109 = .ok (.aload_n 0, 1) := by decide +kernel
theorem dX12_stone_110 : decode cX12_stone 110 = .ok (.getfield 153, 3) := by decide +kernel
theorem dX12_stone_113 : decode cX12_stone 113 = .ok (.iconst 1, 1) := by decide +kernel
theorem dX12_stone_114 : decode cX12_stone 114 = .ok (.isub, 1) := by decide +kernel
theorem dX12_stone_115 : decode cX12_stone 115 = .ok (.ireturn, 1) := by decide +kernel
theorem dX12_isStone_0 : decode cX12_isStone 0 = .ok (.iload_n 1, 1) := by decide +kernel
theorem dX12_isStone_1 : decode cX12_isStone 1 = .ok (.ifCond .lt 15, 3) := by decide +kernel
theorem dX12_isStone_4 : decode cX12_isStone 4 = .ok (.iload_n 1, 1) := by decide +kernel
theorem dX12_isStone_5 : decode cX12_isStone 5 = .ok (.aload_n 0, 1) := by decide +kernel
theorem dX12_isStone_6 : decode cX12_isStone 6 = .ok (.getfield 153, 3) := by decide +kernel
theorem dX12_isStone_9 : decode cX12_isStone 9 = .ok (.if_icmp .ge 7, 3) := by decide +kernel
theorem dX12_isStone_12 : decode cX12_isStone 12 = .ok (.iconst 1, 1) := by decide +kernel
theorem dX12_isStone_13 : decode cX12_isStone 13 = .ok (.goto 4, 3) := by decide +kernel
theorem dX12_isStone_16 : decode cX12_isStone 16 = .ok (.iconst 0, 1) := by decide +kernel
theorem dX12_isStone_17 : decode cX12_isStone 17 = .ok (.ireturn, 1) := by decide +kernel
theorem dX12_countOf_0 : decode cX12_countOf 0 = .ok (.iconst 0, 1) := by decide +kernel
theorem dX12_countOf_1 : decode cX12_countOf 1 = .ok (.istore_n 1, 1) := by decide +kernel
theorem dX12_countOf_2 : decode cX12_countOf 2 = .ok (.iconst 0, 1) := by decide +kernel
theorem dX12_countOf_3 : decode cX12_countOf 3 = .ok (.istore_n 2, 1) := by decide +kernel
theorem dX12_countOf_4 : decode cX12_countOf 4 = .ok (.iload_n 2, 1) := by decide +kernel
theorem dX12_countOf_5 : decode cX12_countOf 5 = .ok (.bipush 32, 2) := by decide +kernel
theorem dX12_countOf_7 : decode cX12_countOf 7 = .ok (.if_icmp .ge 17, 3) := by decide +kernel
theorem dX12_countOf_10 : decode cX12_countOf 10 = .ok (.iload_n 1, 1) := by decide +kernel
theorem dX12_countOf_11 : decode cX12_countOf 11 = .ok (.iload_n 0, 1) := by decide +kernel
theorem dX12_countOf_12 : decode cX12_countOf 12 = .ok (.iload_n 2, 1) := by decide +kernel
theorem dX12_countOf_13 : decode cX12_countOf 13 = .ok (.iushr, 1) := by decide +kernel
theorem dX12_countOf_14 : decode cX12_countOf 14 = .ok (.iconst 1, 1) := by decide +kernel
theorem dX12_countOf_15 : decode cX12_countOf 15 = .ok (.iand, 1) := by decide +kernel
theorem dX12_countOf_16 : decode cX12_countOf 16 = .ok (.iadd, 1) := by decide +kernel
theorem dX12_countOf_17 : decode cX12_countOf 17 = .ok (.istore_n 1, 1) := by decide +kernel
theorem dX12_countOf_18 : decode cX12_countOf 18 = .ok (.iinc 2 1, 3) := by decide +kernel
theorem dX12_countOf_21 : decode cX12_countOf 21 = .ok (.goto (-17), 3) := by decide +kernel
theorem dX12_countOf_24 : decode cX12_countOf 24 = .ok (.iload_n 1, 1) := by decide +kernel
theorem dX12_countOf_25 : decode cX12_countOf 25 = .ok (.ireturn, 1) := by decide +kernel
theorem dX12_ofStone_0 : decode cX12_ofStone 0 = .ok (.aload_n 0, 1) := by decide +kernel
theorem dX12_ofStone_1 : decode cX12_ofStone 1 = .ok (.iload_n 1, 1) := by decide +kernel
theorem dX12_ofStone_2 : decode cX12_ofStone 2 = .ok (.invokevirtual 302, 3) := by decide +kernel
theorem dX12_ofStone_5 : decode cX12_ofStone 5 = .ok (.ifCond .ne 5, 3) := by decide +kernel
theorem dX12_ofStone_8 : decode cX12_ofStone 8 = .ok (.iconst (-1), 1) := by decide +kernel
theorem dX12_ofStone_9 : decode cX12_ofStone 9 = .ok (.ireturn, 1) := by decide +kernel
theorem dX12_ofStone_10 : decode cX12_ofStone 10 = .ok (.iload_n 2, 1) := by decide +kernel
theorem dX12_ofStone_11 : decode cX12_ofStone 11 = .ok (.tableswitch 91 0 4 #[33, 40, 47, 77, 84], 33) := by decide +kernel
theorem dX12_ofStone_44 : decode cX12_ofStone 44 = .ok (.aload_n 0, 1) := by decide +kernel
theorem dX12_ofStone_45 : decode cX12_ofStone 45 = .ok (.getfield 47, 3) := by decide +kernel
theorem dX12_ofStone_48 : decode cX12_ofStone 48 = .ok (.iload_n 1, 1) := by decide +kernel
theorem dX12_ofStone_49 : decode cX12_ofStone 49 = .ok (.iaload, 1) := by decide +kernel
theorem dX12_ofStone_50 : decode cX12_ofStone 50 = .ok (.ireturn, 1) := by decide +kernel
theorem dX12_ofStone_51 : decode cX12_ofStone 51 = .ok (.aload_n 0, 1) := by decide +kernel
theorem dX12_ofStone_52 : decode cX12_ofStone 52 = .ok (.getfield 50, 3) := by decide +kernel
theorem dX12_ofStone_55 : decode cX12_ofStone 55 = .ok (.iload_n 1, 1) := by decide +kernel
theorem dX12_ofStone_56 : decode cX12_ofStone 56 = .ok (.iaload, 1) := by decide +kernel
theorem dX12_ofStone_57 : decode cX12_ofStone 57 = .ok (.ireturn, 1) := by decide +kernel
theorem dX12_ofStone_58 : decode cX12_ofStone 58 = .ok (.aload_n 0, 1) := by decide +kernel
theorem dX12_ofStone_59 : decode cX12_ofStone 59 = .ok (.getfield 47, 3) := by decide +kernel
theorem dX12_ofStone_62 : decode cX12_ofStone 62 = .ok (.iload_n 1, 1) := by decide +kernel
theorem dX12_ofStone_63 : decode cX12_ofStone 63 = .ok (.iaload, 1) := by decide +kernel
theorem dX12_ofStone_64 : decode cX12_ofStone 64 = .ok (.bipush 6, 2) := by decide +kernel
theorem dX12_ofStone_66 : decode cX12_ofStone 66 = .ok (.if_icmp .ne 15, 3) := by decide +kernel
theorem dX12_ofStone_69 : decode cX12_ofStone 69 = .ok (.aload_n 0, 1) := by decide +kernel
theorem dX12_ofStone_70 : decode cX12_ofStone 70 = .ok (.getfield 68, 3) := by decide +kernel
theorem dX12_ofStone_73 : decode cX12_ofStone 73 = .ok (.iload_n 1, 1) := by decide +kernel
theorem dX12_ofStone_74 : decode cX12_ofStone 74 = .ok (.iaload, 1) := by decide +kernel
theorem dX12_ofStone_75 : decode cX12_ofStone 75 = .ok (.invokestatic 305, 3) := by decide +kernel
theorem dX12_ofStone_78 : decode cX12_ofStone 78 = .ok (.goto 9, 3) := by decide +kernel
theorem dX12_ofStone_81 : decode cX12_ofStone 81 = .ok (.aload_n 0, 1) := by decide +kernel
theorem dX12_ofStone_82 : decode cX12_ofStone 82 = .ok (.getfield 56, 3) := by decide +kernel
theorem dX12_ofStone_85 : decode cX12_ofStone 85 = .ok (.iload_n 1, 1) := by decide +kernel
theorem dX12_ofStone_86 : decode cX12_ofStone 86 = .ok (.iaload, 1) := by decide +kernel
theorem dX12_ofStone_87 : decode cX12_ofStone 87 = .ok (.ireturn, 1) := by decide +kernel
theorem dX12_ofStone_88 : decode cX12_ofStone 88 = .ok (.aload_n 0, 1) := by decide +kernel
theorem dX12_ofStone_89 : decode cX12_ofStone 89 = .ok (.getfield 71, 3) := by decide +kernel
theorem dX12_ofStone_92 : decode cX12_ofStone 92 = .ok (.iload_n 1, 1) := by decide +kernel
theorem dX12_ofStone_93 : decode cX12_ofStone 93 = .ok (.iaload, 1) := by decide +kernel
theorem dX12_ofStone_94 : decode cX12_ofStone 94 = .ok (.ireturn, 1) := by decide +kernel
theorem dX12_ofStone_95 : decode cX12_ofStone 95 = .ok (.aload_n 0, 1) := by decide +kernel
theorem dX12_ofStone_96 : decode cX12_ofStone 96 = .ok (.getfield 74, 3) := by decide +kernel
theorem dX12_ofStone_99 : decode cX12_ofStone 99 = .ok (.iload_n 1, 1) := by decide +kernel
theorem dX12_ofStone_100 : decode cX12_ofStone 100 = .ok (.iaload, 1) := by decide +kernel
theorem dX12_ofStone_101 : decode cX12_ofStone 101 = .ok (.ireturn, 1) := by decide +kernel
theorem dX12_ofStone_102 : decode cX12_ofStone 102 = .ok (.iconst (-1), 1) := by decide +kernel
theorem dX12_ofStone_103 : decode cX12_ofStone 103 = .ok (.ireturn, 1) := by decide +kernel
theorem dX12_aheadOf_0 : decode cX12_aheadOf 0 = .ok (.iconst 0, 1) := by decide +kernel
theorem dX12_aheadOf_1 : decode cX12_aheadOf 1 = .ok (.istore_n 3, 1) := by decide +kernel
theorem dX12_aheadOf_2 : decode cX12_aheadOf 2 = .ok (.iconst 0, 1) := by decide +kernel
theorem dX12_aheadOf_3 : decode cX12_aheadOf 3 = .ok (.istore 4, 2) := by decide +kernel
theorem dX12_aheadOf_5 : decode cX12_aheadOf 5 = .ok (.iload 4, 2) := by decide +kernel
theorem dX12_aheadOf_7 : decode cX12_aheadOf 7 = .ok (.aload_n 0, 1) := by decide +kernel
theorem dX12_aheadOf_8 : decode cX12_aheadOf 8 = .ok (.getfield 130, 3) := by decide +kernel
theorem dX12_aheadOf_11 : decode cX12_aheadOf 11 = .ok (.if_icmp .ge 38, 3) := by decide +kernel
theorem dX12_aheadOf_14 : decode cX12_aheadOf 14 = .ok (.iload_n 3, 1) := by decide +kernel
theorem dX12_aheadOf_15 : decode cX12_aheadOf 15 = .ok (.aload_n 0, 1) := by decide +kernel
theorem dX12_aheadOf_16 : decode cX12_aheadOf 16 = .ok (.getfield 13, 3) := by decide +kernel
theorem dX12_aheadOf_19 : decode cX12_aheadOf 19 = .ok (.iload 4, 2) := by decide +kernel
theorem dX12_aheadOf_21 : decode cX12_aheadOf 21 = .ok (.baload, 1) := by decide +kernel
theorem dX12_aheadOf_22 : decode cX12_aheadOf 22 = .ok (.ifCond .eq 18, 3) := by decide +kernel
theorem dX12_aheadOf_25 : decode cX12_aheadOf 25 = .ok (.aload_n 0, 1) := by decide +kernel
theorem dX12_aheadOf_26 : decode cX12_aheadOf 26 = .ok (.iload_n 1, 1) := by decide +kernel
theorem dX12_aheadOf_27 : decode cX12_aheadOf 27 = .ok (.iload 4, 2) := by decide +kernel
theorem dX12_aheadOf_29 : decode cX12_aheadOf 29 = .ok (.iload_n 2, 1) := by decide +kernel
theorem dX12_aheadOf_30 : decode cX12_aheadOf 30 = .ok (.invokevirtual 255, 3) := by decide +kernel
theorem dX12_aheadOf_33 : decode cX12_aheadOf 33 = .ok (.ifCond .eq 7, 3) := by decide +kernel
theorem dX12_aheadOf_36 : decode cX12_aheadOf 36 = .ok (.iconst 1, 1) := by decide +kernel
theorem dX12_aheadOf_37 : decode cX12_aheadOf 37 = .ok (.goto 4, 3) := by decide +kernel
theorem dX12_aheadOf_40 : decode cX12_aheadOf 40 = .ok (.iconst 0, 1) := by decide +kernel
theorem dX12_aheadOf_41 : decode cX12_aheadOf 41 = .ok (.iadd, 1) := by decide +kernel
theorem dX12_aheadOf_42 : decode cX12_aheadOf 42 = .ok (.istore_n 3, 1) := by decide +kernel
theorem dX12_aheadOf_43 : decode cX12_aheadOf 43 = .ok (.iinc 4 1, 3) := by decide +kernel
theorem dX12_aheadOf_46 : decode cX12_aheadOf 46 = .ok (.goto (-41), 3) := by decide +kernel
theorem dX12_aheadOf_49 : decode cX12_aheadOf 49 = .ok (.iload_n 3, 1) := by decide +kernel
theorem dX12_aheadOf_50 : decode cX12_aheadOf 50 = .ok (.ireturn, 1) := by decide +kernel
theorem dX12_nameAt_0 : decode cX12_nameAt 0 = .ok (.aload_n 0, 1) := by decide +kernel
theorem dX12_nameAt_1 : decode cX12_nameAt 1 = .ok (.iload_n 1, 1) := by decide +kernel
theorem dX12_nameAt_2 : decode cX12_nameAt 2 = .ok (.invokevirtual 302, 3) := by decide +kernel
theorem dX12_nameAt_5 : decode cX12_nameAt 5 = .ok (.ifCond .eq 49, 3) := by decide +kernel
theorem dX12_nameAt_8 : decode cX12_nameAt 8 = .ok (.aload_n 0, 1) := by decide +kernel
theorem dX12_nameAt_9 : decode cX12_nameAt 9 = .ok (.getfield 47, 3) := by decide +kernel
theorem dX12_nameAt_12 : decode cX12_nameAt 12 = .ok (.iload_n 1, 1) := by decide +kernel
theorem dX12_nameAt_13 : decode cX12_nameAt 13 = .ok (.iaload, 1) := by decide +kernel
theorem dX12_nameAt_14 : decode cX12_nameAt 14 = .ok (.ifCond .eq 40, 3) := by decide +kernel
theorem dX12_nameAt_17 : decode cX12_nameAt 17 = .ok (.aload_n 0, 1) := by decide +kernel
theorem dX12_nameAt_18 : decode cX12_nameAt 18 = .ok (.getfield 47, 3) := by decide +kernel
theorem dX12_nameAt_21 : decode cX12_nameAt 21 = .ok (.iload_n 1, 1) := by decide +kernel
theorem dX12_nameAt_22 : decode cX12_nameAt 22 = .ok (.iaload, 1) := by decide +kernel
theorem dX12_nameAt_23 : decode cX12_nameAt 23 = .ok (.bipush 6, 2) := by decide +kernel
theorem dX12_nameAt_25 : decode cX12_nameAt 25 = .ok (.if_icmp .eq 29, 3) := by decide +kernel
theorem dX12_nameAt_28 : decode cX12_nameAt 28 = .ok (.iload_n 2, 1) := by decide +kernel
theorem dX12_nameAt_29 : decode cX12_nameAt 29 = .ok (.ifCond .lt 25, 3) := by decide +kernel
theorem dX12_nameAt_32 : decode cX12_nameAt 32 = .ok (.iload_n 2, 1) := by decide +kernel
theorem dX12_nameAt_33 : decode cX12_nameAt 33 = .ok (.aload_n 0, 1) := by decide +kernel
theorem dX12_nameAt_34 : decode cX12_nameAt 34 = .ok (.getfield 56, 3) := by decide +kernel
theorem dX12_nameAt_37 : decode cX12_nameAt 37 = .ok (.aload_n 0, 1) := by decide +kernel
theorem dX12_nameAt_38 : decode cX12_nameAt 38 = .ok (.iload_n 1, 1) := by decide +kernel
theorem dX12_nameAt_39 : decode cX12_nameAt 39 = .ok (.invokevirtual 302, 3) := by decide +kernel
theorem dX12_nameAt_42 : decode cX12_nameAt 42 = .ok (.ifCond .eq 7, 3) := by decide +kernel
theorem dX12_nameAt_45 : decode cX12_nameAt 45 = .ok (.iload_n 1, 1) := by decide +kernel
theorem dX12_nameAt_46 : decode cX12_nameAt 46 = .ok (.goto 4, 3) := by decide +kernel
theorem dX12_nameAt_49 : decode cX12_nameAt 49 = .ok (.iconst 0, 1) := by decide +kernel
theorem dX12_nameAt_50 : decode cX12_nameAt 50 = .ok (.iaload, 1) := by decide +kernel
theorem dX12_nameAt_51 : decode cX12_nameAt 51 = .ok (.if_icmp .lt 5, 3) := by decide +kernel
theorem dX12_nameAt_54 : decode cX12_nameAt 54 = .ok (.iconst (-1), 1) := by decide +kernel
theorem dX12_nameAt_55 : decode cX12_nameAt 55 = .ok (.ireturn, 1) := by decide +kernel
theorem dX12_nameAt_56 : decode cX12_nameAt 56 = .ok (.aload_n 0, 1) := by decide +kernel
theorem dX12_nameAt_57 : decode cX12_nameAt 57 = .ok (.getfield 47, 3) := by decide +kernel
theorem dX12_nameAt_60 : decode cX12_nameAt 60 = .ok (.iload_n 1, 1) := by decide +kernel
theorem dX12_nameAt_61 : decode cX12_nameAt 61 = .ok (.iaload, 1) := by decide +kernel
theorem dX12_nameAt_62 : decode cX12_nameAt 62 = .ok (.iconst 5, 1) := by decide +kernel
theorem dX12_nameAt_63 : decode cX12_nameAt 63 = .ok (.if_icmp .ne 32, 3) := by decide +kernel
theorem dX12_nameAt_66 : decode cX12_nameAt 66 = .ok (.iconst 0, 1) := by decide +kernel
theorem dX12_nameAt_67 : decode cX12_nameAt 67 = .ok (.istore_n 3, 1) := by decide +kernel
theorem dX12_nameAt_68 : decode cX12_nameAt 68 = .ok (.aload_n 0, 1) := by decide +kernel
theorem dX12_nameAt_69 : decode cX12_nameAt 69 = .ok (.getfield 13, 3) := by decide +kernel
theorem dX12_nameAt_72 : decode cX12_nameAt 72 = .ok (.iload_n 3, 1) := by decide +kernel
theorem dX12_nameAt_73 : decode cX12_nameAt 73 = .ok (.baload, 1) := by decide +kernel
theorem dX12_nameAt_74 : decode cX12_nameAt 74 = .ok (.ifCond .eq 13, 3) := by decide +kernel
theorem dX12_nameAt_77 : decode cX12_nameAt 77 = .ok (.aload_n 0, 1) := by decide +kernel
theorem dX12_nameAt_78 : decode cX12_nameAt 78 = .ok (.iload_n 1, 1) := by decide +kernel
theorem dX12_nameAt_79 : decode cX12_nameAt 79 = .ok (.iload_n 3, 1) := by decide +kernel
theorem dX12_nameAt_80 : decode cX12_nameAt 80 = .ok (.invokevirtual 308, 3) := by decide +kernel
theorem dX12_nameAt_83 : decode cX12_nameAt 83 = .ok (.iload_n 2, 1) := by decide +kernel
theorem dX12_nameAt_84 : decode cX12_nameAt 84 = .ok (.if_icmp .eq 9, 3) := by decide +kernel
theorem dX12_nameAt_87 : decode cX12_nameAt 87 = .ok (.iinc 3 1, 3) := by decide +kernel
theorem dX12_nameAt_90 : decode cX12_nameAt 90 = .ok (.goto (-22), 3) := by decide +kernel
theorem dX12_nameAt_93 : decode cX12_nameAt 93 = .ok (.iload_n 3, 1) := by decide +kernel
theorem dX12_nameAt_94 : decode cX12_nameAt 94 = .ok (.ireturn, 1) := by decide +kernel
theorem dX12_nameAt_95 : decode cX12_nameAt 95 = .ok (.aload_n 0, 1) := by decide +kernel
theorem dX12_nameAt_96 : decode cX12_nameAt 96 = .ok (.getfield 47, 3) := by decide +kernel
theorem dX12_nameAt_99 : decode cX12_nameAt 99 = .ok (.iload_n 1, 1) := by decide +kernel
theorem dX12_nameAt_100 : decode cX12_nameAt 100 = .ok (.iaload, 1) := by decide +kernel
theorem dX12_nameAt_101 : decode cX12_nameAt 101 = .ok (.iconst 4, 1) := by decide +kernel
theorem dX12_nameAt_102 : decode cX12_nameAt 102 = .ok (.if_icmp .eq 15, 3) := by decide +kernel
theorem dX12_nameAt_105 : decode cX12_nameAt 105 = .ok (.aload_n 0, 1) := by decide +kernel
theorem dX12_nameAt_106 : decode cX12_nameAt 106 = .ok (.getfield 53, 3) := by decide +kernel
theorem dX12_nameAt_109 : decode cX12_nameAt 109 = .ok (.bipush 80, 2) := by decide +kernel
theorem dX12_nameAt_111 : decode cX12_nameAt 111 = .ok (.iload_n 1, 1) := by decide +kernel
theorem dX12_nameAt_112 : decode cX12_nameAt 112 = .ok (.imul, 1) := by decide +kernel
theorem dX12_nameAt_113 : decode cX12_nameAt 113 = .ok (.iload_n 2, 1) := by decide +kernel
theorem dX12_nameAt_114 : decode cX12_nameAt 114 = .ok (.iadd, 1) := by decide +kernel
theorem dX12_nameAt_115 : decode cX12_nameAt 115 = .ok (.iaload, 1) := by decide +kernel
theorem dX12_nameAt_116 : decode cX12_nameAt 116 = .ok (.ireturn, 1) := by decide +kernel
theorem dX12_nameAt_117 : decode cX12_nameAt 117 = .ok (.iload_n 2, 1) := by decide +kernel
theorem dX12_nameAt_118 : decode cX12_nameAt 118 = .ok (.istore_n 3, 1) := by decide +kernel
theorem dX12_nameAt_119 : decode cX12_nameAt 119 = .ok (.iconst 0, 1) := by decide +kernel
theorem dX12_nameAt_120 : decode cX12_nameAt 120 = .ok (.istore 4, 2) := by decide +kernel
theorem dX12_nameAt_122 : decode cX12_nameAt 122 = .ok (.iload 4, 2) := by decide +kernel
theorem dX12_nameAt_124 : decode cX12_nameAt 124 = .ok (.bipush 8, 2) := by decide +kernel
theorem dX12_nameAt_126 : decode cX12_nameAt 126 = .ok (.if_icmp .ge 68, 3) := by decide +kernel
theorem dX12_nameAt_129 : decode cX12_nameAt 129 = .ok (.iconst 0, 1) := by decide +kernel
theorem dX12_nameAt_130 : decode cX12_nameAt 130 = .ok (.istore 5, 2) := by decide +kernel
theorem dX12_nameAt_132 : decode cX12_nameAt 132 = .ok (.iload 5, 2) := by decide +kernel
theorem dX12_nameAt_134 : decode cX12_nameAt 134 = .ok (.aload_n 0, 1) := by decide +kernel
theorem dX12_nameAt_135 : decode cX12_nameAt 135 = .ok (.getfield 56, 3) := by decide +kernel
theorem dX12_nameAt_138 : decode cX12_nameAt 138 = .ok (.iload_n 1, 1) := by decide +kernel
theorem dX12_nameAt_139 : decode cX12_nameAt 139 = .ok (.iaload, 1) := by decide +kernel
theorem dX12_nameAt_140 : decode cX12_nameAt 140 = .ok (.if_icmp .ge 48, 3) := by decide +kernel
theorem dX12_nameAt_143 : decode cX12_nameAt 143 = .ok (.aload_n 0, 1) := by decide +kernel
theorem dX12_nameAt_144 : decode cX12_nameAt 144 = .ok (.getfield 53, 3) := by decide +kernel
theorem dX12_nameAt_147 : decode cX12_nameAt 147 = .ok (.bipush 80, 2) := by decide +kernel
theorem dX12_nameAt_149 : decode cX12_nameAt 149 = .ok (.iload_n 1, 1) := by decide +kernel
theorem dX12_nameAt_150 : decode cX12_nameAt 150 = .ok (.imul, 1) := by decide +kernel
theorem dX12_nameAt_151 : decode cX12_nameAt 151 = .ok (.iload 5, 2) := by decide +kernel
theorem dX12_nameAt_153 : decode cX12_nameAt 153 = .ok (.iadd, 1) := by decide +kernel
theorem dX12_nameAt_154 : decode cX12_nameAt 154 = .ok (.iaload, 1) := by decide +kernel
theorem dX12_nameAt_155 : decode cX12_nameAt 155 = .ok (.istore 6, 2) := by decide +kernel
theorem dX12_nameAt_157 : decode cX12_nameAt 157 = .ok (.aload_n 0, 1) := by decide +kernel
theorem dX12_nameAt_158 : decode cX12_nameAt 158 = .ok (.iload_n 1, 1) := by decide +kernel
theorem dX12_nameAt_159 : decode cX12_nameAt 159 = .ok (.iload 6, 2) := by decide +kernel
theorem dX12_nameAt_161 : decode cX12_nameAt 161 = .ok (.invokevirtual 244, 3) := by decide +kernel
theorem dX12_nameAt_164 : decode cX12_nameAt 164 = .ok (.bipush 8, 2) := by decide +kernel
theorem dX12_nameAt_166 : decode cX12_nameAt 166 = .ok (.irem, 1) := by decide +kernel
theorem dX12_nameAt_167 : decode cX12_nameAt 167 = .ok (.iload 4, 2) := by decide +kernel
theorem dX12_nameAt_169 : decode cX12_nameAt 169 = .ok (.if_icmp .ne 13, 3) := by decide +kernel
theorem dX12_nameAt_172 : decode cX12_nameAt 172 = .ok (.iload_n 3, 1) := by decide +kernel
theorem dX12_nameAt_173 : decode cX12_nameAt 173 = .ok (.ifCond .ne 6, 3) := by decide +kernel
theorem dX12_nameAt_176 : decode cX12_nameAt 176 = .ok (.iload 6, 2) := by decide +kernel
theorem dX12_nameAt_178 : decode cX12_nameAt 178 = .ok (.ireturn, 1) := by decide +kernel
theorem dX12_nameAt_179 : decode cX12_nameAt 179 = .ok (.iinc 3 (-1), 3) := by decide +kernel
theorem dX12_nameAt_182 : decode cX12_nameAt 182 = .ok (.iinc 5 1, 3) := by decide +kernel
theorem dX12_nameAt_185 : decode cX12_nameAt 185 = .ok (.goto (-53), 3) := by decide +kernel
theorem dX12_nameAt_188 : decode cX12_nameAt 188 = .ok (.iinc 4 1, 3) := by decide +kernel
theorem dX12_nameAt_191 : decode cX12_nameAt 191 = .ok (.goto (-69), 3) := by decide +kernel
theorem dX12_nameAt_194 : decode cX12_nameAt 194 = .ok (.iconst (-1), 1) := by decide +kernel
theorem dX12_nameAt_195 : decode cX12_nameAt 195 = .ok (.ireturn, 1) := by decide +kernel
theorem dX12_isAbout_0 : decode cX12_isAbout 0 = .ok (.aload_n 0, 1) := by decide +kernel
theorem dX12_isAbout_1 : decode cX12_isAbout 1 = .ok (.getfield 26, 3) := by decide +kernel
theorem dX12_isAbout_4 : decode cX12_isAbout 4 = .ok (.iload_n 1, 1) := by decide +kernel
theorem dX12_isAbout_5 : decode cX12_isAbout 5 = .ok (.iaload, 1) := by decide +kernel
theorem dX12_isAbout_6 : decode cX12_isAbout 6 = .ok (.aload_n 0, 1) := by decide +kernel
theorem dX12_isAbout_7 : decode cX12_isAbout 7 = .ok (.getfield 50, 3) := by decide +kernel
theorem dX12_isAbout_10 : decode cX12_isAbout 10 = .ok (.iload_n 2, 1) := by decide +kernel
theorem dX12_isAbout_11 : decode cX12_isAbout 11 = .ok (.iaload, 1) := by decide +kernel
theorem dX12_isAbout_12 : decode cX12_isAbout 12 = .ok (.if_icmp .ne 7, 3) := by decide +kernel
theorem dX12_isAbout_15 : decode cX12_isAbout 15 = .ok (.iconst 1, 1) := by decide +kernel
theorem dX12_isAbout_16 : decode cX12_isAbout 16 = .ok (.goto 4, 3) := by decide +kernel
theorem dX12_isAbout_19 : decode cX12_isAbout 19 = .ok (.iconst 0, 1) := by decide +kernel
theorem dX12_isAbout_20 : decode cX12_isAbout 20 = .ok (.ireturn, 1) := by decide +kernel
theorem dX12_leastOf_0 : decode cX12_leastOf 0 = .ok (.iconst 0, 1) := by decide +kernel
theorem dX12_leastOf_1 : decode cX12_leastOf 1 = .ok (.istore_n 3, 1) := by decide +kernel
theorem dX12_leastOf_2 : decode cX12_leastOf 2 = .ok (.bipush 16, 2) := by decide +kernel
theorem dX12_leastOf_4 : decode cX12_leastOf 4 = .ok (.iload_n 1, 1) := by decide +kernel
theorem dX12_leastOf_5 : decode cX12_leastOf 5 = .ok (.imul, 1) := by decide +kernel
theorem dX12_leastOf_6 : decode cX12_leastOf 6 = .ok (.istore 4, 2) := by decide +kernel
theorem dX12_leastOf_8 : decode cX12_leastOf 8 = .ok (.iload 4, 2) := by decide +kernel
theorem dX12_leastOf_10 : decode cX12_leastOf 10 = .ok (.bipush 16, 2) := by decide +kernel
theorem dX12_leastOf_12 : decode cX12_leastOf 12 = .ok (.iload_n 1, 1) := by decide +kernel
theorem dX12_leastOf_13 : decode cX12_leastOf 13 = .ok (.imul, 1) := by decide +kernel
theorem dX12_leastOf_14 : decode cX12_leastOf 14 = .ok (.aload_n 0, 1) := by decide +kernel
theorem dX12_leastOf_15 : decode cX12_leastOf 15 = .ok (.getfield 35, 3) := by decide +kernel
theorem dX12_leastOf_18 : decode cX12_leastOf 18 = .ok (.iload_n 1, 1) := by decide +kernel
theorem dX12_leastOf_19 : decode cX12_leastOf 19 = .ok (.iaload, 1) := by decide +kernel
theorem dX12_leastOf_20 : decode cX12_leastOf 20 = .ok (.iadd, 1) := by decide +kernel
theorem dX12_leastOf_21 : decode cX12_leastOf 21 = .ok (.if_icmp .ge 79, 3) := by decide +kernel
theorem dX12_leastOf_24 : decode cX12_leastOf 24 = .ok (.aload_n 0, 1) := by decide +kernel
theorem dX12_leastOf_25 : decode cX12_leastOf 25 = .ok (.getfield 29, 3) := by decide +kernel
theorem dX12_leastOf_28 : decode cX12_leastOf 28 = .ok (.iload 4, 2) := by decide +kernel
theorem dX12_leastOf_30 : decode cX12_leastOf 30 = .ok (.iaload, 1) := by decide +kernel
theorem dX12_leastOf_31 : decode cX12_leastOf 31 = .ok (.bipush 61, 2) := by decide +kernel
theorem dX12_leastOf_33 : decode cX12_leastOf 33 = .ok (.if_icmp .ne 12, 3) := by decide +kernel
theorem dX12_leastOf_36 : decode cX12_leastOf 36 = .ok (.aload_n 0, 1) := by decide +kernel
theorem dX12_leastOf_37 : decode cX12_leastOf 37 = .ok (.iload 4, 2) := by decide +kernel
theorem dX12_leastOf_39 : decode cX12_leastOf 39 = .ok (.invokevirtual 213, 3) := by decide +kernel
theorem dX12_leastOf_42 : decode cX12_leastOf 42 = .ok (.goto 27, 3) := by decide +kernel
theorem dX12_leastOf_45 : decode cX12_leastOf 45 = .ok (.aload_n 0, 1) := by decide +kernel
theorem dX12_leastOf_46 : decode cX12_leastOf 46 = .ok (.getfield 29, 3) := by decide +kernel
theorem dX12_leastOf_49 : decode cX12_leastOf 49 = .ok (.iload 4, 2) := by decide +kernel
theorem dX12_leastOf_51 : decode cX12_leastOf 51 = .ok (.iaload, 1) := by decide +kernel
theorem dX12_leastOf_52 : decode cX12_leastOf 52 = .ok (.bipush 62, 2) := by decide +kernel
theorem dX12_leastOf_54 : decode cX12_leastOf 54 = .ok (.if_icmp .ne 14, 3) := by decide +kernel
theorem dX12_leastOf_57 : decode cX12_leastOf 57 = .ok (.aload_n 0, 1) := by decide +kernel
theorem dX12_leastOf_58 : decode cX12_leastOf 58 = .ok (.iload 4, 2) := by decide +kernel
theorem dX12_leastOf_60 : decode cX12_leastOf 60 = .ok (.invokevirtual 213, 3) := by decide +kernel
theorem dX12_leastOf_63 : decode cX12_leastOf 63 = .ok (.iconst 1, 1) := by decide +kernel
theorem dX12_leastOf_64 : decode cX12_leastOf 64 = .ok (.iadd, 1) := by decide +kernel
theorem dX12_leastOf_65 : decode cX12_leastOf 65 = .ok (.goto 4, 3) := by decide +kernel
theorem dX12_leastOf_68 : decode cX12_leastOf 68 = .ok (.iconst 0, 1) := by decide +kernel
theorem dX12_leastOf_69 : decode cX12_leastOf 69 = .ok (.istore 5, 2) := by decide +kernel
theorem dX12_leastOf_71 : decode cX12_leastOf 71 = .ok (.aload_n 0, 1) := by decide +kernel
theorem dX12_leastOf_72 : decode cX12_leastOf 72 = .ok (.iload 4, 2) := by decide +kernel
theorem dX12_leastOf_74 : decode cX12_leastOf 74 = .ok (.iload_n 2, 1) := by decide +kernel
theorem dX12_leastOf_75 : decode cX12_leastOf 75 = .ok (.invokevirtual 311, 3) := by decide +kernel
theorem dX12_leastOf_78 : decode cX12_leastOf 78 = .ok (.ifCond .eq 14, 3) := by decide +kernel
theorem dX12_leastOf_81 : decode cX12_leastOf 81 = .ok (.iload 5, 2) := by decide +kernel
theorem dX12_leastOf_83 : decode cX12_leastOf 83 = .ok (.iload_n 3, 1) := by decide +kernel
theorem dX12_leastOf_84 : decode cX12_leastOf 84 = .ok (.if_icmp .le 8, 3) := by decide +kernel
theorem dX12_leastOf_87 : decode cX12_leastOf 87 = .ok (.iload 5, 2) := by decide +kernel
theorem dX12_leastOf_89 : decode cX12_leastOf 89 = .ok (.goto 4, 3) := by decide +kernel
theorem dX12_leastOf_92 : decode cX12_leastOf 92 = .ok (.iload_n 3, 1) := by decide +kernel
theorem dX12_leastOf_93 : decode cX12_leastOf 93 = .ok (.istore_n 3, 1) := by decide +kernel
theorem dX12_leastOf_94 : decode cX12_leastOf 94 = .ok (.iinc 4 1, 3) := by decide +kernel
theorem dX12_leastOf_97 : decode cX12_leastOf 97 = .ok (.goto (-89), 3) := by decide +kernel
theorem dX12_leastOf_100 : decode cX12_leastOf 100 = .ok (.iload_n 3, 1) := by decide +kernel
theorem dX12_leastOf_101 : decode cX12_leastOf 101 = .ok (.ireturn, 1) := by decide +kernel
theorem dX12_mostOf_0 : decode cX12_mostOf 0 = .ok (.bipush 99, 2) := by decide +kernel
theorem dX12_mostOf_2 : decode cX12_mostOf 2 = .ok (.istore_n 3, 1) := by decide +kernel
theorem dX12_mostOf_3 : decode cX12_mostOf 3 = .ok (.bipush 16, 2) := by decide +kernel
theorem dX12_mostOf_5 : decode cX12_mostOf 5 = .ok (.iload_n 1, 1) := by decide +kernel
theorem dX12_mostOf_6 : decode cX12_mostOf 6 = .ok (.imul, 1) := by decide +kernel
theorem dX12_mostOf_7 : decode cX12_mostOf 7 = .ok (.istore 4, 2) := by decide +kernel
theorem dX12_mostOf_9 : decode cX12_mostOf 9 = .ok (.iload 4, 2) := by decide +kernel
theorem dX12_mostOf_11 : decode cX12_mostOf 11 = .ok (.bipush 16, 2) := by decide +kernel
theorem dX12_mostOf_13 : decode cX12_mostOf 13 = .ok (.iload_n 1, 1) := by decide +kernel
theorem dX12_mostOf_14 : decode cX12_mostOf 14 = .ok (.imul, 1) := by decide +kernel
theorem dX12_mostOf_15 : decode cX12_mostOf 15 = .ok (.aload_n 0, 1) := by decide +kernel
theorem dX12_mostOf_16 : decode cX12_mostOf 16 = .ok (.getfield 35, 3) := by decide +kernel
theorem dX12_mostOf_19 : decode cX12_mostOf 19 = .ok (.iload_n 1, 1) := by decide +kernel
theorem dX12_mostOf_20 : decode cX12_mostOf 20 = .ok (.iaload, 1) := by decide +kernel
theorem dX12_mostOf_21 : decode cX12_mostOf 21 = .ok (.iadd, 1) := by decide +kernel
theorem dX12_mostOf_22 : decode cX12_mostOf 22 = .ok (.if_icmp .ge 80, 3) := by decide +kernel
theorem dX12_mostOf_25 : decode cX12_mostOf 25 = .ok (.aload_n 0, 1) := by decide +kernel
theorem dX12_mostOf_26 : decode cX12_mostOf 26 = .ok (.getfield 29, 3) := by decide +kernel
theorem dX12_mostOf_29 : decode cX12_mostOf 29 = .ok (.iload 4, 2) := by decide +kernel
theorem dX12_mostOf_31 : decode cX12_mostOf 31 = .ok (.iaload, 1) := by decide +kernel
theorem dX12_mostOf_32 : decode cX12_mostOf 32 = .ok (.bipush 61, 2) := by decide +kernel
theorem dX12_mostOf_34 : decode cX12_mostOf 34 = .ok (.if_icmp .ne 12, 3) := by decide +kernel
theorem dX12_mostOf_37 : decode cX12_mostOf 37 = .ok (.aload_n 0, 1) := by decide +kernel
theorem dX12_mostOf_38 : decode cX12_mostOf 38 = .ok (.iload 4, 2) := by decide +kernel
theorem dX12_mostOf_40 : decode cX12_mostOf 40 = .ok (.invokevirtual 213, 3) := by decide +kernel
theorem dX12_mostOf_43 : decode cX12_mostOf 43 = .ok (.goto 28, 3) := by decide +kernel
theorem dX12_mostOf_46 : decode cX12_mostOf 46 = .ok (.aload_n 0, 1) := by decide +kernel
theorem dX12_mostOf_47 : decode cX12_mostOf 47 = .ok (.getfield 29, 3) := by decide +kernel
theorem dX12_mostOf_50 : decode cX12_mostOf 50 = .ok (.iload 4, 2) := by decide +kernel
theorem dX12_mostOf_52 : decode cX12_mostOf 52 = .ok (.iaload, 1) := by decide +kernel
theorem dX12_mostOf_53 : decode cX12_mostOf 53 = .ok (.bipush 60, 2) := by decide +kernel
theorem dX12_mostOf_55 : decode cX12_mostOf 55 = .ok (.if_icmp .ne 14, 3) := by decide +kernel
theorem dX12_mostOf_58 : decode cX12_mostOf 58 = .ok (.aload_n 0, 1) := by decide +kernel
theorem dX12_mostOf_59 : decode cX12_mostOf 59 = .ok (.iload 4, 2) := by decide +kernel
theorem dX12_mostOf_61 : decode cX12_mostOf 61 = .ok (.invokevirtual 213, 3) := by decide +kernel
theorem dX12_mostOf_64 : decode cX12_mostOf 64 = .ok (.iconst 1, 1) := by decide +kernel
theorem dX12_mostOf_65 : decode cX12_mostOf 65 = .ok (.isub, 1) := by decide +kernel
theorem dX12_mostOf_66 : decode cX12_mostOf 66 = .ok (.goto 5, 3) := by decide +kernel
theorem dX12_mostOf_69 : decode cX12_mostOf 69 = .ok (.bipush 99, 2) := by decide +kernel
theorem dX12_mostOf_71 : decode cX12_mostOf 71 = .ok (.istore 5, 2) := by decide +kernel
theorem dX12_mostOf_73 : decode cX12_mostOf 73 = .ok (.aload_n 0, 1) := by decide +kernel
theorem dX12_mostOf_74 : decode cX12_mostOf 74 = .ok (.iload 4, 2) := by decide +kernel
theorem dX12_mostOf_76 : decode cX12_mostOf 76 = .ok (.iload_n 2, 1) := by decide +kernel
theorem dX12_mostOf_77 : decode cX12_mostOf 77 = .ok (.invokevirtual 311, 3) := by decide +kernel
theorem dX12_mostOf_80 : decode cX12_mostOf 80 = .ok (.ifCond .eq 14, 3) := by decide +kernel
theorem dX12_mostOf_83 : decode cX12_mostOf 83 = .ok (.iload 5, 2) := by decide +kernel
theorem dX12_mostOf_85 : decode cX12_mostOf 85 = .ok (.iload_n 3, 1) := by decide +kernel
theorem dX12_mostOf_86 : decode cX12_mostOf 86 = .ok (.if_icmp .ge 8, 3) := by decide +kernel
theorem dX12_mostOf_89 : decode cX12_mostOf 89 = .ok (.iload 5, 2) := by decide +kernel
theorem dX12_mostOf_91 : decode cX12_mostOf 91 = .ok (.goto 4, 3) := by decide +kernel
theorem dX12_mostOf_94 : decode cX12_mostOf 94 = .ok (.iload_n 3, 1) := by decide +kernel
theorem dX12_mostOf_95 : decode cX12_mostOf 95 = .ok (.istore_n 3, 1) := by decide +kernel
theorem dX12_mostOf_96 : decode cX12_mostOf 96 = .ok (.iinc 4 1, 3) := by decide +kernel
theorem dX12_mostOf_99 : decode cX12_mostOf 99 = .ok (.goto (-90), 3) := by decide +kernel
theorem dX12_mostOf_102 : decode cX12_mostOf 102 = .ok (.iload_n 3, 1) := by decide +kernel
theorem dX12_mostOf_103 : decode cX12_mostOf 103 = .ok (.ireturn, 1) := by decide +kernel
theorem dX12_allAbout_0 : decode cX12_allAbout 0 = .ok (.iconst 1, 1) := by decide +kernel
theorem dX12_allAbout_1 : decode cX12_allAbout 1 = .ok (.istore_n 3, 1) := by decide +kernel
theorem dX12_allAbout_2 : decode cX12_allAbout 2 = .ok (.bipush 16, 2) := by decide +kernel
theorem dX12_allAbout_4 : decode cX12_allAbout 4 = .ok (.iload_n 1, 1) := by decide +kernel
theorem dX12_allAbout_5 : decode cX12_allAbout 5 = .ok (.imul, 1) := by decide +kernel
theorem dX12_allAbout_6 : decode cX12_allAbout 6 = .ok (.istore 4, 2) := by decide +kernel
theorem dX12_allAbout_8 : decode cX12_allAbout 8 = .ok (.iload 4, 2) := by decide +kernel
theorem dX12_allAbout_10 : decode cX12_allAbout 10 = .ok (.bipush 16, 2) := by decide +kernel
theorem dX12_allAbout_12 : decode cX12_allAbout 12 = .ok (.iload_n 1, 1) := by decide +kernel
theorem dX12_allAbout_13 : decode cX12_allAbout 13 = .ok (.imul, 1) := by decide +kernel
theorem dX12_allAbout_14 : decode cX12_allAbout 14 = .ok (.aload_n 0, 1) := by decide +kernel
theorem dX12_allAbout_15 : decode cX12_allAbout 15 = .ok (.getfield 35, 3) := by decide +kernel
theorem dX12_allAbout_18 : decode cX12_allAbout 18 = .ok (.iload_n 1, 1) := by decide +kernel
theorem dX12_allAbout_19 : decode cX12_allAbout 19 = .ok (.iaload, 1) := by decide +kernel
theorem dX12_allAbout_20 : decode cX12_allAbout 20 = .ok (.iadd, 1) := by decide +kernel
theorem dX12_allAbout_21 : decode cX12_allAbout 21 = .ok (.if_icmp .ge 29, 3) := by decide +kernel
theorem dX12_allAbout_24 : decode cX12_allAbout 24 = .ok (.iload_n 3, 1) := by decide +kernel
theorem dX12_allAbout_25 : decode cX12_allAbout 25 = .ok (.ifCond .eq 17, 3) := by decide +kernel
theorem dX12_allAbout_28 : decode cX12_allAbout 28 = .ok (.aload_n 0, 1) := by decide +kernel
theorem dX12_allAbout_29 : decode cX12_allAbout 29 = .ok (.iload 4, 2) := by decide +kernel
theorem dX12_allAbout_31 : decode cX12_allAbout 31 = .ok (.iload_n 2, 1) := by decide +kernel
theorem dX12_allAbout_32 : decode cX12_allAbout 32 = .ok (.invokevirtual 311, 3) := by decide +kernel
theorem dX12_allAbout_35 : decode cX12_allAbout 35 = .ok (.ifCond .eq 7, 3) := by decide +kernel
theorem dX12_allAbout_38 : decode cX12_allAbout 38 = .ok (.iconst 1, 1) := by decide +kernel
theorem dX12_allAbout_39 : decode cX12_allAbout 39 = .ok (.goto 4, 3) := by decide +kernel
theorem dX12_allAbout_42 : decode cX12_allAbout 42 = .ok (.iconst 0, 1) := by decide +kernel
theorem dX12_allAbout_43 : decode cX12_allAbout 43 = .ok (.istore_n 3, 1) := by decide +kernel
theorem dX12_allAbout_44 : decode cX12_allAbout 44 = .ok (.iinc 4 1, 3) := by decide +kernel
theorem dX12_allAbout_47 : decode cX12_allAbout 47 = .ok (.goto (-39), 3) := by decide +kernel
theorem dX12_allAbout_50 : decode cX12_allAbout 50 = .ok (.iload_n 3, 1) := by decide +kernel
theorem dX12_allAbout_51 : decode cX12_allAbout 51 = .ok (.ireturn, 1) := by decide +kernel
theorem dX12_bySums_0 : decode cX12_bySums 0 = .ok (.aload_n 0, 1) := by decide +kernel
theorem dX12_bySums_1 : decode cX12_bySums 1 = .ok (.getfield 47, 3) := by decide +kernel
theorem dX12_bySums_4 : decode cX12_bySums 4 = .ok (.iload_n 2, 1) := by decide +kernel
theorem dX12_bySums_5 : decode cX12_bySums 5 = .ok (.iaload, 1) := by decide +kernel
theorem dX12_bySums_6 : decode cX12_bySums 6 = .ok (.bipush 7, 2) := by decide +kernel
theorem dX12_bySums_8 : decode cX12_bySums 8 = .ok (.if_icmp .ne 53, 3) := by decide +kernel
theorem dX12_bySums_11 : decode cX12_bySums 11 = .ok (.aload_n 0, 1) := by decide +kernel
theorem dX12_bySums_12 : decode cX12_bySums 12 = .ok (.iload_n 1, 1) := by decide +kernel
theorem dX12_bySums_13 : decode cX12_bySums 13 = .ok (.iload_n 2, 1) := by decide +kernel
theorem dX12_bySums_14 : decode cX12_bySums 14 = .ok (.invokevirtual 314, 3) := by decide +kernel
theorem dX12_bySums_17 : decode cX12_bySums 17 = .ok (.ifCond .eq 44, 3) := by decide +kernel
theorem dX12_bySums_20 : decode cX12_bySums 20 = .ok (.aload_n 0, 1) := by decide +kernel
theorem dX12_bySums_21 : decode cX12_bySums 21 = .ok (.getfield 38, 3) := by decide +kernel
theorem dX12_bySums_24 : decode cX12_bySums 24 = .ok (.iload_n 1, 1) := by decide +kernel
theorem dX12_bySums_25 : decode cX12_bySums 25 = .ok (.iaload, 1) := by decide +kernel
theorem dX12_bySums_26 : decode cX12_bySums 26 = .ok (.bipush 110, 2) := by decide +kernel
theorem dX12_bySums_28 : decode cX12_bySums 28 = .ok (.if_icmp .eq 29, 3) := by decide +kernel
theorem dX12_bySums_31 : decode cX12_bySums 31 = .ok (.aload_n 0, 1) := by decide +kernel
theorem dX12_bySums_32 : decode cX12_bySums 32 = .ok (.getfield 38, 3) := by decide +kernel
theorem dX12_bySums_35 : decode cX12_bySums 35 = .ok (.iload_n 1, 1) := by decide +kernel
theorem dX12_bySums_36 : decode cX12_bySums 36 = .ok (.iaload, 1) := by decide +kernel
theorem dX12_bySums_37 : decode cX12_bySums 37 = .ok (.bipush 115, 2) := by decide +kernel
theorem dX12_bySums_39 : decode cX12_bySums 39 = .ok (.if_icmp .ne 22, 3) := by decide +kernel
theorem dX12_bySums_42 : decode cX12_bySums 42 = .ok (.aload_n 0, 1) := by decide +kernel
theorem dX12_bySums_43 : decode cX12_bySums 43 = .ok (.getfield 41, 3) := by decide +kernel
theorem dX12_bySums_46 : decode cX12_bySums 46 = .ok (.iload_n 1, 1) := by decide +kernel
theorem dX12_bySums_47 : decode cX12_bySums 47 = .ok (.iaload, 1) := by decide +kernel
theorem dX12_bySums_48 : decode cX12_bySums 48 = .ok (.aload_n 0, 1) := by decide +kernel
theorem dX12_bySums_49 : decode cX12_bySums 49 = .ok (.getfield 50, 3) := by decide +kernel
theorem dX12_bySums_52 : decode cX12_bySums 52 = .ok (.iload_n 2, 1) := by decide +kernel
theorem dX12_bySums_53 : decode cX12_bySums 53 = .ok (.iaload, 1) := by decide +kernel
theorem dX12_bySums_54 : decode cX12_bySums 54 = .ok (.if_icmp .ne 7, 3) := by decide +kernel
theorem dX12_bySums_57 : decode cX12_bySums 57 = .ok (.iconst 1, 1) := by decide +kernel
theorem dX12_bySums_58 : decode cX12_bySums 58 = .ok (.goto 4, 3) := by decide +kernel
theorem dX12_bySums_61 : decode cX12_bySums 61 = .ok (.iconst 0, 1) := by decide +kernel
theorem dX12_bySums_62 : decode cX12_bySums 62 = .ok (.ireturn, 1) := by decide +kernel
theorem dX12_seeAll_0 : decode cX12_seeAll 0 = .ok (.iconst 0, 1) := by decide +kernel
theorem dX12_seeAll_1 : decode cX12_seeAll 1 = .ok (.istore_n 3, 1) := by decide +kernel
theorem dX12_seeAll_2 : decode cX12_seeAll 2 = .ok (.iload_n 3, 1) := by decide +kernel
theorem dX12_seeAll_3 : decode cX12_seeAll 3 = .ok (.aload_n 0, 1) := by decide +kernel
theorem dX12_seeAll_4 : decode cX12_seeAll 4 = .ok (.getfield 56, 3) := by decide +kernel
theorem dX12_seeAll_7 : decode cX12_seeAll 7 = .ok (.iload_n 2, 1) := by decide +kernel
theorem dX12_seeAll_8 : decode cX12_seeAll 8 = .ok (.iaload, 1) := by decide +kernel
theorem dX12_seeAll_9 : decode cX12_seeAll 9 = .ok (.if_icmp .ge 35, 3) := by decide +kernel
theorem dX12_seeAll_12 : decode cX12_seeAll 12 = .ok (.aload_n 0, 1) := by decide +kernel
theorem dX12_seeAll_13 : decode cX12_seeAll 13 = .ok (.dup, 1) := by decide +kernel
theorem dX12_seeAll_14 : decode cX12_seeAll 14 = .ok (.getfield 225, 3) := by decide +kernel
theorem dX12_seeAll_17 : decode cX12_seeAll 17 = .ok (.iconst 1, 1) := by decide +kernel
theorem dX12_seeAll_18 : decode cX12_seeAll 18 = .ok (.iadd, 1) := by decide +kernel
theorem dX12_seeAll_19 : decode cX12_seeAll 19 = .ok (.putfield 225, 3) := by decide +kernel
theorem dX12_seeAll_22 : decode cX12_seeAll 22 = .ok (.aload_n 0, 1) := by decide +kernel
theorem dX12_seeAll_23 : decode cX12_seeAll 23 = .ok (.iload_n 1, 1) := by decide +kernel
theorem dX12_seeAll_24 : decode cX12_seeAll 24 = .ok (.aload_n 0, 1) := by decide +kernel
theorem dX12_seeAll_25 : decode cX12_seeAll 25 = .ok (.getfield 53, 3) := by decide +kernel
theorem dX12_seeAll_28 : decode cX12_seeAll 28 = .ok (.bipush 80, 2) := by decide +kernel
theorem dX12_seeAll_30 : decode cX12_seeAll 30 = .ok (.iload_n 2, 1) := by decide +kernel
theorem dX12_seeAll_31 : decode cX12_seeAll 31 = .ok (.imul, 1) := by decide +kernel
theorem dX12_seeAll_32 : decode cX12_seeAll 32 = .ok (.iload_n 3, 1) := by decide +kernel
theorem dX12_seeAll_33 : decode cX12_seeAll 33 = .ok (.iadd, 1) := by decide +kernel
theorem dX12_seeAll_34 : decode cX12_seeAll 34 = .ok (.iaload, 1) := by decide +kernel
theorem dX12_seeAll_35 : decode cX12_seeAll 35 = .ok (.invokevirtual 234, 3) := by decide +kernel
theorem dX12_seeAll_38 : decode cX12_seeAll 38 = .ok (.iinc 3 1, 3) := by decide +kernel
theorem dX12_seeAll_41 : decode cX12_seeAll 41 = .ok (.goto (-39), 3) := by decide +kernel
theorem dX12_seeAll_44 : decode cX12_seeAll 44 = .ok (.return_, 1) := by decide +kernel
theorem dX12_seeSorted_0 : decode cX12_seeSorted 0 = .ok (.aload_n 0, 1) := by decide +kernel
theorem dX12_seeSorted_1 : decode cX12_seeSorted 1 = .ok (.iconst 0, 1) := by decide +kernel
theorem dX12_seeSorted_2 : decode cX12_seeSorted 2 = .ok (.putfield 252, 3) := by decide +kernel
theorem dX12_seeSorted_5 : decode cX12_seeSorted 5 = .ok (.aload_n 0, 1) := by decide +kernel
theorem dX12_seeSorted_6 : decode cX12_seeSorted 6 = .ok (.iload_n 2, 1) := by decide +kernel
theorem dX12_seeSorted_7 : decode cX12_seeSorted 7 = .ok (.aload_n 0, 1) := by decide +kernel
theorem dX12_seeSorted_8 : decode cX12_seeSorted 8 = .ok (.iload_n 1, 1) := by decide +kernel
theorem dX12_seeSorted_9 : decode cX12_seeSorted 9 = .ok (.iload_n 2, 1) := by decide +kernel
theorem dX12_seeSorted_10 : decode cX12_seeSorted 10 = .ok (.invokevirtual 317, 3) := by decide +kernel
theorem dX12_seeSorted_13 : decode cX12_seeSorted 13 = .ok (.iconst (-1), 1) := by decide +kernel
theorem dX12_seeSorted_14 : decode cX12_seeSorted 14 = .ok (.invokevirtual 270, 3) := by decide +kernel
theorem dX12_seeSorted_17 : decode cX12_seeSorted 17 = .ok (.istore_n 3, 1) := by decide +kernel
theorem dX12_seeSorted_18 : decode cX12_seeSorted 18 = .ok (.aload_n 0, 1) := by decide +kernel
theorem dX12_seeSorted_19 : decode cX12_seeSorted 19 = .ok (.dup, 1) := by decide +kernel
theorem dX12_seeSorted_20 : decode cX12_seeSorted 20 = .ok (.getfield 225, 3) := by decide +kernel
theorem dX12_seeSorted_23 : decode cX12_seeSorted 23 = .ok (.aload_n 0, 1) := by decide +kernel
theorem dX12_seeSorted_24 : decode cX12_seeSorted 24 = .ok (.getfield 252, 3) := by decide +kernel
theorem dX12_seeSorted_27 : decode cX12_seeSorted 27 = .ok (.iadd, 1) := by decide +kernel
theorem dX12_seeSorted_28 : decode cX12_seeSorted 28 = .ok (.putfield 225, 3) := by decide +kernel
theorem dX12_seeSorted_31 : decode cX12_seeSorted 31 = .ok (.iload_n 3, 1) := by decide +kernel
theorem dX12_seeSorted_32 : decode cX12_seeSorted 32 = .ok (.aload_n 0, 1) := by decide +kernel
theorem dX12_seeSorted_33 : decode cX12_seeSorted 33 = .ok (.getfield 56, 3) := by decide +kernel
theorem dX12_seeSorted_36 : decode cX12_seeSorted 36 = .ok (.iload_n 2, 1) := by decide +kernel
theorem dX12_seeSorted_37 : decode cX12_seeSorted 37 = .ok (.iaload, 1) := by decide +kernel
theorem dX12_seeSorted_38 : decode cX12_seeSorted 38 = .ok (.if_icmp .ge 7, 3) := by decide +kernel
theorem dX12_seeSorted_41 : decode cX12_seeSorted 41 = .ok (.iconst 1, 1) := by decide +kernel
theorem dX12_seeSorted_42 : decode cX12_seeSorted 42 = .ok (.goto 4, 3) := by decide +kernel
theorem dX12_seeSorted_45 : decode cX12_seeSorted 45 = .ok (.iconst 0, 1) := by decide +kernel
theorem dX12_seeSorted_46 : decode cX12_seeSorted 46 = .ok (.istore 4, 2) := by decide +kernel
theorem dX12_seeSorted_48 : decode cX12_seeSorted 48 = .ok (.iload 4, 2) := by decide +kernel
theorem dX12_seeSorted_50 : decode cX12_seeSorted 50 = .ok (.ifCond .eq 89, 3) := by decide +kernel
theorem dX12_seeSorted_53 : decode cX12_seeSorted 53 = .ok (.aload_n 0, 1) := by decide +kernel
theorem dX12_seeSorted_54 : decode cX12_seeSorted 54 = .ok (.getfield 53, 3) := by decide +kernel
theorem dX12_seeSorted_57 : decode cX12_seeSorted 57 = .ok (.bipush 80, 2) := by decide +kernel
theorem dX12_seeSorted_59 : decode cX12_seeSorted 59 = .ok (.iload_n 2, 1) := by decide +kernel
theorem dX12_seeSorted_60 : decode cX12_seeSorted 60 = .ok (.imul, 1) := by decide +kernel
theorem dX12_seeSorted_61 : decode cX12_seeSorted 61 = .ok (.iload_n 3, 1) := by decide +kernel
theorem dX12_seeSorted_62 : decode cX12_seeSorted 62 = .ok (.iadd, 1) := by decide +kernel
theorem dX12_seeSorted_63 : decode cX12_seeSorted 63 = .ok (.iaload, 1) := by decide +kernel
theorem dX12_seeSorted_64 : decode cX12_seeSorted 64 = .ok (.istore 5, 2) := by decide +kernel
theorem dX12_seeSorted_66 : decode cX12_seeSorted 66 = .ok (.aload_n 0, 1) := by decide +kernel
theorem dX12_seeSorted_67 : decode cX12_seeSorted 67 = .ok (.dup, 1) := by decide +kernel
theorem dX12_seeSorted_68 : decode cX12_seeSorted 68 = .ok (.getfield 225, 3) := by decide +kernel
theorem dX12_seeSorted_71 : decode cX12_seeSorted 71 = .ok (.iconst 1, 1) := by decide +kernel
theorem dX12_seeSorted_72 : decode cX12_seeSorted 72 = .ok (.iadd, 1) := by decide +kernel
theorem dX12_seeSorted_73 : decode cX12_seeSorted 73 = .ok (.putfield 225, 3) := by decide +kernel
theorem dX12_seeSorted_76 : decode cX12_seeSorted 76 = .ok (.aload_n 0, 1) := by decide +kernel
theorem dX12_seeSorted_77 : decode cX12_seeSorted 77 = .ok (.iload_n 2, 1) := by decide +kernel
theorem dX12_seeSorted_78 : decode cX12_seeSorted 78 = .ok (.iload 5, 2) := by decide +kernel
theorem dX12_seeSorted_80 : decode cX12_seeSorted 80 = .ok (.invokevirtual 244, 3) := by decide +kernel
theorem dX12_seeSorted_83 : decode cX12_seeSorted 83 = .ok (.aload_n 0, 1) := by decide +kernel
theorem dX12_seeSorted_84 : decode cX12_seeSorted 84 = .ok (.iload_n 1, 1) := by decide +kernel
theorem dX12_seeSorted_85 : decode cX12_seeSorted 85 = .ok (.iload_n 2, 1) := by decide +kernel
theorem dX12_seeSorted_86 : decode cX12_seeSorted 86 = .ok (.invokevirtual 320, 3) := by decide +kernel
theorem dX12_seeSorted_89 : decode cX12_seeSorted 89 = .ok (.if_icmp .gt 7, 3) := by decide +kernel
theorem dX12_seeSorted_92 : decode cX12_seeSorted 92 = .ok (.iconst 1, 1) := by decide +kernel
theorem dX12_seeSorted_93 : decode cX12_seeSorted 93 = .ok (.goto 4, 3) := by decide +kernel
theorem dX12_seeSorted_96 : decode cX12_seeSorted 96 = .ok (.iconst 0, 1) := by decide +kernel
theorem dX12_seeSorted_97 : decode cX12_seeSorted 97 = .ok (.istore 4, 2) := by decide +kernel
theorem dX12_seeSorted_99 : decode cX12_seeSorted 99 = .ok (.iload 4, 2) := by decide +kernel
theorem dX12_seeSorted_101 : decode cX12_seeSorted 101 = .ok (.ifCond .eq 10, 3) := by decide +kernel
theorem dX12_seeSorted_104 : decode cX12_seeSorted 104 = .ok (.aload_n 0, 1) := by decide +kernel
theorem dX12_seeSorted_105 : decode cX12_seeSorted 105 = .ok (.iload_n 1, 1) := by decide +kernel
theorem dX12_seeSorted_106 : decode cX12_seeSorted 106 = .ok (.iload 5, 2) := by decide +kernel
theorem dX12_seeSorted_108 : decode cX12_seeSorted 108 = .ok (.invokevirtual 234, 3) := by decide +kernel
theorem dX12_seeSorted_111 : decode cX12_seeSorted 111 = .ok (.iinc 3 1, 3) := by decide +kernel
theorem dX12_seeSorted_114 : decode cX12_seeSorted 114 = .ok (.iload 4, 2) := by decide +kernel
theorem dX12_seeSorted_116 : decode cX12_seeSorted 116 = .ok (.ifCond .eq 17, 3) := by decide +kernel
theorem dX12_seeSorted_119 : decode cX12_seeSorted 119 = .ok (.iload_n 3, 1) := by decide +kernel
theorem dX12_seeSorted_120 : decode cX12_seeSorted 120 = .ok (.aload_n 0, 1) := by decide +kernel
theorem dX12_seeSorted_121 : decode cX12_seeSorted 121 = .ok (.getfield 56, 3) := by decide +kernel
theorem dX12_seeSorted_124 : decode cX12_seeSorted 124 = .ok (.iload_n 2, 1) := by decide +kernel
theorem dX12_seeSorted_125 : decode cX12_seeSorted 125 = .ok (.iaload, 1) := by decide +kernel
theorem dX12_seeSorted_126 : decode cX12_seeSorted 126 = .ok (.if_icmp .ge 7, 3) := by decide +kernel
theorem dX12_seeSorted_129 : decode cX12_seeSorted 129 = .ok (.iconst 1, 1) := by decide +kernel
theorem dX12_seeSorted_130 : decode cX12_seeSorted 130 = .ok (.goto 4, 3) := by decide +kernel
theorem dX12_seeSorted_133 : decode cX12_seeSorted 133 = .ok (.iconst 0, 1) := by decide +kernel
theorem dX12_seeSorted_134 : decode cX12_seeSorted 134 = .ok (.istore 4, 2) := by decide +kernel
theorem dX12_seeSorted_136 : decode cX12_seeSorted 136 = .ok (.goto (-88), 3) := by decide +kernel
theorem dX12_seeSorted_139 : decode cX12_seeSorted 139 = .ok (.return_, 1) := by decide +kernel
theorem dX12_seeSums_0 : decode cX12_seeSums 0 = .ok (.aload_n 0, 1) := by decide +kernel
theorem dX12_seeSums_1 : decode cX12_seeSums 1 = .ok (.iconst 0, 1) := by decide +kernel
theorem dX12_seeSums_2 : decode cX12_seeSums 2 = .ok (.putfield 252, 3) := by decide +kernel
theorem dX12_seeSums_5 : decode cX12_seeSums 5 = .ok (.aload_n 0, 1) := by decide +kernel
theorem dX12_seeSums_6 : decode cX12_seeSums 6 = .ok (.iload_n 2, 1) := by decide +kernel
theorem dX12_seeSums_7 : decode cX12_seeSums 7 = .ok (.aload_n 0, 1) := by decide +kernel
theorem dX12_seeSums_8 : decode cX12_seeSums 8 = .ok (.iload_n 1, 1) := by decide +kernel
theorem dX12_seeSums_9 : decode cX12_seeSums 9 = .ok (.iload_n 2, 1) := by decide +kernel
theorem dX12_seeSums_10 : decode cX12_seeSums 10 = .ok (.invokevirtual 317, 3) := by decide +kernel
theorem dX12_seeSums_13 : decode cX12_seeSums 13 = .ok (.iconst (-1), 1) := by decide +kernel
theorem dX12_seeSums_14 : decode cX12_seeSums 14 = .ok (.invokevirtual 270, 3) := by decide +kernel
theorem dX12_seeSums_17 : decode cX12_seeSums 17 = .ok (.istore_n 3, 1) := by decide +kernel
theorem dX12_seeSums_18 : decode cX12_seeSums 18 = .ok (.aload_n 0, 1) := by decide +kernel
theorem dX12_seeSums_19 : decode cX12_seeSums 19 = .ok (.iload_n 2, 1) := by decide +kernel
theorem dX12_seeSums_20 : decode cX12_seeSums 20 = .ok (.aload_n 0, 1) := by decide +kernel
theorem dX12_seeSums_21 : decode cX12_seeSums 21 = .ok (.iload_n 1, 1) := by decide +kernel
theorem dX12_seeSums_22 : decode cX12_seeSums 22 = .ok (.iload_n 2, 1) := by decide +kernel
theorem dX12_seeSums_23 : decode cX12_seeSums 23 = .ok (.invokevirtual 320, 3) := by decide +kernel
theorem dX12_seeSums_26 : decode cX12_seeSums 26 = .ok (.iconst 1, 1) := by decide +kernel
theorem dX12_seeSums_27 : decode cX12_seeSums 27 = .ok (.iadd, 1) := by decide +kernel
theorem dX12_seeSums_28 : decode cX12_seeSums 28 = .ok (.iconst (-1), 1) := by decide +kernel
theorem dX12_seeSums_29 : decode cX12_seeSums 29 = .ok (.invokevirtual 270, 3) := by decide +kernel
theorem dX12_seeSums_32 : decode cX12_seeSums 32 = .ok (.istore 4, 2) := by decide +kernel
theorem dX12_seeSums_34 : decode cX12_seeSums 34 = .ok (.aload_n 0, 1) := by decide +kernel
theorem dX12_seeSums_35 : decode cX12_seeSums 35 = .ok (.dup, 1) := by decide +kernel
theorem dX12_seeSums_36 : decode cX12_seeSums 36 = .ok (.getfield 225, 3) := by decide +kernel
theorem dX12_seeSums_39 : decode cX12_seeSums 39 = .ok (.aload_n 0, 1) := by decide +kernel
theorem dX12_seeSums_40 : decode cX12_seeSums 40 = .ok (.getfield 252, 3) := by decide +kernel
theorem dX12_seeSums_43 : decode cX12_seeSums 43 = .ok (.iadd, 1) := by decide +kernel
theorem dX12_seeSums_44 : decode cX12_seeSums 44 = .ok (.putfield 225, 3) := by decide +kernel
theorem dX12_seeSums_47 : decode cX12_seeSums 47 = .ok (.iload_n 3, 1) := by decide +kernel
theorem dX12_seeSums_48 : decode cX12_seeSums 48 = .ok (.istore 5, 2) := by decide +kernel
theorem dX12_seeSums_50 : decode cX12_seeSums 50 = .ok (.iload 5, 2) := by decide +kernel
theorem dX12_seeSums_52 : decode cX12_seeSums 52 = .ok (.iload 4, 2) := by decide +kernel
theorem dX12_seeSums_54 : decode cX12_seeSums 54 = .ok (.if_icmp .ge 45, 3) := by decide +kernel
theorem dX12_seeSums_57 : decode cX12_seeSums 57 = .ok (.aload_n 0, 1) := by decide +kernel
theorem dX12_seeSums_58 : decode cX12_seeSums 58 = .ok (.dup, 1) := by decide +kernel
theorem dX12_seeSums_59 : decode cX12_seeSums 59 = .ok (.getfield 216, 3) := by decide +kernel
theorem dX12_seeSums_62 : decode cX12_seeSums 62 = .ok (.iconst 1, 1) := by decide +kernel
theorem dX12_seeSums_63 : decode cX12_seeSums 63 = .ok (.iadd, 1) := by decide +kernel
theorem dX12_seeSums_64 : decode cX12_seeSums 64 = .ok (.putfield 216, 3) := by decide +kernel
theorem dX12_seeSums_67 : decode cX12_seeSums 67 = .ok (.aload_n 0, 1) := by decide +kernel
theorem dX12_seeSums_68 : decode cX12_seeSums 68 = .ok (.dup, 1) := by decide +kernel
theorem dX12_seeSums_69 : decode cX12_seeSums 69 = .ok (.getfield 222, 3) := by decide +kernel
theorem dX12_seeSums_72 : decode cX12_seeSums 72 = .ok (.aload_n 0, 1) := by decide +kernel
theorem dX12_seeSums_73 : decode cX12_seeSums 73 = .ok (.iload_n 2, 1) := by decide +kernel
theorem dX12_seeSums_74 : decode cX12_seeSums 74 = .ok (.aload_n 0, 1) := by decide +kernel
theorem dX12_seeSums_75 : decode cX12_seeSums 75 = .ok (.getfield 53, 3) := by decide +kernel
theorem dX12_seeSums_78 : decode cX12_seeSums 78 = .ok (.bipush 80, 2) := by decide +kernel
theorem dX12_seeSums_80 : decode cX12_seeSums 80 = .ok (.iload_n 2, 1) := by decide +kernel
theorem dX12_seeSums_81 : decode cX12_seeSums 81 = .ok (.imul, 1) := by decide +kernel
theorem dX12_seeSums_82 : decode cX12_seeSums 82 = .ok (.iload 5, 2) := by decide +kernel
theorem dX12_seeSums_84 : decode cX12_seeSums 84 = .ok (.iadd, 1) := by decide +kernel
theorem dX12_seeSums_85 : decode cX12_seeSums 85 = .ok (.iaload, 1) := by decide +kernel
theorem dX12_seeSums_86 : decode cX12_seeSums 86 = .ok (.invokevirtual 244, 3) := by decide +kernel
theorem dX12_seeSums_89 : decode cX12_seeSums 89 = .ok (.iadd, 1) := by decide +kernel
theorem dX12_seeSums_90 : decode cX12_seeSums 90 = .ok (.putfield 222, 3) := by decide +kernel
theorem dX12_seeSums_93 : decode cX12_seeSums 93 = .ok (.iinc 5 1, 3) := by decide +kernel
theorem dX12_seeSums_96 : decode cX12_seeSums 96 = .ok (.goto (-46), 3) := by decide +kernel
theorem dX12_seeSums_99 : decode cX12_seeSums 99 = .ok (.return_, 1) := by decide +kernel
theorem dX12_bucketOf_0 : decode cX12_bucketOf 0 = .ok (.bipush 16, 2) := by decide +kernel
theorem dX12_bucketOf_2 : decode cX12_bucketOf 2 = .ok (.iload_n 1, 1) := by decide +kernel
theorem dX12_bucketOf_3 : decode cX12_bucketOf 3 = .ok (.imul, 1) := by decide +kernel
theorem dX12_bucketOf_4 : decode cX12_bucketOf 4 = .ok (.istore_n 3, 1) := by decide +kernel
theorem dX12_bucketOf_5 : decode cX12_bucketOf 5 = .ok (.iload_n 3, 1) := by decide +kernel
theorem dX12_bucketOf_6 : decode cX12_bucketOf 6 = .ok (.bipush 16, 2) := by decide +kernel
theorem dX12_bucketOf_8 : decode cX12_bucketOf 8 = .ok (.iload_n 1, 1) := by decide +kernel
theorem dX12_bucketOf_9 : decode cX12_bucketOf 9 = .ok (.imul, 1) := by decide +kernel
theorem dX12_bucketOf_10 : decode cX12_bucketOf 10 = .ok (.aload_n 0, 1) := by decide +kernel
theorem dX12_bucketOf_11 : decode cX12_bucketOf 11 = .ok (.getfield 35, 3) := by decide +kernel
theorem dX12_bucketOf_14 : decode cX12_bucketOf 14 = .ok (.iload_n 1, 1) := by decide +kernel
theorem dX12_bucketOf_15 : decode cX12_bucketOf 15 = .ok (.iaload, 1) := by decide +kernel
theorem dX12_bucketOf_16 : decode cX12_bucketOf 16 = .ok (.iadd, 1) := by decide +kernel
theorem dX12_bucketOf_17 : decode cX12_bucketOf 17 = .ok (.if_icmp .ge 38, 3) := by decide +kernel
theorem dX12_bucketOf_20 : decode cX12_bucketOf 20 = .ok (.aload_n 0, 1) := by decide +kernel
theorem dX12_bucketOf_21 : decode cX12_bucketOf 21 = .ok (.iload_n 3, 1) := by decide +kernel
theorem dX12_bucketOf_22 : decode cX12_bucketOf 22 = .ok (.iload_n 2, 1) := by decide +kernel
theorem dX12_bucketOf_23 : decode cX12_bucketOf 23 = .ok (.invokevirtual 311, 3) := by decide +kernel
theorem dX12_bucketOf_26 : decode cX12_bucketOf 26 = .ok (.ifCond .eq 23, 3) := by decide +kernel
theorem dX12_bucketOf_29 : decode cX12_bucketOf 29 = .ok (.aload_n 0, 1) := by decide +kernel
theorem dX12_bucketOf_30 : decode cX12_bucketOf 30 = .ok (.getfield 29, 3) := by decide +kernel
theorem dX12_bucketOf_33 : decode cX12_bucketOf 33 = .ok (.iload_n 3, 1) := by decide +kernel
theorem dX12_bucketOf_34 : decode cX12_bucketOf 34 = .ok (.iaload, 1) := by decide +kernel
theorem dX12_bucketOf_35 : decode cX12_bucketOf 35 = .ok (.bipush 61, 2) := by decide +kernel
theorem dX12_bucketOf_37 : decode cX12_bucketOf 37 = .ok (.if_icmp .ne 12, 3) := by decide +kernel
theorem dX12_bucketOf_40 : decode cX12_bucketOf 40 = .ok (.aload_n 0, 1) := by decide +kernel
theorem dX12_bucketOf_41 : decode cX12_bucketOf 41 = .ok (.iload_n 3, 1) := by decide +kernel
theorem dX12_bucketOf_42 : decode cX12_bucketOf 42 = .ok (.invokevirtual 213, 3) := by decide +kernel
theorem dX12_bucketOf_45 : decode cX12_bucketOf 45 = .ok (.bipush 8, 2) := by decide +kernel
theorem dX12_bucketOf_47 : decode cX12_bucketOf 47 = .ok (.irem, 1) := by decide +kernel
theorem dX12_bucketOf_48 : decode cX12_bucketOf 48 = .ok (.ireturn, 1) := by decide +kernel
theorem dX12_bucketOf_49 : decode cX12_bucketOf 49 = .ok (.iinc 3 1, 3) := by decide +kernel
theorem dX12_bucketOf_52 : decode cX12_bucketOf 52 = .ok (.goto (-47), 3) := by decide +kernel
theorem dX12_bucketOf_55 : decode cX12_bucketOf 55 = .ok (.iconst (-1), 1) := by decide +kernel
theorem dX12_bucketOf_56 : decode cX12_bucketOf 56 = .ok (.ireturn, 1) := by decide +kernel
theorem dX12_seeTable_0 : decode cX12_seeTable 0 = .ok (.aload_n 0, 1) := by decide +kernel
theorem dX12_seeTable_1 : decode cX12_seeTable 1 = .ok (.iload_n 1, 1) := by decide +kernel
theorem dX12_seeTable_2 : decode cX12_seeTable 2 = .ok (.iload_n 2, 1) := by decide +kernel
theorem dX12_seeTable_3 : decode cX12_seeTable 3 = .ok (.invokevirtual 323, 3) := by decide +kernel
theorem dX12_seeTable_6 : decode cX12_seeTable 6 = .ok (.istore_n 3, 1) := by decide +kernel
theorem dX12_seeTable_7 : decode cX12_seeTable 7 = .ok (.iconst 0, 1) := by decide +kernel
theorem dX12_seeTable_8 : decode cX12_seeTable 8 = .ok (.istore 4, 2) := by decide +kernel
theorem dX12_seeTable_10 : decode cX12_seeTable 10 = .ok (.iload 4, 2) := by decide +kernel
theorem dX12_seeTable_12 : decode cX12_seeTable 12 = .ok (.aload_n 0, 1) := by decide +kernel
theorem dX12_seeTable_13 : decode cX12_seeTable 13 = .ok (.getfield 56, 3) := by decide +kernel
theorem dX12_seeTable_16 : decode cX12_seeTable 16 = .ok (.iload_n 2, 1) := by decide +kernel
theorem dX12_seeTable_17 : decode cX12_seeTable 17 = .ok (.iaload, 1) := by decide +kernel
theorem dX12_seeTable_18 : decode cX12_seeTable 18 = .ok (.if_icmp .ge 58, 3) := by decide +kernel
theorem dX12_seeTable_21 : decode cX12_seeTable 21 = .ok (.aload_n 0, 1) := by decide +kernel
theorem dX12_seeTable_22 : decode cX12_seeTable 22 = .ok (.getfield 53, 3) := by decide +kernel
theorem dX12_seeTable_25 : decode cX12_seeTable 25 = .ok (.bipush 80, 2) := by decide +kernel
theorem dX12_seeTable_27 : decode cX12_seeTable 27 = .ok (.iload_n 2, 1) := by decide +kernel
theorem dX12_seeTable_28 : decode cX12_seeTable 28 = .ok (.imul, 1) := by decide +kernel
theorem dX12_seeTable_29 : decode cX12_seeTable 29 = .ok (.iload 4, 2) := by decide +kernel
theorem dX12_seeTable_31 : decode cX12_seeTable 31 = .ok (.iadd, 1) := by decide +kernel
theorem dX12_seeTable_32 : decode cX12_seeTable 32 = .ok (.iaload, 1) := by decide +kernel
theorem dX12_seeTable_33 : decode cX12_seeTable 33 = .ok (.istore 5, 2) := by decide +kernel
theorem dX12_seeTable_35 : decode cX12_seeTable 35 = .ok (.iload_n 3, 1) := by decide +kernel
theorem dX12_seeTable_36 : decode cX12_seeTable 36 = .ok (.ifCond .lt 17, 3) := by decide +kernel
theorem dX12_seeTable_39 : decode cX12_seeTable 39 = .ok (.aload_n 0, 1) := by decide +kernel
theorem dX12_seeTable_40 : decode cX12_seeTable 40 = .ok (.iload_n 2, 1) := by decide +kernel
theorem dX12_seeTable_41 : decode cX12_seeTable 41 = .ok (.iload 5, 2) := by decide +kernel
theorem dX12_seeTable_43 : decode cX12_seeTable 43 = .ok (.invokevirtual 244, 3) := by decide +kernel
theorem dX12_seeTable_46 : decode cX12_seeTable 46 = .ok (.bipush 8, 2) := by decide +kernel
theorem dX12_seeTable_48 : decode cX12_seeTable 48 = .ok (.irem, 1) := by decide +kernel
theorem dX12_seeTable_49 : decode cX12_seeTable 49 = .ok (.iload_n 3, 1) := by decide +kernel
theorem dX12_seeTable_50 : decode cX12_seeTable 50 = .ok (.if_icmp .ne 20, 3) := by decide +kernel
theorem dX12_seeTable_53 : decode cX12_seeTable 53 = .ok (.aload_n 0, 1) := by decide +kernel
theorem dX12_seeTable_54 : decode cX12_seeTable 54 = .ok (.dup, 1) := by decide +kernel
theorem dX12_seeTable_55 : decode cX12_seeTable 55 = .ok (.getfield 225, 3) := by decide +kernel
theorem dX12_seeTable_58 : decode cX12_seeTable 58 = .ok (.iconst 1, 1) := by decide +kernel
theorem dX12_seeTable_59 : decode cX12_seeTable 59 = .ok (.iadd, 1) := by decide +kernel
theorem dX12_seeTable_60 : decode cX12_seeTable 60 = .ok (.putfield 225, 3) := by decide +kernel
theorem dX12_seeTable_63 : decode cX12_seeTable 63 = .ok (.aload_n 0, 1) := by decide +kernel
theorem dX12_seeTable_64 : decode cX12_seeTable 64 = .ok (.iload_n 1, 1) := by decide +kernel
theorem dX12_seeTable_65 : decode cX12_seeTable 65 = .ok (.iload 5, 2) := by decide +kernel
theorem dX12_seeTable_67 : decode cX12_seeTable 67 = .ok (.invokevirtual 234, 3) := by decide +kernel
theorem dX12_seeTable_70 : decode cX12_seeTable 70 = .ok (.iinc 4 1, 3) := by decide +kernel
theorem dX12_seeTable_73 : decode cX12_seeTable 73 = .ok (.goto (-63), 3) := by decide +kernel
theorem dX12_seeTable_76 : decode cX12_seeTable 76 = .ok (.return_, 1) := by decide +kernel
theorem dX12_seeTree_0 : decode cX12_seeTree 0 = .ok (.iload_n 3, 1) := by decide +kernel
theorem dX12_seeTree_1 : decode cX12_seeTree 1 = .ok (.ifCond .ge 4, 3) := by decide +kernel
theorem dX12_seeTree_4 : decode cX12_seeTree 4 = .ok (.return_, 1) := by decide +kernel
theorem dX12_seeTree_5 : decode cX12_seeTree 5 = .ok (.aload_n 0, 1) := by decide +kernel
theorem dX12_seeTree_6 : decode cX12_seeTree 6 = .ok (.dup, 1) := by decide +kernel
theorem dX12_seeTree_7 : decode cX12_seeTree 7 = .ok (.getfield 225, 3) := by decide +kernel
theorem dX12_seeTree_10 : decode cX12_seeTree 10 = .ok (.iconst 1, 1) := by decide +kernel
theorem dX12_seeTree_11 : decode cX12_seeTree 11 = .ok (.iadd, 1) := by decide +kernel
theorem dX12_seeTree_12 : decode cX12_seeTree 12 = .ok (.putfield 225, 3) := by decide +kernel
theorem dX12_seeTree_15 : decode cX12_seeTree 15 = .ok (.aload_n 0, 1) := by decide +kernel
theorem dX12_seeTree_16 : decode cX12_seeTree 16 = .ok (.iload_n 2, 1) := by decide +kernel
theorem dX12_seeTree_17 : decode cX12_seeTree 17 = .ok (.iload_n 3, 1) := by decide +kernel
theorem dX12_seeTree_18 : decode cX12_seeTree 18 = .ok (.invokevirtual 244, 3) := by decide +kernel
theorem dX12_seeTree_21 : decode cX12_seeTree 21 = .ok (.istore 4, 2) := by decide +kernel
theorem dX12_seeTree_23 : decode cX12_seeTree 23 = .ok (.iload 4, 2) := by decide +kernel
theorem dX12_seeTree_25 : decode cX12_seeTree 25 = .ok (.aload_n 0, 1) := by decide +kernel
theorem dX12_seeTree_26 : decode cX12_seeTree 26 = .ok (.iload_n 1, 1) := by decide +kernel
theorem dX12_seeTree_27 : decode cX12_seeTree 27 = .ok (.iload_n 2, 1) := by decide +kernel
theorem dX12_seeTree_28 : decode cX12_seeTree 28 = .ok (.invokevirtual 317, 3) := by decide +kernel
theorem dX12_seeTree_31 : decode cX12_seeTree 31 = .ok (.if_icmp .lt 20, 3) := by decide +kernel
theorem dX12_seeTree_34 : decode cX12_seeTree 34 = .ok (.aload_n 0, 1) := by decide +kernel
theorem dX12_seeTree_35 : decode cX12_seeTree 35 = .ok (.iload_n 1, 1) := by decide +kernel
theorem dX12_seeTree_36 : decode cX12_seeTree 36 = .ok (.iload_n 2, 1) := by decide +kernel
theorem dX12_seeTree_37 : decode cX12_seeTree 37 = .ok (.aload_n 0, 1) := by decide +kernel
theorem dX12_seeTree_38 : decode cX12_seeTree 38 = .ok (.getfield 59, 3) := by decide +kernel
theorem dX12_seeTree_41 : decode cX12_seeTree 41 = .ok (.bipush 80, 2) := by decide +kernel
theorem dX12_seeTree_43 : decode cX12_seeTree 43 = .ok (.iload_n 2, 1) := by decide +kernel
theorem dX12_seeTree_44 : decode cX12_seeTree 44 = .ok (.imul, 1) := by decide +kernel
theorem dX12_seeTree_45 : decode cX12_seeTree 45 = .ok (.iload_n 3, 1) := by decide +kernel
theorem dX12_seeTree_46 : decode cX12_seeTree 46 = .ok (.iadd, 1) := by decide +kernel
theorem dX12_seeTree_47 : decode cX12_seeTree 47 = .ok (.iaload, 1) := by decide +kernel
theorem dX12_seeTree_48 : decode cX12_seeTree 48 = .ok (.invokevirtual 326, 3) := by decide +kernel
theorem dX12_seeTree_51 : decode cX12_seeTree 51 = .ok (.iload 4, 2) := by decide +kernel
theorem dX12_seeTree_53 : decode cX12_seeTree 53 = .ok (.i2l, 1) := by decide +kernel
theorem dX12_seeTree_54 : decode cX12_seeTree 54 = .ok (.aload_n 0, 1) := by decide +kernel
theorem dX12_seeTree_55 : decode cX12_seeTree 55 = .ok (.iload_n 1, 1) := by decide +kernel
theorem dX12_seeTree_56 : decode cX12_seeTree 56 = .ok (.iload_n 2, 1) := by decide +kernel
theorem dX12_seeTree_57 : decode cX12_seeTree 57 = .ok (.invokevirtual 317, 3) := by decide +kernel
theorem dX12_seeTree_60 : decode cX12_seeTree 60 = .ok (.i2l, 1) := by decide +kernel
theorem dX12_seeTree_61 : decode cX12_seeTree 61 = .ok (.aload_n 0, 1) := by decide +kernel
theorem dX12_seeTree_62 : decode cX12_seeTree 62 = .ok (.iload_n 1, 1) := by decide +kernel
theorem dX12_seeTree_63 : decode cX12_seeTree 63 = .ok (.iload_n 2, 1) := by decide +kernel
theorem dX12_seeTree_64 : decode cX12_seeTree 64 = .ok (.invokevirtual 320, 3) := by decide +kernel
theorem dX12_seeTree_67 : decode cX12_seeTree 67 = .ok (.i2l, 1) := by decide +kernel
theorem dX12_seeTree_68 : decode cX12_seeTree 68 = .ok (.invokestatic 135, 3) := by decide +kernel
theorem dX12_seeTree_71 : decode cX12_seeTree 71 = .ok (.ifCond .eq 9, 3) := by decide +kernel
theorem dX12_seeTree_74 : decode cX12_seeTree 74 = .ok (.aload_n 0, 1) := by decide +kernel
theorem dX12_seeTree_75 : decode cX12_seeTree 75 = .ok (.iload_n 1, 1) := by decide +kernel
theorem dX12_seeTree_76 : decode cX12_seeTree 76 = .ok (.iload_n 3, 1) := by decide +kernel
theorem dX12_seeTree_77 : decode cX12_seeTree 77 = .ok (.invokevirtual 234, 3) := by decide +kernel
theorem dX12_seeTree_80 : decode cX12_seeTree 80 = .ok (.iload 4, 2) := by decide +kernel
theorem dX12_seeTree_82 : decode cX12_seeTree 82 = .ok (.aload_n 0, 1) := by decide +kernel
theorem dX12_seeTree_83 : decode cX12_seeTree 83 = .ok (.iload_n 1, 1) := by decide +kernel
theorem dX12_seeTree_84 : decode cX12_seeTree 84 = .ok (.iload_n 2, 1) := by decide +kernel
theorem dX12_seeTree_85 : decode cX12_seeTree 85 = .ok (.invokevirtual 320, 3) := by decide +kernel
theorem dX12_seeTree_88 : decode cX12_seeTree 88 = .ok (.if_icmp .gt 20, 3) := by decide +kernel
theorem dX12_seeTree_91 : decode cX12_seeTree 91 = .ok (.aload_n 0, 1) := by decide +kernel
theorem dX12_seeTree_92 : decode cX12_seeTree 92 = .ok (.iload_n 1, 1) := by decide +kernel
theorem dX12_seeTree_93 : decode cX12_seeTree 93 = .ok (.iload_n 2, 1) := by decide +kernel
theorem dX12_seeTree_94 : decode cX12_seeTree 94 = .ok (.aload_n 0, 1) := by decide +kernel
theorem dX12_seeTree_95 : decode cX12_seeTree 95 = .ok (.getfield 62, 3) := by decide +kernel
theorem dX12_seeTree_98 : decode cX12_seeTree 98 = .ok (.bipush 80, 2) := by decide +kernel
theorem dX12_seeTree_100 : decode cX12_seeTree 100 = .ok (.iload_n 2, 1) := by decide +kernel
theorem dX12_seeTree_101 : decode cX12_seeTree 101 = .ok (.imul, 1) := by decide +kernel
theorem dX12_seeTree_102 : decode cX12_seeTree 102 = .ok (.iload_n 3, 1) := by decide +kernel
theorem dX12_seeTree_103 : decode cX12_seeTree 103 = .ok (.iadd, 1) := by decide +kernel
theorem dX12_seeTree_104 : decode cX12_seeTree 104 = .ok (.iaload, 1) := by decide +kernel
theorem dX12_seeTree_105 : decode cX12_seeTree 105 = .ok (.invokevirtual 326, 3) := by decide +kernel
theorem dX12_seeTree_108 : decode cX12_seeTree 108 = .ok (.return_, 1) := by decide +kernel
theorem dX12_bitsCan_0 : decode cX12_bitsCan 0 = .ok (.aload_n 0, 1) := by decide +kernel
theorem dX12_bitsCan_1 : decode cX12_bitsCan 1 = .ok (.getfield 38, 3) := by decide +kernel
theorem dX12_bitsCan_4 : decode cX12_bitsCan 4 = .ok (.iload_n 1, 1) := by decide +kernel
theorem dX12_bitsCan_5 : decode cX12_bitsCan 5 = .ok (.iaload, 1) := by decide +kernel
theorem dX12_bitsCan_6 : decode cX12_bitsCan 6 = .ok (.bipush 110, 2) := by decide +kernel
theorem dX12_bitsCan_8 : decode cX12_bitsCan 8 = .ok (.if_icmp .ne 43, 3) := by decide +kernel
theorem dX12_bitsCan_11 : decode cX12_bitsCan 11 = .ok (.aload_n 0, 1) := by decide +kernel
theorem dX12_bitsCan_12 : decode cX12_bitsCan 12 = .ok (.getfield 35, 3) := by decide +kernel
theorem dX12_bitsCan_15 : decode cX12_bitsCan 15 = .ok (.iload_n 1, 1) := by decide +kernel
theorem dX12_bitsCan_16 : decode cX12_bitsCan 16 = .ok (.iaload, 1) := by decide +kernel
theorem dX12_bitsCan_17 : decode cX12_bitsCan 17 = .ok (.iconst 1, 1) := by decide +kernel
theorem dX12_bitsCan_18 : decode cX12_bitsCan 18 = .ok (.if_icmp .ne 33, 3) := by decide +kernel
theorem dX12_bitsCan_21 : decode cX12_bitsCan 21 = .ok (.aload_n 0, 1) := by decide +kernel
theorem dX12_bitsCan_22 : decode cX12_bitsCan 22 = .ok (.bipush 16, 2) := by decide +kernel
theorem dX12_bitsCan_24 : decode cX12_bitsCan 24 = .ok (.iload_n 1, 1) := by decide +kernel
theorem dX12_bitsCan_25 : decode cX12_bitsCan 25 = .ok (.imul, 1) := by decide +kernel
theorem dX12_bitsCan_26 : decode cX12_bitsCan 26 = .ok (.iload_n 2, 1) := by decide +kernel
theorem dX12_bitsCan_27 : decode cX12_bitsCan 27 = .ok (.invokevirtual 311, 3) := by decide +kernel
theorem dX12_bitsCan_30 : decode cX12_bitsCan 30 = .ok (.ifCond .eq 21, 3) := by decide +kernel
theorem dX12_bitsCan_33 : decode cX12_bitsCan 33 = .ok (.aload_n 0, 1) := by decide +kernel
theorem dX12_bitsCan_34 : decode cX12_bitsCan 34 = .ok (.getfield 29, 3) := by decide +kernel
theorem dX12_bitsCan_37 : decode cX12_bitsCan 37 = .ok (.bipush 16, 2) := by decide +kernel
theorem dX12_bitsCan_39 : decode cX12_bitsCan 39 = .ok (.iload_n 1, 1) := by decide +kernel
theorem dX12_bitsCan_40 : decode cX12_bitsCan 40 = .ok (.imul, 1) := by decide +kernel
theorem dX12_bitsCan_41 : decode cX12_bitsCan 41 = .ok (.iaload, 1) := by decide +kernel
theorem dX12_bitsCan_42 : decode cX12_bitsCan 42 = .ok (.bipush 61, 2) := by decide +kernel
theorem dX12_bitsCan_44 : decode cX12_bitsCan 44 = .ok (.if_icmp .ne 7, 3) := by decide +kernel
theorem dX12_bitsCan_47 : decode cX12_bitsCan 47 = .ok (.iconst 1, 1) := by decide +kernel
theorem dX12_bitsCan_48 : decode cX12_bitsCan 48 = .ok (.goto 4, 3) := by decide +kernel
theorem dX12_bitsCan_51 : decode cX12_bitsCan 51 = .ok (.iconst 0, 1) := by decide +kernel
theorem dX12_bitsCan_52 : decode cX12_bitsCan 52 = .ok (.ireturn, 1) := by decide +kernel
theorem dX12_can_0 : decode cX12_can 0 = .ok (.aload_n 0, 1) := by decide +kernel
theorem dX12_can_1 : decode cX12_can 1 = .ok (.getfield 47, 3) := by decide +kernel
theorem dX12_can_4 : decode cX12_can 4 = .ok (.iload_n 2, 1) := by decide +kernel
theorem dX12_can_5 : decode cX12_can 5 = .ok (.iaload, 1) := by decide +kernel
theorem dX12_can_6 : decode cX12_can 6 = .ok (.bipush 6, 2) := by decide +kernel
theorem dX12_can_8 : decode cX12_can 8 = .ok (.if_icmp .ne 12, 3) := by decide +kernel
theorem dX12_can_11 : decode cX12_can 11 = .ok (.aload_n 0, 1) := by decide +kernel
theorem dX12_can_12 : decode cX12_can 12 = .ok (.iload_n 1, 1) := by decide +kernel
theorem dX12_can_13 : decode cX12_can 13 = .ok (.iload_n 2, 1) := by decide +kernel
theorem dX12_can_14 : decode cX12_can 14 = .ok (.invokevirtual 329, 3) := by decide +kernel
theorem dX12_can_17 : decode cX12_can 17 = .ok (.goto 17, 3) := by decide +kernel
theorem dX12_can_20 : decode cX12_can 20 = .ok (.aload_n 0, 1) := by decide +kernel
theorem dX12_can_21 : decode cX12_can 21 = .ok (.getfield 47, 3) := by decide +kernel
theorem dX12_can_24 : decode cX12_can 24 = .ok (.iload_n 2, 1) := by decide +kernel
theorem dX12_can_25 : decode cX12_can 25 = .ok (.iaload, 1) := by decide +kernel
theorem dX12_can_26 : decode cX12_can 26 = .ok (.ifCond .eq 7, 3) := by decide +kernel
theorem dX12_can_29 : decode cX12_can 29 = .ok (.iconst 1, 1) := by decide +kernel
theorem dX12_can_30 : decode cX12_can 30 = .ok (.goto 4, 3) := by decide +kernel
theorem dX12_can_33 : decode cX12_can 33 = .ok (.iconst 0, 1) := by decide +kernel
theorem dX12_can_34 : decode cX12_can 34 = .ok (.ireturn, 1) := by decide +kernel
theorem dX12_throughOf_0 : decode cX12_throughOf 0 = .ok (.aload_n 0, 1) := by decide +kernel
theorem dX12_throughOf_1 : decode cX12_throughOf 1 = .ok (.iload_n 3, 1) := by decide +kernel
theorem dX12_throughOf_2 : decode cX12_throughOf 2 = .ok (.iload 4, 2) := by decide +kernel
theorem dX12_throughOf_4 : decode cX12_throughOf 4 = .ok (.invokevirtual 231, 3) := by decide +kernel
theorem dX12_throughOf_7 : decode cX12_throughOf 7 = .ok (.aload_n 0, 1) := by decide +kernel
theorem dX12_throughOf_8 : decode cX12_throughOf 8 = .ok (.getfield 47, 3) := by decide +kernel
theorem dX12_throughOf_11 : decode cX12_throughOf 11 = .ok (.iload_n 1, 1) := by decide +kernel
theorem dX12_throughOf_12 : decode cX12_throughOf 12 = .ok (.iaload, 1) := by decide +kernel
theorem dX12_throughOf_13 : decode cX12_throughOf 13 = .ok (.tableswitch 223 2 7 #[39, 75, 160, 169, 184, 48], 39) := by decide +kernel
theorem dX12_throughOf_52 : decode cX12_throughOf 52 = .ok (.aload_n 0, 1) := by decide +kernel
theorem dX12_throughOf_53 : decode cX12_throughOf 53 = .ok (.iload_n 2, 1) := by decide +kernel
theorem dX12_throughOf_54 : decode cX12_throughOf 54 = .ok (.iload_n 1, 1) := by decide +kernel
theorem dX12_throughOf_55 : decode cX12_throughOf 55 = .ok (.invokevirtual 332, 3) := by decide +kernel
theorem dX12_throughOf_58 : decode cX12_throughOf 58 = .ok (.goto 184, 3) := by decide +kernel
theorem dX12_throughOf_61 : decode cX12_throughOf 61 = .ok (.aload_n 0, 1) := by decide +kernel
theorem dX12_throughOf_62 : decode cX12_throughOf 62 = .ok (.iload_n 2, 1) := by decide +kernel
theorem dX12_throughOf_63 : decode cX12_throughOf 63 = .ok (.iload_n 1, 1) := by decide +kernel
theorem dX12_throughOf_64 : decode cX12_throughOf 64 = .ok (.invokevirtual 335, 3) := by decide +kernel
theorem dX12_throughOf_67 : decode cX12_throughOf 67 = .ok (.ifCond .eq 12, 3) := by decide +kernel
theorem dX12_throughOf_70 : decode cX12_throughOf 70 = .ok (.aload_n 0, 1) := by decide +kernel
theorem dX12_throughOf_71 : decode cX12_throughOf 71 = .ok (.iload_n 2, 1) := by decide +kernel
theorem dX12_throughOf_72 : decode cX12_throughOf 72 = .ok (.iload_n 1, 1) := by decide +kernel
theorem dX12_throughOf_73 : decode cX12_throughOf 73 = .ok (.invokevirtual 338, 3) := by decide +kernel
theorem dX12_throughOf_76 : decode cX12_throughOf 76 = .ok (.goto 166, 3) := by decide +kernel
theorem dX12_throughOf_79 : decode cX12_throughOf 79 = .ok (.aload_n 0, 1) := by decide +kernel
theorem dX12_throughOf_80 : decode cX12_throughOf 80 = .ok (.iload_n 2, 1) := by decide +kernel
theorem dX12_throughOf_81 : decode cX12_throughOf 81 = .ok (.iload_n 1, 1) := by decide +kernel
theorem dX12_throughOf_82 : decode cX12_throughOf 82 = .ok (.invokevirtual 332, 3) := by decide +kernel
theorem dX12_throughOf_85 : decode cX12_throughOf 85 = .ok (.goto 157, 3) := by decide +kernel
theorem dX12_throughOf_88 : decode cX12_throughOf 88 = .ok (.aload_n 0, 1) := by decide +kernel
theorem dX12_throughOf_89 : decode cX12_throughOf 89 = .ok (.getfield 38, 3) := by decide +kernel
theorem dX12_throughOf_92 : decode cX12_throughOf 92 = .ok (.iload_n 2, 1) := by decide +kernel
theorem dX12_throughOf_93 : decode cX12_throughOf 93 = .ok (.iaload, 1) := by decide +kernel
theorem dX12_throughOf_94 : decode cX12_throughOf 94 = .ok (.bipush 109, 2) := by decide +kernel
theorem dX12_throughOf_96 : decode cX12_throughOf 96 = .ok (.if_icmp .ne 68, 3) := by decide +kernel
theorem dX12_throughOf_99 : decode cX12_throughOf 99 = .ok (.aload_n 0, 1) := by decide +kernel
theorem dX12_throughOf_100 : decode cX12_throughOf 100 = .ok (.getfield 41, 3) := by decide +kernel
theorem dX12_throughOf_103 : decode cX12_throughOf 103 = .ok (.iload_n 2, 1) := by decide +kernel
theorem dX12_throughOf_104 : decode cX12_throughOf 104 = .ok (.iaload, 1) := by decide +kernel
theorem dX12_throughOf_105 : decode cX12_throughOf 105 = .ok (.aload_n 0, 1) := by decide +kernel
theorem dX12_throughOf_106 : decode cX12_throughOf 106 = .ok (.getfield 50, 3) := by decide +kernel
theorem dX12_throughOf_109 : decode cX12_throughOf 109 = .ok (.iload_n 1, 1) := by decide +kernel
theorem dX12_throughOf_110 : decode cX12_throughOf 110 = .ok (.iaload, 1) := by decide +kernel
theorem dX12_throughOf_111 : decode cX12_throughOf 111 = .ok (.if_icmp .ne 53, 3) := by decide +kernel
theorem dX12_throughOf_114 : decode cX12_throughOf 114 = .ok (.aload_n 0, 1) := by decide +kernel
theorem dX12_throughOf_115 : decode cX12_throughOf 115 = .ok (.getfield 35, 3) := by decide +kernel
theorem dX12_throughOf_118 : decode cX12_throughOf 118 = .ok (.iload_n 2, 1) := by decide +kernel
theorem dX12_throughOf_119 : decode cX12_throughOf 119 = .ok (.iaload, 1) := by decide +kernel
theorem dX12_throughOf_120 : decode cX12_throughOf 120 = .ok (.ifCond .ne 44, 3) := by decide +kernel
theorem dX12_throughOf_123 : decode cX12_throughOf 123 = .ok (.aload_n 0, 1) := by decide +kernel
theorem dX12_throughOf_124 : decode cX12_throughOf 124 = .ok (.aload_n 0, 1) := by decide +kernel
theorem dX12_throughOf_125 : decode cX12_throughOf 125 = .ok (.getfield 56, 3) := by decide +kernel
theorem dX12_throughOf_128 : decode cX12_throughOf 128 = .ok (.iload_n 1, 1) := by decide +kernel
theorem dX12_throughOf_129 : decode cX12_throughOf 129 = .ok (.iaload, 1) := by decide +kernel
theorem dX12_throughOf_130 : decode cX12_throughOf 130 = .ok (.ifCond .le 7, 3) := by decide +kernel
theorem dX12_throughOf_133 : decode cX12_throughOf 133 = .ok (.iconst 1, 1) := by decide +kernel
theorem dX12_throughOf_134 : decode cX12_throughOf 134 = .ok (.goto 4, 3) := by decide +kernel
theorem dX12_throughOf_137 : decode cX12_throughOf 137 = .ok (.iconst 0, 1) := by decide +kernel
theorem dX12_throughOf_138 : decode cX12_throughOf 138 = .ok (.putfield 225, 3) := by decide +kernel
theorem dX12_throughOf_141 : decode cX12_throughOf 141 = .ok (.aload_n 0, 1) := by decide +kernel
theorem dX12_throughOf_142 : decode cX12_throughOf 142 = .ok (.getfield 56, 3) := by decide +kernel
theorem dX12_throughOf_145 : decode cX12_throughOf 145 = .ok (.iload_n 1, 1) := by decide +kernel
theorem dX12_throughOf_146 : decode cX12_throughOf 146 = .ok (.iaload, 1) := by decide +kernel
theorem dX12_throughOf_147 : decode cX12_throughOf 147 = .ok (.ifCond .le 15, 3) := by decide +kernel
theorem dX12_throughOf_150 : decode cX12_throughOf 150 = .ok (.aload_n 0, 1) := by decide +kernel
theorem dX12_throughOf_151 : decode cX12_throughOf 151 = .ok (.getfield 53, 3) := by decide +kernel
theorem dX12_throughOf_154 : decode cX12_throughOf 154 = .ok (.bipush 80, 2) := by decide +kernel
theorem dX12_throughOf_156 : decode cX12_throughOf 156 = .ok (.iload_n 1, 1) := by decide +kernel
theorem dX12_throughOf_157 : decode cX12_throughOf 157 = .ok (.imul, 1) := by decide +kernel
theorem dX12_throughOf_158 : decode cX12_throughOf 158 = .ok (.iaload, 1) := by decide +kernel
theorem dX12_throughOf_159 : decode cX12_throughOf 159 = .ok (.goto 4, 3) := by decide +kernel
theorem dX12_throughOf_162 : decode cX12_throughOf 162 = .ok (.iconst (-1), 1) := by decide +kernel
theorem dX12_throughOf_163 : decode cX12_throughOf 163 = .ok (.ireturn, 1) := by decide +kernel
theorem dX12_throughOf_164 : decode cX12_throughOf 164 = .ok (.aload_n 0, 1) := by decide +kernel
theorem dX12_throughOf_165 : decode cX12_throughOf 165 = .ok (.iload_n 2, 1) := by decide +kernel
theorem dX12_throughOf_166 : decode cX12_throughOf 166 = .ok (.iload_n 1, 1) := by decide +kernel
theorem dX12_throughOf_167 : decode cX12_throughOf 167 = .ok (.invokevirtual 341, 3) := by decide +kernel
theorem dX12_throughOf_170 : decode cX12_throughOf 170 = .ok (.goto 72, 3) := by decide +kernel
theorem dX12_throughOf_173 : decode cX12_throughOf 173 = .ok (.aload_n 0, 1) := by decide +kernel
theorem dX12_throughOf_174 : decode cX12_throughOf 174 = .ok (.iload_n 2, 1) := by decide +kernel
theorem dX12_throughOf_175 : decode cX12_throughOf 175 = .ok (.iload_n 1, 1) := by decide +kernel
theorem dX12_throughOf_176 : decode cX12_throughOf 176 = .ok (.invokevirtual 344, 3) := by decide +kernel
theorem dX12_throughOf_179 : decode cX12_throughOf 179 = .ok (.goto 63, 3) := by decide +kernel
theorem dX12_throughOf_182 : decode cX12_throughOf 182 = .ok (.aload_n 0, 1) := by decide +kernel
theorem dX12_throughOf_183 : decode cX12_throughOf 183 = .ok (.iload_n 2, 1) := by decide +kernel
theorem dX12_throughOf_184 : decode cX12_throughOf 184 = .ok (.iload_n 1, 1) := by decide +kernel
theorem dX12_throughOf_185 : decode cX12_throughOf 185 = .ok (.aload_n 0, 1) := by decide +kernel
theorem dX12_throughOf_186 : decode cX12_throughOf 186 = .ok (.getfield 65, 3) := by decide +kernel
theorem dX12_throughOf_189 : decode cX12_throughOf 189 = .ok (.iload_n 1, 1) := by decide +kernel
theorem dX12_throughOf_190 : decode cX12_throughOf 190 = .ok (.iaload, 1) := by decide +kernel
theorem dX12_throughOf_191 : decode cX12_throughOf 191 = .ok (.invokevirtual 326, 3) := by decide +kernel
theorem dX12_throughOf_194 : decode cX12_throughOf 194 = .ok (.goto 48, 3) := by decide +kernel
theorem dX12_throughOf_197 : decode cX12_throughOf 197 = .ok (.aload_n 0, 1) := by decide +kernel
theorem dX12_throughOf_198 : decode cX12_throughOf 198 = .ok (.iconst 2, 1) := by decide +kernel
theorem dX12_throughOf_199 : decode cX12_throughOf 199 = .ok (.putfield 225, 3) := by decide +kernel
theorem dX12_throughOf_202 : decode cX12_throughOf 202 = .ok (.aload_n 0, 1) := by decide +kernel
theorem dX12_throughOf_203 : decode cX12_throughOf 203 = .ok (.bipush 16, 2) := by decide +kernel
theorem dX12_throughOf_205 : decode cX12_throughOf 205 = .ok (.iload_n 2, 1) := by decide +kernel
theorem dX12_throughOf_206 : decode cX12_throughOf 206 = .ok (.imul, 1) := by decide +kernel
theorem dX12_throughOf_207 : decode cX12_throughOf 207 = .ok (.invokevirtual 213, 3) := by decide +kernel
theorem dX12_throughOf_210 : decode cX12_throughOf 210 = .ok (.invokestatic 279, 3) := by decide +kernel
theorem dX12_throughOf_213 : decode cX12_throughOf 213 = .ok (.istore 5, 2) := by decide +kernel
theorem dX12_throughOf_215 : decode cX12_throughOf 215 = .ok (.aload_n 0, 1) := by decide +kernel
theorem dX12_throughOf_216 : decode cX12_throughOf 216 = .ok (.getfield 68, 3) := by decide +kernel
theorem dX12_throughOf_219 : decode cX12_throughOf 219 = .ok (.iload_n 1, 1) := by decide +kernel
theorem dX12_throughOf_220 : decode cX12_throughOf 220 = .ok (.iaload, 1) := by decide +kernel
theorem dX12_throughOf_221 : decode cX12_throughOf 221 = .ok (.iload 5, 2) := by decide +kernel
theorem dX12_throughOf_223 : decode cX12_throughOf 223 = .ok (.iand, 1) := by decide +kernel
theorem dX12_throughOf_224 : decode cX12_throughOf 224 = .ok (.iload 5, 2) := by decide +kernel
theorem dX12_throughOf_226 : decode cX12_throughOf 226 = .ok (.if_icmp .ne 8, 3) := by decide +kernel
theorem dX12_throughOf_229 : decode cX12_throughOf 229 = .ok (.bipush (-6), 2) := by decide +kernel
theorem dX12_throughOf_231 : decode cX12_throughOf 231 = .ok (.goto 4, 3) := by decide +kernel
theorem dX12_throughOf_234 : decode cX12_throughOf 234 = .ok (.iconst 0, 1) := by decide +kernel
theorem dX12_throughOf_235 : decode cX12_throughOf 235 = .ok (.ireturn, 1) := by decide +kernel
theorem dX12_throughOf_236 : decode cX12_throughOf 236 = .ok (.aload_n 0, 1) := by decide +kernel
theorem dX12_throughOf_237 : decode cX12_throughOf 237 = .ok (.iload_n 2, 1) := by decide +kernel
theorem dX12_throughOf_238 : decode cX12_throughOf 238 = .ok (.iload_n 1, 1) := by decide +kernel
theorem dX12_throughOf_239 : decode cX12_throughOf 239 = .ok (.invokevirtual 341, 3) := by decide +kernel
theorem dX12_throughOf_242 : decode cX12_throughOf 242 = .ok (.aload_n 0, 1) := by decide +kernel
theorem dX12_throughOf_243 : decode cX12_throughOf 243 = .ok (.iload_n 2, 1) := by decide +kernel
theorem dX12_throughOf_244 : decode cX12_throughOf 244 = .ok (.invokevirtual 237, 3) := by decide +kernel
theorem dX12_throughOf_247 : decode cX12_throughOf 247 = .ok (.ireturn, 1) := by decide +kernel
theorem dX12_through_0 : decode cX12_through 0 = .ok (.aload_n 0, 1) := by decide +kernel
theorem dX12_through_1 : decode cX12_through 1 = .ok (.iload_n 1, 1) := by decide +kernel
theorem dX12_through_2 : decode cX12_through 2 = .ok (.invokevirtual 302, 3) := by decide +kernel
theorem dX12_through_5 : decode cX12_through 5 = .ok (.ifCond .eq 26, 3) := by decide +kernel
theorem dX12_through_8 : decode cX12_through 8 = .ok (.aload_n 0, 1) := by decide +kernel
theorem dX12_through_9 : decode cX12_through 9 = .ok (.iload_n 2, 1) := by decide +kernel
theorem dX12_through_10 : decode cX12_through 10 = .ok (.invokevirtual 204, 3) := by decide +kernel
theorem dX12_through_13 : decode cX12_through 13 = .ok (.ifCond .eq 18, 3) := by decide +kernel
theorem dX12_through_16 : decode cX12_through 16 = .ok (.iload_n 3, 1) := by decide +kernel
theorem dX12_through_17 : decode cX12_through 17 = .ok (.invokestatic 145, 3) := by decide +kernel
theorem dX12_through_20 : decode cX12_through 20 = .ok (.ifCond .eq 11, 3) := by decide +kernel
theorem dX12_through_23 : decode cX12_through 23 = .ok (.iload 4, 2) := by decide +kernel
theorem dX12_through_25 : decode cX12_through 25 = .ok (.invokestatic 145, 3) := by decide +kernel
theorem dX12_through_28 : decode cX12_through 28 = .ok (.ifCond .ne 6, 3) := by decide +kernel
theorem dX12_through_31 : decode cX12_through 31 = .ok (.ldc 175, 2) := by decide +kernel
theorem dX12_through_33 : decode cX12_through 33 = .ok (.ireturn, 1) := by decide +kernel
theorem dX12_through_34 : decode cX12_through 34 = .ok (.aload_n 0, 1) := by decide +kernel
theorem dX12_through_35 : decode cX12_through 35 = .ok (.iload_n 2, 1) := by decide +kernel
theorem dX12_through_36 : decode cX12_through 36 = .ok (.iload_n 1, 1) := by decide +kernel
theorem dX12_through_37 : decode cX12_through 37 = .ok (.invokevirtual 347, 3) := by decide +kernel
theorem dX12_through_40 : decode cX12_through 40 = .ok (.ifCond .eq 15, 3) := by decide +kernel
theorem dX12_through_43 : decode cX12_through 43 = .ok (.aload_n 0, 1) := by decide +kernel
theorem dX12_through_44 : decode cX12_through 44 = .ok (.iload_n 1, 1) := by decide +kernel
theorem dX12_through_45 : decode cX12_through 45 = .ok (.iload_n 2, 1) := by decide +kernel
theorem dX12_through_46 : decode cX12_through 46 = .ok (.iload_n 3, 1) := by decide +kernel
theorem dX12_through_47 : decode cX12_through 47 = .ok (.iload 4, 2) := by decide +kernel
theorem dX12_through_49 : decode cX12_through 49 = .ok (.invokevirtual 350, 3) := by decide +kernel
theorem dX12_through_52 : decode cX12_through 52 = .ok (.goto 5, 3) := by decide +kernel
theorem dX12_through_55 : decode cX12_through 55 = .ok (.bipush (-2), 2) := by decide +kernel
theorem dX12_through_57 : decode cX12_through 57 = .ok (.ireturn, 1) := by decide +kernel
theorem dX12_looks_0 : decode cX12_looks 0 = .ok (.aload_n 0, 1) := by decide +kernel
theorem dX12_looks_1 : decode cX12_looks 1 = .ok (.getfield 225, 3) := by decide +kernel
theorem dX12_looks_4 : decode cX12_looks 4 = .ok (.ireturn, 1) := by decide +kernel
theorem dX12_firstUnlike_0 : decode cX12_firstUnlike 0 = .ok (.aload_n 0, 1) := by decide +kernel
theorem dX12_firstUnlike_1 : decode cX12_firstUnlike 1 = .ok (.iload_n 1, 1) := by decide +kernel
theorem dX12_firstUnlike_2 : decode cX12_firstUnlike 2 = .ok (.invokevirtual 204, 3) := by decide +kernel
theorem dX12_firstUnlike_5 : decode cX12_firstUnlike 5 = .ok (.ifCond .eq 17, 3) := by decide +kernel
theorem dX12_firstUnlike_8 : decode cX12_firstUnlike 8 = .ok (.iload_n 2, 1) := by decide +kernel
theorem dX12_firstUnlike_9 : decode cX12_firstUnlike 9 = .ok (.invokestatic 145, 3) := by decide +kernel
theorem dX12_firstUnlike_12 : decode cX12_firstUnlike 12 = .ok (.ifCond .eq 10, 3) := by decide +kernel
theorem dX12_firstUnlike_15 : decode cX12_firstUnlike 15 = .ok (.iload_n 3, 1) := by decide +kernel
theorem dX12_firstUnlike_16 : decode cX12_firstUnlike 16 = .ok (.invokestatic 145, 3) := by decide +kernel
theorem dX12_firstUnlike_19 : decode cX12_firstUnlike 19 = .ok (.ifCond .ne 5, 3) := by decide +kernel
theorem dX12_firstUnlike_22 : decode cX12_firstUnlike 22 = .ok (.iconst (-1), 1) := by decide +kernel
theorem dX12_firstUnlike_23 : decode cX12_firstUnlike 23 = .ok (.ireturn, 1) := by decide +kernel
theorem dX12_firstUnlike_24 : decode cX12_firstUnlike 24 = .ok (.aload_n 0, 1) := by decide +kernel
theorem dX12_firstUnlike_25 : decode cX12_firstUnlike 25 = .ok (.getfield 225, 3) := by decide +kernel
theorem dX12_firstUnlike_28 : decode cX12_firstUnlike 28 = .ok (.istore 4, 2) := by decide +kernel
theorem dX12_firstUnlike_30 : decode cX12_firstUnlike 30 = .ok (.aload_n 0, 1) := by decide +kernel
theorem dX12_firstUnlike_31 : decode cX12_firstUnlike 31 = .ok (.iload_n 1, 1) := by decide +kernel
theorem dX12_firstUnlike_32 : decode cX12_firstUnlike 32 = .ok (.iload_n 2, 1) := by decide +kernel
theorem dX12_firstUnlike_33 : decode cX12_firstUnlike 33 = .ok (.iload_n 3, 1) := by decide +kernel
theorem dX12_firstUnlike_34 : decode cX12_firstUnlike 34 = .ok (.invokevirtual 240, 3) := by decide +kernel
theorem dX12_firstUnlike_37 : decode cX12_firstUnlike 37 = .ok (.istore 5, 2) := by decide +kernel
theorem dX12_firstUnlike_39 : decode cX12_firstUnlike 39 = .ok (.bipush (-2), 2) := by decide +kernel
theorem dX12_firstUnlike_41 : decode cX12_firstUnlike 41 = .ok (.istore 6, 2) := by decide +kernel
theorem dX12_firstUnlike_43 : decode cX12_firstUnlike 43 = .ok (.aload_n 0, 1) := by decide +kernel
theorem dX12_firstUnlike_44 : decode cX12_firstUnlike 44 = .ok (.getfield 153, 3) := by decide +kernel
theorem dX12_firstUnlike_47 : decode cX12_firstUnlike 47 = .ok (.iconst 1, 1) := by decide +kernel
theorem dX12_firstUnlike_48 : decode cX12_firstUnlike 48 = .ok (.isub, 1) := by decide +kernel
theorem dX12_firstUnlike_49 : decode cX12_firstUnlike 49 = .ok (.istore 7, 2) := by decide +kernel
theorem dX12_firstUnlike_51 : decode cX12_firstUnlike 51 = .ok (.iload 7, 2) := by decide +kernel
theorem dX12_firstUnlike_53 : decode cX12_firstUnlike 53 = .ok (.ifCond .lt 53, 3) := by decide +kernel
theorem dX12_firstUnlike_56 : decode cX12_firstUnlike 56 = .ok (.aload_n 0, 1) := by decide +kernel
theorem dX12_firstUnlike_57 : decode cX12_firstUnlike 57 = .ok (.iload_n 1, 1) := by decide +kernel
theorem dX12_firstUnlike_58 : decode cX12_firstUnlike 58 = .ok (.iload 7, 2) := by decide +kernel
theorem dX12_firstUnlike_60 : decode cX12_firstUnlike 60 = .ok (.invokevirtual 347, 3) := by decide +kernel
theorem dX12_firstUnlike_63 : decode cX12_firstUnlike 63 = .ok (.ifCond .eq 37, 3) := by decide +kernel
theorem dX12_firstUnlike_66 : decode cX12_firstUnlike 66 = .ok (.aload_n 0, 1) := by decide +kernel
theorem dX12_firstUnlike_67 : decode cX12_firstUnlike 67 = .ok (.iload 7, 2) := by decide +kernel
theorem dX12_firstUnlike_69 : decode cX12_firstUnlike 69 = .ok (.iload_n 1, 1) := by decide +kernel
theorem dX12_firstUnlike_70 : decode cX12_firstUnlike 70 = .ok (.iload_n 2, 1) := by decide +kernel
theorem dX12_firstUnlike_71 : decode cX12_firstUnlike 71 = .ok (.iload_n 3, 1) := by decide +kernel
theorem dX12_firstUnlike_72 : decode cX12_firstUnlike 72 = .ok (.invokevirtual 350, 3) := by decide +kernel
theorem dX12_firstUnlike_75 : decode cX12_firstUnlike 75 = .ok (.istore 8, 2) := by decide +kernel
theorem dX12_firstUnlike_77 : decode cX12_firstUnlike 77 = .ok (.iload 8, 2) := by decide +kernel
theorem dX12_firstUnlike_79 : decode cX12_firstUnlike 79 = .ok (.bipush (-6), 2) := by decide +kernel
theorem dX12_firstUnlike_81 : decode cX12_firstUnlike 81 = .ok (.if_icmp .eq 15, 3) := by decide +kernel
theorem dX12_firstUnlike_84 : decode cX12_firstUnlike 84 = .ok (.iload 8, 2) := by decide +kernel
theorem dX12_firstUnlike_86 : decode cX12_firstUnlike 86 = .ok (.iload 5, 2) := by decide +kernel
theorem dX12_firstUnlike_88 : decode cX12_firstUnlike 88 = .ok (.if_icmp .eq 8, 3) := by decide +kernel
theorem dX12_firstUnlike_91 : decode cX12_firstUnlike 91 = .ok (.iload 7, 2) := by decide +kernel
theorem dX12_firstUnlike_93 : decode cX12_firstUnlike 93 = .ok (.goto 5, 3) := by decide +kernel
theorem dX12_firstUnlike_96 : decode cX12_firstUnlike 96 = .ok (.iload 6, 2) := by decide +kernel
theorem dX12_firstUnlike_98 : decode cX12_firstUnlike 98 = .ok (.istore 6, 2) := by decide +kernel
theorem dX12_firstUnlike_100 : decode cX12_firstUnlike 100 = .ok (.iinc 7 (-1), 3) := by decide +kernel
theorem dX12_firstUnlike_103 : decode cX12_firstUnlike 103 = .ok (.goto (-52), 3) := by decide +kernel
theorem dX12_firstUnlike_106 : decode cX12_firstUnlike 106 = .ok (.aload_n 0, 1) := by decide +kernel
theorem dX12_firstUnlike_107 : decode cX12_firstUnlike 107 = .ok (.iload 4, 2) := by decide +kernel
theorem dX12_firstUnlike_109 : decode cX12_firstUnlike 109 = .ok (.putfield 225, 3) := by decide +kernel
theorem dX12_firstUnlike_112 : decode cX12_firstUnlike 112 = .ok (.iload 6, 2) := by decide +kernel
theorem dX12_firstUnlike_114 : decode cX12_firstUnlike 114 = .ok (.ireturn, 1) := by decide +kernel
theorem dX12_levels_0 : decode cX12_levels 0 = .ok (.iconst 0, 1) := by decide +kernel
theorem dX12_levels_1 : decode cX12_levels 1 = .ok (.istore_n 1, 1) := by decide +kernel
theorem dX12_levels_2 : decode cX12_levels 2 = .ok (.iconst 1, 1) := by decide +kernel
theorem dX12_levels_3 : decode cX12_levels 3 = .ok (.iload_n 1, 1) := by decide +kernel
theorem dX12_levels_4 : decode cX12_levels 4 = .ok (.ishl, 1) := by decide +kernel
theorem dX12_levels_5 : decode cX12_levels 5 = .ok (.iload_n 0, 1) := by decide +kernel
theorem dX12_levels_6 : decode cX12_levels 6 = .ok (.if_icmp .gt 9, 3) := by decide +kernel
theorem dX12_levels_9 : decode cX12_levels 9 = .ok (.iinc 1 1, 3) := by decide +kernel
theorem dX12_levels_12 : decode cX12_levels 12 = .ok (.goto (-10), 3) := by decide +kernel
theorem dX12_levels_15 : decode cX12_levels 15 = .ok (.iload_n 1, 1) := by decide +kernel
theorem dX12_levels_16 : decode cX12_levels 16 = .ok (.ireturn, 1) := by decide +kernel
theorem dX12_priceOf_0 : decode cX12_priceOf 0 = .ok (.iconst 0, 1) := by decide +kernel
theorem dX12_priceOf_1 : decode cX12_priceOf 1 = .ok (.istore 4, 2) := by decide +kernel
theorem dX12_priceOf_3 : decode cX12_priceOf 3 = .ok (.iconst 0, 1) := by decide +kernel
theorem dX12_priceOf_4 : decode cX12_priceOf 4 = .ok (.istore 5, 2) := by decide +kernel
theorem dX12_priceOf_6 : decode cX12_priceOf 6 = .ok (.bipush 16, 2) := by decide +kernel
theorem dX12_priceOf_8 : decode cX12_priceOf 8 = .ok (.iload_n 2, 1) := by decide +kernel
theorem dX12_priceOf_9 : decode cX12_priceOf 9 = .ok (.imul, 1) := by decide +kernel
theorem dX12_priceOf_10 : decode cX12_priceOf 10 = .ok (.istore 6, 2) := by decide +kernel
theorem dX12_priceOf_12 : decode cX12_priceOf 12 = .ok (.iload 6, 2) := by decide +kernel
theorem dX12_priceOf_14 : decode cX12_priceOf 14 = .ok (.bipush 16, 2) := by decide +kernel
theorem dX12_priceOf_16 : decode cX12_priceOf 16 = .ok (.iload_n 2, 1) := by decide +kernel
theorem dX12_priceOf_17 : decode cX12_priceOf 17 = .ok (.imul, 1) := by decide +kernel
theorem dX12_priceOf_18 : decode cX12_priceOf 18 = .ok (.aload_n 0, 1) := by decide +kernel
theorem dX12_priceOf_19 : decode cX12_priceOf 19 = .ok (.getfield 35, 3) := by decide +kernel
theorem dX12_priceOf_22 : decode cX12_priceOf 22 = .ok (.iload_n 2, 1) := by decide +kernel
theorem dX12_priceOf_23 : decode cX12_priceOf 23 = .ok (.iaload, 1) := by decide +kernel
theorem dX12_priceOf_24 : decode cX12_priceOf 24 = .ok (.iadd, 1) := by decide +kernel
theorem dX12_priceOf_25 : decode cX12_priceOf 25 = .ok (.if_icmp .ge 65, 3) := by decide +kernel
theorem dX12_priceOf_28 : decode cX12_priceOf 28 = .ok (.iload 4, 2) := by decide +kernel
theorem dX12_priceOf_30 : decode cX12_priceOf 30 = .ok (.ifCond .ne 13, 3) := by decide +kernel
theorem dX12_priceOf_33 : decode cX12_priceOf 33 = .ok (.aload_n 0, 1) := by decide +kernel
theorem dX12_priceOf_34 : decode cX12_priceOf 34 = .ok (.iload 6, 2) := by decide +kernel
theorem dX12_priceOf_36 : decode cX12_priceOf 36 = .ok (.iload_n 1, 1) := by decide +kernel
theorem dX12_priceOf_37 : decode cX12_priceOf 37 = .ok (.invokevirtual 311, 3) := by decide +kernel
theorem dX12_priceOf_40 : decode cX12_priceOf 40 = .ok (.ifCond .eq 7, 3) := by decide +kernel
theorem dX12_priceOf_43 : decode cX12_priceOf 43 = .ok (.iconst 1, 1) := by decide +kernel
theorem dX12_priceOf_44 : decode cX12_priceOf 44 = .ok (.goto 4, 3) := by decide +kernel
theorem dX12_priceOf_47 : decode cX12_priceOf 47 = .ok (.iconst 0, 1) := by decide +kernel
theorem dX12_priceOf_48 : decode cX12_priceOf 48 = .ok (.istore 4, 2) := by decide +kernel
theorem dX12_priceOf_50 : decode cX12_priceOf 50 = .ok (.iload 5, 2) := by decide +kernel
theorem dX12_priceOf_52 : decode cX12_priceOf 52 = .ok (.ifCond .ne 25, 3) := by decide +kernel
theorem dX12_priceOf_55 : decode cX12_priceOf 55 = .ok (.aload_n 0, 1) := by decide +kernel
theorem dX12_priceOf_56 : decode cX12_priceOf 56 = .ok (.iload 6, 2) := by decide +kernel
theorem dX12_priceOf_58 : decode cX12_priceOf 58 = .ok (.iload_n 1, 1) := by decide +kernel
theorem dX12_priceOf_59 : decode cX12_priceOf 59 = .ok (.invokevirtual 311, 3) := by decide +kernel
theorem dX12_priceOf_62 : decode cX12_priceOf 62 = .ok (.ifCond .eq 19, 3) := by decide +kernel
theorem dX12_priceOf_65 : decode cX12_priceOf 65 = .ok (.aload_n 0, 1) := by decide +kernel
theorem dX12_priceOf_66 : decode cX12_priceOf 66 = .ok (.getfield 29, 3) := by decide +kernel
theorem dX12_priceOf_69 : decode cX12_priceOf 69 = .ok (.iload 6, 2) := by decide +kernel
theorem dX12_priceOf_71 : decode cX12_priceOf 71 = .ok (.iaload, 1) := by decide +kernel
theorem dX12_priceOf_72 : decode cX12_priceOf 72 = .ok (.bipush 61, 2) := by decide +kernel
theorem dX12_priceOf_74 : decode cX12_priceOf 74 = .ok (.if_icmp .ne 7, 3) := by decide +kernel
theorem dX12_priceOf_77 : decode cX12_priceOf 77 = .ok (.iconst 1, 1) := by decide +kernel
theorem dX12_priceOf_78 : decode cX12_priceOf 78 = .ok (.goto 4, 3) := by decide +kernel
theorem dX12_priceOf_81 : decode cX12_priceOf 81 = .ok (.iconst 0, 1) := by decide +kernel
theorem dX12_priceOf_82 : decode cX12_priceOf 82 = .ok (.istore 5, 2) := by decide +kernel
theorem dX12_priceOf_84 : decode cX12_priceOf 84 = .ok (.iinc 6 1, 3) := by decide +kernel
theorem dX12_priceOf_87 : decode cX12_priceOf 87 = .ok (.goto (-75), 3) := by decide +kernel
theorem dX12_priceOf_90 : decode cX12_priceOf 90 = .ok (.iload_n 3, 1) := by decide +kernel
theorem dX12_priceOf_91 : decode cX12_priceOf 91 = .ok (.invokestatic 354, 3) := by decide +kernel
theorem dX12_priceOf_94 : decode cX12_priceOf 94 = .ok (.istore 6, 2) := by decide +kernel
theorem dX12_priceOf_96 : decode cX12_priceOf 96 = .ok (.aload_n 0, 1) := by decide +kernel
theorem dX12_priceOf_97 : decode cX12_priceOf 97 = .ok (.getfield 47, 3) := by decide +kernel
theorem dX12_priceOf_100 : decode cX12_priceOf 100 = .ok (.iload_n 1, 1) := by decide +kernel
theorem dX12_priceOf_101 : decode cX12_priceOf 101 = .ok (.iaload, 1) := by decide +kernel
theorem dX12_priceOf_102 : decode cX12_priceOf 102 = .ok (.tableswitch 166 1 7 #[42, 44, 93, 134, 44, 150, 44], 42) := by decide +kernel
theorem dX12_priceOf_144 : decode cX12_priceOf 144 = .ok (.iload_n 3, 1) := by decide +kernel
theorem dX12_priceOf_145 : decode cX12_priceOf 145 = .ok (.ireturn, 1) := by decide +kernel
theorem dX12_priceOf_146 : decode cX12_priceOf 146 = .ok (.aload_n 0, 1) := by decide +kernel
theorem dX12_priceOf_147 : decode cX12_priceOf 147 = .ok (.iload_n 2, 1) := by decide +kernel
theorem dX12_priceOf_148 : decode cX12_priceOf 148 = .ok (.iload_n 1, 1) := by decide +kernel
theorem dX12_priceOf_149 : decode cX12_priceOf 149 = .ok (.invokevirtual 335, 3) := by decide +kernel
theorem dX12_priceOf_152 : decode cX12_priceOf 152 = .ok (.ifCond .eq 10, 3) := by decide +kernel
theorem dX12_priceOf_155 : decode cX12_priceOf 155 = .ok (.iconst 2, 1) := by decide +kernel
theorem dX12_priceOf_156 : decode cX12_priceOf 156 = .ok (.iload 6, 2) := by decide +kernel
theorem dX12_priceOf_158 : decode cX12_priceOf 158 = .ok (.imul, 1) := by decide +kernel
theorem dX12_priceOf_159 : decode cX12_priceOf 159 = .ok (.goto 35, 3) := by decide +kernel
theorem dX12_priceOf_162 : decode cX12_priceOf 162 = .ok (.iload 5, 2) := by decide +kernel
theorem dX12_priceOf_164 : decode cX12_priceOf 164 = .ok (.ifCond .eq 10, 3) := by decide +kernel
theorem dX12_priceOf_167 : decode cX12_priceOf 167 = .ok (.iload 6, 2) := by decide +kernel
theorem dX12_priceOf_169 : decode cX12_priceOf 169 = .ok (.iconst 2, 1) := by decide +kernel
theorem dX12_priceOf_170 : decode cX12_priceOf 170 = .ok (.iadd, 1) := by decide +kernel
theorem dX12_priceOf_171 : decode cX12_priceOf 171 = .ok (.goto 23, 3) := by decide +kernel
theorem dX12_priceOf_174 : decode cX12_priceOf 174 = .ok (.iload 4, 2) := by decide +kernel
theorem dX12_priceOf_176 : decode cX12_priceOf 176 = .ok (.ifCond .eq 14, 3) := by decide +kernel
theorem dX12_priceOf_179 : decode cX12_priceOf 179 = .ok (.iload 6, 2) := by decide +kernel
theorem dX12_priceOf_181 : decode cX12_priceOf 181 = .ok (.iload_n 3, 1) := by decide +kernel
theorem dX12_priceOf_182 : decode cX12_priceOf 182 = .ok (.iconst 4, 1) := by decide +kernel
theorem dX12_priceOf_183 : decode cX12_priceOf 183 = .ok (.idiv, 1) := by decide +kernel
theorem dX12_priceOf_184 : decode cX12_priceOf 184 = .ok (.iadd, 1) := by decide +kernel
theorem dX12_priceOf_185 : decode cX12_priceOf 185 = .ok (.iconst 1, 1) := by decide +kernel
theorem dX12_priceOf_186 : decode cX12_priceOf 186 = .ok (.iadd, 1) := by decide +kernel
theorem dX12_priceOf_187 : decode cX12_priceOf 187 = .ok (.goto 7, 3) := by decide +kernel
theorem dX12_priceOf_190 : decode cX12_priceOf 190 = .ok (.iload_n 3, 1) := by decide +kernel
theorem dX12_priceOf_191 : decode cX12_priceOf 191 = .ok (.iload 6, 2) := by decide +kernel
theorem dX12_priceOf_193 : decode cX12_priceOf 193 = .ok (.iadd, 1) := by decide +kernel
theorem dX12_priceOf_194 : decode cX12_priceOf 194 = .ok (.ireturn, 1) := by decide +kernel
theorem dX12_priceOf_195 : decode cX12_priceOf 195 = .ok (.aload_n 0, 1) := by decide +kernel
theorem dX12_priceOf_196 : decode cX12_priceOf 196 = .ok (.getfield 38, 3) := by decide +kernel
theorem dX12_priceOf_199 : decode cX12_priceOf 199 = .ok (.iload_n 2, 1) := by decide +kernel
theorem dX12_priceOf_200 : decode cX12_priceOf 200 = .ok (.iaload, 1) := by decide +kernel
theorem dX12_priceOf_201 : decode cX12_priceOf 201 = .ok (.bipush 109, 2) := by decide +kernel
theorem dX12_priceOf_203 : decode cX12_priceOf 203 = .ok (.if_icmp .ne 31, 3) := by decide +kernel
theorem dX12_priceOf_206 : decode cX12_priceOf 206 = .ok (.aload_n 0, 1) := by decide +kernel
theorem dX12_priceOf_207 : decode cX12_priceOf 207 = .ok (.getfield 41, 3) := by decide +kernel
theorem dX12_priceOf_210 : decode cX12_priceOf 210 = .ok (.iload_n 2, 1) := by decide +kernel
theorem dX12_priceOf_211 : decode cX12_priceOf 211 = .ok (.iaload, 1) := by decide +kernel
theorem dX12_priceOf_212 : decode cX12_priceOf 212 = .ok (.aload_n 0, 1) := by decide +kernel
theorem dX12_priceOf_213 : decode cX12_priceOf 213 = .ok (.getfield 50, 3) := by decide +kernel
theorem dX12_priceOf_216 : decode cX12_priceOf 216 = .ok (.iload_n 1, 1) := by decide +kernel
theorem dX12_priceOf_217 : decode cX12_priceOf 217 = .ok (.iaload, 1) := by decide +kernel
theorem dX12_priceOf_218 : decode cX12_priceOf 218 = .ok (.if_icmp .ne 16, 3) := by decide +kernel
theorem dX12_priceOf_221 : decode cX12_priceOf 221 = .ok (.aload_n 0, 1) := by decide +kernel
theorem dX12_priceOf_222 : decode cX12_priceOf 222 = .ok (.getfield 35, 3) := by decide +kernel
theorem dX12_priceOf_225 : decode cX12_priceOf 225 = .ok (.iload_n 2, 1) := by decide +kernel
theorem dX12_priceOf_226 : decode cX12_priceOf 226 = .ok (.iaload, 1) := by decide +kernel
theorem dX12_priceOf_227 : decode cX12_priceOf 227 = .ok (.ifCond .ne 7, 3) := by decide +kernel
theorem dX12_priceOf_230 : decode cX12_priceOf 230 = .ok (.iconst 1, 1) := by decide +kernel
theorem dX12_priceOf_231 : decode cX12_priceOf 231 = .ok (.goto 4, 3) := by decide +kernel
theorem dX12_priceOf_234 : decode cX12_priceOf 234 = .ok (.iload_n 3, 1) := by decide +kernel
theorem dX12_priceOf_235 : decode cX12_priceOf 235 = .ok (.ireturn, 1) := by decide +kernel
theorem dX12_priceOf_236 : decode cX12_priceOf 236 = .ok (.iload 5, 2) := by decide +kernel
theorem dX12_priceOf_238 : decode cX12_priceOf 238 = .ok (.ifCond .eq 12, 3) := by decide +kernel
theorem dX12_priceOf_241 : decode cX12_priceOf 241 = .ok (.iload_n 3, 1) := by decide +kernel
theorem dX12_priceOf_242 : decode cX12_priceOf 242 = .ok (.bipush 8, 2) := by decide +kernel
theorem dX12_priceOf_244 : decode cX12_priceOf 244 = .ok (.idiv, 1) := by decide +kernel
theorem dX12_priceOf_245 : decode cX12_priceOf 245 = .ok (.iconst 1, 1) := by decide +kernel
theorem dX12_priceOf_246 : decode cX12_priceOf 246 = .ok (.iadd, 1) := by decide +kernel
theorem dX12_priceOf_247 : decode cX12_priceOf 247 = .ok (.goto 4, 3) := by decide +kernel
theorem dX12_priceOf_250 : decode cX12_priceOf 250 = .ok (.iload_n 3, 1) := by decide +kernel
theorem dX12_priceOf_251 : decode cX12_priceOf 251 = .ok (.ireturn, 1) := by decide +kernel
theorem dX12_priceOf_252 : decode cX12_priceOf 252 = .ok (.aload_n 0, 1) := by decide +kernel
theorem dX12_priceOf_253 : decode cX12_priceOf 253 = .ok (.iload_n 2, 1) := by decide +kernel
theorem dX12_priceOf_254 : decode cX12_priceOf 254 = .ok (.iload_n 1, 1) := by decide +kernel
theorem dX12_priceOf_255 : decode cX12_priceOf 255 = .ok (.invokevirtual 329, 3) := by decide +kernel
theorem dX12_priceOf_258 : decode cX12_priceOf 258 = .ok (.ifCond .eq 7, 3) := by decide +kernel
theorem dX12_priceOf_261 : decode cX12_priceOf 261 = .ok (.iconst 2, 1) := by decide +kernel
theorem dX12_priceOf_262 : decode cX12_priceOf 262 = .ok (.goto 5, 3) := by decide +kernel
theorem dX12_priceOf_265 : decode cX12_priceOf 265 = .ok (.bipush (-2), 2) := by decide +kernel
theorem dX12_priceOf_267 : decode cX12_priceOf 267 = .ok (.ireturn, 1) := by decide +kernel
theorem dX12_priceOf_268 : decode cX12_priceOf 268 = .ok (.bipush (-2), 2) := by decide +kernel
theorem dX12_priceOf_270 : decode cX12_priceOf 270 = .ok (.ireturn, 1) := by decide +kernel
theorem dX12_isSize_0 : decode cX12_isSize 0 = .ok (.iload_n 0, 1) := by decide +kernel
theorem dX12_isSize_1 : decode cX12_isSize 1 = .ok (.i2l, 1) := by decide +kernel
theorem dX12_isSize_2 : decode cX12_isSize 2 = .ok (.lconst 1, 1) := by decide +kernel
theorem dX12_isSize_3 : decode cX12_isSize 3 = .ok (.ldc2_w 357, 3) := by decide +kernel
theorem dX12_isSize_6 : decode cX12_isSize 6 = .ok (.invokestatic 135, 3) := by decide +kernel
theorem dX12_isSize_9 : decode cX12_isSize 9 = .ok (.ireturn, 1) := by decide +kernel
theorem dX12_price_0 : decode cX12_price 0 = .ok (.aload_n 0, 1) := by decide +kernel
theorem dX12_price_1 : decode cX12_price 1 = .ok (.iload_n 1, 1) := by decide +kernel
theorem dX12_price_2 : decode cX12_price 2 = .ok (.invokevirtual 302, 3) := by decide +kernel
theorem dX12_price_5 : decode cX12_price 5 = .ok (.ifCond .eq 28, 3) := by decide +kernel
theorem dX12_price_8 : decode cX12_price 8 = .ok (.aload_n 0, 1) := by decide +kernel
theorem dX12_price_9 : decode cX12_price 9 = .ok (.iload_n 2, 1) := by decide +kernel
theorem dX12_price_10 : decode cX12_price 10 = .ok (.invokevirtual 204, 3) := by decide +kernel
theorem dX12_price_13 : decode cX12_price 13 = .ok (.ifCond .eq 20, 3) := by decide +kernel
theorem dX12_price_16 : decode cX12_price 16 = .ok (.iload_n 3, 1) := by decide +kernel
theorem dX12_price_17 : decode cX12_price 17 = .ok (.invokestatic 359, 3) := by decide +kernel
theorem dX12_price_20 : decode cX12_price 20 = .ok (.ifCond .eq 13, 3) := by decide +kernel
theorem dX12_price_23 : decode cX12_price 23 = .ok (.aload_n 0, 1) := by decide +kernel
theorem dX12_price_24 : decode cX12_price 24 = .ok (.iload_n 1, 1) := by decide +kernel
theorem dX12_price_25 : decode cX12_price 25 = .ok (.iload_n 2, 1) := by decide +kernel
theorem dX12_price_26 : decode cX12_price 26 = .ok (.iload_n 3, 1) := by decide +kernel
theorem dX12_price_27 : decode cX12_price 27 = .ok (.invokevirtual 362, 3) := by decide +kernel
theorem dX12_price_30 : decode cX12_price 30 = .ok (.goto 4, 3) := by decide +kernel
theorem dX12_price_33 : decode cX12_price 33 = .ok (.iconst (-1), 1) := by decide +kernel
theorem dX12_price_34 : decode cX12_price 34 = .ok (.ireturn, 1) := by decide +kernel
theorem dX12_putPriceOf_0 : decode cX12_putPriceOf 0 = .ok (.iload_n 2, 1) := by decide +kernel
theorem dX12_putPriceOf_1 : decode cX12_putPriceOf 1 = .ok (.invokestatic 354, 3) := by decide +kernel
theorem dX12_putPriceOf_4 : decode cX12_putPriceOf 4 = .ok (.istore_n 3, 1) := by decide +kernel
theorem dX12_putPriceOf_5 : decode cX12_putPriceOf 5 = .ok (.aload_n 0, 1) := by decide +kernel
theorem dX12_putPriceOf_6 : decode cX12_putPriceOf 6 = .ok (.getfield 47, 3) := by decide +kernel
theorem dX12_putPriceOf_9 : decode cX12_putPriceOf 9 = .ok (.iload_n 1, 1) := by decide +kernel
theorem dX12_putPriceOf_10 : decode cX12_putPriceOf 10 = .ok (.iaload, 1) := by decide +kernel
theorem dX12_putPriceOf_11 : decode cX12_putPriceOf 11 = .ok (.tableswitch 57 1 7 #[41, 43, 49, 41, 51, 55, 43], 41) := by decide +kernel
theorem dX12_putPriceOf_52 : decode cX12_putPriceOf 52 = .ok (.iconst 1, 1) := by decide +kernel
theorem dX12_putPriceOf_53 : decode cX12_putPriceOf 53 = .ok (.ireturn, 1) := by decide +kernel
theorem dX12_putPriceOf_54 : decode cX12_putPriceOf 54 = .ok (.iload_n 3, 1) := by decide +kernel
theorem dX12_putPriceOf_55 : decode cX12_putPriceOf 55 = .ok (.iload_n 2, 1) := by decide +kernel
theorem dX12_putPriceOf_56 : decode cX12_putPriceOf 56 = .ok (.iconst 2, 1) := by decide +kernel
theorem dX12_putPriceOf_57 : decode cX12_putPriceOf 57 = .ok (.idiv, 1) := by decide +kernel
theorem dX12_putPriceOf_58 : decode cX12_putPriceOf 58 = .ok (.iadd, 1) := by decide +kernel
theorem dX12_putPriceOf_59 : decode cX12_putPriceOf 59 = .ok (.ireturn, 1) := by decide +kernel
theorem dX12_putPriceOf_60 : decode cX12_putPriceOf 60 = .ok (.iload_n 3, 1) := by decide +kernel
theorem dX12_putPriceOf_61 : decode cX12_putPriceOf 61 = .ok (.ireturn, 1) := by decide +kernel
theorem dX12_putPriceOf_62 : decode cX12_putPriceOf 62 = .ok (.iconst 2, 1) := by decide +kernel
theorem dX12_putPriceOf_63 : decode cX12_putPriceOf 63 = .ok (.iload_n 3, 1) := by decide +kernel
theorem dX12_putPriceOf_64 : decode cX12_putPriceOf 64 = .ok (.imul, 1) := by decide +kernel
theorem dX12_putPriceOf_65 : decode cX12_putPriceOf 65 = .ok (.ireturn, 1) := by decide +kernel
theorem dX12_putPriceOf_66 : decode cX12_putPriceOf 66 = .ok (.iconst 2, 1) := by decide +kernel
theorem dX12_putPriceOf_67 : decode cX12_putPriceOf 67 = .ok (.ireturn, 1) := by decide +kernel
theorem dX12_putPriceOf_68 : decode cX12_putPriceOf 68 = .ok (.iconst 0, 1) := by decide +kernel
theorem dX12_putPriceOf_69 : decode cX12_putPriceOf 69 = .ok (.ireturn, 1) := by decide +kernel
theorem dX12_putPrice_0 : decode cX12_putPrice 0 = .ok (.aload_n 0, 1) := by decide +kernel
theorem dX12_putPrice_1 : decode cX12_putPrice 1 = .ok (.iload_n 1, 1) := by decide +kernel
theorem dX12_putPrice_2 : decode cX12_putPrice 2 = .ok (.invokevirtual 302, 3) := by decide +kernel
theorem dX12_putPrice_5 : decode cX12_putPrice 5 = .ok (.ifCond .eq 19, 3) := by decide +kernel
theorem dX12_putPrice_8 : decode cX12_putPrice 8 = .ok (.iload_n 2, 1) := by decide +kernel
theorem dX12_putPrice_9 : decode cX12_putPrice 9 = .ok (.invokestatic 359, 3) := by decide +kernel
theorem dX12_putPrice_12 : decode cX12_putPrice 12 = .ok (.ifCond .eq 12, 3) := by decide +kernel
theorem dX12_putPrice_15 : decode cX12_putPrice 15 = .ok (.aload_n 0, 1) := by decide +kernel
theorem dX12_putPrice_16 : decode cX12_putPrice 16 = .ok (.iload_n 1, 1) := by decide +kernel
theorem dX12_putPrice_17 : decode cX12_putPrice 17 = .ok (.iload_n 2, 1) := by decide +kernel
theorem dX12_putPrice_18 : decode cX12_putPrice 18 = .ok (.invokevirtual 365, 3) := by decide +kernel
theorem dX12_putPrice_21 : decode cX12_putPrice 21 = .ok (.goto 4, 3) := by decide +kernel
theorem dX12_putPrice_24 : decode cX12_putPrice 24 = .ok (.iconst (-1), 1) := by decide +kernel
theorem dX12_putPrice_25 : decode cX12_putPrice 25 = .ok (.ireturn, 1) := by decide +kernel
theorem dX12_isPlan_0 : decode cX12_isPlan 0 = .ok (.iload_n 1, 1) := by decide +kernel
theorem dX12_isPlan_1 : decode cX12_isPlan 1 = .ok (.ifCond .lt 16, 3) := by decide +kernel
theorem dX12_isPlan_4 : decode cX12_isPlan 4 = .ok (.iload_n 1, 1) := by decide +kernel
theorem dX12_isPlan_5 : decode cX12_isPlan 5 = .ok (.aload_n 0, 1) := by decide +kernel
theorem dX12_isPlan_6 : decode cX12_isPlan 6 = .ok (.getfield 153, 3) := by decide +kernel
theorem dX12_isPlan_9 : decode cX12_isPlan 9 = .ok (.ishr, 1) := by decide +kernel
theorem dX12_isPlan_10 : decode cX12_isPlan 10 = .ok (.ifCond .ne 7, 3) := by decide +kernel
theorem dX12_isPlan_13 : decode cX12_isPlan 13 = .ok (.iconst 1, 1) := by decide +kernel
theorem dX12_isPlan_14 : decode cX12_isPlan 14 = .ok (.goto 4, 3) := by decide +kernel
theorem dX12_isPlan_17 : decode cX12_isPlan 17 = .ok (.iconst 0, 1) := by decide +kernel
theorem dX12_isPlan_18 : decode cX12_isPlan 18 = .ok (.ireturn, 1) := by decide +kernel
theorem dX12_cheapest_0 : decode cX12_cheapest 0 = .ok (.bipush (-2), 2) := by decide +kernel
theorem dX12_cheapest_2 : decode cX12_cheapest 2 = .ok (.istore 4, 2) := by decide +kernel
theorem dX12_cheapest_4 : decode cX12_cheapest 4 = .ok (.aload_n 0, 1) := by decide +kernel
theorem dX12_cheapest_5 : decode cX12_cheapest 5 = .ok (.getfield 153, 3) := by decide +kernel
theorem dX12_cheapest_8 : decode cX12_cheapest 8 = .ok (.iconst 1, 1) := by decide +kernel
theorem dX12_cheapest_9 : decode cX12_cheapest 9 = .ok (.isub, 1) := by decide +kernel
theorem dX12_cheapest_10 : decode cX12_cheapest 10 = .ok (.istore 5, 2) := by decide +kernel
theorem dX12_cheapest_12 : decode cX12_cheapest 12 = .ok (.iload 5, 2) := by decide +kernel
theorem dX12_cheapest_14 : decode cX12_cheapest 14 = .ok (.ifCond .lt 75, 3) := by decide +kernel
theorem dX12_cheapest_17 : decode cX12_cheapest 17 = .ok (.iload_n 1, 1) := by decide +kernel
theorem dX12_cheapest_18 : decode cX12_cheapest 18 = .ok (.iload 5, 2) := by decide +kernel
theorem dX12_cheapest_20 : decode cX12_cheapest 20 = .ok (.ishr, 1) := by decide +kernel
theorem dX12_cheapest_21 : decode cX12_cheapest 21 = .ok (.iconst 1, 1) := by decide +kernel
theorem dX12_cheapest_22 : decode cX12_cheapest 22 = .ok (.iand, 1) := by decide +kernel
theorem dX12_cheapest_23 : decode cX12_cheapest 23 = .ok (.iconst 1, 1) := by decide +kernel
theorem dX12_cheapest_24 : decode cX12_cheapest 24 = .ok (.if_icmp .ne 18, 3) := by decide +kernel
theorem dX12_cheapest_27 : decode cX12_cheapest 27 = .ok (.aload_n 0, 1) := by decide +kernel
theorem dX12_cheapest_28 : decode cX12_cheapest 28 = .ok (.iload 5, 2) := by decide +kernel
theorem dX12_cheapest_30 : decode cX12_cheapest 30 = .ok (.iload_n 2, 1) := by decide +kernel
theorem dX12_cheapest_31 : decode cX12_cheapest 31 = .ok (.iload_n 3, 1) := by decide +kernel
theorem dX12_cheapest_32 : decode cX12_cheapest 32 = .ok (.invokevirtual 362, 3) := by decide +kernel
theorem dX12_cheapest_35 : decode cX12_cheapest 35 = .ok (.ifCond .lt 7, 3) := by decide +kernel
theorem dX12_cheapest_38 : decode cX12_cheapest 38 = .ok (.iconst 1, 1) := by decide +kernel
theorem dX12_cheapest_39 : decode cX12_cheapest 39 = .ok (.goto 4, 3) := by decide +kernel
theorem dX12_cheapest_42 : decode cX12_cheapest 42 = .ok (.iconst 0, 1) := by decide +kernel
theorem dX12_cheapest_43 : decode cX12_cheapest 43 = .ok (.istore 6, 2) := by decide +kernel
theorem dX12_cheapest_45 : decode cX12_cheapest 45 = .ok (.iload 6, 2) := by decide +kernel
theorem dX12_cheapest_47 : decode cX12_cheapest 47 = .ok (.ifCond .eq 32, 3) := by decide +kernel
theorem dX12_cheapest_50 : decode cX12_cheapest 50 = .ok (.iload 4, 2) := by decide +kernel
theorem dX12_cheapest_52 : decode cX12_cheapest 52 = .ok (.ifCond .lt 22, 3) := by decide +kernel
theorem dX12_cheapest_55 : decode cX12_cheapest 55 = .ok (.aload_n 0, 1) := by decide +kernel
theorem dX12_cheapest_56 : decode cX12_cheapest 56 = .ok (.iload 5, 2) := by decide +kernel
theorem dX12_cheapest_58 : decode cX12_cheapest 58 = .ok (.iload_n 2, 1) := by decide +kernel
theorem dX12_cheapest_59 : decode cX12_cheapest 59 = .ok (.iload_n 3, 1) := by decide +kernel
theorem dX12_cheapest_60 : decode cX12_cheapest 60 = .ok (.invokevirtual 362, 3) := by decide +kernel
theorem dX12_cheapest_63 : decode cX12_cheapest 63 = .ok (.aload_n 0, 1) := by decide +kernel
theorem dX12_cheapest_64 : decode cX12_cheapest 64 = .ok (.iload 4, 2) := by decide +kernel
theorem dX12_cheapest_66 : decode cX12_cheapest 66 = .ok (.iload_n 2, 1) := by decide +kernel
theorem dX12_cheapest_67 : decode cX12_cheapest 67 = .ok (.iload_n 3, 1) := by decide +kernel
theorem dX12_cheapest_68 : decode cX12_cheapest 68 = .ok (.invokevirtual 362, 3) := by decide +kernel
theorem dX12_cheapest_71 : decode cX12_cheapest 71 = .ok (.if_icmp .gt 8, 3) := by decide +kernel
theorem dX12_cheapest_74 : decode cX12_cheapest 74 = .ok (.iload 5, 2) := by decide +kernel
theorem dX12_cheapest_76 : decode cX12_cheapest 76 = .ok (.goto 5, 3) := by decide +kernel
theorem dX12_cheapest_79 : decode cX12_cheapest 79 = .ok (.iload 4, 2) := by decide +kernel
theorem dX12_cheapest_81 : decode cX12_cheapest 81 = .ok (.istore 4, 2) := by decide +kernel
theorem dX12_cheapest_83 : decode cX12_cheapest 83 = .ok (.iinc 5 (-1), 3) := by decide +kernel
theorem dX12_cheapest_86 : decode cX12_cheapest 86 = .ok (.goto (-74), 3) := by decide +kernel
theorem dX12_cheapest_89 : decode cX12_cheapest 89 = .ok (.iload 4, 2) := by decide +kernel
theorem dX12_cheapest_91 : decode cX12_cheapest 91 = .ok (.ireturn, 1) := by decide +kernel
theorem dX12_planOf_0 : decode cX12_planOf 0 = .ok (.lconst 0, 1) := by decide +kernel
theorem dX12_planOf_1 : decode cX12_planOf 1 = .ok (.lstore 4, 2) := by decide +kernel
theorem dX12_planOf_3 : decode cX12_planOf 3 = .ok (.iconst 0, 1) := by decide +kernel
theorem dX12_planOf_4 : decode cX12_planOf 4 = .ok (.istore 6, 2) := by decide +kernel
theorem dX12_planOf_6 : decode cX12_planOf 6 = .ok (.iload 6, 2) := by decide +kernel
theorem dX12_planOf_8 : decode cX12_planOf 8 = .ok (.aload_n 0, 1) := by decide +kernel
theorem dX12_planOf_9 : decode cX12_planOf 9 = .ok (.getfield 198, 3) := by decide +kernel
theorem dX12_planOf_12 : decode cX12_planOf 12 = .ok (.if_icmp .ge 79, 3) := by decide +kernel
theorem dX12_planOf_15 : decode cX12_planOf 15 = .ok (.aload_n 0, 1) := by decide +kernel
theorem dX12_planOf_16 : decode cX12_planOf 16 = .ok (.getfield 44, 3) := by decide +kernel
theorem dX12_planOf_19 : decode cX12_planOf 19 = .ok (.iload 6, 2) := by decide +kernel
theorem dX12_planOf_21 : decode cX12_planOf 21 = .ok (.iaload, 1) := by decide +kernel
theorem dX12_planOf_22 : decode cX12_planOf 22 = .ok (.ifCond .le 14, 3) := by decide +kernel
theorem dX12_planOf_25 : decode cX12_planOf 25 = .ok (.aload_n 0, 1) := by decide +kernel
theorem dX12_planOf_26 : decode cX12_planOf 26 = .ok (.iload_n 1, 1) := by decide +kernel
theorem dX12_planOf_27 : decode cX12_planOf 27 = .ok (.iload 6, 2) := by decide +kernel
theorem dX12_planOf_29 : decode cX12_planOf 29 = .ok (.iload_n 2, 1) := by decide +kernel
theorem dX12_planOf_30 : decode cX12_planOf 30 = .ok (.invokevirtual 368, 3) := by decide +kernel
theorem dX12_planOf_33 : decode cX12_planOf 33 = .ok (.goto 4, 3) := by decide +kernel
theorem dX12_planOf_36 : decode cX12_planOf 36 = .ok (.iconst 0, 1) := by decide +kernel
theorem dX12_planOf_37 : decode cX12_planOf 37 = .ok (.istore 7, 2) := by decide +kernel
theorem dX12_planOf_39 : decode cX12_planOf 39 = .ok (.iload 7, 2) := by decide +kernel
theorem dX12_planOf_41 : decode cX12_planOf 41 = .ok (.ifCond .ge 6, 3) := by decide +kernel
theorem dX12_planOf_44 : decode cX12_planOf 44 = .ok (.bipush (-2), 2) := by decide +kernel
theorem dX12_planOf_46 : decode cX12_planOf 46 = .ok (.ireturn, 1) := by decide +kernel
theorem dX12_planOf_47 : decode cX12_planOf 47 = .ok (.lload 4, 2) := by decide +kernel
theorem dX12_planOf_49 : decode cX12_planOf 49 = .ok (.aload_n 0, 1) := by decide +kernel
theorem dX12_planOf_50 : decode cX12_planOf 50 = .ok (.getfield 44, 3) := by decide +kernel
theorem dX12_planOf_53 : decode cX12_planOf 53 = .ok (.iload 6, 2) := by decide +kernel
theorem dX12_planOf_55 : decode cX12_planOf 55 = .ok (.iaload, 1) := by decide +kernel
theorem dX12_planOf_56 : decode cX12_planOf 56 = .ok (.ifCond .le 25, 3) := by decide +kernel
theorem dX12_planOf_59 : decode cX12_planOf 59 = .ok (.aload_n 0, 1) := by decide +kernel
theorem dX12_planOf_60 : decode cX12_planOf 60 = .ok (.getfield 44, 3) := by decide +kernel
theorem dX12_planOf_63 : decode cX12_planOf 63 = .ok (.iload 6, 2) := by decide +kernel
theorem dX12_planOf_65 : decode cX12_planOf 65 = .ok (.iaload, 1) := by decide +kernel
theorem dX12_planOf_66 : decode cX12_planOf 66 = .ok (.i2l, 1) := by decide +kernel
theorem dX12_planOf_67 : decode cX12_planOf 67 = .ok (.aload_n 0, 1) := by decide +kernel
theorem dX12_planOf_68 : decode cX12_planOf 68 = .ok (.iload 7, 2) := by decide +kernel
theorem dX12_planOf_70 : decode cX12_planOf 70 = .ok (.iload 6, 2) := by decide +kernel
theorem dX12_planOf_72 : decode cX12_planOf 72 = .ok (.iload_n 2, 1) := by decide +kernel
theorem dX12_planOf_73 : decode cX12_planOf 73 = .ok (.invokevirtual 362, 3) := by decide +kernel
theorem dX12_planOf_76 : decode cX12_planOf 76 = .ok (.i2l, 1) := by decide +kernel
theorem dX12_planOf_77 : decode cX12_planOf 77 = .ok (.lmul, 1) := by decide +kernel
theorem dX12_planOf_78 : decode cX12_planOf 78 = .ok (.goto 4, 3) := by decide +kernel
theorem dX12_planOf_81 : decode cX12_planOf 81 = .ok (.lconst 0, 1) := by decide +kernel
theorem dX12_planOf_82 : decode cX12_planOf 82 = .ok (.ladd, 1) := by decide +kernel
theorem dX12_planOf_83 : decode cX12_planOf 83 = .ok (.lstore 4, 2) := by decide +kernel
theorem dX12_planOf_85 : decode cX12_planOf 85 = .ok (.iinc 6 1, 3) := by decide +kernel
theorem dX12_planOf_88 : decode cX12_planOf 88 = .ok (.goto (-82), 3) := by decide +kernel
theorem dX12_planOf_91 : decode cX12_planOf 91 = .ok (.iconst 0, 1) := by decide +kernel
theorem dX12_planOf_92 : decode cX12_planOf 92 = .ok (.istore 6, 2) := by decide +kernel
theorem dX12_planOf_94 : decode cX12_planOf 94 = .ok (.iload 6, 2) := by decide +kernel
theorem dX12_planOf_96 : decode cX12_planOf 96 = .ok (.aload_n 0, 1) := by decide +kernel
theorem dX12_planOf_97 : decode cX12_planOf 97 = .ok (.getfield 153, 3) := by decide +kernel
theorem dX12_planOf_100 : decode cX12_planOf 100 = .ok (.if_icmp .ge 39, 3) := by decide +kernel
theorem dX12_planOf_103 : decode cX12_planOf 103 = .ok (.lload 4, 2) := by decide +kernel
theorem dX12_planOf_105 : decode cX12_planOf 105 = .ok (.iload_n 1, 1) := by decide +kernel
theorem dX12_planOf_106 : decode cX12_planOf 106 = .ok (.iload 6, 2) := by decide +kernel
theorem dX12_planOf_108 : decode cX12_planOf 108 = .ok (.ishr, 1) := by decide +kernel
theorem dX12_planOf_109 : decode cX12_planOf 109 = .ok (.iconst 1, 1) := by decide +kernel
theorem dX12_planOf_110 : decode cX12_planOf 110 = .ok (.iand, 1) := by decide +kernel
theorem dX12_planOf_111 : decode cX12_planOf 111 = .ok (.iconst 1, 1) := by decide +kernel
theorem dX12_planOf_112 : decode cX12_planOf 112 = .ok (.if_icmp .ne 17, 3) := by decide +kernel
theorem dX12_planOf_115 : decode cX12_planOf 115 = .ok (.iload_n 3, 1) := by decide +kernel
theorem dX12_planOf_116 : decode cX12_planOf 116 = .ok (.i2l, 1) := by decide +kernel
theorem dX12_planOf_117 : decode cX12_planOf 117 = .ok (.aload_n 0, 1) := by decide +kernel
theorem dX12_planOf_118 : decode cX12_planOf 118 = .ok (.iload 6, 2) := by decide +kernel
theorem dX12_planOf_120 : decode cX12_planOf 120 = .ok (.iload_n 2, 1) := by decide +kernel
theorem dX12_planOf_121 : decode cX12_planOf 121 = .ok (.invokevirtual 365, 3) := by decide +kernel
theorem dX12_planOf_124 : decode cX12_planOf 124 = .ok (.i2l, 1) := by decide +kernel
theorem dX12_planOf_125 : decode cX12_planOf 125 = .ok (.lmul, 1) := by decide +kernel
theorem dX12_planOf_126 : decode cX12_planOf 126 = .ok (.goto 4, 3) := by decide +kernel
theorem dX12_planOf_129 : decode cX12_planOf 129 = .ok (.lconst 0, 1) := by decide +kernel
theorem dX12_planOf_130 : decode cX12_planOf 130 = .ok (.ladd, 1) := by decide +kernel
theorem dX12_planOf_131 : decode cX12_planOf 131 = .ok (.lstore 4, 2) := by decide +kernel
theorem dX12_planOf_133 : decode cX12_planOf 133 = .ok (.iinc 6 1, 3) := by decide +kernel
theorem dX12_planOf_136 : decode cX12_planOf 136 = .ok (.goto (-42), 3) := by decide +kernel
theorem dX12_planOf_139 : decode cX12_planOf 139 = .ok (.lload 4, 2) := by decide +kernel
theorem dX12_planOf_141 : decode cX12_planOf 141 = .ok (.ldc2_w 371, 3) := by decide +kernel
theorem dX12_planOf_144 : decode cX12_planOf 144 = .ok (.lcmp, 1) := by decide +kernel
theorem dX12_planOf_145 : decode cX12_planOf 145 = .ok (.ifCond .le 9, 3) := by decide +kernel
theorem dX12_planOf_148 : decode cX12_planOf 148 = .ok (.ldc2_w 371, 3) := by decide +kernel
theorem dX12_planOf_151 : decode cX12_planOf 151 = .ok (.goto 5, 3) := by decide +kernel
theorem dX12_planOf_154 : decode cX12_planOf 154 = .ok (.lload 4, 2) := by decide +kernel
theorem dX12_planOf_156 : decode cX12_planOf 156 = .ok (.l2i, 1) := by decide +kernel
theorem dX12_planOf_157 : decode cX12_planOf 157 = .ok (.ireturn, 1) := by decide +kernel
theorem dX12_plan_0 : decode cX12_plan 0 = .ok (.aload_n 0, 1) := by decide +kernel
theorem dX12_plan_1 : decode cX12_plan 1 = .ok (.iload_n 1, 1) := by decide +kernel
theorem dX12_plan_2 : decode cX12_plan 2 = .ok (.invokevirtual 373, 3) := by decide +kernel
theorem dX12_plan_5 : decode cX12_plan 5 = .ok (.ifCond .eq 32, 3) := by decide +kernel
theorem dX12_plan_8 : decode cX12_plan 8 = .ok (.iload_n 2, 1) := by decide +kernel
theorem dX12_plan_9 : decode cX12_plan 9 = .ok (.invokestatic 359, 3) := by decide +kernel
theorem dX12_plan_12 : decode cX12_plan 12 = .ok (.ifCond .eq 25, 3) := by decide +kernel
theorem dX12_plan_15 : decode cX12_plan 15 = .ok (.iload_n 3, 1) := by decide +kernel
theorem dX12_plan_16 : decode cX12_plan 16 = .ok (.i2l, 1) := by decide +kernel
theorem dX12_plan_17 : decode cX12_plan 17 = .ok (.lconst 0, 1) := by decide +kernel
theorem dX12_plan_18 : decode cX12_plan 18 = .ok (.ldc2_w 357, 3) := by decide +kernel
theorem dX12_plan_21 : decode cX12_plan 21 = .ok (.invokestatic 135, 3) := by decide +kernel
theorem dX12_plan_24 : decode cX12_plan 24 = .ok (.ifCond .eq 13, 3) := by decide +kernel
theorem dX12_plan_27 : decode cX12_plan 27 = .ok (.aload_n 0, 1) := by decide +kernel
theorem dX12_plan_28 : decode cX12_plan 28 = .ok (.iload_n 1, 1) := by decide +kernel
theorem dX12_plan_29 : decode cX12_plan 29 = .ok (.iload_n 2, 1) := by decide +kernel
theorem dX12_plan_30 : decode cX12_plan 30 = .ok (.iload_n 3, 1) := by decide +kernel
theorem dX12_plan_31 : decode cX12_plan 31 = .ok (.invokevirtual 376, 3) := by decide +kernel
theorem dX12_plan_34 : decode cX12_plan 34 = .ok (.goto 4, 3) := by decide +kernel
theorem dX12_plan_37 : decode cX12_plan 37 = .ok (.iconst (-1), 1) := by decide +kernel
theorem dX12_plan_38 : decode cX12_plan 38 = .ok (.ireturn, 1) := by decide +kernel
theorem dX12_leastPlan_0 : decode cX12_leastPlan 0 = .ok (.iload_n 1, 1) := by decide +kernel
theorem dX12_leastPlan_1 : decode cX12_leastPlan 1 = .ok (.invokestatic 359, 3) := by decide +kernel
theorem dX12_leastPlan_4 : decode cX12_leastPlan 4 = .ok (.ifCond .eq 27, 3) := by decide +kernel
theorem dX12_leastPlan_7 : decode cX12_leastPlan 7 = .ok (.iload_n 2, 1) := by decide +kernel
theorem dX12_leastPlan_8 : decode cX12_leastPlan 8 = .ok (.i2l, 1) := by decide +kernel
theorem dX12_leastPlan_9 : decode cX12_leastPlan 9 = .ok (.lconst 0, 1) := by decide +kernel
theorem dX12_leastPlan_10 : decode cX12_leastPlan 10 = .ok (.ldc2_w 357, 3) := by decide +kernel
theorem dX12_leastPlan_13 : decode cX12_leastPlan 13 = .ok (.invokestatic 135, 3) := by decide +kernel
theorem dX12_leastPlan_16 : decode cX12_leastPlan 16 = .ok (.ifCond .eq 15, 3) := by decide +kernel
theorem dX12_leastPlan_19 : decode cX12_leastPlan 19 = .ok (.iload_n 3, 1) := by decide +kernel
theorem dX12_leastPlan_20 : decode cX12_leastPlan 20 = .ok (.i2l, 1) := by decide +kernel
theorem dX12_leastPlan_21 : decode cX12_leastPlan 21 = .ok (.lconst 1, 1) := by decide +kernel
theorem dX12_leastPlan_22 : decode cX12_leastPlan 22 = .ok (.ldc2_w 166, 3) := by decide +kernel
theorem dX12_leastPlan_25 : decode cX12_leastPlan 25 = .ok (.invokestatic 135, 3) := by decide +kernel
theorem dX12_leastPlan_28 : decode cX12_leastPlan 28 = .ok (.ifCond .ne 5, 3) := by decide +kernel
theorem dX12_leastPlan_31 : decode cX12_leastPlan 31 = .ok (.iconst (-1), 1) := by decide +kernel
theorem dX12_leastPlan_32 : decode cX12_leastPlan 32 = .ok (.ireturn, 1) := by decide +kernel
theorem dX12_leastPlan_33 : decode cX12_leastPlan 33 = .ok (.bipush (-2), 2) := by decide +kernel
theorem dX12_leastPlan_35 : decode cX12_leastPlan 35 = .ok (.istore 4, 2) := by decide +kernel
theorem dX12_leastPlan_37 : decode cX12_leastPlan 37 = .ok (.iconst 1, 1) := by decide +kernel
theorem dX12_leastPlan_38 : decode cX12_leastPlan 38 = .ok (.aload_n 0, 1) := by decide +kernel
theorem dX12_leastPlan_39 : decode cX12_leastPlan 39 = .ok (.getfield 153, 3) := by decide +kernel
theorem dX12_leastPlan_42 : decode cX12_leastPlan 42 = .ok (.ishl, 1) := by decide +kernel
theorem dX12_leastPlan_43 : decode cX12_leastPlan 43 = .ok (.iconst 1, 1) := by decide +kernel
theorem dX12_leastPlan_44 : decode cX12_leastPlan 44 = .ok (.isub, 1) := by decide +kernel
theorem dX12_leastPlan_45 : decode cX12_leastPlan 45 = .ok (.istore 5, 2) := by decide +kernel
theorem dX12_leastPlan_47 : decode cX12_leastPlan 47 = .ok (.iload 5, 2) := by decide +kernel
theorem dX12_leastPlan_49 : decode cX12_leastPlan 49 = .ok (.ifCond .lt 104, 3) := by decide +kernel
theorem dX12_leastPlan_52 : decode cX12_leastPlan 52 = .ok (.iload 5, 2) := by decide +kernel
theorem dX12_leastPlan_54 : decode cX12_leastPlan 54 = .ok (.invokestatic 305, 3) := by decide +kernel
theorem dX12_leastPlan_57 : decode cX12_leastPlan 57 = .ok (.iload_n 3, 1) := by decide +kernel
theorem dX12_leastPlan_58 : decode cX12_leastPlan 58 = .ok (.if_icmp .gt 14, 3) := by decide +kernel
theorem dX12_leastPlan_61 : decode cX12_leastPlan 61 = .ok (.aload_n 0, 1) := by decide +kernel
theorem dX12_leastPlan_62 : decode cX12_leastPlan 62 = .ok (.iload 5, 2) := by decide +kernel
theorem dX12_leastPlan_64 : decode cX12_leastPlan 64 = .ok (.iload_n 1, 1) := by decide +kernel
theorem dX12_leastPlan_65 : decode cX12_leastPlan 65 = .ok (.iload_n 2, 1) := by decide +kernel
theorem dX12_leastPlan_66 : decode cX12_leastPlan 66 = .ok (.invokevirtual 376, 3) := by decide +kernel
theorem dX12_leastPlan_69 : decode cX12_leastPlan 69 = .ok (.goto 5, 3) := by decide +kernel
theorem dX12_leastPlan_72 : decode cX12_leastPlan 72 = .ok (.bipush (-2), 2) := by decide +kernel
theorem dX12_leastPlan_74 : decode cX12_leastPlan 74 = .ok (.istore 6, 2) := by decide +kernel
theorem dX12_leastPlan_76 : decode cX12_leastPlan 76 = .ok (.iload 6, 2) := by decide +kernel
theorem dX12_leastPlan_78 : decode cX12_leastPlan 78 = .ok (.ifCond .lt 69, 3) := by decide +kernel
theorem dX12_leastPlan_81 : decode cX12_leastPlan 81 = .ok (.iload 4, 2) := by decide +kernel
theorem dX12_leastPlan_83 : decode cX12_leastPlan 83 = .ok (.ifCond .ge 7, 3) := by decide +kernel
theorem dX12_leastPlan_86 : decode cX12_leastPlan 86 = .ok (.iconst (-1), 1) := by decide +kernel
theorem dX12_leastPlan_87 : decode cX12_leastPlan 87 = .ok (.goto 14, 3) := by decide +kernel
theorem dX12_leastPlan_90 : decode cX12_leastPlan 90 = .ok (.iload 6, 2) := by decide +kernel
theorem dX12_leastPlan_92 : decode cX12_leastPlan 92 = .ok (.aload_n 0, 1) := by decide +kernel
theorem dX12_leastPlan_93 : decode cX12_leastPlan 93 = .ok (.iload 4, 2) := by decide +kernel
theorem dX12_leastPlan_95 : decode cX12_leastPlan 95 = .ok (.iload_n 1, 1) := by decide +kernel
theorem dX12_leastPlan_96 : decode cX12_leastPlan 96 = .ok (.iload_n 2, 1) := by decide +kernel
theorem dX12_leastPlan_97 : decode cX12_leastPlan 97 = .ok (.invokevirtual 376, 3) := by decide +kernel
theorem dX12_leastPlan_100 : decode cX12_leastPlan 100 = .ok (.isub, 1) := by decide +kernel
theorem dX12_leastPlan_101 : decode cX12_leastPlan 101 = .ok (.istore 7, 2) := by decide +kernel
theorem dX12_leastPlan_103 : decode cX12_leastPlan 103 = .ok (.iload 7, 2) := by decide +kernel
theorem dX12_leastPlan_105 : decode cX12_leastPlan 105 = .ok (.ifCond .lt 21, 3) := by decide +kernel
theorem dX12_leastPlan_108 : decode cX12_leastPlan 108 = .ok (.iload 7, 2) := by decide +kernel
theorem dX12_leastPlan_110 : decode cX12_leastPlan 110 = .ok (.ifCond .ne 20, 3) := by decide +kernel
theorem dX12_leastPlan_113 : decode cX12_leastPlan 113 = .ok (.iload 5, 2) := by decide +kernel
theorem dX12_leastPlan_115 : decode cX12_leastPlan 115 = .ok (.invokestatic 305, 3) := by decide +kernel
theorem dX12_leastPlan_118 : decode cX12_leastPlan 118 = .ok (.iload 4, 2) := by decide +kernel
theorem dX12_leastPlan_120 : decode cX12_leastPlan 120 = .ok (.invokestatic 305, 3) := by decide +kernel
theorem dX12_leastPlan_123 : decode cX12_leastPlan 123 = .ok (.if_icmp .gt 7, 3) := by decide +kernel
theorem dX12_leastPlan_126 : decode cX12_leastPlan 126 = .ok (.iconst 1, 1) := by decide +kernel
theorem dX12_leastPlan_127 : decode cX12_leastPlan 127 = .ok (.goto 4, 3) := by decide +kernel
theorem dX12_leastPlan_130 : decode cX12_leastPlan 130 = .ok (.iconst 0, 1) := by decide +kernel
theorem dX12_leastPlan_131 : decode cX12_leastPlan 131 = .ok (.istore 8, 2) := by decide +kernel
theorem dX12_leastPlan_133 : decode cX12_leastPlan 133 = .ok (.iload 8, 2) := by decide +kernel
theorem dX12_leastPlan_135 : decode cX12_leastPlan 135 = .ok (.ifCond .eq 8, 3) := by decide +kernel
theorem dX12_leastPlan_138 : decode cX12_leastPlan 138 = .ok (.iload 5, 2) := by decide +kernel
theorem dX12_leastPlan_140 : decode cX12_leastPlan 140 = .ok (.goto 5, 3) := by decide +kernel
theorem dX12_leastPlan_143 : decode cX12_leastPlan 143 = .ok (.iload 4, 2) := by decide +kernel
theorem dX12_leastPlan_145 : decode cX12_leastPlan 145 = .ok (.istore 4, 2) := by decide +kernel
theorem dX12_leastPlan_147 : decode cX12_leastPlan 147 = .ok (.iinc 5 (-1), 3) := by decide +kernel
theorem dX12_leastPlan_150 : decode cX12_leastPlan 150 = .ok (.goto (-103), 3) := by decide +kernel
theorem dX12_leastPlan_153 : decode cX12_leastPlan 153 = .ok (.iload 4, 2) := by decide +kernel
theorem dX12_leastPlan_155 : decode cX12_leastPlan 155 = .ok (.ireturn, 1) := by decide +kernel
theorem dX12_goesThrough_0 : decode cX12_goesThrough 0 = .ok (.aload_n 0, 1) := by decide +kernel
theorem dX12_goesThrough_1 : decode cX12_goesThrough 1 = .ok (.iload_n 1, 1) := by decide +kernel
theorem dX12_goesThrough_2 : decode cX12_goesThrough 2 = .ok (.invokevirtual 373, 3) := by decide +kernel
theorem dX12_goesThrough_5 : decode cX12_goesThrough 5 = .ok (.ifCond .eq 28, 3) := by decide +kernel
theorem dX12_goesThrough_8 : decode cX12_goesThrough 8 = .ok (.aload_n 0, 1) := by decide +kernel
theorem dX12_goesThrough_9 : decode cX12_goesThrough 9 = .ok (.iload_n 2, 1) := by decide +kernel
theorem dX12_goesThrough_10 : decode cX12_goesThrough 10 = .ok (.invokevirtual 204, 3) := by decide +kernel
theorem dX12_goesThrough_13 : decode cX12_goesThrough 13 = .ok (.ifCond .eq 20, 3) := by decide +kernel
theorem dX12_goesThrough_16 : decode cX12_goesThrough 16 = .ok (.iload_n 3, 1) := by decide +kernel
theorem dX12_goesThrough_17 : decode cX12_goesThrough 17 = .ok (.invokestatic 359, 3) := by decide +kernel
theorem dX12_goesThrough_20 : decode cX12_goesThrough 20 = .ok (.ifCond .eq 13, 3) := by decide +kernel
theorem dX12_goesThrough_23 : decode cX12_goesThrough 23 = .ok (.aload_n 0, 1) := by decide +kernel
theorem dX12_goesThrough_24 : decode cX12_goesThrough 24 = .ok (.iload_n 1, 1) := by decide +kernel
theorem dX12_goesThrough_25 : decode cX12_goesThrough 25 = .ok (.iload_n 2, 1) := by decide +kernel
theorem dX12_goesThrough_26 : decode cX12_goesThrough 26 = .ok (.iload_n 3, 1) := by decide +kernel
theorem dX12_goesThrough_27 : decode cX12_goesThrough 27 = .ok (.invokevirtual 368, 3) := by decide +kernel
theorem dX12_goesThrough_30 : decode cX12_goesThrough 30 = .ok (.goto 4, 3) := by decide +kernel
theorem dX12_goesThrough_33 : decode cX12_goesThrough 33 = .ok (.iconst (-1), 1) := by decide +kernel
theorem dX12_goesThrough_34 : decode cX12_goesThrough 34 = .ok (.ireturn, 1) := by decide +kernel
theorem dX12_drift_0 : decode cX12_drift 0 = .ok (.iload_n 1, 1) := by decide +kernel
theorem dX12_drift_1 : decode cX12_drift 1 = .ok (.i2l, 1) := by decide +kernel
theorem dX12_drift_2 : decode cX12_drift 2 = .ok (.lconst 0, 1) := by decide +kernel
theorem dX12_drift_3 : decode cX12_drift 3 = .ok (.ldc2_w 357, 3) := by decide +kernel
theorem dX12_drift_6 : decode cX12_drift 6 = .ok (.invokestatic 135, 3) := by decide +kernel
theorem dX12_drift_9 : decode cX12_drift 9 = .ok (.ifCond .eq 15, 3) := by decide +kernel
theorem dX12_drift_12 : decode cX12_drift 12 = .ok (.iload_n 2, 1) := by decide +kernel
theorem dX12_drift_13 : decode cX12_drift 13 = .ok (.i2l, 1) := by decide +kernel
theorem dX12_drift_14 : decode cX12_drift 14 = .ok (.lconst 0, 1) := by decide +kernel
theorem dX12_drift_15 : decode cX12_drift 15 = .ok (.ldc2_w 357, 3) := by decide +kernel
theorem dX12_drift_18 : decode cX12_drift 18 = .ok (.invokestatic 135, 3) := by decide +kernel
theorem dX12_drift_21 : decode cX12_drift 21 = .ok (.ifCond .ne 5, 3) := by decide +kernel
theorem dX12_drift_24 : decode cX12_drift 24 = .ok (.iconst (-1), 1) := by decide +kernel
theorem dX12_drift_25 : decode cX12_drift 25 = .ok (.ireturn, 1) := by decide +kernel
theorem dX12_drift_26 : decode cX12_drift 26 = .ok (.aload_n 0, 1) := by decide +kernel
theorem dX12_drift_27 : decode cX12_drift 27 = .ok (.getfield 379, 3) := by decide +kernel
theorem dX12_drift_30 : decode cX12_drift 30 = .ok (.bipush 12, 2) := by decide +kernel
theorem dX12_drift_32 : decode cX12_drift 32 = .ok (.if_icmp .ne 6, 3) := by decide +kernel
theorem dX12_drift_35 : decode cX12_drift 35 = .ok (.bipush (-3), 2) := by decide +kernel
theorem dX12_drift_37 : decode cX12_drift 37 = .ok (.ireturn, 1) := by decide +kernel
theorem dX12_drift_38 : decode cX12_drift 38 = .ok (.aload_n 0, 1) := by decide +kernel
theorem dX12_drift_39 : decode cX12_drift 39 = .ok (.getfield 77, 3) := by decide +kernel
theorem dX12_drift_42 : decode cX12_drift 42 = .ok (.aload_n 0, 1) := by decide +kernel
theorem dX12_drift_43 : decode cX12_drift 43 = .ok (.getfield 379, 3) := by decide +kernel
theorem dX12_drift_46 : decode cX12_drift 46 = .ok (.iload_n 1, 1) := by decide +kernel
theorem dX12_drift_47 : decode cX12_drift 47 = .ok (.iastore, 1) := by decide +kernel
theorem dX12_drift_48 : decode cX12_drift 48 = .ok (.aload_n 0, 1) := by decide +kernel
theorem dX12_drift_49 : decode cX12_drift 49 = .ok (.getfield 80, 3) := by decide +kernel
theorem dX12_drift_52 : decode cX12_drift 52 = .ok (.aload_n 0, 1) := by decide +kernel
theorem dX12_drift_53 : decode cX12_drift 53 = .ok (.getfield 379, 3) := by decide +kernel
theorem dX12_drift_56 : decode cX12_drift 56 = .ok (.iload_n 2, 1) := by decide +kernel
theorem dX12_drift_57 : decode cX12_drift 57 = .ok (.iastore, 1) := by decide +kernel
theorem dX12_drift_58 : decode cX12_drift 58 = .ok (.aload_n 0, 1) := by decide +kernel
theorem dX12_drift_59 : decode cX12_drift 59 = .ok (.dup, 1) := by decide +kernel
theorem dX12_drift_60 : decode cX12_drift 60 = .ok (.getfield 379, 3) := by decide +kernel
theorem dX12_drift_63 : decode cX12_drift 63 = .ok (.iconst 1, 1) := by decide +kernel
theorem dX12_drift_64 : decode cX12_drift 64 = .ok (.iadd, 1) := by decide +kernel
theorem dX12_drift_65 : decode cX12_drift 65 = .ok (.putfield 379, 3) := by decide +kernel
theorem dX12_drift_68 : decode cX12_drift 68 = .ok (.aload_n 0, 1) := by decide +kernel
theorem dX12_drift_69 : decode cX12_drift 69 = .ok (.getfield 379, 3) := by decide +kernel
theorem dX12_drift_72 : decode cX12_drift 72 = .ok (.ireturn, 1) := by decide +kernel
theorem dX12_costOf_0 : decode cX12_costOf 0 = .ok (.iload_n 1, 1) := by decide +kernel
theorem dX12_costOf_1 : decode cX12_costOf 1 = .ok (.ifCond .ne 12, 3) := by decide +kernel
theorem dX12_costOf_4 : decode cX12_costOf 4 = .ok (.aload_n 0, 1) := by decide +kernel
theorem dX12_costOf_5 : decode cX12_costOf 5 = .ok (.getfield 77, 3) := by decide +kernel
theorem dX12_costOf_8 : decode cX12_costOf 8 = .ok (.iload_n 2, 1) := by decide +kernel
theorem dX12_costOf_9 : decode cX12_costOf 9 = .ok (.iaload, 1) := by decide +kernel
theorem dX12_costOf_10 : decode cX12_costOf 10 = .ok (.goto 9, 3) := by decide +kernel
theorem dX12_costOf_13 : decode cX12_costOf 13 = .ok (.aload_n 0, 1) := by decide +kernel
theorem dX12_costOf_14 : decode cX12_costOf 14 = .ok (.getfield 80, 3) := by decide +kernel
theorem dX12_costOf_17 : decode cX12_costOf 17 = .ok (.iload_n 2, 1) := by decide +kernel
theorem dX12_costOf_18 : decode cX12_costOf 18 = .ok (.iaload, 1) := by decide +kernel
theorem dX12_costOf_19 : decode cX12_costOf 19 = .ok (.ireturn, 1) := by decide +kernel
theorem dX12_leastDrift_0 : decode cX12_leastDrift 0 = .ok (.ldc_w 382, 3) := by decide +kernel
theorem dX12_leastDrift_3 : decode cX12_leastDrift 3 = .ok (.istore_n 2, 1) := by decide +kernel
theorem dX12_leastDrift_4 : decode cX12_leastDrift 4 = .ok (.iconst 0, 1) := by decide +kernel
theorem dX12_leastDrift_5 : decode cX12_leastDrift 5 = .ok (.istore_n 3, 1) := by decide +kernel
theorem dX12_leastDrift_6 : decode cX12_leastDrift 6 = .ok (.iload_n 3, 1) := by decide +kernel
theorem dX12_leastDrift_7 : decode cX12_leastDrift 7 = .ok (.iconst 1, 1) := by decide +kernel
theorem dX12_leastDrift_8 : decode cX12_leastDrift 8 = .ok (.aload_n 0, 1) := by decide +kernel
theorem dX12_leastDrift_9 : decode cX12_leastDrift 9 = .ok (.getfield 379, 3) := by decide +kernel
theorem dX12_leastDrift_12 : decode cX12_leastDrift 12 = .ok (.ishl, 1) := by decide +kernel
theorem dX12_leastDrift_13 : decode cX12_leastDrift 13 = .ok (.if_icmp .ge 88, 3) := by decide +kernel
theorem dX12_leastDrift_16 : decode cX12_leastDrift 16 = .ok (.iconst 0, 1) := by decide +kernel
theorem dX12_leastDrift_17 : decode cX12_leastDrift 17 = .ok (.istore 4, 2) := by decide +kernel
theorem dX12_leastDrift_19 : decode cX12_leastDrift 19 = .ok (.iconst 0, 1) := by decide +kernel
theorem dX12_leastDrift_20 : decode cX12_leastDrift 20 = .ok (.istore 5, 2) := by decide +kernel
theorem dX12_leastDrift_22 : decode cX12_leastDrift 22 = .ok (.iload 5, 2) := by decide +kernel
theorem dX12_leastDrift_24 : decode cX12_leastDrift 24 = .ok (.aload_n 0, 1) := by decide +kernel
theorem dX12_leastDrift_25 : decode cX12_leastDrift 25 = .ok (.getfield 379, 3) := by decide +kernel
theorem dX12_leastDrift_28 : decode cX12_leastDrift 28 = .ok (.if_icmp .ge 54, 3) := by decide +kernel
theorem dX12_leastDrift_31 : decode cX12_leastDrift 31 = .ok (.iload_n 3, 1) := by decide +kernel
theorem dX12_leastDrift_32 : decode cX12_leastDrift 32 = .ok (.iload 5, 2) := by decide +kernel
theorem dX12_leastDrift_34 : decode cX12_leastDrift 34 = .ok (.ishr, 1) := by decide +kernel
theorem dX12_leastDrift_35 : decode cX12_leastDrift 35 = .ok (.iconst 1, 1) := by decide +kernel
theorem dX12_leastDrift_36 : decode cX12_leastDrift 36 = .ok (.iand, 1) := by decide +kernel
theorem dX12_leastDrift_37 : decode cX12_leastDrift 37 = .ok (.istore 6, 2) := by decide +kernel
theorem dX12_leastDrift_39 : decode cX12_leastDrift 39 = .ok (.iload 4, 2) := by decide +kernel
theorem dX12_leastDrift_41 : decode cX12_leastDrift 41 = .ok (.aload_n 0, 1) := by decide +kernel
theorem dX12_leastDrift_42 : decode cX12_leastDrift 42 = .ok (.iload 6, 2) := by decide +kernel
theorem dX12_leastDrift_44 : decode cX12_leastDrift 44 = .ok (.iload 5, 2) := by decide +kernel
theorem dX12_leastDrift_46 : decode cX12_leastDrift 46 = .ok (.invokevirtual 383, 3) := by decide +kernel
theorem dX12_leastDrift_49 : decode cX12_leastDrift 49 = .ok (.iload 5, 2) := by decide +kernel
theorem dX12_leastDrift_51 : decode cX12_leastDrift 51 = .ok (.ifCond .le 20, 3) := by decide +kernel
theorem dX12_leastDrift_54 : decode cX12_leastDrift 54 = .ok (.iload 6, 2) := by decide +kernel
theorem dX12_leastDrift_56 : decode cX12_leastDrift 56 = .ok (.iload_n 3, 1) := by decide +kernel
theorem dX12_leastDrift_57 : decode cX12_leastDrift 57 = .ok (.iload 5, 2) := by decide +kernel
theorem dX12_leastDrift_59 : decode cX12_leastDrift 59 = .ok (.iconst 1, 1) := by decide +kernel
theorem dX12_leastDrift_60 : decode cX12_leastDrift 60 = .ok (.isub, 1) := by decide +kernel
theorem dX12_leastDrift_61 : decode cX12_leastDrift 61 = .ok (.ishr, 1) := by decide +kernel
theorem dX12_leastDrift_62 : decode cX12_leastDrift 62 = .ok (.iconst 1, 1) := by decide +kernel
theorem dX12_leastDrift_63 : decode cX12_leastDrift 63 = .ok (.iand, 1) := by decide +kernel
theorem dX12_leastDrift_64 : decode cX12_leastDrift 64 = .ok (.if_icmp .eq 7, 3) := by decide +kernel
theorem dX12_leastDrift_67 : decode cX12_leastDrift 67 = .ok (.iload_n 1, 1) := by decide +kernel
theorem dX12_leastDrift_68 : decode cX12_leastDrift 68 = .ok (.goto 4, 3) := by decide +kernel
theorem dX12_leastDrift_71 : decode cX12_leastDrift 71 = .ok (.iconst 0, 1) := by decide +kernel
theorem dX12_leastDrift_72 : decode cX12_leastDrift 72 = .ok (.iadd, 1) := by decide +kernel
theorem dX12_leastDrift_73 : decode cX12_leastDrift 73 = .ok (.iadd, 1) := by decide +kernel
theorem dX12_leastDrift_74 : decode cX12_leastDrift 74 = .ok (.istore 4, 2) := by decide +kernel
theorem dX12_leastDrift_76 : decode cX12_leastDrift 76 = .ok (.iinc 5 1, 3) := by decide +kernel
theorem dX12_leastDrift_79 : decode cX12_leastDrift 79 = .ok (.goto (-57), 3) := by decide +kernel
theorem dX12_leastDrift_82 : decode cX12_leastDrift 82 = .ok (.iload 4, 2) := by decide +kernel
theorem dX12_leastDrift_84 : decode cX12_leastDrift 84 = .ok (.iload_n 2, 1) := by decide +kernel
theorem dX12_leastDrift_85 : decode cX12_leastDrift 85 = .ok (.if_icmp .ge 8, 3) := by decide +kernel
theorem dX12_leastDrift_88 : decode cX12_leastDrift 88 = .ok (.iload 4, 2) := by decide +kernel
theorem dX12_leastDrift_90 : decode cX12_leastDrift 90 = .ok (.goto 4, 3) := by decide +kernel
theorem dX12_leastDrift_93 : decode cX12_leastDrift 93 = .ok (.iload_n 2, 1) := by decide +kernel
theorem dX12_leastDrift_94 : decode cX12_leastDrift 94 = .ok (.istore_n 2, 1) := by decide +kernel
theorem dX12_leastDrift_95 : decode cX12_leastDrift 95 = .ok (.iinc 3 1, 3) := by decide +kernel
theorem dX12_leastDrift_98 : decode cX12_leastDrift 98 = .ok (.goto (-92), 3) := by decide +kernel
theorem dX12_leastDrift_101 : decode cX12_leastDrift 101 = .ok (.iload_n 2, 1) := by decide +kernel
theorem dX12_leastDrift_102 : decode cX12_leastDrift 102 = .ok (.ireturn, 1) := by decide +kernel
theorem dX12_drifted_0 : decode cX12_drifted 0 = .ok (.iload_n 1, 1) := by decide +kernel
theorem dX12_drifted_1 : decode cX12_drifted 1 = .ok (.i2l, 1) := by decide +kernel
theorem dX12_drifted_2 : decode cX12_drifted 2 = .ok (.lconst 0, 1) := by decide +kernel
theorem dX12_drifted_3 : decode cX12_drifted 3 = .ok (.ldc2_w 357, 3) := by decide +kernel
theorem dX12_drifted_6 : decode cX12_drifted 6 = .ok (.invokestatic 135, 3) := by decide +kernel
theorem dX12_drifted_9 : decode cX12_drifted 9 = .ok (.ifCond .eq 22, 3) := by decide +kernel
theorem dX12_drifted_12 : decode cX12_drifted 12 = .ok (.iload_n 2, 1) := by decide +kernel
theorem dX12_drifted_13 : decode cX12_drifted 13 = .ok (.i2l, 1) := by decide +kernel
theorem dX12_drifted_14 : decode cX12_drifted 14 = .ok (.lconst 0, 1) := by decide +kernel
theorem dX12_drifted_15 : decode cX12_drifted 15 = .ok (.ldc2_w 386, 3) := by decide +kernel
theorem dX12_drifted_18 : decode cX12_drifted 18 = .ok (.invokestatic 135, 3) := by decide +kernel
theorem dX12_drifted_21 : decode cX12_drifted 21 = .ok (.ifCond .eq 10, 3) := by decide +kernel
theorem dX12_drifted_24 : decode cX12_drifted 24 = .ok (.aload_n 0, 1) := by decide +kernel
theorem dX12_drifted_25 : decode cX12_drifted 25 = .ok (.getfield 379, 3) := by decide +kernel
theorem dX12_drifted_28 : decode cX12_drifted 28 = .ok (.ifCond .ne 5, 3) := by decide +kernel
theorem dX12_drifted_31 : decode cX12_drifted 31 = .ok (.iconst (-1), 1) := by decide +kernel
theorem dX12_drifted_32 : decode cX12_drifted 32 = .ok (.ireturn, 1) := by decide +kernel
theorem dX12_drifted_33 : decode cX12_drifted 33 = .ok (.iload_n 2, 1) := by decide +kernel
theorem dX12_drifted_34 : decode cX12_drifted 34 = .ok (.ifCond .ne 9, 3) := by decide +kernel
theorem dX12_drifted_37 : decode cX12_drifted 37 = .ok (.aload_n 0, 1) := by decide +kernel
theorem dX12_drifted_38 : decode cX12_drifted 38 = .ok (.iload_n 1, 1) := by decide +kernel
theorem dX12_drifted_39 : decode cX12_drifted 39 = .ok (.invokevirtual 388, 3) := by decide +kernel
theorem dX12_drifted_42 : decode cX12_drifted 42 = .ok (.ireturn, 1) := by decide +kernel
theorem dX12_drifted_43 : decode cX12_drifted 43 = .ok (.iconst 0, 1) := by decide +kernel
theorem dX12_drifted_44 : decode cX12_drifted 44 = .ok (.istore_n 3, 1) := by decide +kernel
theorem dX12_drifted_45 : decode cX12_drifted 45 = .ok (.iconst 0, 1) := by decide +kernel
theorem dX12_drifted_46 : decode cX12_drifted 46 = .ok (.istore 4, 2) := by decide +kernel
theorem dX12_drifted_48 : decode cX12_drifted 48 = .ok (.iconst 0, 1) := by decide +kernel
theorem dX12_drifted_49 : decode cX12_drifted 49 = .ok (.istore 5, 2) := by decide +kernel
theorem dX12_drifted_51 : decode cX12_drifted 51 = .ok (.iconst 0, 1) := by decide +kernel
theorem dX12_drifted_52 : decode cX12_drifted 52 = .ok (.istore 6, 2) := by decide +kernel
theorem dX12_drifted_54 : decode cX12_drifted 54 = .ok (.iconst 0, 1) := by decide +kernel
theorem dX12_drifted_55 : decode cX12_drifted 55 = .ok (.istore 7, 2) := by decide +kernel
theorem dX12_drifted_57 : decode cX12_drifted 57 = .ok (.iload 7, 2) := by decide +kernel
theorem dX12_drifted_59 : decode cX12_drifted 59 = .ok (.aload_n 0, 1) := by decide +kernel
theorem dX12_drifted_60 : decode cX12_drifted 60 = .ok (.getfield 379, 3) := by decide +kernel
theorem dX12_drifted_63 : decode cX12_drifted 63 = .ok (.if_icmp .ge 83, 3) := by decide +kernel
theorem dX12_drifted_66 : decode cX12_drifted 66 = .ok (.iload 7, 2) := by decide +kernel
theorem dX12_drifted_68 : decode cX12_drifted 68 = .ok (.ifCond .le 25, 3) := by decide +kernel
theorem dX12_drifted_71 : decode cX12_drifted 71 = .ok (.iload 4, 2) := by decide +kernel
theorem dX12_drifted_73 : decode cX12_drifted 73 = .ok (.iload_n 1, 1) := by decide +kernel
theorem dX12_drifted_74 : decode cX12_drifted 74 = .ok (.if_icmp .lt 19, 3) := by decide +kernel
theorem dX12_drifted_77 : decode cX12_drifted 77 = .ok (.iconst 1, 1) := by decide +kernel
theorem dX12_drifted_78 : decode cX12_drifted 78 = .ok (.iload_n 3, 1) := by decide +kernel
theorem dX12_drifted_79 : decode cX12_drifted 79 = .ok (.isub, 1) := by decide +kernel
theorem dX12_drifted_80 : decode cX12_drifted 80 = .ok (.istore_n 3, 1) := by decide +kernel
theorem dX12_drifted_81 : decode cX12_drifted 81 = .ok (.iconst 0, 1) := by decide +kernel
theorem dX12_drifted_82 : decode cX12_drifted 82 = .ok (.istore 4, 2) := by decide +kernel
theorem dX12_drifted_84 : decode cX12_drifted 84 = .ok (.iload 5, 2) := by decide +kernel
theorem dX12_drifted_86 : decode cX12_drifted 86 = .ok (.iload_n 1, 1) := by decide +kernel
theorem dX12_drifted_87 : decode cX12_drifted 87 = .ok (.iadd, 1) := by decide +kernel
theorem dX12_drifted_88 : decode cX12_drifted 88 = .ok (.istore 5, 2) := by decide +kernel
theorem dX12_drifted_90 : decode cX12_drifted 90 = .ok (.iinc 6 1, 3) := by decide +kernel
theorem dX12_drifted_93 : decode cX12_drifted 93 = .ok (.iload 5, 2) := by decide +kernel
theorem dX12_drifted_95 : decode cX12_drifted 95 = .ok (.aload_n 0, 1) := by decide +kernel
theorem dX12_drifted_96 : decode cX12_drifted 96 = .ok (.iload_n 3, 1) := by decide +kernel
theorem dX12_drifted_97 : decode cX12_drifted 97 = .ok (.iload 7, 2) := by decide +kernel
theorem dX12_drifted_99 : decode cX12_drifted 99 = .ok (.invokevirtual 383, 3) := by decide +kernel
theorem dX12_drifted_102 : decode cX12_drifted 102 = .ok (.iadd, 1) := by decide +kernel
theorem dX12_drifted_103 : decode cX12_drifted 103 = .ok (.istore 5, 2) := by decide +kernel
theorem dX12_drifted_105 : decode cX12_drifted 105 = .ok (.iload 4, 2) := by decide +kernel
theorem dX12_drifted_107 : decode cX12_drifted 107 = .ok (.aload_n 0, 1) := by decide +kernel
theorem dX12_drifted_108 : decode cX12_drifted 108 = .ok (.iload_n 3, 1) := by decide +kernel
theorem dX12_drifted_109 : decode cX12_drifted 109 = .ok (.iload 7, 2) := by decide +kernel
theorem dX12_drifted_111 : decode cX12_drifted 111 = .ok (.invokevirtual 383, 3) := by decide +kernel
theorem dX12_drifted_114 : decode cX12_drifted 114 = .ok (.aload_n 0, 1) := by decide +kernel
theorem dX12_drifted_115 : decode cX12_drifted 115 = .ok (.iconst 1, 1) := by decide +kernel
theorem dX12_drifted_116 : decode cX12_drifted 116 = .ok (.iload_n 3, 1) := by decide +kernel
theorem dX12_drifted_117 : decode cX12_drifted 117 = .ok (.isub, 1) := by decide +kernel
theorem dX12_drifted_118 : decode cX12_drifted 118 = .ok (.iload 7, 2) := by decide +kernel
theorem dX12_drifted_120 : decode cX12_drifted 120 = .ok (.invokevirtual 383, 3) := by decide +kernel
theorem dX12_drifted_123 : decode cX12_drifted 123 = .ok (.isub, 1) := by decide +kernel
theorem dX12_drifted_124 : decode cX12_drifted 124 = .ok (.iadd, 1) := by decide +kernel
theorem dX12_drifted_125 : decode cX12_drifted 125 = .ok (.istore 4, 2) := by decide +kernel
theorem dX12_drifted_127 : decode cX12_drifted 127 = .ok (.iload 4, 2) := by decide +kernel
theorem dX12_drifted_129 : decode cX12_drifted 129 = .ok (.ifCond .ge 7, 3) := by decide +kernel
theorem dX12_drifted_132 : decode cX12_drifted 132 = .ok (.iconst 0, 1) := by decide +kernel
theorem dX12_drifted_133 : decode cX12_drifted 133 = .ok (.goto 5, 3) := by decide +kernel
theorem dX12_drifted_136 : decode cX12_drifted 136 = .ok (.iload 4, 2) := by decide +kernel
theorem dX12_drifted_138 : decode cX12_drifted 138 = .ok (.istore 4, 2) := by decide +kernel
theorem dX12_drifted_140 : decode cX12_drifted 140 = .ok (.iinc 7 1, 3) := by decide +kernel
theorem dX12_drifted_143 : decode cX12_drifted 143 = .ok (.goto (-86), 3) := by decide +kernel
theorem dX12_drifted_146 : decode cX12_drifted 146 = .ok (.iload_n 2, 1) := by decide +kernel
theorem dX12_drifted_147 : decode cX12_drifted 147 = .ok (.iconst 1, 1) := by decide +kernel
theorem dX12_drifted_148 : decode cX12_drifted 148 = .ok (.if_icmp .ne 8, 3) := by decide +kernel
theorem dX12_drifted_151 : decode cX12_drifted 151 = .ok (.iload 5, 2) := by decide +kernel
theorem dX12_drifted_153 : decode cX12_drifted 153 = .ok (.goto 5, 3) := by decide +kernel
theorem dX12_drifted_156 : decode cX12_drifted 156 = .ok (.iload 6, 2) := by decide +kernel
theorem dX12_drifted_158 : decode cX12_drifted 158 = .ok (.ireturn, 1) := by decide +kernel
theorem dX12_undrift_0 : decode cX12_undrift 0 = .ok (.aload_n 0, 1) := by decide +kernel
theorem dX12_undrift_1 : decode cX12_undrift 1 = .ok (.getfield 379, 3) := by decide +kernel
theorem dX12_undrift_4 : decode cX12_undrift 4 = .ok (.istore_n 1, 1) := by decide +kernel
theorem dX12_undrift_5 : decode cX12_undrift 5 = .ok (.aload_n 0, 1) := by decide +kernel
theorem dX12_undrift_6 : decode cX12_undrift 6 = .ok (.iconst 0, 1) := by decide +kernel
theorem dX12_undrift_7 : decode cX12_undrift 7 = .ok (.putfield 379, 3) := by decide +kernel
theorem dX12_undrift_10 : decode cX12_undrift 10 = .ok (.iload_n 1, 1) := by decide +kernel
theorem dX12_undrift_11 : decode cX12_undrift 11 = .ok (.ireturn, 1) := by decide +kernel
theorem dX12_cell_0 : decode cX12_cell 0 = .ok (.iload_n 1, 1) := by decide +kernel
theorem dX12_cell_1 : decode cX12_cell 1 = .ok (.invokestatic 145, 3) := by decide +kernel
theorem dX12_cell_4 : decode cX12_cell 4 = .ok (.ifCond .ne 5, 3) := by decide +kernel
theorem dX12_cell_7 : decode cX12_cell 7 = .ok (.iconst (-1), 1) := by decide +kernel
theorem dX12_cell_8 : decode cX12_cell 8 = .ok (.ireturn, 1) := by decide +kernel
theorem dX12_cell_9 : decode cX12_cell 9 = .ok (.aload_n 0, 1) := by decide +kernel
theorem dX12_cell_10 : decode cX12_cell 10 = .ok (.getfield 391, 3) := by decide +kernel
theorem dX12_cell_13 : decode cX12_cell 13 = .ok (.bipush 60, 2) := by decide +kernel
theorem dX12_cell_15 : decode cX12_cell 15 = .ok (.if_icmp .ne 6, 3) := by decide +kernel
theorem dX12_cell_18 : decode cX12_cell 18 = .ok (.bipush (-3), 2) := by decide +kernel
theorem dX12_cell_20 : decode cX12_cell 20 = .ok (.ireturn, 1) := by decide +kernel
theorem dX12_cell_21 : decode cX12_cell 21 = .ok (.aload_n 0, 1) := by decide +kernel
theorem dX12_cell_22 : decode cX12_cell 22 = .ok (.getfield 83, 3) := by decide +kernel
theorem dX12_cell_25 : decode cX12_cell 25 = .ok (.aload_n 0, 1) := by decide +kernel
theorem dX12_cell_26 : decode cX12_cell 26 = .ok (.getfield 391, 3) := by decide +kernel
theorem dX12_cell_29 : decode cX12_cell 29 = .ok (.iload_n 1, 1) := by decide +kernel
theorem dX12_cell_30 : decode cX12_cell 30 = .ok (.iastore, 1) := by decide +kernel
theorem dX12_cell_31 : decode cX12_cell 31 = .ok (.aload_n 0, 1) := by decide +kernel
theorem dX12_cell_32 : decode cX12_cell 32 = .ok (.dup, 1) := by decide +kernel
theorem dX12_cell_33 : decode cX12_cell 33 = .ok (.getfield 391, 3) := by decide +kernel
theorem dX12_cell_36 : decode cX12_cell 36 = .ok (.iconst 1, 1) := by decide +kernel
theorem dX12_cell_37 : decode cX12_cell 37 = .ok (.iadd, 1) := by decide +kernel
theorem dX12_cell_38 : decode cX12_cell 38 = .ok (.putfield 391, 3) := by decide +kernel
theorem dX12_cell_41 : decode cX12_cell 41 = .ok (.aload_n 0, 1) := by decide +kernel
theorem dX12_cell_42 : decode cX12_cell 42 = .ok (.getfield 391, 3) := by decide +kernel
theorem dX12_cell_45 : decode cX12_cell 45 = .ok (.ireturn, 1) := by decide +kernel
theorem dX12_nextUse_0 : decode cX12_nextUse 0 = .ok (.iload_n 3, 1) := by decide +kernel
theorem dX12_nextUse_1 : decode cX12_nextUse 1 = .ok (.iconst 1, 1) := by decide +kernel
theorem dX12_nextUse_2 : decode cX12_nextUse 2 = .ok (.iadd, 1) := by decide +kernel
theorem dX12_nextUse_3 : decode cX12_nextUse 3 = .ok (.istore 4, 2) := by decide +kernel
theorem dX12_nextUse_5 : decode cX12_nextUse 5 = .ok (.iload 4, 2) := by decide +kernel
theorem dX12_nextUse_7 : decode cX12_nextUse 7 = .ok (.aload_n 0, 1) := by decide +kernel
theorem dX12_nextUse_8 : decode cX12_nextUse 8 = .ok (.getfield 391, 3) := by decide +kernel
theorem dX12_nextUse_11 : decode cX12_nextUse 11 = .ok (.if_icmp .ge 25, 3) := by decide +kernel
theorem dX12_nextUse_14 : decode cX12_nextUse 14 = .ok (.aload_n 0, 1) := by decide +kernel
theorem dX12_nextUse_15 : decode cX12_nextUse 15 = .ok (.getfield 83, 3) := by decide +kernel
theorem dX12_nextUse_18 : decode cX12_nextUse 18 = .ok (.iload 4, 2) := by decide +kernel
theorem dX12_nextUse_20 : decode cX12_nextUse 20 = .ok (.iaload, 1) := by decide +kernel
theorem dX12_nextUse_21 : decode cX12_nextUse 21 = .ok (.iload_n 2, 1) := by decide +kernel
theorem dX12_nextUse_22 : decode cX12_nextUse 22 = .ok (.idiv, 1) := by decide +kernel
theorem dX12_nextUse_23 : decode cX12_nextUse 23 = .ok (.iload_n 1, 1) := by decide +kernel
theorem dX12_nextUse_24 : decode cX12_nextUse 24 = .ok (.if_icmp .ne 6, 3) := by decide +kernel
theorem dX12_nextUse_27 : decode cX12_nextUse 27 = .ok (.iload 4, 2) := by decide +kernel
theorem dX12_nextUse_29 : decode cX12_nextUse 29 = .ok (.ireturn, 1) := by decide +kernel
theorem dX12_nextUse_30 : decode cX12_nextUse 30 = .ok (.iinc 4 1, 3) := by decide +kernel
theorem dX12_nextUse_33 : decode cX12_nextUse 33 = .ok (.goto (-28), 3) := by decide +kernel
theorem dX12_nextUse_36 : decode cX12_nextUse 36 = .ok (.ldc_w 396, 3) := by decide +kernel
theorem dX12_nextUse_39 : decode cX12_nextUse 39 = .ok (.ireturn, 1) := by decide +kernel
theorem dX12_goesOff_0 : decode cX12_goesOff 0 = .ok (.iconst 0, 1) := by decide +kernel
theorem dX12_goesOff_1 : decode cX12_goesOff 1 = .ok (.istore 5, 2) := by decide +kernel
theorem dX12_goesOff_3 : decode cX12_goesOff 3 = .ok (.iconst 1, 1) := by decide +kernel
theorem dX12_goesOff_4 : decode cX12_goesOff 4 = .ok (.istore 6, 2) := by decide +kernel
theorem dX12_goesOff_6 : decode cX12_goesOff 6 = .ok (.iload 6, 2) := by decide +kernel
theorem dX12_goesOff_8 : decode cX12_goesOff 8 = .ok (.iload_n 1, 1) := by decide +kernel
theorem dX12_goesOff_9 : decode cX12_goesOff 9 = .ok (.if_icmp .ge 113, 3) := by decide +kernel
theorem dX12_goesOff_12 : decode cX12_goesOff 12 = .ok (.iload 4, 2) := by decide +kernel
theorem dX12_goesOff_14 : decode cX12_goesOff 14 = .ok (.ifCond .ne 32, 3) := by decide +kernel
theorem dX12_goesOff_17 : decode cX12_goesOff 17 = .ok (.aload_n 0, 1) := by decide +kernel
theorem dX12_goesOff_18 : decode cX12_goesOff 18 = .ok (.getfield 89, 3) := by decide +kernel
theorem dX12_goesOff_21 : decode cX12_goesOff 21 = .ok (.iload 6, 2) := by decide +kernel
theorem dX12_goesOff_23 : decode cX12_goesOff 23 = .ok (.iaload, 1) := by decide +kernel
theorem dX12_goesOff_24 : decode cX12_goesOff 24 = .ok (.aload_n 0, 1) := by decide +kernel
theorem dX12_goesOff_25 : decode cX12_goesOff 25 = .ok (.getfield 89, 3) := by decide +kernel
theorem dX12_goesOff_28 : decode cX12_goesOff 28 = .ok (.iload 5, 2) := by decide +kernel
theorem dX12_goesOff_30 : decode cX12_goesOff 30 = .ok (.iaload, 1) := by decide +kernel
theorem dX12_goesOff_31 : decode cX12_goesOff 31 = .ok (.if_icmp .ge 8, 3) := by decide +kernel
theorem dX12_goesOff_34 : decode cX12_goesOff 34 = .ok (.iload 6, 2) := by decide +kernel
theorem dX12_goesOff_36 : decode cX12_goesOff 36 = .ok (.goto 5, 3) := by decide +kernel
theorem dX12_goesOff_39 : decode cX12_goesOff 39 = .ok (.iload 5, 2) := by decide +kernel
theorem dX12_goesOff_41 : decode cX12_goesOff 41 = .ok (.istore 5, 2) := by decide +kernel
theorem dX12_goesOff_43 : decode cX12_goesOff 43 = .ok (.goto 73, 3) := by decide +kernel
theorem dX12_goesOff_46 : decode cX12_goesOff 46 = .ok (.aload_n 0, 1) := by decide +kernel
theorem dX12_goesOff_47 : decode cX12_goesOff 47 = .ok (.aload_n 0, 1) := by decide +kernel
theorem dX12_goesOff_48 : decode cX12_goesOff 48 = .ok (.getfield 86, 3) := by decide +kernel
theorem dX12_goesOff_51 : decode cX12_goesOff 51 = .ok (.iload 6, 2) := by decide +kernel
theorem dX12_goesOff_53 : decode cX12_goesOff 53 = .ok (.iaload, 1) := by decide +kernel
theorem dX12_goesOff_54 : decode cX12_goesOff 54 = .ok (.iload_n 2, 1) := by decide +kernel
theorem dX12_goesOff_55 : decode cX12_goesOff 55 = .ok (.iload_n 3, 1) := by decide +kernel
theorem dX12_goesOff_56 : decode cX12_goesOff 56 = .ok (.invokevirtual 397, 3) := by decide +kernel
theorem dX12_goesOff_59 : decode cX12_goesOff 59 = .ok (.istore 7, 2) := by decide +kernel
theorem dX12_goesOff_61 : decode cX12_goesOff 61 = .ok (.aload_n 0, 1) := by decide +kernel
theorem dX12_goesOff_62 : decode cX12_goesOff 62 = .ok (.aload_n 0, 1) := by decide +kernel
theorem dX12_goesOff_63 : decode cX12_goesOff 63 = .ok (.getfield 86, 3) := by decide +kernel
theorem dX12_goesOff_66 : decode cX12_goesOff 66 = .ok (.iload 5, 2) := by decide +kernel
theorem dX12_goesOff_68 : decode cX12_goesOff 68 = .ok (.iaload, 1) := by decide +kernel
theorem dX12_goesOff_69 : decode cX12_goesOff 69 = .ok (.iload_n 2, 1) := by decide +kernel
theorem dX12_goesOff_70 : decode cX12_goesOff 70 = .ok (.iload_n 3, 1) := by decide +kernel
theorem dX12_goesOff_71 : decode cX12_goesOff 71 = .ok (.invokevirtual 397, 3) := by decide +kernel
theorem dX12_goesOff_74 : decode cX12_goesOff 74 = .ok (.istore 8, 2) := by decide +kernel
theorem dX12_goesOff_76 : decode cX12_goesOff 76 = .ok (.iload 7, 2) := by decide +kernel
theorem dX12_goesOff_78 : decode cX12_goesOff 78 = .ok (.iload 8, 2) := by decide +kernel
theorem dX12_goesOff_80 : decode cX12_goesOff 80 = .ok (.if_icmp .gt 27, 3) := by decide +kernel
theorem dX12_goesOff_83 : decode cX12_goesOff 83 = .ok (.iload 7, 2) := by decide +kernel
theorem dX12_goesOff_85 : decode cX12_goesOff 85 = .ok (.iload 8, 2) := by decide +kernel
theorem dX12_goesOff_87 : decode cX12_goesOff 87 = .ok (.if_icmp .ne 25, 3) := by decide +kernel
theorem dX12_goesOff_90 : decode cX12_goesOff 90 = .ok (.aload_n 0, 1) := by decide +kernel
theorem dX12_goesOff_91 : decode cX12_goesOff 91 = .ok (.getfield 86, 3) := by decide +kernel
theorem dX12_goesOff_94 : decode cX12_goesOff 94 = .ok (.iload 6, 2) := by decide +kernel
theorem dX12_goesOff_96 : decode cX12_goesOff 96 = .ok (.iaload, 1) := by decide +kernel
theorem dX12_goesOff_97 : decode cX12_goesOff 97 = .ok (.aload_n 0, 1) := by decide +kernel
theorem dX12_goesOff_98 : decode cX12_goesOff 98 = .ok (.getfield 86, 3) := by decide +kernel
theorem dX12_goesOff_101 : decode cX12_goesOff 101 = .ok (.iload 5, 2) := by decide +kernel
theorem dX12_goesOff_103 : decode cX12_goesOff 103 = .ok (.iaload, 1) := by decide +kernel
theorem dX12_goesOff_104 : decode cX12_goesOff 104 = .ok (.if_icmp .ge 8, 3) := by decide +kernel
theorem dX12_goesOff_107 : decode cX12_goesOff 107 = .ok (.iload 6, 2) := by decide +kernel
theorem dX12_goesOff_109 : decode cX12_goesOff 109 = .ok (.goto 5, 3) := by decide +kernel
theorem dX12_goesOff_112 : decode cX12_goesOff 112 = .ok (.iload 5, 2) := by decide +kernel
theorem dX12_goesOff_114 : decode cX12_goesOff 114 = .ok (.istore 5, 2) := by decide +kernel
theorem dX12_goesOff_116 : decode cX12_goesOff 116 = .ok (.iinc 6 1, 3) := by decide +kernel
theorem dX12_goesOff_119 : decode cX12_goesOff 119 = .ok (.goto (-113), 3) := by decide +kernel
theorem dX12_goesOff_122 : decode cX12_goesOff 122 = .ok (.iload 5, 2) := by decide +kernel
theorem dX12_goesOff_124 : decode cX12_goesOff 124 = .ok (.ireturn, 1) := by decide +kernel
theorem dX12_misses_0 : decode cX12_misses 0 = .ok (.iload_n 1, 1) := by decide +kernel
theorem dX12_misses_1 : decode cX12_misses 1 = .ok (.i2l, 1) := by decide +kernel
theorem dX12_misses_2 : decode cX12_misses 2 = .ok (.lconst 1, 1) := by decide +kernel
theorem dX12_misses_3 : decode cX12_misses 3 = .ok (.ldc2_w 400, 3) := by decide +kernel
theorem dX12_misses_6 : decode cX12_misses 6 = .ok (.invokestatic 135, 3) := by decide +kernel
theorem dX12_misses_9 : decode cX12_misses 9 = .ok (.ifCond .eq 32, 3) := by decide +kernel
theorem dX12_misses_12 : decode cX12_misses 12 = .ok (.iload_n 2, 1) := by decide +kernel
theorem dX12_misses_13 : decode cX12_misses 13 = .ok (.i2l, 1) := by decide +kernel
theorem dX12_misses_14 : decode cX12_misses 14 = .ok (.lconst 1, 1) := by decide +kernel
theorem dX12_misses_15 : decode cX12_misses 15 = .ok (.ldc2_w 400, 3) := by decide +kernel
theorem dX12_misses_18 : decode cX12_misses 18 = .ok (.invokestatic 135, 3) := by decide +kernel
theorem dX12_misses_21 : decode cX12_misses 21 = .ok (.ifCond .eq 20, 3) := by decide +kernel
theorem dX12_misses_24 : decode cX12_misses 24 = .ok (.iload_n 3, 1) := by decide +kernel
theorem dX12_misses_25 : decode cX12_misses 25 = .ok (.i2l, 1) := by decide +kernel
theorem dX12_misses_26 : decode cX12_misses 26 = .ok (.lconst 0, 1) := by decide +kernel
theorem dX12_misses_27 : decode cX12_misses 27 = .ok (.lconst 1, 1) := by decide +kernel
theorem dX12_misses_28 : decode cX12_misses 28 = .ok (.invokestatic 135, 3) := by decide +kernel
theorem dX12_misses_31 : decode cX12_misses 31 = .ok (.ifCond .eq 10, 3) := by decide +kernel
theorem dX12_misses_34 : decode cX12_misses 34 = .ok (.aload_n 0, 1) := by decide +kernel
theorem dX12_misses_35 : decode cX12_misses 35 = .ok (.getfield 391, 3) := by decide +kernel
theorem dX12_misses_38 : decode cX12_misses 38 = .ok (.ifCond .ne 5, 3) := by decide +kernel
theorem dX12_misses_41 : decode cX12_misses 41 = .ok (.iconst (-1), 1) := by decide +kernel
theorem dX12_misses_42 : decode cX12_misses 42 = .ok (.ireturn, 1) := by decide +kernel
theorem dX12_misses_43 : decode cX12_misses 43 = .ok (.iconst 0, 1) := by decide +kernel
theorem dX12_misses_44 : decode cX12_misses 44 = .ok (.istore 4, 2) := by decide +kernel
theorem dX12_misses_46 : decode cX12_misses 46 = .ok (.iconst 0, 1) := by decide +kernel
theorem dX12_misses_47 : decode cX12_misses 47 = .ok (.istore 5, 2) := by decide +kernel
theorem dX12_misses_49 : decode cX12_misses 49 = .ok (.iconst 0, 1) := by decide +kernel
theorem dX12_misses_50 : decode cX12_misses 50 = .ok (.istore 6, 2) := by decide +kernel
theorem dX12_misses_52 : decode cX12_misses 52 = .ok (.iload 6, 2) := by decide +kernel
theorem dX12_misses_54 : decode cX12_misses 54 = .ok (.aload_n 0, 1) := by decide +kernel
theorem dX12_misses_55 : decode cX12_misses 55 = .ok (.getfield 391, 3) := by decide +kernel
theorem dX12_misses_58 : decode cX12_misses 58 = .ok (.if_icmp .ge 115, 3) := by decide +kernel
theorem dX12_misses_61 : decode cX12_misses 61 = .ok (.aload_n 0, 1) := by decide +kernel
theorem dX12_misses_62 : decode cX12_misses 62 = .ok (.getfield 83, 3) := by decide +kernel
theorem dX12_misses_65 : decode cX12_misses 65 = .ok (.iload 6, 2) := by decide +kernel
theorem dX12_misses_67 : decode cX12_misses 67 = .ok (.iaload, 1) := by decide +kernel
theorem dX12_misses_68 : decode cX12_misses 68 = .ok (.iload_n 1, 1) := by decide +kernel
theorem dX12_misses_69 : decode cX12_misses 69 = .ok (.idiv, 1) := by decide +kernel
theorem dX12_misses_70 : decode cX12_misses 70 = .ok (.istore 7, 2) := by decide +kernel
theorem dX12_misses_72 : decode cX12_misses 72 = .ok (.iconst 0, 1) := by decide +kernel
theorem dX12_misses_73 : decode cX12_misses 73 = .ok (.istore 8, 2) := by decide +kernel
theorem dX12_misses_75 : decode cX12_misses 75 = .ok (.iload 8, 2) := by decide +kernel
theorem dX12_misses_77 : decode cX12_misses 77 = .ok (.iload 4, 2) := by decide +kernel
theorem dX12_misses_79 : decode cX12_misses 79 = .ok (.if_icmp .ge 21, 3) := by decide +kernel
theorem dX12_misses_82 : decode cX12_misses 82 = .ok (.aload_n 0, 1) := by decide +kernel
theorem dX12_misses_83 : decode cX12_misses 83 = .ok (.getfield 86, 3) := by decide +kernel
theorem dX12_misses_86 : decode cX12_misses 86 = .ok (.iload 8, 2) := by decide +kernel
theorem dX12_misses_88 : decode cX12_misses 88 = .ok (.iaload, 1) := by decide +kernel
theorem dX12_misses_89 : decode cX12_misses 89 = .ok (.iload 7, 2) := by decide +kernel
theorem dX12_misses_91 : decode cX12_misses 91 = .ok (.if_icmp .eq 9, 3) := by decide +kernel
theorem dX12_misses_94 : decode cX12_misses 94 = .ok (.iinc 8 1, 3) := by decide +kernel
theorem dX12_misses_97 : decode cX12_misses 97 = .ok (.goto (-22), 3) := by decide +kernel
theorem dX12_misses_100 : decode cX12_misses 100 = .ok (.iload 8, 2) := by decide +kernel
theorem dX12_misses_102 : decode cX12_misses 102 = .ok (.iload 4, 2) := by decide +kernel
theorem dX12_misses_104 : decode cX12_misses 104 = .ok (.if_icmp .ne 45, 3) := by decide +kernel
theorem dX12_misses_107 : decode cX12_misses 107 = .ok (.iinc 5 1, 3) := by decide +kernel
theorem dX12_misses_110 : decode cX12_misses 110 = .ok (.iload 4, 2) := by decide +kernel
theorem dX12_misses_112 : decode cX12_misses 112 = .ok (.iload_n 2, 1) := by decide +kernel
theorem dX12_misses_113 : decode cX12_misses 113 = .ok (.if_icmp .ge 8, 3) := by decide +kernel
theorem dX12_misses_116 : decode cX12_misses 116 = .ok (.iload 4, 2) := by decide +kernel
theorem dX12_misses_118 : decode cX12_misses 118 = .ok (.goto 13, 3) := by decide +kernel
theorem dX12_misses_121 : decode cX12_misses 121 = .ok (.aload_n 0, 1) := by decide +kernel
theorem dX12_misses_122 : decode cX12_misses 122 = .ok (.iload 4, 2) := by decide +kernel
theorem dX12_misses_124 : decode cX12_misses 124 = .ok (.iload_n 1, 1) := by decide +kernel
theorem dX12_misses_125 : decode cX12_misses 125 = .ok (.iload 6, 2) := by decide +kernel
theorem dX12_misses_127 : decode cX12_misses 127 = .ok (.iload_n 3, 1) := by decide +kernel
theorem dX12_misses_128 : decode cX12_misses 128 = .ok (.invokevirtual 402, 3) := by decide +kernel
theorem dX12_misses_131 : decode cX12_misses 131 = .ok (.istore 8, 2) := by decide +kernel
theorem dX12_misses_133 : decode cX12_misses 133 = .ok (.iload 4, 2) := by decide +kernel
theorem dX12_misses_135 : decode cX12_misses 135 = .ok (.iload 4, 2) := by decide +kernel
theorem dX12_misses_137 : decode cX12_misses 137 = .ok (.iload_n 2, 1) := by decide +kernel
theorem dX12_misses_138 : decode cX12_misses 138 = .ok (.if_icmp .ge 7, 3) := by decide +kernel
theorem dX12_misses_141 : decode cX12_misses 141 = .ok (.iconst 1, 1) := by decide +kernel
theorem dX12_misses_142 : decode cX12_misses 142 = .ok (.goto 4, 3) := by decide +kernel
theorem dX12_misses_145 : decode cX12_misses 145 = .ok (.iconst 0, 1) := by decide +kernel
theorem dX12_misses_146 : decode cX12_misses 146 = .ok (.iadd, 1) := by decide +kernel
theorem dX12_misses_147 : decode cX12_misses 147 = .ok (.istore 4, 2) := by decide +kernel
theorem dX12_misses_149 : decode cX12_misses 149 = .ok (.aload_n 0, 1) := by decide +kernel
theorem dX12_misses_150 : decode cX12_misses 150 = .ok (.getfield 86, 3) := by decide +kernel
theorem dX12_misses_153 : decode cX12_misses 153 = .ok (.iload 8, 2) := by decide +kernel
theorem dX12_misses_155 : decode cX12_misses 155 = .ok (.iload 7, 2) := by decide +kernel
theorem dX12_misses_157 : decode cX12_misses 157 = .ok (.iastore, 1) := by decide +kernel
theorem dX12_misses_158 : decode cX12_misses 158 = .ok (.aload_n 0, 1) := by decide +kernel
theorem dX12_misses_159 : decode cX12_misses 159 = .ok (.getfield 89, 3) := by decide +kernel
theorem dX12_misses_162 : decode cX12_misses 162 = .ok (.iload 8, 2) := by decide +kernel
theorem dX12_misses_164 : decode cX12_misses 164 = .ok (.iload 6, 2) := by decide +kernel
theorem dX12_misses_166 : decode cX12_misses 166 = .ok (.iastore, 1) := by decide +kernel
theorem dX12_misses_167 : decode cX12_misses 167 = .ok (.iinc 6 1, 3) := by decide +kernel
theorem dX12_misses_170 : decode cX12_misses 170 = .ok (.goto (-118), 3) := by decide +kernel
theorem dX12_misses_173 : decode cX12_misses 173 = .ok (.iload 5, 2) := by decide +kernel
theorem dX12_misses_175 : decode cX12_misses 175 = .ok (.ireturn, 1) := by decide +kernel
theorem dX12_uncell_0 : decode cX12_uncell 0 = .ok (.aload_n 0, 1) := by decide +kernel
theorem dX12_uncell_1 : decode cX12_uncell 1 = .ok (.getfield 391, 3) := by decide +kernel
theorem dX12_uncell_4 : decode cX12_uncell 4 = .ok (.istore_n 1, 1) := by decide +kernel
theorem dX12_uncell_5 : decode cX12_uncell 5 = .ok (.aload_n 0, 1) := by decide +kernel
theorem dX12_uncell_6 : decode cX12_uncell 6 = .ok (.iconst 0, 1) := by decide +kernel
theorem dX12_uncell_7 : decode cX12_uncell 7 = .ok (.putfield 391, 3) := by decide +kernel
theorem dX12_uncell_10 : decode cX12_uncell 10 = .ok (.iload_n 1, 1) := by decide +kernel
theorem dX12_uncell_11 : decode cX12_uncell 11 = .ok (.ireturn, 1) := by decide +kernel
theorem dX12_key_0 : decode cX12_key 0 = .ok (.iload_n 1, 1) := by decide +kernel
theorem dX12_key_1 : decode cX12_key 1 = .ok (.invokestatic 145, 3) := by decide +kernel
theorem dX12_key_4 : decode cX12_key 4 = .ok (.ifCond .eq 10, 3) := by decide +kernel
theorem dX12_key_7 : decode cX12_key 7 = .ok (.iload_n 2, 1) := by decide +kernel
theorem dX12_key_8 : decode cX12_key 8 = .ok (.invokestatic 145, 3) := by decide +kernel
theorem dX12_key_11 : decode cX12_key 11 = .ok (.ifCond .ne 5, 3) := by decide +kernel
theorem dX12_key_14 : decode cX12_key 14 = .ok (.iconst (-1), 1) := by decide +kernel
theorem dX12_key_15 : decode cX12_key 15 = .ok (.ireturn, 1) := by decide +kernel
theorem dX12_key_16 : decode cX12_key 16 = .ok (.aload_n 0, 1) := by decide +kernel
theorem dX12_key_17 : decode cX12_key 17 = .ok (.getfield 405, 3) := by decide +kernel
theorem dX12_key_20 : decode cX12_key 20 = .ok (.bipush 9, 2) := by decide +kernel
theorem dX12_key_22 : decode cX12_key 22 = .ok (.if_icmp .ne 6, 3) := by decide +kernel
theorem dX12_key_25 : decode cX12_key 25 = .ok (.bipush (-3), 2) := by decide +kernel
theorem dX12_key_27 : decode cX12_key 27 = .ok (.ireturn, 1) := by decide +kernel
theorem dX12_key_28 : decode cX12_key 28 = .ok (.aload_n 0, 1) := by decide +kernel
theorem dX12_key_29 : decode cX12_key 29 = .ok (.getfield 92, 3) := by decide +kernel
theorem dX12_key_32 : decode cX12_key 32 = .ok (.aload_n 0, 1) := by decide +kernel
theorem dX12_key_33 : decode cX12_key 33 = .ok (.getfield 405, 3) := by decide +kernel
theorem dX12_key_36 : decode cX12_key 36 = .ok (.iload_n 1, 1) := by decide +kernel
theorem dX12_key_37 : decode cX12_key 37 = .ok (.iastore, 1) := by decide +kernel
theorem dX12_key_38 : decode cX12_key 38 = .ok (.aload_n 0, 1) := by decide +kernel
theorem dX12_key_39 : decode cX12_key 39 = .ok (.getfield 95, 3) := by decide +kernel
theorem dX12_key_42 : decode cX12_key 42 = .ok (.aload_n 0, 1) := by decide +kernel
theorem dX12_key_43 : decode cX12_key 43 = .ok (.getfield 405, 3) := by decide +kernel
theorem dX12_key_46 : decode cX12_key 46 = .ok (.iload_n 2, 1) := by decide +kernel
theorem dX12_key_47 : decode cX12_key 47 = .ok (.iastore, 1) := by decide +kernel
theorem dX12_key_48 : decode cX12_key 48 = .ok (.aload_n 0, 1) := by decide +kernel
theorem dX12_key_49 : decode cX12_key 49 = .ok (.dup, 1) := by decide +kernel
theorem dX12_key_50 : decode cX12_key 50 = .ok (.getfield 405, 3) := by decide +kernel
theorem dX12_key_53 : decode cX12_key 53 = .ok (.iconst 1, 1) := by decide +kernel
theorem dX12_key_54 : decode cX12_key 54 = .ok (.iadd, 1) := by decide +kernel
theorem dX12_key_55 : decode cX12_key 55 = .ok (.putfield 405, 3) := by decide +kernel
theorem dX12_key_58 : decode cX12_key 58 = .ok (.aload_n 0, 1) := by decide +kernel
theorem dX12_key_59 : decode cX12_key 59 = .ok (.getfield 405, 3) := by decide +kernel
theorem dX12_key_62 : decode cX12_key 62 = .ok (.ireturn, 1) := by decide +kernel
theorem dX12_soughtIn_0 : decode cX12_soughtIn 0 = .ok (.aload_n 0, 1) := by decide +kernel
theorem dX12_soughtIn_1 : decode cX12_soughtIn 1 = .ok (.getfield 95, 3) := by decide +kernel
theorem dX12_soughtIn_4 : decode cX12_soughtIn 4 = .ok (.iload_n 1, 1) := by decide +kernel
theorem dX12_soughtIn_5 : decode cX12_soughtIn 5 = .ok (.iaload, 1) := by decide +kernel
theorem dX12_soughtIn_6 : decode cX12_soughtIn 6 = .ok (.istore_n 3, 1) := by decide +kernel
theorem dX12_soughtIn_7 : decode cX12_soughtIn 7 = .ok (.iload_n 1, 1) := by decide +kernel
theorem dX12_soughtIn_8 : decode cX12_soughtIn 8 = .ok (.istore 4, 2) := by decide +kernel
theorem dX12_soughtIn_10 : decode cX12_soughtIn 10 = .ok (.iload 4, 2) := by decide +kernel
theorem dX12_soughtIn_12 : decode cX12_soughtIn 12 = .ok (.iload_n 2, 1) := by decide +kernel
theorem dX12_soughtIn_13 : decode cX12_soughtIn 13 = .ok (.if_icmp .ge 29, 3) := by decide +kernel
theorem dX12_soughtIn_16 : decode cX12_soughtIn 16 = .ok (.iload_n 3, 1) := by decide +kernel
theorem dX12_soughtIn_17 : decode cX12_soughtIn 17 = .ok (.aload_n 0, 1) := by decide +kernel
theorem dX12_soughtIn_18 : decode cX12_soughtIn 18 = .ok (.getfield 92, 3) := by decide +kernel
theorem dX12_soughtIn_21 : decode cX12_soughtIn 21 = .ok (.iload 4, 2) := by decide +kernel
theorem dX12_soughtIn_23 : decode cX12_soughtIn 23 = .ok (.iaload, 1) := by decide +kernel
theorem dX12_soughtIn_24 : decode cX12_soughtIn 24 = .ok (.aload_n 0, 1) := by decide +kernel
theorem dX12_soughtIn_25 : decode cX12_soughtIn 25 = .ok (.getfield 95, 3) := by decide +kernel
theorem dX12_soughtIn_28 : decode cX12_soughtIn 28 = .ok (.iload 4, 2) := by decide +kernel
theorem dX12_soughtIn_30 : decode cX12_soughtIn 30 = .ok (.iconst 1, 1) := by decide +kernel
theorem dX12_soughtIn_31 : decode cX12_soughtIn 31 = .ok (.iadd, 1) := by decide +kernel
theorem dX12_soughtIn_32 : decode cX12_soughtIn 32 = .ok (.iaload, 1) := by decide +kernel
theorem dX12_soughtIn_33 : decode cX12_soughtIn 33 = .ok (.iadd, 1) := by decide +kernel
theorem dX12_soughtIn_34 : decode cX12_soughtIn 34 = .ok (.iadd, 1) := by decide +kernel
theorem dX12_soughtIn_35 : decode cX12_soughtIn 35 = .ok (.istore_n 3, 1) := by decide +kernel
theorem dX12_soughtIn_36 : decode cX12_soughtIn 36 = .ok (.iinc 4 1, 3) := by decide +kernel
theorem dX12_soughtIn_39 : decode cX12_soughtIn 39 = .ok (.goto (-29), 3) := by decide +kernel
theorem dX12_soughtIn_42 : decode cX12_soughtIn 42 = .ok (.iload_n 3, 1) := by decide +kernel
theorem dX12_soughtIn_43 : decode cX12_soughtIn 43 = .ok (.ireturn, 1) := by decide +kernel
theorem dX12_leastLooks_0 : decode cX12_leastLooks 0 = .ok (.iload_n 1, 1) := by decide +kernel
theorem dX12_leastLooks_1 : decode cX12_leastLooks 1 = .ok (.invokestatic 145, 3) := by decide +kernel
theorem dX12_leastLooks_4 : decode cX12_leastLooks 4 = .ok (.ifCond .eq 10, 3) := by decide +kernel
theorem dX12_leastLooks_7 : decode cX12_leastLooks 7 = .ok (.aload_n 0, 1) := by decide +kernel
theorem dX12_leastLooks_8 : decode cX12_leastLooks 8 = .ok (.getfield 405, 3) := by decide +kernel
theorem dX12_leastLooks_11 : decode cX12_leastLooks 11 = .ok (.ifCond .ne 5, 3) := by decide +kernel
theorem dX12_leastLooks_14 : decode cX12_leastLooks 14 = .ok (.iconst (-1), 1) := by decide +kernel
theorem dX12_leastLooks_15 : decode cX12_leastLooks 15 = .ok (.ireturn, 1) := by decide +kernel
theorem dX12_leastLooks_16 : decode cX12_leastLooks 16 = .ok (.aload_n 0, 1) := by decide +kernel
theorem dX12_leastLooks_17 : decode cX12_leastLooks 17 = .ok (.getfield 95, 3) := by decide +kernel
theorem dX12_leastLooks_20 : decode cX12_leastLooks 20 = .ok (.aload_n 0, 1) := by decide +kernel
theorem dX12_leastLooks_21 : decode cX12_leastLooks 21 = .ok (.getfield 405, 3) := by decide +kernel
theorem dX12_leastLooks_24 : decode cX12_leastLooks 24 = .ok (.iload_n 1, 1) := by decide +kernel
theorem dX12_leastLooks_25 : decode cX12_leastLooks 25 = .ok (.iastore, 1) := by decide +kernel
theorem dX12_leastLooks_26 : decode cX12_leastLooks 26 = .ok (.iconst 0, 1) := by decide +kernel
theorem dX12_leastLooks_27 : decode cX12_leastLooks 27 = .ok (.istore_n 2, 1) := by decide +kernel
theorem dX12_leastLooks_28 : decode cX12_leastLooks 28 = .ok (.iload_n 2, 1) := by decide +kernel
theorem dX12_leastLooks_29 : decode cX12_leastLooks 29 = .ok (.aload_n 0, 1) := by decide +kernel
theorem dX12_leastLooks_30 : decode cX12_leastLooks 30 = .ok (.getfield 405, 3) := by decide +kernel
theorem dX12_leastLooks_33 : decode cX12_leastLooks 33 = .ok (.if_icmp .gt 145, 3) := by decide +kernel
theorem dX12_leastLooks_36 : decode cX12_leastLooks 36 = .ok (.iconst 0, 1) := by decide +kernel
theorem dX12_leastLooks_37 : decode cX12_leastLooks 37 = .ok (.istore_n 3, 1) := by decide +kernel
theorem dX12_leastLooks_38 : decode cX12_leastLooks 38 = .ok (.iload_n 3, 1) := by decide +kernel
theorem dX12_leastLooks_39 : decode cX12_leastLooks 39 = .ok (.iload_n 2, 1) := by decide +kernel
theorem dX12_leastLooks_40 : decode cX12_leastLooks 40 = .ok (.iadd, 1) := by decide +kernel
theorem dX12_leastLooks_41 : decode cX12_leastLooks 41 = .ok (.aload_n 0, 1) := by decide +kernel
theorem dX12_leastLooks_42 : decode cX12_leastLooks 42 = .ok (.getfield 405, 3) := by decide +kernel
theorem dX12_leastLooks_45 : decode cX12_leastLooks 45 = .ok (.if_icmp .gt 127, 3) := by decide +kernel
theorem dX12_leastLooks_48 : decode cX12_leastLooks 48 = .ok (.iload_n 3, 1) := by decide +kernel
theorem dX12_leastLooks_49 : decode cX12_leastLooks 49 = .ok (.iload_n 2, 1) := by decide +kernel
theorem dX12_leastLooks_50 : decode cX12_leastLooks 50 = .ok (.iadd, 1) := by decide +kernel
theorem dX12_leastLooks_51 : decode cX12_leastLooks 51 = .ok (.istore 4, 2) := by decide +kernel
theorem dX12_leastLooks_53 : decode cX12_leastLooks 53 = .ok (.iload_n 2, 1) := by decide +kernel
theorem dX12_leastLooks_54 : decode cX12_leastLooks 54 = .ok (.ifCond .ne 7, 3) := by decide +kernel
theorem dX12_leastLooks_57 : decode cX12_leastLooks 57 = .ok (.iconst 0, 1) := by decide +kernel
theorem dX12_leastLooks_58 : decode cX12_leastLooks 58 = .ok (.goto 6, 3) := by decide +kernel
theorem dX12_leastLooks_61 : decode cX12_leastLooks 61 = .ok (.ldc_w 382, 3) := by decide +kernel
theorem dX12_leastLooks_64 : decode cX12_leastLooks 64 = .ok (.istore 5, 2) := by decide +kernel
theorem dX12_leastLooks_66 : decode cX12_leastLooks 66 = .ok (.iload_n 3, 1) := by decide +kernel
theorem dX12_leastLooks_67 : decode cX12_leastLooks 67 = .ok (.istore 6, 2) := by decide +kernel
theorem dX12_leastLooks_69 : decode cX12_leastLooks 69 = .ok (.iload 6, 2) := by decide +kernel
theorem dX12_leastLooks_71 : decode cX12_leastLooks 71 = .ok (.iload 4, 2) := by decide +kernel
theorem dX12_leastLooks_73 : decode cX12_leastLooks 73 = .ok (.if_icmp .ge 79, 3) := by decide +kernel
theorem dX12_leastLooks_76 : decode cX12_leastLooks 76 = .ok (.aload_n 0, 1) := by decide +kernel
theorem dX12_leastLooks_77 : decode cX12_leastLooks 77 = .ok (.getfield 102, 3) := by decide +kernel
theorem dX12_leastLooks_80 : decode cX12_leastLooks 80 = .ok (.bipush 10, 2) := by decide +kernel
theorem dX12_leastLooks_82 : decode cX12_leastLooks 82 = .ok (.iload_n 3, 1) := by decide +kernel
theorem dX12_leastLooks_83 : decode cX12_leastLooks 83 = .ok (.imul, 1) := by decide +kernel
theorem dX12_leastLooks_84 : decode cX12_leastLooks 84 = .ok (.iload 6, 2) := by decide +kernel
theorem dX12_leastLooks_86 : decode cX12_leastLooks 86 = .ok (.iadd, 1) := by decide +kernel
theorem dX12_leastLooks_87 : decode cX12_leastLooks 87 = .ok (.iaload, 1) := by decide +kernel
theorem dX12_leastLooks_88 : decode cX12_leastLooks 88 = .ok (.aload_n 0, 1) := by decide +kernel
theorem dX12_leastLooks_89 : decode cX12_leastLooks 89 = .ok (.getfield 102, 3) := by decide +kernel
theorem dX12_leastLooks_92 : decode cX12_leastLooks 92 = .ok (.bipush 10, 2) := by decide +kernel
theorem dX12_leastLooks_94 : decode cX12_leastLooks 94 = .ok (.iload 6, 2) := by decide +kernel
theorem dX12_leastLooks_96 : decode cX12_leastLooks 96 = .ok (.iconst 1, 1) := by decide +kernel
theorem dX12_leastLooks_97 : decode cX12_leastLooks 97 = .ok (.iadd, 1) := by decide +kernel
theorem dX12_leastLooks_98 : decode cX12_leastLooks 98 = .ok (.imul, 1) := by decide +kernel
theorem dX12_leastLooks_99 : decode cX12_leastLooks 99 = .ok (.iload 4, 2) := by decide +kernel
theorem dX12_leastLooks_101 : decode cX12_leastLooks 101 = .ok (.iadd, 1) := by decide +kernel
theorem dX12_leastLooks_102 : decode cX12_leastLooks 102 = .ok (.iaload, 1) := by decide +kernel
theorem dX12_leastLooks_103 : decode cX12_leastLooks 103 = .ok (.iadd, 1) := by decide +kernel
theorem dX12_leastLooks_104 : decode cX12_leastLooks 104 = .ok (.aload_n 0, 1) := by decide +kernel
theorem dX12_leastLooks_105 : decode cX12_leastLooks 105 = .ok (.iload_n 3, 1) := by decide +kernel
theorem dX12_leastLooks_106 : decode cX12_leastLooks 106 = .ok (.iload 4, 2) := by decide +kernel
theorem dX12_leastLooks_108 : decode cX12_leastLooks 108 = .ok (.invokevirtual 408, 3) := by decide +kernel
theorem dX12_leastLooks_111 : decode cX12_leastLooks 111 = .ok (.iadd, 1) := by decide +kernel
theorem dX12_leastLooks_112 : decode cX12_leastLooks 112 = .ok (.istore 7, 2) := by decide +kernel
theorem dX12_leastLooks_114 : decode cX12_leastLooks 114 = .ok (.iload 7, 2) := by decide +kernel
theorem dX12_leastLooks_116 : decode cX12_leastLooks 116 = .ok (.iload 5, 2) := by decide +kernel
theorem dX12_leastLooks_118 : decode cX12_leastLooks 118 = .ok (.if_icmp .ge 28, 3) := by decide +kernel
theorem dX12_leastLooks_121 : decode cX12_leastLooks 121 = .ok (.iload 7, 2) := by decide +kernel
theorem dX12_leastLooks_123 : decode cX12_leastLooks 123 = .ok (.istore 5, 2) := by decide +kernel
theorem dX12_leastLooks_125 : decode cX12_leastLooks 125 = .ok (.aload_n 0, 1) := by decide +kernel
theorem dX12_leastLooks_126 : decode cX12_leastLooks 126 = .ok (.iload_n 2, 1) := by decide +kernel
theorem dX12_leastLooks_127 : decode cX12_leastLooks 127 = .ok (.aload_n 0, 1) := by decide +kernel
theorem dX12_leastLooks_128 : decode cX12_leastLooks 128 = .ok (.getfield 405, 3) := by decide +kernel
theorem dX12_leastLooks_131 : decode cX12_leastLooks 131 = .ok (.if_icmp .ne 8, 3) := by decide +kernel
theorem dX12_leastLooks_134 : decode cX12_leastLooks 134 = .ok (.iload 6, 2) := by decide +kernel
theorem dX12_leastLooks_136 : decode cX12_leastLooks 136 = .ok (.goto 7, 3) := by decide +kernel
theorem dX12_leastLooks_139 : decode cX12_leastLooks 139 = .ok (.aload_n 0, 1) := by decide +kernel
theorem dX12_leastLooks_140 : decode cX12_leastLooks 140 = .ok (.getfield 98, 3) := by decide +kernel
theorem dX12_leastLooks_143 : decode cX12_leastLooks 143 = .ok (.putfield 98, 3) := by decide +kernel
theorem dX12_leastLooks_146 : decode cX12_leastLooks 146 = .ok (.iinc 6 1, 3) := by decide +kernel
theorem dX12_leastLooks_149 : decode cX12_leastLooks 149 = .ok (.goto (-80), 3) := by decide +kernel
theorem dX12_leastLooks_152 : decode cX12_leastLooks 152 = .ok (.aload_n 0, 1) := by decide +kernel
theorem dX12_leastLooks_153 : decode cX12_leastLooks 153 = .ok (.getfield 102, 3) := by decide +kernel
theorem dX12_leastLooks_156 : decode cX12_leastLooks 156 = .ok (.bipush 10, 2) := by decide +kernel
theorem dX12_leastLooks_158 : decode cX12_leastLooks 158 = .ok (.iload_n 3, 1) := by decide +kernel
theorem dX12_leastLooks_159 : decode cX12_leastLooks 159 = .ok (.imul, 1) := by decide +kernel
theorem dX12_leastLooks_160 : decode cX12_leastLooks 160 = .ok (.iload 4, 2) := by decide +kernel
theorem dX12_leastLooks_162 : decode cX12_leastLooks 162 = .ok (.iadd, 1) := by decide +kernel
theorem dX12_leastLooks_163 : decode cX12_leastLooks 163 = .ok (.iload 5, 2) := by decide +kernel
theorem dX12_leastLooks_165 : decode cX12_leastLooks 165 = .ok (.iastore, 1) := by decide +kernel
theorem dX12_leastLooks_166 : decode cX12_leastLooks 166 = .ok (.iinc 3 1, 3) := by decide +kernel
theorem dX12_leastLooks_169 : decode cX12_leastLooks 169 = .ok (.goto (-131), 3) := by decide +kernel
theorem dX12_leastLooks_172 : decode cX12_leastLooks 172 = .ok (.iinc 2 1, 3) := by decide +kernel
theorem dX12_leastLooks_175 : decode cX12_leastLooks 175 = .ok (.goto (-147), 3) := by decide +kernel
theorem dX12_leastLooks_178 : decode cX12_leastLooks 178 = .ok (.aload_n 0, 1) := by decide +kernel
theorem dX12_leastLooks_179 : decode cX12_leastLooks 179 = .ok (.getfield 102, 3) := by decide +kernel
theorem dX12_leastLooks_182 : decode cX12_leastLooks 182 = .ok (.aload_n 0, 1) := by decide +kernel
theorem dX12_leastLooks_183 : decode cX12_leastLooks 183 = .ok (.getfield 405, 3) := by decide +kernel
theorem dX12_leastLooks_186 : decode cX12_leastLooks 186 = .ok (.iaload, 1) := by decide +kernel
theorem dX12_leastLooks_187 : decode cX12_leastLooks 187 = .ok (.istore_n 2, 1) := by decide +kernel
theorem dX12_leastLooks_188 : decode cX12_leastLooks 188 = .ok (.aload_n 0, 1) := by decide +kernel
theorem dX12_leastLooks_189 : decode cX12_leastLooks 189 = .ok (.iconst 0, 1) := by decide +kernel
theorem dX12_leastLooks_190 : decode cX12_leastLooks 190 = .ok (.putfield 405, 3) := by decide +kernel
theorem dX12_leastLooks_193 : decode cX12_leastLooks 193 = .ok (.iload_n 2, 1) := by decide +kernel
theorem dX12_leastLooks_194 : decode cX12_leastLooks 194 = .ok (.ireturn, 1) := by decide +kernel
theorem dX12_root_0 : decode cX12_root 0 = .ok (.aload_n 0, 1) := by decide +kernel
theorem dX12_root_1 : decode cX12_root 1 = .ok (.getfield 98, 3) := by decide +kernel
theorem dX12_root_4 : decode cX12_root 4 = .ok (.ifCond .ge 7, 3) := by decide +kernel
theorem dX12_root_7 : decode cX12_root 7 = .ok (.iconst (-1), 1) := by decide +kernel
theorem dX12_root_8 : decode cX12_root 8 = .ok (.goto 7, 3) := by decide +kernel
theorem dX12_root_11 : decode cX12_root 11 = .ok (.aload_n 0, 1) := by decide +kernel
theorem dX12_root_12 : decode cX12_root 12 = .ok (.getfield 98, 3) := by decide +kernel
theorem dX12_root_15 : decode cX12_root 15 = .ok (.ireturn, 1) := by decide +kernel
theorem dX12_walk_0 : decode cX12_walk 0 = .ok (.iload_n 1, 1) := by decide +kernel
theorem dX12_walk_1 : decode cX12_walk 1 = .ok (.i2l, 1) := by decide +kernel
theorem dX12_walk_2 : decode cX12_walk 2 = .ok (.lconst 0, 1) := by decide +kernel
theorem dX12_walk_3 : decode cX12_walk 3 = .ok (.lconst 1, 1) := by decide +kernel
theorem dX12_walk_4 : decode cX12_walk 4 = .ok (.invokestatic 135, 3) := by decide +kernel
theorem dX12_walk_7 : decode cX12_walk 7 = .ok (.ifCond .ne 5, 3) := by decide +kernel
theorem dX12_walk_10 : decode cX12_walk 10 = .ok (.iconst (-1), 1) := by decide +kernel
theorem dX12_walk_11 : decode cX12_walk 11 = .ok (.ireturn, 1) := by decide +kernel
theorem dX12_walk_12 : decode cX12_walk 12 = .ok (.aload_n 0, 1) := by decide +kernel
theorem dX12_walk_13 : decode cX12_walk 13 = .ok (.getfield 411, 3) := by decide +kernel
theorem dX12_walk_16 : decode cX12_walk 16 = .ok (.iconst 4, 1) := by decide +kernel
theorem dX12_walk_17 : decode cX12_walk 17 = .ok (.if_icmp .ne 6, 3) := by decide +kernel
theorem dX12_walk_20 : decode cX12_walk 20 = .ok (.bipush (-3), 2) := by decide +kernel
theorem dX12_walk_22 : decode cX12_walk 22 = .ok (.ireturn, 1) := by decide +kernel
theorem dX12_walk_23 : decode cX12_walk 23 = .ok (.aload_n 0, 1) := by decide +kernel
theorem dX12_walk_24 : decode cX12_walk 24 = .ok (.getfield 105, 3) := by decide +kernel
theorem dX12_walk_27 : decode cX12_walk 27 = .ok (.aload_n 0, 1) := by decide +kernel
theorem dX12_walk_28 : decode cX12_walk 28 = .ok (.getfield 411, 3) := by decide +kernel
theorem dX12_walk_31 : decode cX12_walk 31 = .ok (.iload_n 1, 1) := by decide +kernel
theorem dX12_walk_32 : decode cX12_walk 32 = .ok (.iconst 1, 1) := by decide +kernel
theorem dX12_walk_33 : decode cX12_walk 33 = .ok (.if_icmp .ne 7, 3) := by decide +kernel
theorem dX12_walk_36 : decode cX12_walk 36 = .ok (.iconst 1, 1) := by decide +kernel
theorem dX12_walk_37 : decode cX12_walk 37 = .ok (.goto 4, 3) := by decide +kernel
theorem dX12_walk_40 : decode cX12_walk 40 = .ok (.iconst 0, 1) := by decide +kernel
theorem dX12_walk_41 : decode cX12_walk 41 = .ok (.bastore, 1) := by decide +kernel
theorem dX12_walk_42 : decode cX12_walk 42 = .ok (.aload_n 0, 1) := by decide +kernel
theorem dX12_walk_43 : decode cX12_walk 43 = .ok (.getfield 111, 3) := by decide +kernel
theorem dX12_walk_46 : decode cX12_walk 46 = .ok (.aload_n 0, 1) := by decide +kernel
theorem dX12_walk_47 : decode cX12_walk 47 = .ok (.getfield 411, 3) := by decide +kernel
theorem dX12_walk_50 : decode cX12_walk 50 = .ok (.iconst (-1), 1) := by decide +kernel
theorem dX12_walk_51 : decode cX12_walk 51 = .ok (.iastore, 1) := by decide +kernel
theorem dX12_walk_52 : decode cX12_walk 52 = .ok (.iconst 0, 1) := by decide +kernel
theorem dX12_walk_53 : decode cX12_walk 53 = .ok (.istore_n 2, 1) := by decide +kernel
theorem dX12_walk_54 : decode cX12_walk 54 = .ok (.iload_n 2, 1) := by decide +kernel
theorem dX12_walk_55 : decode cX12_walk 55 = .ok (.aload_n 0, 1) := by decide +kernel
theorem dX12_walk_56 : decode cX12_walk 56 = .ok (.getfield 130, 3) := by decide +kernel
theorem dX12_walk_59 : decode cX12_walk 59 = .ok (.if_icmp .ge 29, 3) := by decide +kernel
theorem dX12_walk_62 : decode cX12_walk 62 = .ok (.aload_n 0, 1) := by decide +kernel
theorem dX12_walk_63 : decode cX12_walk 63 = .ok (.getfield 108, 3) := by decide +kernel
theorem dX12_walk_66 : decode cX12_walk 66 = .ok (.bipush 80, 2) := by decide +kernel
theorem dX12_walk_68 : decode cX12_walk 68 = .ok (.aload_n 0, 1) := by decide +kernel
theorem dX12_walk_69 : decode cX12_walk 69 = .ok (.getfield 411, 3) := by decide +kernel
theorem dX12_walk_72 : decode cX12_walk 72 = .ok (.imul, 1) := by decide +kernel
theorem dX12_walk_73 : decode cX12_walk 73 = .ok (.iload_n 2, 1) := by decide +kernel
theorem dX12_walk_74 : decode cX12_walk 74 = .ok (.iadd, 1) := by decide +kernel
theorem dX12_walk_75 : decode cX12_walk 75 = .ok (.aload_n 0, 1) := by decide +kernel
theorem dX12_walk_76 : decode cX12_walk 76 = .ok (.getfield 13, 3) := by decide +kernel
theorem dX12_walk_79 : decode cX12_walk 79 = .ok (.iload_n 2, 1) := by decide +kernel
theorem dX12_walk_80 : decode cX12_walk 80 = .ok (.baload, 1) := by decide +kernel
theorem dX12_walk_81 : decode cX12_walk 81 = .ok (.bastore, 1) := by decide +kernel
theorem dX12_walk_82 : decode cX12_walk 82 = .ok (.iinc 2 1, 3) := by decide +kernel
theorem dX12_walk_85 : decode cX12_walk 85 = .ok (.goto (-31), 3) := by decide +kernel
theorem dX12_walk_88 : decode cX12_walk 88 = .ok (.aload_n 0, 1) := by decide +kernel
theorem dX12_walk_89 : decode cX12_walk 89 = .ok (.dup, 1) := by decide +kernel
theorem dX12_walk_90 : decode cX12_walk 90 = .ok (.getfield 411, 3) := by decide +kernel
theorem dX12_walk_93 : decode cX12_walk 93 = .ok (.iconst 1, 1) := by decide +kernel
theorem dX12_walk_94 : decode cX12_walk 94 = .ok (.iadd, 1) := by decide +kernel
theorem dX12_walk_95 : decode cX12_walk 95 = .ok (.putfield 411, 3) := by decide +kernel
theorem dX12_walk_98 : decode cX12_walk 98 = .ok (.aload_n 0, 1) := by decide +kernel
theorem dX12_walk_99 : decode cX12_walk 99 = .ok (.getfield 411, 3) := by decide +kernel
theorem dX12_walk_102 : decode cX12_walk 102 = .ok (.iconst 1, 1) := by decide +kernel
theorem dX12_walk_103 : decode cX12_walk 103 = .ok (.isub, 1) := by decide +kernel
theorem dX12_walk_104 : decode cX12_walk 104 = .ok (.ireturn, 1) := by decide +kernel
theorem dX12_next_0 : decode cX12_next 0 = .ok (.iload_n 1, 1) := by decide +kernel
theorem dX12_next_1 : decode cX12_next 1 = .ok (.ifCond .lt 11, 3) := by decide +kernel
theorem dX12_next_4 : decode cX12_next 4 = .ok (.iload_n 1, 1) := by decide +kernel
theorem dX12_next_5 : decode cX12_next 5 = .ok (.aload_n 0, 1) := by decide +kernel
theorem dX12_next_6 : decode cX12_next 6 = .ok (.getfield 411, 3) := by decide +kernel
theorem dX12_next_9 : decode cX12_next 9 = .ok (.if_icmp .lt 5, 3) := by decide +kernel
theorem dX12_next_12 : decode cX12_next 12 = .ok (.iconst (-1), 1) := by decide +kernel
theorem dX12_next_13 : decode cX12_next 13 = .ok (.ireturn, 1) := by decide +kernel
theorem dX12_next_14 : decode cX12_next 14 = .ok (.aload_n 0, 1) := by decide +kernel
theorem dX12_next_15 : decode cX12_next 15 = .ok (.getfield 111, 3) := by decide +kernel
theorem dX12_next_18 : decode cX12_next 18 = .ok (.iload_n 1, 1) := by decide +kernel
theorem dX12_next_19 : decode cX12_next 19 = .ok (.iaload, 1) := by decide +kernel
theorem dX12_next_20 : decode cX12_next 20 = .ok (.iconst 1, 1) := by decide +kernel
theorem dX12_next_21 : decode cX12_next 21 = .ok (.iadd, 1) := by decide +kernel
theorem dX12_next_22 : decode cX12_next 22 = .ok (.istore_n 2, 1) := by decide +kernel
theorem dX12_next_23 : decode cX12_next 23 = .ok (.iload_n 2, 1) := by decide +kernel
theorem dX12_next_24 : decode cX12_next 24 = .ok (.aload_n 0, 1) := by decide +kernel
theorem dX12_next_25 : decode cX12_next 25 = .ok (.getfield 130, 3) := by decide +kernel
theorem dX12_next_28 : decode cX12_next 28 = .ok (.if_icmp .ge 53, 3) := by decide +kernel
theorem dX12_next_31 : decode cX12_next 31 = .ok (.aload_n 0, 1) := by decide +kernel
theorem dX12_next_32 : decode cX12_next 32 = .ok (.getfield 105, 3) := by decide +kernel
theorem dX12_next_35 : decode cX12_next 35 = .ok (.iload_n 1, 1) := by decide +kernel
theorem dX12_next_36 : decode cX12_next 36 = .ok (.baload, 1) := by decide +kernel
theorem dX12_next_37 : decode cX12_next 37 = .ok (.ifCond .eq 20, 3) := by decide +kernel
theorem dX12_next_40 : decode cX12_next 40 = .ok (.aload_n 0, 1) := by decide +kernel
theorem dX12_next_41 : decode cX12_next 41 = .ok (.getfield 108, 3) := by decide +kernel
theorem dX12_next_44 : decode cX12_next 44 = .ok (.bipush 80, 2) := by decide +kernel
theorem dX12_next_46 : decode cX12_next 46 = .ok (.iload_n 1, 1) := by decide +kernel
theorem dX12_next_47 : decode cX12_next 47 = .ok (.imul, 1) := by decide +kernel
theorem dX12_next_48 : decode cX12_next 48 = .ok (.iload_n 2, 1) := by decide +kernel
theorem dX12_next_49 : decode cX12_next 49 = .ok (.iadd, 1) := by decide +kernel
theorem dX12_next_50 : decode cX12_next 50 = .ok (.baload, 1) := by decide +kernel
theorem dX12_next_51 : decode cX12_next 51 = .ok (.ifCond .eq 24, 3) := by decide +kernel
theorem dX12_next_54 : decode cX12_next 54 = .ok (.goto 12, 3) := by decide +kernel
theorem dX12_next_57 : decode cX12_next 57 = .ok (.aload_n 0, 1) := by decide +kernel
theorem dX12_next_58 : decode cX12_next 58 = .ok (.getfield 13, 3) := by decide +kernel
theorem dX12_next_61 : decode cX12_next 61 = .ok (.iload_n 2, 1) := by decide +kernel
theorem dX12_next_62 : decode cX12_next 62 = .ok (.baload, 1) := by decide +kernel
theorem dX12_next_63 : decode cX12_next 63 = .ok (.ifCond .eq 12, 3) := by decide +kernel
theorem dX12_next_66 : decode cX12_next 66 = .ok (.aload_n 0, 1) := by decide +kernel
theorem dX12_next_67 : decode cX12_next 67 = .ok (.getfield 111, 3) := by decide +kernel
theorem dX12_next_70 : decode cX12_next 70 = .ok (.iload_n 1, 1) := by decide +kernel
theorem dX12_next_71 : decode cX12_next 71 = .ok (.iload_n 2, 1) := by decide +kernel
theorem dX12_next_72 : decode cX12_next 72 = .ok (.iastore, 1) := by decide +kernel
theorem dX12_next_73 : decode cX12_next 73 = .ok (.iload_n 2, 1) := by decide +kernel
theorem dX12_next_74 : decode cX12_next 74 = .ok (.ireturn, 1) := by decide +kernel
theorem dX12_next_75 : decode cX12_next 75 = .ok (.iinc 2 1, 3) := by decide +kernel
theorem dX12_next_78 : decode cX12_next 78 = .ok (.goto (-55), 3) := by decide +kernel
theorem dX12_next_81 : decode cX12_next 81 = .ok (.iconst (-1), 1) := by decide +kernel
theorem dX12_next_82 : decode cX12_next 82 = .ok (.ireturn, 1) := by decide +kernel
theorem dX12_above_0 : decode cX12_above 0 = .ok (.iload_n 0, 1) := by decide +kernel
theorem dX12_above_1 : decode cX12_above 1 = .ok (.iconst 2, 1) := by decide +kernel
theorem dX12_above_2 : decode cX12_above 2 = .ok (.if_icmp .eq 8, 3) := by decide +kernel
theorem dX12_above_5 : decode cX12_above 5 = .ok (.iload_n 0, 1) := by decide +kernel
theorem dX12_above_6 : decode cX12_above 6 = .ok (.iconst 3, 1) := by decide +kernel
theorem dX12_above_7 : decode cX12_above 7 = .ok (.if_icmp .ne 7, 3) := by decide +kernel
theorem dX12_above_10 : decode cX12_above 10 = .ok (.iconst 1, 1) := by decide +kernel
theorem dX12_above_11 : decode cX12_above 11 = .ok (.goto 24, 3) := by decide +kernel
theorem dX12_above_14 : decode cX12_above 14 = .ok (.iload_n 0, 1) := by decide +kernel
theorem dX12_above_15 : decode cX12_above 15 = .ok (.bipush 6, 2) := by decide +kernel
theorem dX12_above_17 : decode cX12_above 17 = .ok (.if_icmp .ne 7, 3) := by decide +kernel
theorem dX12_above_20 : decode cX12_above 20 = .ok (.iconst 4, 1) := by decide +kernel
theorem dX12_above_21 : decode cX12_above 21 = .ok (.goto 14, 3) := by decide +kernel
theorem dX12_above_24 : decode cX12_above 24 = .ok (.iload_n 0, 1) := by decide +kernel
theorem dX12_above_25 : decode cX12_above 25 = .ok (.bipush 7, 2) := by decide +kernel
theorem dX12_above_27 : decode cX12_above 27 = .ok (.if_icmp .ne 7, 3) := by decide +kernel
theorem dX12_above_30 : decode cX12_above 30 = .ok (.iconst 2, 1) := by decide +kernel
theorem dX12_above_31 : decode cX12_above 31 = .ok (.goto 4, 3) := by decide +kernel
theorem dX12_above_34 : decode cX12_above 34 = .ok (.iconst 0, 1) := by decide +kernel
theorem dX12_above_35 : decode cX12_above 35 = .ok (.ireturn, 1) := by decide +kernel
theorem dX12_ranBody_0 : decode cX12_ranBody 0 = .ok (.aload_n 0, 1) := by decide +kernel
theorem dX12_ranBody_1 : decode cX12_ranBody 1 = .ok (.getfield 414, 3) := by decide +kernel
theorem dX12_ranBody_4 : decode cX12_ranBody 4 = .ok (.bipush 24, 2) := by decide +kernel
theorem dX12_ranBody_6 : decode cX12_ranBody 6 = .ok (.if_icmp .ge 13, 3) := by decide +kernel
theorem dX12_ranBody_9 : decode cX12_ranBody 9 = .ok (.aload_n 0, 1) := by decide +kernel
theorem dX12_ranBody_10 : decode cX12_ranBody 10 = .ok (.getfield 114, 3) := by decide +kernel
theorem dX12_ranBody_13 : decode cX12_ranBody 13 = .ok (.aload_n 0, 1) := by decide +kernel
theorem dX12_ranBody_14 : decode cX12_ranBody 14 = .ok (.getfield 414, 3) := by decide +kernel
theorem dX12_ranBody_17 : decode cX12_ranBody 17 = .ok (.iload_n 1, 1) := by decide +kernel
theorem dX12_ranBody_18 : decode cX12_ranBody 18 = .ok (.iastore, 1) := by decide +kernel
theorem dX12_ranBody_19 : decode cX12_ranBody 19 = .ok (.aload_n 0, 1) := by decide +kernel
theorem dX12_ranBody_20 : decode cX12_ranBody 20 = .ok (.dup, 1) := by decide +kernel
theorem dX12_ranBody_21 : decode cX12_ranBody 21 = .ok (.getfield 414, 3) := by decide +kernel
theorem dX12_ranBody_24 : decode cX12_ranBody 24 = .ok (.iconst 1, 1) := by decide +kernel
theorem dX12_ranBody_25 : decode cX12_ranBody 25 = .ok (.iadd, 1) := by decide +kernel
theorem dX12_ranBody_26 : decode cX12_ranBody 26 = .ok (.putfield 414, 3) := by decide +kernel
theorem dX12_ranBody_29 : decode cX12_ranBody 29 = .ok (.return_, 1) := by decide +kernel
theorem dX12_finds_0 : decode cX12_finds 0 = .ok (.iload_n 1, 1) := by decide +kernel
theorem dX12_finds_1 : decode cX12_finds 1 = .ok (.tableswitch 119 0 6 #[43, 55, 119, 119, 81, 119, 99], 43) := by decide +kernel
theorem dX12_finds_44 : decode cX12_finds 44 = .ok (.aload_n 0, 1) := by decide +kernel
theorem dX12_finds_45 : decode cX12_finds 45 = .ok (.iconst 1, 1) := by decide +kernel
theorem dX12_finds_46 : decode cX12_finds 46 = .ok (.invokevirtual 417, 3) := by decide +kernel
theorem dX12_finds_49 : decode cX12_finds 49 = .ok (.iload_n 2, 1) := by decide +kernel
theorem dX12_finds_50 : decode cX12_finds 50 = .ok (.aload_n 0, 1) := by decide +kernel
theorem dX12_finds_51 : decode cX12_finds 51 = .ok (.getfield 421, 3) := by decide +kernel
theorem dX12_finds_54 : decode cX12_finds 54 = .ok (.iadd, 1) := by decide +kernel
theorem dX12_finds_55 : decode cX12_finds 55 = .ok (.ireturn, 1) := by decide +kernel
theorem dX12_finds_56 : decode cX12_finds 56 = .ok (.aload_n 0, 1) := by decide +kernel
theorem dX12_finds_57 : decode cX12_finds 57 = .ok (.bipush 20, 2) := by decide +kernel
theorem dX12_finds_59 : decode cX12_finds 59 = .ok (.invokevirtual 417, 3) := by decide +kernel
theorem dX12_finds_62 : decode cX12_finds 62 = .ok (.aload_n 0, 1) := by decide +kernel
theorem dX12_finds_63 : decode cX12_finds 63 = .ok (.iconst 1, 1) := by decide +kernel
theorem dX12_finds_64 : decode cX12_finds 64 = .ok (.invokestatic 424, 3) := by decide +kernel
theorem dX12_finds_67 : decode cX12_finds 67 = .ok (.iload_n 2, 1) := by decide +kernel
theorem dX12_finds_68 : decode cX12_finds 68 = .ok (.invokevirtual 427, 3) := by decide +kernel
theorem dX12_finds_71 : decode cX12_finds 71 = .ok (.aload_n 0, 1) := by decide +kernel
theorem dX12_finds_72 : decode cX12_finds 72 = .ok (.getfield 50, 3) := by decide +kernel
theorem dX12_finds_75 : decode cX12_finds 75 = .ok (.aload_n 0, 1) := by decide +kernel
theorem dX12_finds_76 : decode cX12_finds 76 = .ok (.getfield 421, 3) := by decide +kernel
theorem dX12_finds_79 : decode cX12_finds 79 = .ok (.iaload, 1) := by decide +kernel
theorem dX12_finds_80 : decode cX12_finds 80 = .ok (.iadd, 1) := by decide +kernel
theorem dX12_finds_81 : decode cX12_finds 81 = .ok (.ireturn, 1) := by decide +kernel
theorem dX12_finds_82 : decode cX12_finds 82 = .ok (.aload_n 0, 1) := by decide +kernel
theorem dX12_finds_83 : decode cX12_finds 83 = .ok (.bipush 50, 2) := by decide +kernel
theorem dX12_finds_85 : decode cX12_finds 85 = .ok (.invokevirtual 417, 3) := by decide +kernel
theorem dX12_finds_88 : decode cX12_finds 88 = .ok (.aload_n 0, 1) := by decide +kernel
theorem dX12_finds_89 : decode cX12_finds 89 = .ok (.iconst 4, 1) := by decide +kernel
theorem dX12_finds_90 : decode cX12_finds 90 = .ok (.invokestatic 424, 3) := by decide +kernel
theorem dX12_finds_93 : decode cX12_finds 93 = .ok (.iload_n 2, 1) := by decide +kernel
theorem dX12_finds_94 : decode cX12_finds 94 = .ok (.invokevirtual 427, 3) := by decide +kernel
theorem dX12_finds_97 : decode cX12_finds 97 = .ok (.iconst 3, 1) := by decide +kernel
theorem dX12_finds_98 : decode cX12_finds 98 = .ok (.imul, 1) := by decide +kernel
theorem dX12_finds_99 : decode cX12_finds 99 = .ok (.ireturn, 1) := by decide +kernel
theorem dX12_finds_100 : decode cX12_finds 100 = .ok (.aload_n 0, 1) := by decide +kernel
theorem dX12_finds_101 : decode cX12_finds 101 = .ok (.bipush 70, 2) := by decide +kernel
theorem dX12_finds_103 : decode cX12_finds 103 = .ok (.invokevirtual 417, 3) := by decide +kernel
theorem dX12_finds_106 : decode cX12_finds 106 = .ok (.aload_n 0, 1) := by decide +kernel
theorem dX12_finds_107 : decode cX12_finds 107 = .ok (.bipush 6, 2) := by decide +kernel
theorem dX12_finds_109 : decode cX12_finds 109 = .ok (.invokestatic 424, 3) := by decide +kernel
theorem dX12_finds_112 : decode cX12_finds 112 = .ok (.iload_n 2, 1) := by decide +kernel
theorem dX12_finds_113 : decode cX12_finds 113 = .ok (.iconst 1, 1) := by decide +kernel
theorem dX12_finds_114 : decode cX12_finds 114 = .ok (.iadd, 1) := by decide +kernel
theorem dX12_finds_115 : decode cX12_finds 115 = .ok (.invokevirtual 427, 3) := by decide +kernel
theorem dX12_finds_118 : decode cX12_finds 118 = .ok (.ineg, 1) := by decide +kernel
theorem dX12_finds_119 : decode cX12_finds 119 = .ok (.ireturn, 1) := by decide +kernel
theorem dX12_finds_120 : decode cX12_finds 120 = .ok (.aload_n 0, 1) := by decide +kernel
theorem dX12_finds_121 : decode cX12_finds 121 = .ok (.iload_n 1, 1) := by decide +kernel
theorem dX12_finds_122 : decode cX12_finds 122 = .ok (.invokestatic 424, 3) := by decide +kernel
theorem dX12_finds_125 : decode cX12_finds 125 = .ok (.iload_n 2, 1) := by decide +kernel
theorem dX12_finds_126 : decode cX12_finds 126 = .ok (.invokevirtual 427, 3) := by decide +kernel
theorem dX12_finds_129 : decode cX12_finds 129 = .ok (.ireturn, 1) := by decide +kernel
theorem dX12_mends_0 : decode cX12_mends 0 = .ok (.iload_n 1, 1) := by decide +kernel
theorem dX12_mends_1 : decode cX12_mends 1 = .ok (.lookupswitch 106 #[(0, 35), (2, 58), (7, 76)], 35) := by decide +kernel
theorem dX12_mends_36 : decode cX12_mends 36 = .ok (.aload_n 0, 1) := by decide +kernel
theorem dX12_mends_37 : decode cX12_mends 37 = .ok (.bipush 10, 2) := by decide +kernel
theorem dX12_mends_39 : decode cX12_mends 39 = .ok (.invokevirtual 417, 3) := by decide +kernel
theorem dX12_mends_42 : decode cX12_mends 42 = .ok (.aload_n 0, 1) := by decide +kernel
theorem dX12_mends_43 : decode cX12_mends 43 = .ok (.aload_n 0, 1) := by decide +kernel
theorem dX12_mends_44 : decode cX12_mends 44 = .ok (.getfield 47, 3) := by decide +kernel
theorem dX12_mends_47 : decode cX12_mends 47 = .ok (.aload_n 0, 1) := by decide +kernel
theorem dX12_mends_48 : decode cX12_mends 48 = .ok (.getfield 421, 3) := by decide +kernel
theorem dX12_mends_51 : decode cX12_mends 51 = .ok (.iaload, 1) := by decide +kernel
theorem dX12_mends_52 : decode cX12_mends 52 = .ok (.iload_n 2, 1) := by decide +kernel
theorem dX12_mends_53 : decode cX12_mends 53 = .ok (.invokevirtual 427, 3) := by decide +kernel
theorem dX12_mends_56 : decode cX12_mends 56 = .ok (.iconst 2, 1) := by decide +kernel
theorem dX12_mends_57 : decode cX12_mends 57 = .ok (.imul, 1) := by decide +kernel
theorem dX12_mends_58 : decode cX12_mends 58 = .ok (.ireturn, 1) := by decide +kernel
theorem dX12_mends_59 : decode cX12_mends 59 = .ok (.aload_n 0, 1) := by decide +kernel
theorem dX12_mends_60 : decode cX12_mends 60 = .ok (.bipush 30, 2) := by decide +kernel
theorem dX12_mends_62 : decode cX12_mends 62 = .ok (.invokevirtual 417, 3) := by decide +kernel
theorem dX12_mends_65 : decode cX12_mends 65 = .ok (.aload_n 0, 1) := by decide +kernel
theorem dX12_mends_66 : decode cX12_mends 66 = .ok (.iconst 2, 1) := by decide +kernel
theorem dX12_mends_67 : decode cX12_mends 67 = .ok (.invokestatic 424, 3) := by decide +kernel
theorem dX12_mends_70 : decode cX12_mends 70 = .ok (.iload_n 2, 1) := by decide +kernel
theorem dX12_mends_71 : decode cX12_mends 71 = .ok (.invokevirtual 430, 3) := by decide +kernel
theorem dX12_mends_74 : decode cX12_mends 74 = .ok (.iconst 1, 1) := by decide +kernel
theorem dX12_mends_75 : decode cX12_mends 75 = .ok (.isub, 1) := by decide +kernel
theorem dX12_mends_76 : decode cX12_mends 76 = .ok (.ireturn, 1) := by decide +kernel
theorem dX12_mends_77 : decode cX12_mends 77 = .ok (.aload_n 0, 1) := by decide +kernel
theorem dX12_mends_78 : decode cX12_mends 78 = .ok (.bipush 80, 2) := by decide +kernel
theorem dX12_mends_80 : decode cX12_mends 80 = .ok (.invokevirtual 417, 3) := by decide +kernel
theorem dX12_mends_83 : decode cX12_mends 83 = .ok (.aload_n 0, 1) := by decide +kernel
theorem dX12_mends_84 : decode cX12_mends 84 = .ok (.bipush 7, 2) := by decide +kernel
theorem dX12_mends_86 : decode cX12_mends 86 = .ok (.invokestatic 424, 3) := by decide +kernel
theorem dX12_mends_89 : decode cX12_mends 89 = .ok (.iload_n 2, 1) := by decide +kernel
theorem dX12_mends_90 : decode cX12_mends 90 = .ok (.invokevirtual 430, 3) := by decide +kernel
theorem dX12_mends_93 : decode cX12_mends 93 = .ok (.istore_n 3, 1) := by decide +kernel
theorem dX12_mends_94 : decode cX12_mends 94 = .ok (.iload_n 3, 1) := by decide +kernel
theorem dX12_mends_95 : decode cX12_mends 95 = .ok (.aload_n 0, 1) := by decide +kernel
theorem dX12_mends_96 : decode cX12_mends 96 = .ok (.bipush 7, 2) := by decide +kernel
theorem dX12_mends_98 : decode cX12_mends 98 = .ok (.invokestatic 424, 3) := by decide +kernel
theorem dX12_mends_101 : decode cX12_mends 101 = .ok (.iload_n 2, 1) := by decide +kernel
theorem dX12_mends_102 : decode cX12_mends 102 = .ok (.invokevirtual 427, 3) := by decide +kernel
theorem dX12_mends_105 : decode cX12_mends 105 = .ok (.iadd, 1) := by decide +kernel
theorem dX12_mends_106 : decode cX12_mends 106 = .ok (.ireturn, 1) := by decide +kernel
theorem dX12_mends_107 : decode cX12_mends 107 = .ok (.aload_n 0, 1) := by decide +kernel
theorem dX12_mends_108 : decode cX12_mends 108 = .ok (.iload_n 1, 1) := by decide +kernel
theorem dX12_mends_109 : decode cX12_mends 109 = .ok (.invokestatic 424, 3) := by decide +kernel
theorem dX12_mends_112 : decode cX12_mends 112 = .ok (.iload_n 2, 1) := by decide +kernel
theorem dX12_mends_113 : decode cX12_mends 113 = .ok (.invokevirtual 430, 3) := by decide +kernel
theorem dX12_mends_116 : decode cX12_mends 116 = .ok (.ireturn, 1) := by decide +kernel
theorem dX12_keeps_0 : decode cX12_keeps 0 = .ok (.iload_n 1, 1) := by decide +kernel
theorem dX12_keeps_1 : decode cX12_keeps 1 = .ok (.lookupswitch 100 #[(0, 35), (3, 48), (6, 81)], 35) := by decide +kernel
theorem dX12_keeps_36 : decode cX12_keeps 36 = .ok (.aload_n 0, 1) := by decide +kernel
theorem dX12_keeps_37 : decode cX12_keeps 37 = .ok (.bipush 11, 2) := by decide +kernel
theorem dX12_keeps_39 : decode cX12_keeps 39 = .ok (.invokevirtual 417, 3) := by decide +kernel
theorem dX12_keeps_42 : decode cX12_keeps 42 = .ok (.iload_n 2, 1) := by decide +kernel
theorem dX12_keeps_43 : decode cX12_keeps 43 = .ok (.aload_n 0, 1) := by decide +kernel
theorem dX12_keeps_44 : decode cX12_keeps 44 = .ok (.getfield 421, 3) := by decide +kernel
theorem dX12_keeps_47 : decode cX12_keeps 47 = .ok (.ixor, 1) := by decide +kernel
theorem dX12_keeps_48 : decode cX12_keeps 48 = .ok (.ireturn, 1) := by decide +kernel
theorem dX12_keeps_49 : decode cX12_keeps 49 = .ok (.aload_n 0, 1) := by decide +kernel
theorem dX12_keeps_50 : decode cX12_keeps 50 = .ok (.bipush 40, 2) := by decide +kernel
theorem dX12_keeps_52 : decode cX12_keeps 52 = .ok (.invokevirtual 417, 3) := by decide +kernel
theorem dX12_keeps_55 : decode cX12_keeps 55 = .ok (.aload_n 0, 1) := by decide +kernel
theorem dX12_keeps_56 : decode cX12_keeps 56 = .ok (.iconst 3, 1) := by decide +kernel
theorem dX12_keeps_57 : decode cX12_keeps 57 = .ok (.invokestatic 424, 3) := by decide +kernel
theorem dX12_keeps_60 : decode cX12_keeps 60 = .ok (.iload_n 2, 1) := by decide +kernel
theorem dX12_keeps_61 : decode cX12_keeps 61 = .ok (.invokevirtual 433, 3) := by decide +kernel
theorem dX12_keeps_64 : decode cX12_keeps 64 = .ok (.istore_n 3, 1) := by decide +kernel
theorem dX12_keeps_65 : decode cX12_keeps 65 = .ok (.iload_n 3, 1) := by decide +kernel
theorem dX12_keeps_66 : decode cX12_keeps 66 = .ok (.aload_n 0, 1) := by decide +kernel
theorem dX12_keeps_67 : decode cX12_keeps 67 = .ok (.aload_n 0, 1) := by decide +kernel
theorem dX12_keeps_68 : decode cX12_keeps 68 = .ok (.getfield 47, 3) := by decide +kernel
theorem dX12_keeps_71 : decode cX12_keeps 71 = .ok (.aload_n 0, 1) := by decide +kernel
theorem dX12_keeps_72 : decode cX12_keeps 72 = .ok (.getfield 421, 3) := by decide +kernel
theorem dX12_keeps_75 : decode cX12_keeps 75 = .ok (.iaload, 1) := by decide +kernel
theorem dX12_keeps_76 : decode cX12_keeps 76 = .ok (.iconst 2, 1) := by decide +kernel
theorem dX12_keeps_77 : decode cX12_keeps 77 = .ok (.invokevirtual 427, 3) := by decide +kernel
theorem dX12_keeps_80 : decode cX12_keeps 80 = .ok (.iadd, 1) := by decide +kernel
theorem dX12_keeps_81 : decode cX12_keeps 81 = .ok (.ireturn, 1) := by decide +kernel
theorem dX12_keeps_82 : decode cX12_keeps 82 = .ok (.aload_n 0, 1) := by decide +kernel
theorem dX12_keeps_83 : decode cX12_keeps 83 = .ok (.bipush 71, 2) := by decide +kernel
theorem dX12_keeps_85 : decode cX12_keeps 85 = .ok (.invokevirtual 417, 3) := by decide +kernel
theorem dX12_keeps_88 : decode cX12_keeps 88 = .ok (.aload_n 0, 1) := by decide +kernel
theorem dX12_keeps_89 : decode cX12_keeps 89 = .ok (.bipush 6, 2) := by decide +kernel
theorem dX12_keeps_91 : decode cX12_keeps 91 = .ok (.invokestatic 424, 3) := by decide +kernel
theorem dX12_keeps_94 : decode cX12_keeps 94 = .ok (.iload_n 2, 1) := by decide +kernel
theorem dX12_keeps_95 : decode cX12_keeps 95 = .ok (.invokevirtual 433, 3) := by decide +kernel
theorem dX12_keeps_98 : decode cX12_keeps 98 = .ok (.iconst 2, 1) := by decide +kernel
theorem dX12_keeps_99 : decode cX12_keeps 99 = .ok (.imul, 1) := by decide +kernel
theorem dX12_keeps_100 : decode cX12_keeps 100 = .ok (.ireturn, 1) := by decide +kernel
theorem dX12_keeps_101 : decode cX12_keeps 101 = .ok (.aload_n 0, 1) := by decide +kernel
theorem dX12_keeps_102 : decode cX12_keeps 102 = .ok (.iload_n 1, 1) := by decide +kernel
theorem dX12_keeps_103 : decode cX12_keeps 103 = .ok (.invokestatic 424, 3) := by decide +kernel
theorem dX12_keeps_106 : decode cX12_keeps 106 = .ok (.iload_n 2, 1) := by decide +kernel
theorem dX12_keeps_107 : decode cX12_keeps 107 = .ok (.invokevirtual 433, 3) := by decide +kernel
theorem dX12_keeps_110 : decode cX12_keeps 110 = .ok (.ireturn, 1) := by decide +kernel
theorem dX12_tells_0 : decode cX12_tells 0 = .ok (.iload_n 1, 1) := by decide +kernel
theorem dX12_tells_1 : decode cX12_tells 1 = .ok (.lookupswitch 82 #[(0, 27), (5, 64)], 27) := by decide +kernel
theorem dX12_tells_28 : decode cX12_tells 28 = .ok (.aload_n 0, 1) := by decide +kernel
theorem dX12_tells_29 : decode cX12_tells 29 = .ok (.iconst 2, 1) := by decide +kernel
theorem dX12_tells_30 : decode cX12_tells 30 = .ok (.invokevirtual 417, 3) := by decide +kernel
theorem dX12_tells_33 : decode cX12_tells 33 = .ok (.aload_n 0, 1) := by decide +kernel
theorem dX12_tells_34 : decode cX12_tells 34 = .ok (.aload_n 0, 1) := by decide +kernel
theorem dX12_tells_35 : decode cX12_tells 35 = .ok (.getfield 47, 3) := by decide +kernel
theorem dX12_tells_38 : decode cX12_tells 38 = .ok (.aload_n 0, 1) := by decide +kernel
theorem dX12_tells_39 : decode cX12_tells 39 = .ok (.getfield 421, 3) := by decide +kernel
theorem dX12_tells_42 : decode cX12_tells 42 = .ok (.iaload, 1) := by decide +kernel
theorem dX12_tells_43 : decode cX12_tells 43 = .ok (.iload_n 2, 1) := by decide +kernel
theorem dX12_tells_44 : decode cX12_tells 44 = .ok (.invokevirtual 430, 3) := by decide +kernel
theorem dX12_tells_47 : decode cX12_tells 47 = .ok (.istore_n 3, 1) := by decide +kernel
theorem dX12_tells_48 : decode cX12_tells 48 = .ok (.iload_n 3, 1) := by decide +kernel
theorem dX12_tells_49 : decode cX12_tells 49 = .ok (.aload_n 0, 1) := by decide +kernel
theorem dX12_tells_50 : decode cX12_tells 50 = .ok (.aload_n 0, 1) := by decide +kernel
theorem dX12_tells_51 : decode cX12_tells 51 = .ok (.getfield 47, 3) := by decide +kernel
theorem dX12_tells_54 : decode cX12_tells 54 = .ok (.aload_n 0, 1) := by decide +kernel
theorem dX12_tells_55 : decode cX12_tells 55 = .ok (.getfield 421, 3) := by decide +kernel
theorem dX12_tells_58 : decode cX12_tells 58 = .ok (.iaload, 1) := by decide +kernel
theorem dX12_tells_59 : decode cX12_tells 59 = .ok (.iconst 1, 1) := by decide +kernel
theorem dX12_tells_60 : decode cX12_tells 60 = .ok (.invokevirtual 433, 3) := by decide +kernel
theorem dX12_tells_63 : decode cX12_tells 63 = .ok (.isub, 1) := by decide +kernel
theorem dX12_tells_64 : decode cX12_tells 64 = .ok (.ireturn, 1) := by decide +kernel
theorem dX12_tells_65 : decode cX12_tells 65 = .ok (.aload_n 0, 1) := by decide +kernel
theorem dX12_tells_66 : decode cX12_tells 66 = .ok (.bipush 60, 2) := by decide +kernel
theorem dX12_tells_68 : decode cX12_tells 68 = .ok (.invokevirtual 417, 3) := by decide +kernel
theorem dX12_tells_71 : decode cX12_tells 71 = .ok (.aload_n 0, 1) := by decide +kernel
theorem dX12_tells_72 : decode cX12_tells 72 = .ok (.iconst 5, 1) := by decide +kernel
theorem dX12_tells_73 : decode cX12_tells 73 = .ok (.invokestatic 424, 3) := by decide +kernel
theorem dX12_tells_76 : decode cX12_tells 76 = .ok (.iload_n 2, 1) := by decide +kernel
theorem dX12_tells_77 : decode cX12_tells 77 = .ok (.invokevirtual 436, 3) := by decide +kernel
theorem dX12_tells_80 : decode cX12_tells 80 = .ok (.iconst 5, 1) := by decide +kernel
theorem dX12_tells_81 : decode cX12_tells 81 = .ok (.ixor, 1) := by decide +kernel
theorem dX12_tells_82 : decode cX12_tells 82 = .ok (.ireturn, 1) := by decide +kernel
theorem dX12_tells_83 : decode cX12_tells 83 = .ok (.aload_n 0, 1) := by decide +kernel
theorem dX12_tells_84 : decode cX12_tells 84 = .ok (.iload_n 1, 1) := by decide +kernel
theorem dX12_tells_85 : decode cX12_tells 85 = .ok (.invokestatic 424, 3) := by decide +kernel
theorem dX12_tells_88 : decode cX12_tells 88 = .ok (.iload_n 2, 1) := by decide +kernel
theorem dX12_tells_89 : decode cX12_tells 89 = .ok (.invokevirtual 436, 3) := by decide +kernel
theorem dX12_tells_92 : decode cX12_tells 92 = .ok (.ireturn, 1) := by decide +kernel
theorem dX12_act_0 : decode cX12_act 0 = .ok (.aload_n 0, 1) := by decide +kernel
theorem dX12_act_1 : decode cX12_act 1 = .ok (.iconst 0, 1) := by decide +kernel
theorem dX12_act_2 : decode cX12_act 2 = .ok (.putfield 414, 3) := by decide +kernel
theorem dX12_act_5 : decode cX12_act 5 = .ok (.aload_n 0, 1) := by decide +kernel
theorem dX12_act_6 : decode cX12_act 6 = .ok (.iload_n 1, 1) := by decide +kernel
theorem dX12_act_7 : decode cX12_act 7 = .ok (.invokevirtual 302, 3) := by decide +kernel
theorem dX12_act_10 : decode cX12_act 10 = .ok (.ifCond .eq 15, 3) := by decide +kernel
theorem dX12_act_13 : decode cX12_act 13 = .ok (.iload_n 2, 1) := by decide +kernel
theorem dX12_act_14 : decode cX12_act 14 = .ok (.i2l, 1) := by decide +kernel
theorem dX12_act_15 : decode cX12_act 15 = .ok (.lconst 0, 1) := by decide +kernel
theorem dX12_act_16 : decode cX12_act 16 = .ok (.ldc2_w 133, 3) := by decide +kernel
theorem dX12_act_19 : decode cX12_act 19 = .ok (.invokestatic 135, 3) := by decide +kernel
theorem dX12_act_22 : decode cX12_act 22 = .ok (.ifCond .ne 5, 3) := by decide +kernel
theorem dX12_act_25 : decode cX12_act 25 = .ok (.iconst 0, 1) := by decide +kernel
theorem dX12_act_26 : decode cX12_act 26 = .ok (.ireturn, 1) := by decide +kernel
theorem dX12_act_27 : decode cX12_act 27 = .ok (.aload_n 0, 1) := by decide +kernel
theorem dX12_act_28 : decode cX12_act 28 = .ok (.iload_n 1, 1) := by decide +kernel
theorem dX12_act_29 : decode cX12_act 29 = .ok (.putfield 421, 3) := by decide +kernel
theorem dX12_act_32 : decode cX12_act 32 = .ok (.iload_n 2, 1) := by decide +kernel
theorem dX12_act_33 : decode cX12_act 33 = .ok (.ifCond .ne 17, 3) := by decide +kernel
theorem dX12_act_36 : decode cX12_act 36 = .ok (.aload_n 0, 1) := by decide +kernel
theorem dX12_act_37 : decode cX12_act 37 = .ok (.aload_n 0, 1) := by decide +kernel
theorem dX12_act_38 : decode cX12_act 38 = .ok (.getfield 47, 3) := by decide +kernel
theorem dX12_act_41 : decode cX12_act 41 = .ok (.iload_n 1, 1) := by decide +kernel
theorem dX12_act_42 : decode cX12_act 42 = .ok (.iaload, 1) := by decide +kernel
theorem dX12_act_43 : decode cX12_act 43 = .ok (.iload_n 3, 1) := by decide +kernel
theorem dX12_act_44 : decode cX12_act 44 = .ok (.invokevirtual 427, 3) := by decide +kernel
theorem dX12_act_47 : decode cX12_act 47 = .ok (.goto 52, 3) := by decide +kernel
theorem dX12_act_50 : decode cX12_act 50 = .ok (.iload_n 2, 1) := by decide +kernel
theorem dX12_act_51 : decode cX12_act 51 = .ok (.iconst 1, 1) := by decide +kernel
theorem dX12_act_52 : decode cX12_act 52 = .ok (.if_icmp .ne 17, 3) := by decide +kernel
theorem dX12_act_55 : decode cX12_act 55 = .ok (.aload_n 0, 1) := by decide +kernel
theorem dX12_act_56 : decode cX12_act 56 = .ok (.aload_n 0, 1) := by decide +kernel
theorem dX12_act_57 : decode cX12_act 57 = .ok (.getfield 47, 3) := by decide +kernel
theorem dX12_act_60 : decode cX12_act 60 = .ok (.iload_n 1, 1) := by decide +kernel
theorem dX12_act_61 : decode cX12_act 61 = .ok (.iaload, 1) := by decide +kernel
theorem dX12_act_62 : decode cX12_act 62 = .ok (.iload_n 3, 1) := by decide +kernel
theorem dX12_act_63 : decode cX12_act 63 = .ok (.invokevirtual 430, 3) := by decide +kernel
theorem dX12_act_66 : decode cX12_act 66 = .ok (.goto 33, 3) := by decide +kernel
theorem dX12_act_69 : decode cX12_act 69 = .ok (.iload_n 2, 1) := by decide +kernel
theorem dX12_act_70 : decode cX12_act 70 = .ok (.iconst 2, 1) := by decide +kernel
theorem dX12_act_71 : decode cX12_act 71 = .ok (.if_icmp .ne 17, 3) := by decide +kernel
theorem dX12_act_74 : decode cX12_act 74 = .ok (.aload_n 0, 1) := by decide +kernel
theorem dX12_act_75 : decode cX12_act 75 = .ok (.aload_n 0, 1) := by decide +kernel
theorem dX12_act_76 : decode cX12_act 76 = .ok (.getfield 47, 3) := by decide +kernel
theorem dX12_act_79 : decode cX12_act 79 = .ok (.iload_n 1, 1) := by decide +kernel
theorem dX12_act_80 : decode cX12_act 80 = .ok (.iaload, 1) := by decide +kernel
theorem dX12_act_81 : decode cX12_act 81 = .ok (.iload_n 3, 1) := by decide +kernel
theorem dX12_act_82 : decode cX12_act 82 = .ok (.invokevirtual 433, 3) := by decide +kernel
theorem dX12_act_85 : decode cX12_act 85 = .ok (.goto 14, 3) := by decide +kernel
theorem dX12_act_88 : decode cX12_act 88 = .ok (.aload_n 0, 1) := by decide +kernel
theorem dX12_act_89 : decode cX12_act 89 = .ok (.aload_n 0, 1) := by decide +kernel
theorem dX12_act_90 : decode cX12_act 90 = .ok (.getfield 47, 3) := by decide +kernel
theorem dX12_act_93 : decode cX12_act 93 = .ok (.iload_n 1, 1) := by decide +kernel
theorem dX12_act_94 : decode cX12_act 94 = .ok (.iaload, 1) := by decide +kernel
theorem dX12_act_95 : decode cX12_act 95 = .ok (.iload_n 3, 1) := by decide +kernel
theorem dX12_act_96 : decode cX12_act 96 = .ok (.invokevirtual 436, 3) := by decide +kernel
theorem dX12_act_99 : decode cX12_act 99 = .ok (.ireturn, 1) := by decide +kernel
theorem dX12_trace_0 : decode cX12_trace 0 = .ok (.iload_n 1, 1) := by decide +kernel
theorem dX12_trace_1 : decode cX12_trace 1 = .ok (.ifCond .lt 26, 3) := by decide +kernel
theorem dX12_trace_4 : decode cX12_trace 4 = .ok (.iload_n 1, 1) := by decide +kernel
theorem dX12_trace_5 : decode cX12_trace 5 = .ok (.aload_n 0, 1) := by decide +kernel
theorem dX12_trace_6 : decode cX12_trace 6 = .ok (.getfield 414, 3) := by decide +kernel
theorem dX12_trace_9 : decode cX12_trace 9 = .ok (.if_icmp .ge 18, 3) := by decide +kernel
theorem dX12_trace_12 : decode cX12_trace 12 = .ok (.iload_n 1, 1) := by decide +kernel
theorem dX12_trace_13 : decode cX12_trace 13 = .ok (.bipush 24, 2) := by decide +kernel
theorem dX12_trace_15 : decode cX12_trace 15 = .ok (.if_icmp .ge 12, 3) := by decide +kernel
theorem dX12_trace_18 : decode cX12_trace 18 = .ok (.aload_n 0, 1) := by decide +kernel
theorem dX12_trace_19 : decode cX12_trace 19 = .ok (.getfield 114, 3) := by decide +kernel
theorem dX12_trace_22 : decode cX12_trace 22 = .ok (.iload_n 1, 1) := by decide +kernel
theorem dX12_trace_23 : decode cX12_trace 23 = .ok (.iaload, 1) := by decide +kernel
theorem dX12_trace_24 : decode cX12_trace 24 = .ok (.goto 4, 3) := by decide +kernel
theorem dX12_trace_27 : decode cX12_trace 27 = .ok (.iconst (-1), 1) := by decide +kernel
theorem dX12_trace_28 : decode cX12_trace 28 = .ok (.ireturn, 1) := by decide +kernel
theorem dX12_isShelf_0 : decode cX12_isShelf 0 = .ok (.iload_n 0, 1) := by decide +kernel
theorem dX12_isShelf_1 : decode cX12_isShelf 1 = .ok (.i2l, 1) := by decide +kernel
theorem dX12_isShelf_2 : decode cX12_isShelf 2 = .ok (.lconst 0, 1) := by decide +kernel
theorem dX12_isShelf_3 : decode cX12_isShelf 3 = .ok (.ldc2_w 439, 3) := by decide +kernel
theorem dX12_isShelf_6 : decode cX12_isShelf 6 = .ok (.invokestatic 135, 3) := by decide +kernel
theorem dX12_isShelf_9 : decode cX12_isShelf 9 = .ok (.ireturn, 1) := by decide +kernel
theorem dX12_keep_0 : decode cX12_keep 0 = .ok (.iload_n 1, 1) := by decide +kernel
theorem dX12_keep_1 : decode cX12_keep 1 = .ok (.invokestatic 441, 3) := by decide +kernel
theorem dX12_keep_4 : decode cX12_keep 4 = .ok (.ifCond .eq 16, 3) := by decide +kernel
theorem dX12_keep_7 : decode cX12_keep 7 = .ok (.iload_n 2, 1) := by decide +kernel
theorem dX12_keep_8 : decode cX12_keep 8 = .ok (.iconst (-1), 1) := by decide +kernel
theorem dX12_keep_9 : decode cX12_keep 9 = .ok (.if_icmp .eq 13, 3) := by decide +kernel
theorem dX12_keep_12 : decode cX12_keep 12 = .ok (.aload_n 0, 1) := by decide +kernel
theorem dX12_keep_13 : decode cX12_keep 13 = .ok (.iload_n 2, 1) := by decide +kernel
theorem dX12_keep_14 : decode cX12_keep 14 = .ok (.invokevirtual 302, 3) := by decide +kernel
theorem dX12_keep_17 : decode cX12_keep 17 = .ok (.ifCond .ne 5, 3) := by decide +kernel
theorem dX12_keep_20 : decode cX12_keep 20 = .ok (.iconst (-1), 1) := by decide +kernel
theorem dX12_keep_21 : decode cX12_keep 21 = .ok (.ireturn, 1) := by decide +kernel
theorem dX12_keep_22 : decode cX12_keep 22 = .ok (.aload_n 0, 1) := by decide +kernel
theorem dX12_keep_23 : decode cX12_keep 23 = .ok (.getfield 117, 3) := by decide +kernel
theorem dX12_keep_26 : decode cX12_keep 26 = .ok (.iload_n 1, 1) := by decide +kernel
theorem dX12_keep_27 : decode cX12_keep 27 = .ok (.iload_n 2, 1) := by decide +kernel
theorem dX12_keep_28 : decode cX12_keep 28 = .ok (.iastore, 1) := by decide +kernel
theorem dX12_keep_29 : decode cX12_keep 29 = .ok (.aload_n 0, 1) := by decide +kernel
theorem dX12_keep_30 : decode cX12_keep 30 = .ok (.getfield 120, 3) := by decide +kernel
theorem dX12_keep_33 : decode cX12_keep 33 = .ok (.iload_n 1, 1) := by decide +kernel
theorem dX12_keep_34 : decode cX12_keep 34 = .ok (.iconst 0, 1) := by decide +kernel
theorem dX12_keep_35 : decode cX12_keep 35 = .ok (.iastore, 1) := by decide +kernel
theorem dX12_keep_36 : decode cX12_keep 36 = .ok (.iconst 1, 1) := by decide +kernel
theorem dX12_keep_37 : decode cX12_keep 37 = .ok (.ireturn, 1) := by decide +kernel
theorem dX12_row_0 : decode cX12_row 0 = .ok (.iload_n 1, 1) := by decide +kernel
theorem dX12_row_1 : decode cX12_row 1 = .ok (.invokestatic 441, 3) := by decide +kernel
theorem dX12_row_4 : decode cX12_row 4 = .ok (.ifCond .eq 21, 3) := by decide +kernel
theorem dX12_row_7 : decode cX12_row 7 = .ok (.iload_n 2, 1) := by decide +kernel
theorem dX12_row_8 : decode cX12_row 8 = .ok (.i2l, 1) := by decide +kernel
theorem dX12_row_9 : decode cX12_row 9 = .ok (.lconst 0, 1) := by decide +kernel
theorem dX12_row_10 : decode cX12_row 10 = .ok (.ldc2_w 166, 3) := by decide +kernel
theorem dX12_row_13 : decode cX12_row 13 = .ok (.invokestatic 135, 3) := by decide +kernel
theorem dX12_row_16 : decode cX12_row 16 = .ok (.ifCond .eq 9, 3) := by decide +kernel
theorem dX12_row_19 : decode cX12_row 19 = .ok (.iload_n 3, 1) := by decide +kernel
theorem dX12_row_20 : decode cX12_row 20 = .ok (.bipush 60, 2) := by decide +kernel
theorem dX12_row_22 : decode cX12_row 22 = .ok (.if_icmp .le 5, 3) := by decide +kernel
theorem dX12_row_25 : decode cX12_row 25 = .ok (.iconst (-1), 1) := by decide +kernel
theorem dX12_row_26 : decode cX12_row 26 = .ok (.ireturn, 1) := by decide +kernel
theorem dX12_row_27 : decode cX12_row 27 = .ok (.iload_n 3, 1) := by decide +kernel
theorem dX12_row_28 : decode cX12_row 28 = .ok (.ifCond .ge 6, 3) := by decide +kernel
theorem dX12_row_31 : decode cX12_row 31 = .ok (.bipush (-14), 2) := by decide +kernel
theorem dX12_row_33 : decode cX12_row 33 = .ok (.ireturn, 1) := by decide +kernel
theorem dX12_row_34 : decode cX12_row 34 = .ok (.aload_n 0, 1) := by decide +kernel
theorem dX12_row_35 : decode cX12_row 35 = .ok (.getfield 117, 3) := by decide +kernel
theorem dX12_row_38 : decode cX12_row 38 = .ok (.iload_n 1, 1) := by decide +kernel
theorem dX12_row_39 : decode cX12_row 39 = .ok (.bipush 10, 2) := by decide +kernel
theorem dX12_row_41 : decode cX12_row 41 = .ok (.iload_n 2, 1) := by decide +kernel
theorem dX12_row_42 : decode cX12_row 42 = .ok (.iadd, 1) := by decide +kernel
theorem dX12_row_43 : decode cX12_row 43 = .ok (.iastore, 1) := by decide +kernel
theorem dX12_row_44 : decode cX12_row 44 = .ok (.aload_n 0, 1) := by decide +kernel
theorem dX12_row_45 : decode cX12_row 45 = .ok (.getfield 120, 3) := by decide +kernel
theorem dX12_row_48 : decode cX12_row 48 = .ok (.iload_n 1, 1) := by decide +kernel
theorem dX12_row_49 : decode cX12_row 49 = .ok (.iload_n 3, 1) := by decide +kernel
theorem dX12_row_50 : decode cX12_row 50 = .ok (.iastore, 1) := by decide +kernel
theorem dX12_row_51 : decode cX12_row 51 = .ok (.bipush 60, 2) := by decide +kernel
theorem dX12_row_53 : decode cX12_row 53 = .ok (.iload_n 1, 1) := by decide +kernel
theorem dX12_row_54 : decode cX12_row 54 = .ok (.imul, 1) := by decide +kernel
theorem dX12_row_55 : decode cX12_row 55 = .ok (.istore 4, 2) := by decide +kernel
theorem dX12_row_57 : decode cX12_row 57 = .ok (.iload 4, 2) := by decide +kernel
theorem dX12_row_59 : decode cX12_row 59 = .ok (.bipush 60, 2) := by decide +kernel
theorem dX12_row_61 : decode cX12_row 61 = .ok (.iload_n 1, 1) := by decide +kernel
theorem dX12_row_62 : decode cX12_row 62 = .ok (.imul, 1) := by decide +kernel
theorem dX12_row_63 : decode cX12_row 63 = .ok (.bipush 60, 2) := by decide +kernel
theorem dX12_row_65 : decode cX12_row 65 = .ok (.iadd, 1) := by decide +kernel
theorem dX12_row_66 : decode cX12_row 66 = .ok (.if_icmp .ge 17, 3) := by decide +kernel
theorem dX12_row_69 : decode cX12_row 69 = .ok (.aload_n 0, 1) := by decide +kernel
theorem dX12_row_70 : decode cX12_row 70 = .ok (.getfield 123, 3) := by decide +kernel
theorem dX12_row_73 : decode cX12_row 73 = .ok (.iload 4, 2) := by decide +kernel
theorem dX12_row_75 : decode cX12_row 75 = .ok (.lconst 0, 1) := by decide +kernel
theorem dX12_row_76 : decode cX12_row 76 = .ok (.lastore, 1) := by decide +kernel
theorem dX12_row_77 : decode cX12_row 77 = .ok (.iinc 4 1, 3) := by decide +kernel
theorem dX12_row_80 : decode cX12_row 80 = .ok (.goto (-23), 3) := by decide +kernel
theorem dX12_row_83 : decode cX12_row 83 = .ok (.iconst 1, 1) := by decide +kernel
theorem dX12_row_84 : decode cX12_row 84 = .ok (.ireturn, 1) := by decide +kernel
theorem dX12_refusal_0 : decode cX12_refusal 0 = .ok (.iload_n 1, 1) := by decide +kernel
theorem dX12_refusal_1 : decode cX12_refusal 1 = .ok (.invokestatic 441, 3) := by decide +kernel
theorem dX12_refusal_4 : decode cX12_refusal 4 = .ok (.ifCond .ne 5, 3) := by decide +kernel
theorem dX12_refusal_7 : decode cX12_refusal 7 = .ok (.iconst (-1), 1) := by decide +kernel
theorem dX12_refusal_8 : decode cX12_refusal 8 = .ok (.ireturn, 1) := by decide +kernel
theorem dX12_refusal_9 : decode cX12_refusal 9 = .ok (.aload_n 0, 1) := by decide +kernel
theorem dX12_refusal_10 : decode cX12_refusal 10 = .ok (.getfield 117, 3) := by decide +kernel
theorem dX12_refusal_13 : decode cX12_refusal 13 = .ok (.iload_n 1, 1) := by decide +kernel
theorem dX12_refusal_14 : decode cX12_refusal 14 = .ok (.iaload, 1) := by decide +kernel
theorem dX12_refusal_15 : decode cX12_refusal 15 = .ok (.ifCond .ge 6, 3) := by decide +kernel
theorem dX12_refusal_18 : decode cX12_refusal 18 = .ok (.bipush (-11), 2) := by decide +kernel
theorem dX12_refusal_20 : decode cX12_refusal 20 = .ok (.ireturn, 1) := by decide +kernel
theorem dX12_refusal_21 : decode cX12_refusal 21 = .ok (.aload_n 0, 1) := by decide +kernel
theorem dX12_refusal_22 : decode cX12_refusal 22 = .ok (.getfield 117, 3) := by decide +kernel
theorem dX12_refusal_25 : decode cX12_refusal 25 = .ok (.iload_n 1, 1) := by decide +kernel
theorem dX12_refusal_26 : decode cX12_refusal 26 = .ok (.iaload, 1) := by decide +kernel
theorem dX12_refusal_27 : decode cX12_refusal 27 = .ok (.bipush 10, 2) := by decide +kernel
theorem dX12_refusal_29 : decode cX12_refusal 29 = .ok (.if_icmp .ge 6, 3) := by decide +kernel
theorem dX12_refusal_32 : decode cX12_refusal 32 = .ok (.bipush (-12), 2) := by decide +kernel
theorem dX12_refusal_34 : decode cX12_refusal 34 = .ok (.ireturn, 1) := by decide +kernel
theorem dX12_refusal_35 : decode cX12_refusal 35 = .ok (.iload_n 2, 1) := by decide +kernel
theorem dX12_refusal_36 : decode cX12_refusal 36 = .ok (.ifCond .lt 17, 3) := by decide +kernel
theorem dX12_refusal_39 : decode cX12_refusal 39 = .ok (.iload_n 2, 1) := by decide +kernel
theorem dX12_refusal_40 : decode cX12_refusal 40 = .ok (.aload_n 0, 1) := by decide +kernel
theorem dX12_refusal_41 : decode cX12_refusal 41 = .ok (.getfield 120, 3) := by decide +kernel
theorem dX12_refusal_44 : decode cX12_refusal 44 = .ok (.iload_n 1, 1) := by decide +kernel
theorem dX12_refusal_45 : decode cX12_refusal 45 = .ok (.iaload, 1) := by decide +kernel
theorem dX12_refusal_46 : decode cX12_refusal 46 = .ok (.if_icmp .ge 7, 3) := by decide +kernel
theorem dX12_refusal_49 : decode cX12_refusal 49 = .ok (.iconst 0, 1) := by decide +kernel
theorem dX12_refusal_50 : decode cX12_refusal 50 = .ok (.goto 5, 3) := by decide +kernel
theorem dX12_refusal_53 : decode cX12_refusal 53 = .ok (.bipush (-13), 2) := by decide +kernel
theorem dX12_refusal_55 : decode cX12_refusal 55 = .ok (.ireturn, 1) := by decide +kernel
theorem dX12_asSort_0 : decode cX12_asSort 0 = .ok (.iload_n 0, 1) := by decide +kernel
theorem dX12_asSort_1 : decode cX12_asSort 1 = .ok (.ifCond .ne 10, 3) := by decide +kernel
theorem dX12_asSort_4 : decode cX12_asSort 4 = .ok (.lload_n 1, 1) := by decide +kernel
theorem dX12_asSort_5 : decode cX12_asSort 5 = .ok (.l2i, 1) := by decide +kernel
theorem dX12_asSort_6 : decode cX12_asSort 6 = .ok (.i2b, 1) := by decide +kernel
theorem dX12_asSort_7 : decode cX12_asSort 7 = .ok (.i2l, 1) := by decide +kernel
theorem dX12_asSort_8 : decode cX12_asSort 8 = .ok (.goto 46, 3) := by decide +kernel
theorem dX12_asSort_11 : decode cX12_asSort 11 = .ok (.iload_n 0, 1) := by decide +kernel
theorem dX12_asSort_12 : decode cX12_asSort 12 = .ok (.iconst 1, 1) := by decide +kernel
theorem dX12_asSort_13 : decode cX12_asSort 13 = .ok (.if_icmp .ne 10, 3) := by decide +kernel
theorem dX12_asSort_16 : decode cX12_asSort 16 = .ok (.lload_n 1, 1) := by decide +kernel
theorem dX12_asSort_17 : decode cX12_asSort 17 = .ok (.l2i, 1) := by decide +kernel
theorem dX12_asSort_18 : decode cX12_asSort 18 = .ok (.i2s, 1) := by decide +kernel
theorem dX12_asSort_19 : decode cX12_asSort 19 = .ok (.i2l, 1) := by decide +kernel
theorem dX12_asSort_20 : decode cX12_asSort 20 = .ok (.goto 34, 3) := by decide +kernel
theorem dX12_asSort_23 : decode cX12_asSort 23 = .ok (.iload_n 0, 1) := by decide +kernel
theorem dX12_asSort_24 : decode cX12_asSort 24 = .ok (.iconst 2, 1) := by decide +kernel
theorem dX12_asSort_25 : decode cX12_asSort 25 = .ok (.if_icmp .ne 9, 3) := by decide +kernel
theorem dX12_asSort_28 : decode cX12_asSort 28 = .ok (.lload_n 1, 1) := by decide +kernel
theorem dX12_asSort_29 : decode cX12_asSort 29 = .ok (.l2i, 1) := by decide +kernel
theorem dX12_asSort_30 : decode cX12_asSort 30 = .ok (.i2l, 1) := by decide +kernel
theorem dX12_asSort_31 : decode cX12_asSort 31 = .ok (.goto 23, 3) := by decide +kernel
theorem dX12_asSort_34 : decode cX12_asSort 34 = .ok (.iload_n 0, 1) := by decide +kernel
theorem dX12_asSort_35 : decode cX12_asSort 35 = .ok (.iconst 4, 1) := by decide +kernel
theorem dX12_asSort_36 : decode cX12_asSort 36 = .ok (.if_icmp .ne 17, 3) := by decide +kernel
theorem dX12_asSort_39 : decode cX12_asSort 39 = .ok (.lload_n 1, 1) := by decide +kernel
theorem dX12_asSort_40 : decode cX12_asSort 40 = .ok (.lconst 0, 1) := by decide +kernel
theorem dX12_asSort_41 : decode cX12_asSort 41 = .ok (.lcmp, 1) := by decide +kernel
theorem dX12_asSort_42 : decode cX12_asSort 42 = .ok (.ifCond .eq 7, 3) := by decide +kernel
theorem dX12_asSort_45 : decode cX12_asSort 45 = .ok (.lconst 1, 1) := by decide +kernel
theorem dX12_asSort_46 : decode cX12_asSort 46 = .ok (.goto 8, 3) := by decide +kernel
theorem dX12_asSort_49 : decode cX12_asSort 49 = .ok (.lconst 0, 1) := by decide +kernel
theorem dX12_asSort_50 : decode cX12_asSort 50 = .ok (.goto 4, 3) := by decide +kernel
theorem dX12_asSort_53 : decode cX12_asSort 53 = .ok (.lload_n 1, 1) := by decide +kernel
theorem dX12_asSort_54 : decode cX12_asSort 54 = .ok (.lreturn, 1) := by decide +kernel
theorem dX12_set_0 : decode cX12_set 0 = .ok (.aload_n 0, 1) := by decide +kernel
theorem dX12_set_1 : decode cX12_set 1 = .ok (.iload_n 1, 1) := by decide +kernel
theorem dX12_set_2 : decode cX12_set 2 = .ok (.iload_n 2, 1) := by decide +kernel
theorem dX12_set_3 : decode cX12_set 3 = .ok (.invokevirtual 444, 3) := by decide +kernel
theorem dX12_set_6 : decode cX12_set 6 = .ok (.istore 5, 2) := by decide +kernel
theorem dX12_set_8 : decode cX12_set 8 = .ok (.iload 5, 2) := by decide +kernel
theorem dX12_set_10 : decode cX12_set 10 = .ok (.ifCond .ne 27, 3) := by decide +kernel
theorem dX12_set_13 : decode cX12_set 13 = .ok (.aload_n 0, 1) := by decide +kernel
theorem dX12_set_14 : decode cX12_set 14 = .ok (.getfield 123, 3) := by decide +kernel
theorem dX12_set_17 : decode cX12_set 17 = .ok (.bipush 60, 2) := by decide +kernel
theorem dX12_set_19 : decode cX12_set 19 = .ok (.iload_n 1, 1) := by decide +kernel
theorem dX12_set_20 : decode cX12_set 20 = .ok (.imul, 1) := by decide +kernel
theorem dX12_set_21 : decode cX12_set 21 = .ok (.iload_n 2, 1) := by decide +kernel
theorem dX12_set_22 : decode cX12_set 22 = .ok (.iadd, 1) := by decide +kernel
theorem dX12_set_23 : decode cX12_set 23 = .ok (.aload_n 0, 1) := by decide +kernel
theorem dX12_set_24 : decode cX12_set 24 = .ok (.getfield 117, 3) := by decide +kernel
theorem dX12_set_27 : decode cX12_set 27 = .ok (.iload_n 1, 1) := by decide +kernel
theorem dX12_set_28 : decode cX12_set 28 = .ok (.iaload, 1) := by decide +kernel
theorem dX12_set_29 : decode cX12_set 29 = .ok (.bipush 10, 2) := by decide +kernel
theorem dX12_set_31 : decode cX12_set 31 = .ok (.isub, 1) := by decide +kernel
theorem dX12_set_32 : decode cX12_set 32 = .ok (.lload_n 3, 1) := by decide +kernel
theorem dX12_set_33 : decode cX12_set 33 = .ok (.invokestatic 447, 3) := by decide +kernel
theorem dX12_set_36 : decode cX12_set 36 = .ok (.lastore, 1) := by decide +kernel
theorem dX12_set_37 : decode cX12_set 37 = .ok (.iload 5, 2) := by decide +kernel
theorem dX12_set_39 : decode cX12_set 39 = .ok (.ifCond .ne 7, 3) := by decide +kernel
theorem dX12_set_42 : decode cX12_set 42 = .ok (.iconst 1, 1) := by decide +kernel
theorem dX12_set_43 : decode cX12_set 43 = .ok (.goto 5, 3) := by decide +kernel
theorem dX12_set_46 : decode cX12_set 46 = .ok (.iload 5, 2) := by decide +kernel
theorem dX12_set_48 : decode cX12_set 48 = .ok (.ireturn, 1) := by decide +kernel
theorem dX12_element_0 : decode cX12_element 0 = .ok (.aload_n 0, 1) := by decide +kernel
theorem dX12_element_1 : decode cX12_element 1 = .ok (.iload_n 1, 1) := by decide +kernel
theorem dX12_element_2 : decode cX12_element 2 = .ok (.iload_n 2, 1) := by decide +kernel
theorem dX12_element_3 : decode cX12_element 3 = .ok (.invokevirtual 444, 3) := by decide +kernel
theorem dX12_element_6 : decode cX12_element 6 = .ok (.ifCond .eq 9, 3) := by decide +kernel
theorem dX12_element_9 : decode cX12_element 9 = .ok (.ldc2_w 453, 3) := by decide +kernel
theorem dX12_element_12 : decode cX12_element 12 = .ok (.goto 14, 3) := by decide +kernel
theorem dX12_element_15 : decode cX12_element 15 = .ok (.aload_n 0, 1) := by decide +kernel
theorem dX12_element_16 : decode cX12_element 16 = .ok (.getfield 123, 3) := by decide +kernel
theorem dX12_element_19 : decode cX12_element 19 = .ok (.bipush 60, 2) := by decide +kernel
theorem dX12_element_21 : decode cX12_element 21 = .ok (.iload_n 1, 1) := by decide +kernel
theorem dX12_element_22 : decode cX12_element 22 = .ok (.imul, 1) := by decide +kernel
theorem dX12_element_23 : decode cX12_element 23 = .ok (.iload_n 2, 1) := by decide +kernel
theorem dX12_element_24 : decode cX12_element 24 = .ok (.iadd, 1) := by decide +kernel
theorem dX12_element_25 : decode cX12_element 25 = .ok (.laload, 1) := by decide +kernel
theorem dX12_element_26 : decode cX12_element 26 = .ok (.lreturn, 1) := by decide +kernel
theorem dX12_shift_0 : decode cX12_shift 0 = .ok (.iload_n 1, 1) := by decide +kernel
theorem dX12_shift_1 : decode cX12_shift 1 = .ok (.invokestatic 441, 3) := by decide +kernel
theorem dX12_shift_4 : decode cX12_shift 4 = .ok (.ifCond .eq 10, 3) := by decide +kernel
theorem dX12_shift_7 : decode cX12_shift 7 = .ok (.iload_n 3, 1) := by decide +kernel
theorem dX12_shift_8 : decode cX12_shift 8 = .ok (.invokestatic 441, 3) := by decide +kernel
theorem dX12_shift_11 : decode cX12_shift 11 = .ok (.ifCond .ne 5, 3) := by decide +kernel
theorem dX12_shift_14 : decode cX12_shift 14 = .ok (.iconst (-1), 1) := by decide +kernel
theorem dX12_shift_15 : decode cX12_shift 15 = .ok (.ireturn, 1) := by decide +kernel
theorem dX12_shift_16 : decode cX12_shift 16 = .ok (.aload_n 0, 1) := by decide +kernel
theorem dX12_shift_17 : decode cX12_shift 17 = .ok (.getfield 117, 3) := by decide +kernel
theorem dX12_shift_20 : decode cX12_shift 20 = .ok (.iload_n 1, 1) := by decide +kernel
theorem dX12_shift_21 : decode cX12_shift 21 = .ok (.iaload, 1) := by decide +kernel
theorem dX12_shift_22 : decode cX12_shift 22 = .ok (.ifCond .lt 12, 3) := by decide +kernel
theorem dX12_shift_25 : decode cX12_shift 25 = .ok (.aload_n 0, 1) := by decide +kernel
theorem dX12_shift_26 : decode cX12_shift 26 = .ok (.getfield 117, 3) := by decide +kernel
theorem dX12_shift_29 : decode cX12_shift 29 = .ok (.iload_n 3, 1) := by decide +kernel
theorem dX12_shift_30 : decode cX12_shift 30 = .ok (.iaload, 1) := by decide +kernel
theorem dX12_shift_31 : decode cX12_shift 31 = .ok (.ifCond .ge 6, 3) := by decide +kernel
theorem dX12_shift_34 : decode cX12_shift 34 = .ok (.bipush (-11), 2) := by decide +kernel
theorem dX12_shift_36 : decode cX12_shift 36 = .ok (.ireturn, 1) := by decide +kernel
theorem dX12_shift_37 : decode cX12_shift 37 = .ok (.aload_n 0, 1) := by decide +kernel
theorem dX12_shift_38 : decode cX12_shift 38 = .ok (.getfield 117, 3) := by decide +kernel
theorem dX12_shift_41 : decode cX12_shift 41 = .ok (.iload_n 1, 1) := by decide +kernel
theorem dX12_shift_42 : decode cX12_shift 42 = .ok (.iaload, 1) := by decide +kernel
theorem dX12_shift_43 : decode cX12_shift 43 = .ok (.bipush 10, 2) := by decide +kernel
theorem dX12_shift_45 : decode cX12_shift 45 = .ok (.if_icmp .lt 18, 3) := by decide +kernel
theorem dX12_shift_48 : decode cX12_shift 48 = .ok (.aload_n 0, 1) := by decide +kernel
theorem dX12_shift_49 : decode cX12_shift 49 = .ok (.getfield 117, 3) := by decide +kernel
theorem dX12_shift_52 : decode cX12_shift 52 = .ok (.iload_n 1, 1) := by decide +kernel
theorem dX12_shift_53 : decode cX12_shift 53 = .ok (.iaload, 1) := by decide +kernel
theorem dX12_shift_54 : decode cX12_shift 54 = .ok (.aload_n 0, 1) := by decide +kernel
theorem dX12_shift_55 : decode cX12_shift 55 = .ok (.getfield 117, 3) := by decide +kernel
theorem dX12_shift_58 : decode cX12_shift 58 = .ok (.iload_n 3, 1) := by decide +kernel
theorem dX12_shift_59 : decode cX12_shift 59 = .ok (.iaload, 1) := by decide +kernel
theorem dX12_shift_60 : decode cX12_shift 60 = .ok (.if_icmp .eq 6, 3) := by decide +kernel
theorem dX12_shift_63 : decode cX12_shift 63 = .ok (.bipush (-12), 2) := by decide +kernel
theorem dX12_shift_65 : decode cX12_shift 65 = .ok (.ireturn, 1) := by decide +kernel
theorem dX12_shift_66 : decode cX12_shift 66 = .ok (.iload 5, 2) := by decide +kernel
theorem dX12_shift_68 : decode cX12_shift 68 = .ok (.ifCond .lt 39, 3) := by decide +kernel
theorem dX12_shift_71 : decode cX12_shift 71 = .ok (.iload_n 2, 1) := by decide +kernel
theorem dX12_shift_72 : decode cX12_shift 72 = .ok (.ifCond .lt 35, 3) := by decide +kernel
theorem dX12_shift_75 : decode cX12_shift 75 = .ok (.iload 4, 2) := by decide +kernel
theorem dX12_shift_77 : decode cX12_shift 77 = .ok (.ifCond .lt 30, 3) := by decide +kernel
theorem dX12_shift_80 : decode cX12_shift 80 = .ok (.iload_n 2, 1) := by decide +kernel
theorem dX12_shift_81 : decode cX12_shift 81 = .ok (.aload_n 0, 1) := by decide +kernel
theorem dX12_shift_82 : decode cX12_shift 82 = .ok (.getfield 120, 3) := by decide +kernel
theorem dX12_shift_85 : decode cX12_shift 85 = .ok (.iload_n 1, 1) := by decide +kernel
theorem dX12_shift_86 : decode cX12_shift 86 = .ok (.iaload, 1) := by decide +kernel
theorem dX12_shift_87 : decode cX12_shift 87 = .ok (.iload 5, 2) := by decide +kernel
theorem dX12_shift_89 : decode cX12_shift 89 = .ok (.isub, 1) := by decide +kernel
theorem dX12_shift_90 : decode cX12_shift 90 = .ok (.if_icmp .gt 17, 3) := by decide +kernel
theorem dX12_shift_93 : decode cX12_shift 93 = .ok (.iload 4, 2) := by decide +kernel
theorem dX12_shift_95 : decode cX12_shift 95 = .ok (.aload_n 0, 1) := by decide +kernel
theorem dX12_shift_96 : decode cX12_shift 96 = .ok (.getfield 120, 3) := by decide +kernel
theorem dX12_shift_99 : decode cX12_shift 99 = .ok (.iload_n 3, 1) := by decide +kernel
theorem dX12_shift_100 : decode cX12_shift 100 = .ok (.iaload, 1) := by decide +kernel
theorem dX12_shift_101 : decode cX12_shift 101 = .ok (.iload 5, 2) := by decide +kernel
theorem dX12_shift_103 : decode cX12_shift 103 = .ok (.isub, 1) := by decide +kernel
theorem dX12_shift_104 : decode cX12_shift 104 = .ok (.if_icmp .le 6, 3) := by decide +kernel
theorem dX12_shift_107 : decode cX12_shift 107 = .ok (.bipush (-13), 2) := by decide +kernel
theorem dX12_shift_109 : decode cX12_shift 109 = .ok (.ireturn, 1) := by decide +kernel
theorem dX12_shift_110 : decode cX12_shift 110 = .ok (.iconst 0, 1) := by decide +kernel
theorem dX12_shift_111 : decode cX12_shift 111 = .ok (.istore 6, 2) := by decide +kernel
theorem dX12_shift_113 : decode cX12_shift 113 = .ok (.iload 6, 2) := by decide +kernel
theorem dX12_shift_115 : decode cX12_shift 115 = .ok (.iload 5, 2) := by decide +kernel
theorem dX12_shift_117 : decode cX12_shift 117 = .ok (.if_icmp .ge 30, 3) := by decide +kernel
theorem dX12_shift_120 : decode cX12_shift 120 = .ok (.aload_n 0, 1) := by decide +kernel
theorem dX12_shift_121 : decode cX12_shift 121 = .ok (.getfield 127, 3) := by decide +kernel
theorem dX12_shift_124 : decode cX12_shift 124 = .ok (.iload 6, 2) := by decide +kernel
theorem dX12_shift_126 : decode cX12_shift 126 = .ok (.aload_n 0, 1) := by decide +kernel
theorem dX12_shift_127 : decode cX12_shift 127 = .ok (.getfield 123, 3) := by decide +kernel
theorem dX12_shift_130 : decode cX12_shift 130 = .ok (.bipush 60, 2) := by decide +kernel
theorem dX12_shift_132 : decode cX12_shift 132 = .ok (.iload_n 1, 1) := by decide +kernel
theorem dX12_shift_133 : decode cX12_shift 133 = .ok (.imul, 1) := by decide +kernel
theorem dX12_shift_134 : decode cX12_shift 134 = .ok (.iload_n 2, 1) := by decide +kernel
theorem dX12_shift_135 : decode cX12_shift 135 = .ok (.iadd, 1) := by decide +kernel
theorem dX12_shift_136 : decode cX12_shift 136 = .ok (.iload 6, 2) := by decide +kernel
theorem dX12_shift_138 : decode cX12_shift 138 = .ok (.iadd, 1) := by decide +kernel
theorem dX12_shift_139 : decode cX12_shift 139 = .ok (.laload, 1) := by decide +kernel
theorem dX12_shift_140 : decode cX12_shift 140 = .ok (.lastore, 1) := by decide +kernel
theorem dX12_shift_141 : decode cX12_shift 141 = .ok (.iinc 6 1, 3) := by decide +kernel
theorem dX12_shift_144 : decode cX12_shift 144 = .ok (.goto (-31), 3) := by decide +kernel
theorem dX12_shift_147 : decode cX12_shift 147 = .ok (.iconst 0, 1) := by decide +kernel
theorem dX12_shift_148 : decode cX12_shift 148 = .ok (.istore 6, 2) := by decide +kernel
theorem dX12_shift_150 : decode cX12_shift 150 = .ok (.iload 6, 2) := by decide +kernel
theorem dX12_shift_152 : decode cX12_shift 152 = .ok (.iload 5, 2) := by decide +kernel
theorem dX12_shift_154 : decode cX12_shift 154 = .ok (.if_icmp .ge 31, 3) := by decide +kernel
theorem dX12_shift_157 : decode cX12_shift 157 = .ok (.aload_n 0, 1) := by decide +kernel
theorem dX12_shift_158 : decode cX12_shift 158 = .ok (.getfield 123, 3) := by decide +kernel
theorem dX12_shift_161 : decode cX12_shift 161 = .ok (.bipush 60, 2) := by decide +kernel
theorem dX12_shift_163 : decode cX12_shift 163 = .ok (.iload_n 3, 1) := by decide +kernel
theorem dX12_shift_164 : decode cX12_shift 164 = .ok (.imul, 1) := by decide +kernel
theorem dX12_shift_165 : decode cX12_shift 165 = .ok (.iload 4, 2) := by decide +kernel
theorem dX12_shift_167 : decode cX12_shift 167 = .ok (.iadd, 1) := by decide +kernel
theorem dX12_shift_168 : decode cX12_shift 168 = .ok (.iload 6, 2) := by decide +kernel
theorem dX12_shift_170 : decode cX12_shift 170 = .ok (.iadd, 1) := by decide +kernel
theorem dX12_shift_171 : decode cX12_shift 171 = .ok (.aload_n 0, 1) := by decide +kernel
theorem dX12_shift_172 : decode cX12_shift 172 = .ok (.getfield 127, 3) := by decide +kernel
theorem dX12_shift_175 : decode cX12_shift 175 = .ok (.iload 6, 2) := by decide +kernel
theorem dX12_shift_177 : decode cX12_shift 177 = .ok (.laload, 1) := by decide +kernel
theorem dX12_shift_178 : decode cX12_shift 178 = .ok (.lastore, 1) := by decide +kernel
theorem dX12_shift_179 : decode cX12_shift 179 = .ok (.iinc 6 1, 3) := by decide +kernel
theorem dX12_shift_182 : decode cX12_shift 182 = .ok (.goto (-32), 3) := by decide +kernel
theorem dX12_shift_185 : decode cX12_shift 185 = .ok (.iload 5, 2) := by decide +kernel
theorem dX12_shift_187 : decode cX12_shift 187 = .ok (.ireturn, 1) := by decide +kernel
theorem dX12_taken_0 : decode cX12_taken 0 = .ok (.iload_n 1, 1) := by decide +kernel
theorem dX12_taken_1 : decode cX12_taken 1 = .ok (.invokestatic 441, 3) := by decide +kernel
theorem dX12_taken_4 : decode cX12_taken 4 = .ok (.ifCond .eq 15, 3) := by decide +kernel
theorem dX12_taken_7 : decode cX12_taken 7 = .ok (.iload_n 2, 1) := by decide +kernel
theorem dX12_taken_8 : decode cX12_taken 8 = .ok (.i2l, 1) := by decide +kernel
theorem dX12_taken_9 : decode cX12_taken 9 = .ok (.lconst 0, 1) := by decide +kernel
theorem dX12_taken_10 : decode cX12_taken 10 = .ok (.ldc2_w 300, 3) := by decide +kernel
theorem dX12_taken_13 : decode cX12_taken 13 = .ok (.invokestatic 135, 3) := by decide +kernel
theorem dX12_taken_16 : decode cX12_taken 16 = .ok (.ifCond .ne 5, 3) := by decide +kernel
theorem dX12_taken_19 : decode cX12_taken 19 = .ok (.iconst (-1), 1) := by decide +kernel
theorem dX12_taken_20 : decode cX12_taken 20 = .ok (.ireturn, 1) := by decide +kernel
theorem dX12_taken_21 : decode cX12_taken 21 = .ok (.aload_n 0, 1) := by decide +kernel
theorem dX12_taken_22 : decode cX12_taken 22 = .ok (.getfield 117, 3) := by decide +kernel
theorem dX12_taken_25 : decode cX12_taken 25 = .ok (.iload_n 1, 1) := by decide +kernel
theorem dX12_taken_26 : decode cX12_taken 26 = .ok (.iaload, 1) := by decide +kernel
theorem dX12_taken_27 : decode cX12_taken 27 = .ok (.ifCond .ge 6, 3) := by decide +kernel
theorem dX12_taken_30 : decode cX12_taken 30 = .ok (.bipush (-11), 2) := by decide +kernel
theorem dX12_taken_32 : decode cX12_taken 32 = .ok (.ireturn, 1) := by decide +kernel
theorem dX12_taken_33 : decode cX12_taken 33 = .ok (.aload_n 0, 1) := by decide +kernel
theorem dX12_taken_34 : decode cX12_taken 34 = .ok (.getfield 117, 3) := by decide +kernel
theorem dX12_taken_37 : decode cX12_taken 37 = .ok (.iload_n 1, 1) := by decide +kernel
theorem dX12_taken_38 : decode cX12_taken 38 = .ok (.iaload, 1) := by decide +kernel
theorem dX12_taken_39 : decode cX12_taken 39 = .ok (.bipush 10, 2) := by decide +kernel
theorem dX12_taken_41 : decode cX12_taken 41 = .ok (.if_icmp .lt 6, 3) := by decide +kernel
theorem dX12_taken_44 : decode cX12_taken 44 = .ok (.bipush (-12), 2) := by decide +kernel
theorem dX12_taken_46 : decode cX12_taken 46 = .ok (.ireturn, 1) := by decide +kernel
theorem dX12_taken_47 : decode cX12_taken 47 = .ok (.aload_n 0, 1) := by decide +kernel
theorem dX12_taken_48 : decode cX12_taken 48 = .ok (.getfield 47, 3) := by decide +kernel
theorem dX12_taken_51 : decode cX12_taken 51 = .ok (.aload_n 0, 1) := by decide +kernel
theorem dX12_taken_52 : decode cX12_taken 52 = .ok (.getfield 117, 3) := by decide +kernel
theorem dX12_taken_55 : decode cX12_taken 55 = .ok (.iload_n 1, 1) := by decide +kernel
theorem dX12_taken_56 : decode cX12_taken 56 = .ok (.iaload, 1) := by decide +kernel
theorem dX12_taken_57 : decode cX12_taken 57 = .ok (.iaload, 1) := by decide +kernel
theorem dX12_taken_58 : decode cX12_taken 58 = .ok (.istore_n 3, 1) := by decide +kernel
theorem dX12_taken_59 : decode cX12_taken 59 = .ok (.iload_n 3, 1) := by decide +kernel
theorem dX12_taken_60 : decode cX12_taken 60 = .ok (.iload_n 2, 1) := by decide +kernel
theorem dX12_taken_61 : decode cX12_taken 61 = .ok (.if_icmp .eq 15, 3) := by decide +kernel
theorem dX12_taken_64 : decode cX12_taken 64 = .ok (.iload_n 3, 1) := by decide +kernel
theorem dX12_taken_65 : decode cX12_taken 65 = .ok (.ifCond .le 11, 3) := by decide +kernel
theorem dX12_taken_68 : decode cX12_taken 68 = .ok (.iload_n 3, 1) := by decide +kernel
theorem dX12_taken_69 : decode cX12_taken 69 = .ok (.invokestatic 424, 3) := by decide +kernel
theorem dX12_taken_72 : decode cX12_taken 72 = .ok (.istore_n 3, 1) := by decide +kernel
theorem dX12_taken_73 : decode cX12_taken 73 = .ok (.goto (-14), 3) := by decide +kernel
theorem dX12_taken_76 : decode cX12_taken 76 = .ok (.iload_n 3, 1) := by decide +kernel
theorem dX12_taken_77 : decode cX12_taken 77 = .ok (.iload_n 2, 1) := by decide +kernel
theorem dX12_taken_78 : decode cX12_taken 78 = .ok (.if_icmp .ne 17, 3) := by decide +kernel
theorem dX12_taken_81 : decode cX12_taken 81 = .ok (.aload_n 0, 1) := by decide +kernel
theorem dX12_taken_82 : decode cX12_taken 82 = .ok (.getfield 47, 3) := by decide +kernel
theorem dX12_taken_85 : decode cX12_taken 85 = .ok (.aload_n 0, 1) := by decide +kernel
theorem dX12_taken_86 : decode cX12_taken 86 = .ok (.getfield 117, 3) := by decide +kernel
theorem dX12_taken_89 : decode cX12_taken 89 = .ok (.iload_n 1, 1) := by decide +kernel
theorem dX12_taken_90 : decode cX12_taken 90 = .ok (.iaload, 1) := by decide +kernel
theorem dX12_taken_91 : decode cX12_taken 91 = .ok (.iaload, 1) := by decide +kernel
theorem dX12_taken_92 : decode cX12_taken 92 = .ok (.goto 5, 3) := by decide +kernel
theorem dX12_taken_95 : decode cX12_taken 95 = .ok (.bipush (-12), 2) := by decide +kernel
theorem dX12_taken_97 : decode cX12_taken 97 = .ok (.ireturn, 1) := by decide +kernel
theorem dX12_things_0 : decode cX12_things 0 = .ok (.iload_n 1, 1) := by decide +kernel
theorem dX12_things_1 : decode cX12_things 1 = .ok (.invokestatic 441, 3) := by decide +kernel
theorem dX12_things_4 : decode cX12_things 4 = .ok (.ifCond .eq 15, 3) := by decide +kernel
theorem dX12_things_7 : decode cX12_things 7 = .ok (.iload_n 3, 1) := by decide +kernel
theorem dX12_things_8 : decode cX12_things 8 = .ok (.i2l, 1) := by decide +kernel
theorem dX12_things_9 : decode cX12_things 9 = .ok (.lconst 1, 1) := by decide +kernel
theorem dX12_things_10 : decode cX12_things 10 = .ok (.ldc2_w 455, 3) := by decide +kernel
theorem dX12_things_13 : decode cX12_things 13 = .ok (.invokestatic 135, 3) := by decide +kernel
theorem dX12_things_16 : decode cX12_things 16 = .ok (.ifCond .ne 5, 3) := by decide +kernel
theorem dX12_things_19 : decode cX12_things 19 = .ok (.iconst (-1), 1) := by decide +kernel
theorem dX12_things_20 : decode cX12_things 20 = .ok (.ireturn, 1) := by decide +kernel
theorem dX12_things_21 : decode cX12_things 21 = .ok (.aload_n 0, 1) := by decide +kernel
theorem dX12_things_22 : decode cX12_things 22 = .ok (.getfield 117, 3) := by decide +kernel
theorem dX12_things_25 : decode cX12_things 25 = .ok (.iload_n 1, 1) := by decide +kernel
theorem dX12_things_26 : decode cX12_things 26 = .ok (.iaload, 1) := by decide +kernel
theorem dX12_things_27 : decode cX12_things 27 = .ok (.iconst (-1), 1) := by decide +kernel
theorem dX12_things_28 : decode cX12_things 28 = .ok (.if_icmp .eq 17, 3) := by decide +kernel
theorem dX12_things_31 : decode cX12_things 31 = .ok (.aload_n 0, 1) := by decide +kernel
theorem dX12_things_32 : decode cX12_things 32 = .ok (.getfield 117, 3) := by decide +kernel
theorem dX12_things_35 : decode cX12_things 35 = .ok (.iload_n 1, 1) := by decide +kernel
theorem dX12_things_36 : decode cX12_things 36 = .ok (.iaload, 1) := by decide +kernel
theorem dX12_things_37 : decode cX12_things 37 = .ok (.bipush 10, 2) := by decide +kernel
theorem dX12_things_39 : decode cX12_things 39 = .ok (.if_icmp .eq 6, 3) := by decide +kernel
theorem dX12_things_42 : decode cX12_things 42 = .ok (.bipush (-12), 2) := by decide +kernel
theorem dX12_things_44 : decode cX12_things 44 = .ok (.ireturn, 1) := by decide +kernel
theorem dX12_things_45 : decode cX12_things 45 = .ok (.iconst 0, 1) := by decide +kernel
theorem dX12_things_46 : decode cX12_things 46 = .ok (.istore 4, 2) := by decide +kernel
theorem dX12_things_48 : decode cX12_things 48 = .ok (.aload_n 0, 1) := by decide +kernel
theorem dX12_things_49 : decode cX12_things 49 = .ok (.getfield 117, 3) := by decide +kernel
theorem dX12_things_52 : decode cX12_things 52 = .ok (.iload_n 1, 1) := by decide +kernel
theorem dX12_things_53 : decode cX12_things 53 = .ok (.iaload, 1) := by decide +kernel
theorem dX12_things_54 : decode cX12_things 54 = .ok (.iconst (-1), 1) := by decide +kernel
theorem dX12_things_55 : decode cX12_things 55 = .ok (.if_icmp .eq 7, 3) := by decide +kernel
theorem dX12_things_58 : decode cX12_things 58 = .ok (.iconst 1, 1) := by decide +kernel
theorem dX12_things_59 : decode cX12_things 59 = .ok (.goto 4, 3) := by decide +kernel
theorem dX12_things_62 : decode cX12_things 62 = .ok (.iconst 0, 1) := by decide +kernel
theorem dX12_things_63 : decode cX12_things 63 = .ok (.istore 5, 2) := by decide +kernel
theorem dX12_things_65 : decode cX12_things 65 = .ok (.iload 5, 2) := by decide +kernel
theorem dX12_things_67 : decode cX12_things 67 = .ok (.ifCond .eq 137, 3) := by decide +kernel
theorem dX12_things_70 : decode cX12_things 70 = .ok (.iload 4, 2) := by decide +kernel
theorem dX12_things_72 : decode cX12_things 72 = .ok (.iload_n 3, 1) := by decide +kernel
theorem dX12_things_73 : decode cX12_things 73 = .ok (.if_icmp .ge 131, 3) := by decide +kernel
theorem dX12_things_76 : decode cX12_things 76 = .ok (.iload_n 2, 1) := by decide +kernel
theorem dX12_things_77 : decode cX12_things 77 = .ok (.i2l, 1) := by decide +kernel
theorem dX12_things_78 : decode cX12_things 78 = .ok (.ldc2_w 166, 3) := by decide +kernel
theorem dX12_things_81 : decode cX12_things 81 = .ok (.iload 4, 2) := by decide +kernel
theorem dX12_things_83 : decode cX12_things 83 = .ok (.i2l, 1) := by decide +kernel
theorem dX12_things_84 : decode cX12_things 84 = .ok (.lmul, 1) := by decide +kernel
theorem dX12_things_85 : decode cX12_things 85 = .ok (.ladd, 1) := by decide +kernel
theorem dX12_things_86 : decode cX12_things 86 = .ok (.lstore 6, 2) := by decide +kernel
theorem dX12_things_88 : decode cX12_things 88 = .ok (.lload 6, 2) := by decide +kernel
theorem dX12_things_90 : decode cX12_things 90 = .ok (.lconst 0, 1) := by decide +kernel
theorem dX12_things_91 : decode cX12_things 91 = .ok (.lcmp, 1) := by decide +kernel
theorem dX12_things_92 : decode cX12_things 92 = .ok (.ifCond .lt 24, 3) := by decide +kernel
theorem dX12_things_95 : decode cX12_things 95 = .ok (.lload 6, 2) := by decide +kernel
theorem dX12_things_97 : decode cX12_things 97 = .ok (.ldc2_w 133, 3) := by decide +kernel
theorem dX12_things_100 : decode cX12_things 100 = .ok (.ladd, 1) := by decide +kernel
theorem dX12_things_101 : decode cX12_things 101 = .ok (.aload_n 0, 1) := by decide +kernel
theorem dX12_things_102 : decode cX12_things 102 = .ok (.getfield 120, 3) := by decide +kernel
theorem dX12_things_105 : decode cX12_things 105 = .ok (.iload_n 1, 1) := by decide +kernel
theorem dX12_things_106 : decode cX12_things 106 = .ok (.iaload, 1) := by decide +kernel
theorem dX12_things_107 : decode cX12_things 107 = .ok (.i2l, 1) := by decide +kernel
theorem dX12_things_108 : decode cX12_things 108 = .ok (.lcmp, 1) := by decide +kernel
theorem dX12_things_109 : decode cX12_things 109 = .ok (.ifCond .ge 7, 3) := by decide +kernel
theorem dX12_things_112 : decode cX12_things 112 = .ok (.iconst 1, 1) := by decide +kernel
theorem dX12_things_113 : decode cX12_things 113 = .ok (.goto 4, 3) := by decide +kernel
theorem dX12_things_116 : decode cX12_things 116 = .ok (.iconst 0, 1) := by decide +kernel
theorem dX12_things_117 : decode cX12_things 117 = .ok (.istore 5, 2) := by decide +kernel
theorem dX12_things_119 : decode cX12_things 119 = .ok (.iload 5, 2) := by decide +kernel
theorem dX12_things_121 : decode cX12_things 121 = .ok (.ifCond .eq 80, 3) := by decide +kernel
theorem dX12_things_124 : decode cX12_things 124 = .ok (.bipush 60, 2) := by decide +kernel
theorem dX12_things_126 : decode cX12_things 126 = .ok (.iload_n 1, 1) := by decide +kernel
theorem dX12_things_127 : decode cX12_things 127 = .ok (.imul, 1) := by decide +kernel
theorem dX12_things_128 : decode cX12_things 128 = .ok (.lload 6, 2) := by decide +kernel
theorem dX12_things_130 : decode cX12_things 130 = .ok (.l2i, 1) := by decide +kernel
theorem dX12_things_131 : decode cX12_things 131 = .ok (.iadd, 1) := by decide +kernel
theorem dX12_things_132 : decode cX12_things 132 = .ok (.istore 8, 2) := by decide +kernel
theorem dX12_things_134 : decode cX12_things 134 = .ok (.aload_n 0, 1) := by decide +kernel
theorem dX12_things_135 : decode cX12_things 135 = .ok (.aload_n 0, 1) := by decide +kernel
theorem dX12_things_136 : decode cX12_things 136 = .ok (.getfield 123, 3) := by decide +kernel
theorem dX12_things_139 : decode cX12_things 139 = .ok (.iload 8, 2) := by decide +kernel
theorem dX12_things_141 : decode cX12_things 141 = .ok (.laload, 1) := by decide +kernel
theorem dX12_things_142 : decode cX12_things 142 = .ok (.l2i, 1) := by decide +kernel
theorem dX12_things_143 : decode cX12_things 143 = .ok (.aload_n 0, 1) := by decide +kernel
theorem dX12_things_144 : decode cX12_things 144 = .ok (.getfield 123, 3) := by decide +kernel
theorem dX12_things_147 : decode cX12_things 147 = .ok (.iload 8, 2) := by decide +kernel
theorem dX12_things_149 : decode cX12_things 149 = .ok (.iconst 1, 1) := by decide +kernel
theorem dX12_things_150 : decode cX12_things 150 = .ok (.iadd, 1) := by decide +kernel
theorem dX12_things_151 : decode cX12_things 151 = .ok (.laload, 1) := by decide +kernel
theorem dX12_things_152 : decode cX12_things 152 = .ok (.l2i, 1) := by decide +kernel
theorem dX12_things_153 : decode cX12_things 153 = .ok (.aload_n 0, 1) := by decide +kernel
theorem dX12_things_154 : decode cX12_things 154 = .ok (.getfield 123, 3) := by decide +kernel
theorem dX12_things_157 : decode cX12_things 157 = .ok (.iload 8, 2) := by decide +kernel
theorem dX12_things_159 : decode cX12_things 159 = .ok (.iconst 2, 1) := by decide +kernel
theorem dX12_things_160 : decode cX12_things 160 = .ok (.iadd, 1) := by decide +kernel
theorem dX12_things_161 : decode cX12_things 161 = .ok (.laload, 1) := by decide +kernel
theorem dX12_things_162 : decode cX12_things 162 = .ok (.l2i, 1) := by decide +kernel
theorem dX12_things_163 : decode cX12_things 163 = .ok (.aload_n 0, 1) := by decide +kernel
theorem dX12_things_164 : decode cX12_things 164 = .ok (.getfield 123, 3) := by decide +kernel
theorem dX12_things_167 : decode cX12_things 167 = .ok (.iload 8, 2) := by decide +kernel
theorem dX12_things_169 : decode cX12_things 169 = .ok (.iconst 3, 1) := by decide +kernel
theorem dX12_things_170 : decode cX12_things 170 = .ok (.iadd, 1) := by decide +kernel
theorem dX12_things_171 : decode cX12_things 171 = .ok (.laload, 1) := by decide +kernel
theorem dX12_things_172 : decode cX12_things 172 = .ok (.l2i, 1) := by decide +kernel
theorem dX12_things_173 : decode cX12_things 173 = .ok (.invokevirtual 457, 3) := by decide +kernel
theorem dX12_things_176 : decode cX12_things 176 = .ok (.ifCond .lt 7, 3) := by decide +kernel
theorem dX12_things_179 : decode cX12_things 179 = .ok (.iconst 1, 1) := by decide +kernel
theorem dX12_things_180 : decode cX12_things 180 = .ok (.goto 4, 3) := by decide +kernel
theorem dX12_things_183 : decode cX12_things 183 = .ok (.iconst 0, 1) := by decide +kernel
theorem dX12_things_184 : decode cX12_things 184 = .ok (.istore 5, 2) := by decide +kernel
theorem dX12_things_186 : decode cX12_things 186 = .ok (.iload 4, 2) := by decide +kernel
theorem dX12_things_188 : decode cX12_things 188 = .ok (.iload 5, 2) := by decide +kernel
theorem dX12_things_190 : decode cX12_things 190 = .ok (.ifCond .eq 7, 3) := by decide +kernel
theorem dX12_things_193 : decode cX12_things 193 = .ok (.iconst 1, 1) := by decide +kernel
theorem dX12_things_194 : decode cX12_things 194 = .ok (.goto 4, 3) := by decide +kernel
theorem dX12_things_197 : decode cX12_things 197 = .ok (.iconst 0, 1) := by decide +kernel
theorem dX12_things_198 : decode cX12_things 198 = .ok (.iadd, 1) := by decide +kernel
theorem dX12_things_199 : decode cX12_things 199 = .ok (.istore 4, 2) := by decide +kernel
theorem dX12_things_201 : decode cX12_things 201 = .ok (.goto (-136), 3) := by decide +kernel
theorem dX12_things_204 : decode cX12_things 204 = .ok (.iload 4, 2) := by decide +kernel
theorem dX12_things_206 : decode cX12_things 206 = .ok (.ireturn, 1) := by decide +kernel
theorem dX12_count_0 : decode cX12_count 0 = .ok (.iconst 0, 1) := by decide +kernel
theorem dX12_count_1 : decode cX12_count 1 = .ok (.istore_n 2, 1) := by decide +kernel
theorem dX12_count_2 : decode cX12_count 2 = .ok (.iconst 0, 1) := by decide +kernel
theorem dX12_count_3 : decode cX12_count 3 = .ok (.istore_n 3, 1) := by decide +kernel
theorem dX12_count_4 : decode cX12_count 4 = .ok (.iload_n 3, 1) := by decide +kernel
theorem dX12_count_5 : decode cX12_count 5 = .ok (.aload_n 0, 1) := by decide +kernel
theorem dX12_count_6 : decode cX12_count 6 = .ok (.getfield 130, 3) := by decide +kernel
theorem dX12_count_9 : decode cX12_count 9 = .ok (.if_icmp .ge 26, 3) := by decide +kernel
theorem dX12_count_12 : decode cX12_count 12 = .ok (.iload_n 2, 1) := by decide +kernel
theorem dX12_count_13 : decode cX12_count 13 = .ok (.aload_n 0, 1) := by decide +kernel
theorem dX12_count_14 : decode cX12_count 14 = .ok (.getfield 13, 3) := by decide +kernel
theorem dX12_count_17 : decode cX12_count 17 = .ok (.iload_n 3, 1) := by decide +kernel
theorem dX12_count_18 : decode cX12_count 18 = .ok (.baload, 1) := by decide +kernel
theorem dX12_count_19 : decode cX12_count 19 = .ok (.ifCond .eq 7, 3) := by decide +kernel
theorem dX12_count_22 : decode cX12_count 22 = .ok (.iconst 1, 1) := by decide +kernel
theorem dX12_count_23 : decode cX12_count 23 = .ok (.goto 4, 3) := by decide +kernel
theorem dX12_count_26 : decode cX12_count 26 = .ok (.iconst 0, 1) := by decide +kernel
theorem dX12_count_27 : decode cX12_count 27 = .ok (.iadd, 1) := by decide +kernel
theorem dX12_count_28 : decode cX12_count 28 = .ok (.istore_n 2, 1) := by decide +kernel
theorem dX12_count_29 : decode cX12_count 29 = .ok (.iinc 3 1, 3) := by decide +kernel
theorem dX12_count_32 : decode cX12_count 32 = .ok (.goto (-28), 3) := by decide +kernel
theorem dX12_count_35 : decode cX12_count 35 = .ok (.iload_n 1, 1) := by decide +kernel
theorem dX12_count_36 : decode cX12_count 36 = .ok (.tableswitch 76 0 6 #[44, 49, 51, 56, 61, 66, 71], 44) := by decide +kernel
theorem dX12_count_80 : decode cX12_count 80 = .ok (.aload_n 0, 1) := by decide +kernel
theorem dX12_count_81 : decode cX12_count 81 = .ok (.getfield 130, 3) := by decide +kernel
theorem dX12_count_84 : decode cX12_count 84 = .ok (.ireturn, 1) := by decide +kernel
theorem dX12_count_85 : decode cX12_count 85 = .ok (.iload_n 2, 1) := by decide +kernel
theorem dX12_count_86 : decode cX12_count 86 = .ok (.ireturn, 1) := by decide +kernel
theorem dX12_count_87 : decode cX12_count 87 = .ok (.aload_n 0, 1) := by decide +kernel
theorem dX12_count_88 : decode cX12_count 88 = .ok (.getfield 198, 3) := by decide +kernel
theorem dX12_count_91 : decode cX12_count 91 = .ok (.ireturn, 1) := by decide +kernel
theorem dX12_count_92 : decode cX12_count 92 = .ok (.aload_n 0, 1) := by decide +kernel
theorem dX12_count_93 : decode cX12_count 93 = .ok (.getfield 153, 3) := by decide +kernel
theorem dX12_count_96 : decode cX12_count 96 = .ok (.ireturn, 1) := by decide +kernel
theorem dX12_count_97 : decode cX12_count 97 = .ok (.aload_n 0, 1) := by decide +kernel
theorem dX12_count_98 : decode cX12_count 98 = .ok (.getfield 176, 3) := by decide +kernel
theorem dX12_count_101 : decode cX12_count 101 = .ok (.ireturn, 1) := by decide +kernel
theorem dX12_count_102 : decode cX12_count 102 = .ok (.aload_n 0, 1) := by decide +kernel
theorem dX12_count_103 : decode cX12_count 103 = .ok (.getfield 411, 3) := by decide +kernel
theorem dX12_count_106 : decode cX12_count 106 = .ok (.ireturn, 1) := by decide +kernel
theorem dX12_count_107 : decode cX12_count 107 = .ok (.aload_n 0, 1) := by decide +kernel
theorem dX12_count_108 : decode cX12_count 108 = .ok (.getfield 414, 3) := by decide +kernel
theorem dX12_count_111 : decode cX12_count 111 = .ok (.ireturn, 1) := by decide +kernel
theorem dX12_count_112 : decode cX12_count 112 = .ok (.iconst (-1), 1) := by decide +kernel
theorem dX12_count_113 : decode cX12_count 113 = .ok (.ireturn, 1) := by decide +kernel

theorem dX12_init_0 : decode cX12_init 0 = .ok (.aload_n 0, 1) := by decide +kernel
theorem dX12_init_1 : decode cX12_init 1 = .ok (.invokespecial 1, 3) := by decide +kernel
theorem dX12_init_4 : decode cX12_init 4 = .ok (.aload_n 0, 1) := by decide +kernel
theorem dX12_init_5 : decode cX12_init 5 = .ok (.bipush 8, 2) := by decide +kernel
theorem dX12_init_7 : decode cX12_init 7 = .ok (.newarray .int, 2) := by decide +kernel
theorem dX12_init_9 : decode cX12_init 9 = .ok (.putfield 7, 3) := by decide +kernel
theorem dX12_init_12 : decode cX12_init 12 = .ok (.aload_n 0, 1) := by decide +kernel
theorem dX12_init_13 : decode cX12_init 13 = .ok (.bipush 8, 2) := by decide +kernel
theorem dX12_init_15 : decode cX12_init 15 = .ok (.newarray .boolean, 2) := by decide +kernel
theorem dX12_init_17 : decode cX12_init 17 = .ok (.putfield 13, 3) := by decide +kernel
theorem dX12_init_20 : decode cX12_init 20 = .ok (.aload_n 0, 1) := by decide +kernel
theorem dX12_init_21 : decode cX12_init 21 = .ok (.bipush 80, 2) := by decide +kernel
theorem dX12_init_23 : decode cX12_init 23 = .ok (.newarray .int, 2) := by decide +kernel
theorem dX12_init_25 : decode cX12_init 25 = .ok (.putfield 17, 3) := by decide +kernel
theorem dX12_init_28 : decode cX12_init 28 = .ok (.aload_n 0, 1) := by decide +kernel
theorem dX12_init_29 : decode cX12_init 29 = .ok (.sipush 960, 3) := by decide +kernel
theorem dX12_init_32 : decode cX12_init 32 = .ok (.newarray .int, 2) := by decide +kernel
theorem dX12_init_34 : decode cX12_init 34 = .ok (.putfield 20, 3) := by decide +kernel
theorem dX12_init_37 : decode cX12_init 37 = .ok (.aload_n 0, 1) := by decide +kernel
theorem dX12_init_38 : decode cX12_init 38 = .ok (.bipush 8, 2) := by decide +kernel
theorem dX12_init_40 : decode cX12_init 40 = .ok (.newarray .int, 2) := by decide +kernel
theorem dX12_init_42 : decode cX12_init 42 = .ok (.putfield 23, 3) := by decide +kernel
theorem dX12_init_45 : decode cX12_init 45 = .ok (.aload_n 0, 1) := by decide +kernel
theorem dX12_init_46 : decode cX12_init 46 = .ok (.sipush 192, 3) := by decide +kernel
theorem dX12_init_49 : decode cX12_init 49 = .ok (.newarray .int, 2) := by decide +kernel
theorem dX12_init_51 : decode cX12_init 51 = .ok (.putfield 26, 3) := by decide +kernel
theorem dX12_init_54 : decode cX12_init 54 = .ok (.aload_n 0, 1) := by decide +kernel
theorem dX12_init_55 : decode cX12_init 55 = .ok (.bipush 24, 2) := by decide +kernel
theorem dX12_init_57 : decode cX12_init 57 = .ok (.newarray .boolean, 2) := by decide +kernel
theorem dX12_init_59 : decode cX12_init 59 = .ok (.putfield 29, 3) := by decide +kernel
theorem dX12_init_62 : decode cX12_init 62 = .ok (.aload_n 0, 1) := by decide +kernel
theorem dX12_init_63 : decode cX12_init 63 = .ok (.sipush 876, 3) := by decide +kernel
theorem dX12_init_66 : decode cX12_init 66 = .ok (.newarray .int, 2) := by decide +kernel
theorem dX12_init_68 : decode cX12_init 68 = .ok (.putfield 32, 3) := by decide +kernel
theorem dX12_init_71 : decode cX12_init 71 = .ok (.aload_n 0, 1) := by decide +kernel
theorem dX12_init_72 : decode cX12_init 72 = .ok (.sipush 6000, 3) := by decide +kernel
theorem dX12_init_75 : decode cX12_init 75 = .ok (.newarray .int, 2) := by decide +kernel
theorem dX12_init_77 : decode cX12_init 77 = .ok (.putfield 35, 3) := by decide +kernel
theorem dX12_init_80 : decode cX12_init 80 = .ok (.aload_n 0, 1) := by decide +kernel
theorem dX12_init_81 : decode cX12_init 81 = .ok (.sipush 6000, 3) := by decide +kernel
theorem dX12_init_84 : decode cX12_init 84 = .ok (.newarray .int, 2) := by decide +kernel
theorem dX12_init_86 : decode cX12_init 86 = .ok (.putfield 38, 3) := by decide +kernel
theorem dX12_init_89 : decode cX12_init 89 = .ok (.aload_n 0, 1) := by decide +kernel
theorem dX12_init_90 : decode cX12_init 90 = .ok (.sipush 6000, 3) := by decide +kernel
theorem dX12_init_93 : decode cX12_init 93 = .ok (.newarray .int, 2) := by decide +kernel
theorem dX12_init_95 : decode cX12_init 95 = .ok (.putfield 41, 3) := by decide +kernel
theorem dX12_init_98 : decode cX12_init 98 = .ok (.aload_n 0, 1) := by decide +kernel
theorem dX12_init_99 : decode cX12_init 99 = .ok (.sipush 6000, 3) := by decide +kernel
theorem dX12_init_102 : decode cX12_init 102 = .ok (.newarray .int, 2) := by decide +kernel
theorem dX12_init_104 : decode cX12_init 104 = .ok (.putfield 44, 3) := by decide +kernel
theorem dX12_init_107 : decode cX12_init 107 = .ok (.aload_n 0, 1) := by decide +kernel
theorem dX12_init_108 : decode cX12_init 108 = .ok (.sipush 6000, 3) := by decide +kernel
theorem dX12_init_111 : decode cX12_init 111 = .ok (.newarray .int, 2) := by decide +kernel
theorem dX12_init_113 : decode cX12_init 113 = .ok (.putfield 47, 3) := by decide +kernel
theorem dX12_init_116 : decode cX12_init 116 = .ok (.aload_n 0, 1) := by decide +kernel
theorem dX12_init_117 : decode cX12_init 117 = .ok (.sipush 6000, 3) := by decide +kernel
theorem dX12_init_120 : decode cX12_init 120 = .ok (.newarray .int, 2) := by decide +kernel
theorem dX12_init_122 : decode cX12_init 122 = .ok (.putfield 50, 3) := by decide +kernel
theorem dX12_init_125 : decode cX12_init 125 = .ok (.aload_n 0, 1) := by decide +kernel
theorem dX12_init_126 : decode cX12_init 126 = .ok (.sipush 6000, 3) := by decide +kernel
theorem dX12_init_129 : decode cX12_init 129 = .ok (.newarray .int, 2) := by decide +kernel
theorem dX12_init_131 : decode cX12_init 131 = .ok (.putfield 53, 3) := by decide +kernel
theorem dX12_init_134 : decode cX12_init 134 = .ok (.aload_n 0, 1) := by decide +kernel
theorem dX12_init_135 : decode cX12_init 135 = .ok (.sipush 6000, 3) := by decide +kernel
theorem dX12_init_138 : decode cX12_init 138 = .ok (.newarray .boolean, 2) := by decide +kernel
theorem dX12_init_140 : decode cX12_init 140 = .ok (.putfield 56, 3) := by decide +kernel
theorem dX12_init_143 : decode cX12_init 143 = .ok (.aload_n 0, 1) := by decide +kernel
theorem dX12_init_144 : decode cX12_init 144 = .ok (.sipush 1200, 3) := by decide +kernel
theorem dX12_init_147 : decode cX12_init 147 = .ok (.newarray .int, 2) := by decide +kernel
theorem dX12_init_149 : decode cX12_init 149 = .ok (.putfield 59, 3) := by decide +kernel
theorem dX12_init_152 : decode cX12_init 152 = .ok (.aload_n 0, 1) := by decide +kernel
theorem dX12_init_153 : decode cX12_init 153 = .ok (.sipush 20000, 3) := by decide +kernel
theorem dX12_init_156 : decode cX12_init 156 = .ok (.newarray .int, 2) := by decide +kernel
theorem dX12_init_158 : decode cX12_init 158 = .ok (.putfield 62, 3) := by decide +kernel
theorem dX12_init_161 : decode cX12_init 161 = .ok (.aload_n 0, 1) := by decide +kernel
theorem dX12_init_162 : decode cX12_init 162 = .ok (.sipush 20000, 3) := by decide +kernel
theorem dX12_init_165 : decode cX12_init 165 = .ok (.newarray .int, 2) := by decide +kernel
theorem dX12_init_167 : decode cX12_init 167 = .ok (.putfield 65, 3) := by decide +kernel
theorem dX12_init_170 : decode cX12_init 170 = .ok (.aload_n 0, 1) := by decide +kernel
theorem dX12_init_171 : decode cX12_init 171 = .ok (.sipush 20000, 3) := by decide +kernel
theorem dX12_init_174 : decode cX12_init 174 = .ok (.newarray .int, 2) := by decide +kernel
theorem dX12_init_176 : decode cX12_init 176 = .ok (.putfield 68, 3) := by decide +kernel
theorem dX12_init_179 : decode cX12_init 179 = .ok (.aload_n 0, 1) := by decide +kernel
theorem dX12_init_180 : decode cX12_init 180 = .ok (.sipush 20000, 3) := by decide +kernel
theorem dX12_init_183 : decode cX12_init 183 = .ok (.newarray .int, 2) := by decide +kernel
theorem dX12_init_185 : decode cX12_init 185 = .ok (.putfield 71, 3) := by decide +kernel
theorem dX12_init_188 : decode cX12_init 188 = .ok (.aload_n 0, 1) := by decide +kernel
theorem dX12_init_189 : decode cX12_init 189 = .ok (.bipush 110, 2) := by decide +kernel
theorem dX12_init_191 : decode cX12_init 191 = .ok (.newarray .int, 2) := by decide +kernel
theorem dX12_init_193 : decode cX12_init 193 = .ok (.putfield 74, 3) := by decide +kernel
theorem dX12_init_196 : decode cX12_init 196 = .ok (.aload_n 0, 1) := by decide +kernel
theorem dX12_init_197 : decode cX12_init 197 = .ok (.bipush 110, 2) := by decide +kernel
theorem dX12_init_199 : decode cX12_init 199 = .ok (.newarray .int, 2) := by decide +kernel
theorem dX12_init_201 : decode cX12_init 201 = .ok (.putfield 77, 3) := by decide +kernel
theorem dX12_init_204 : decode cX12_init 204 = .ok (.aload_n 0, 1) := by decide +kernel
theorem dX12_init_205 : decode cX12_init 205 = .ok (.bipush 110, 2) := by decide +kernel
theorem dX12_init_207 : decode cX12_init 207 = .ok (.newarray .int, 2) := by decide +kernel
theorem dX12_init_209 : decode cX12_init 209 = .ok (.putfield 80, 3) := by decide +kernel
theorem dX12_init_212 : decode cX12_init 212 = .ok (.aload_n 0, 1) := by decide +kernel
theorem dX12_init_213 : decode cX12_init 213 = .ok (.bipush 110, 2) := by decide +kernel
theorem dX12_init_215 : decode cX12_init 215 = .ok (.newarray .int, 2) := by decide +kernel
theorem dX12_init_217 : decode cX12_init 217 = .ok (.putfield 83, 3) := by decide +kernel
theorem dX12_init_220 : decode cX12_init 220 = .ok (.aload_n 0, 1) := by decide +kernel
theorem dX12_init_221 : decode cX12_init 221 = .ok (.bipush 110, 2) := by decide +kernel
theorem dX12_init_223 : decode cX12_init 223 = .ok (.newarray .int, 2) := by decide +kernel
theorem dX12_init_225 : decode cX12_init 225 = .ok (.putfield 86, 3) := by decide +kernel
theorem dX12_init_228 : decode cX12_init 228 = .ok (.aload_n 0, 1) := by decide +kernel
theorem dX12_init_229 : decode cX12_init 229 = .ok (.sipush 4510, 3) := by decide +kernel
theorem dX12_init_232 : decode cX12_init 232 = .ok (.newarray .int, 2) := by decide +kernel
theorem dX12_init_234 : decode cX12_init 234 = .ok (.putfield 89, 3) := by decide +kernel
theorem dX12_init_237 : decode cX12_init 237 = .ok (.aload_n 0, 1) := by decide +kernel
theorem dX12_init_238 : decode cX12_init 238 = .ok (.sipush 4510, 3) := by decide +kernel
theorem dX12_init_241 : decode cX12_init 241 = .ok (.newarray .int, 2) := by decide +kernel
theorem dX12_init_243 : decode cX12_init 243 = .ok (.putfield 92, 3) := by decide +kernel
theorem dX12_init_246 : decode cX12_init 246 = .ok (.aload_n 0, 1) := by decide +kernel
theorem dX12_init_247 : decode cX12_init 247 = .ok (.bipush 16, 2) := by decide +kernel
theorem dX12_init_249 : decode cX12_init 249 = .ok (.newarray .int, 2) := by decide +kernel
theorem dX12_init_251 : decode cX12_init 251 = .ok (.putfield 95, 3) := by decide +kernel
theorem dX12_init_254 : decode cX12_init 254 = .ok (.aload_n 0, 1) := by decide +kernel
theorem dX12_init_255 : decode cX12_init 255 = .ok (.bipush 16, 2) := by decide +kernel
theorem dX12_init_257 : decode cX12_init 257 = .ok (.newarray .int, 2) := by decide +kernel
theorem dX12_init_259 : decode cX12_init 259 = .ok (.putfield 98, 3) := by decide +kernel
theorem dX12_init_262 : decode cX12_init 262 = .ok (.aload_n 0, 1) := by decide +kernel
theorem dX12_init_263 : decode cX12_init 263 = .ok (.sipush 6000, 3) := by decide +kernel
theorem dX12_init_266 : decode cX12_init 266 = .ok (.newarray .int, 2) := by decide +kernel
theorem dX12_init_268 : decode cX12_init 268 = .ok (.putfield 101, 3) := by decide +kernel
theorem dX12_init_271 : decode cX12_init 271 = .ok (.aload_n 0, 1) := by decide +kernel
theorem dX12_init_272 : decode cX12_init 272 = .ok (.sipush 6000, 3) := by decide +kernel
theorem dX12_init_275 : decode cX12_init 275 = .ok (.newarray .int, 2) := by decide +kernel
theorem dX12_init_277 : decode cX12_init 277 = .ok (.putfield 104, 3) := by decide +kernel
theorem dX12_init_280 : decode cX12_init 280 = .ok (.aload_n 0, 1) := by decide +kernel
theorem dX12_init_281 : decode cX12_init 281 = .ok (.sipush 6000, 3) := by decide +kernel
theorem dX12_init_284 : decode cX12_init 284 = .ok (.newarray .int, 2) := by decide +kernel
theorem dX12_init_286 : decode cX12_init 286 = .ok (.putfield 107, 3) := by decide +kernel
theorem dX12_init_289 : decode cX12_init 289 = .ok (.aload_n 0, 1) := by decide +kernel
theorem dX12_init_290 : decode cX12_init 290 = .ok (.sipush 6000, 3) := by decide +kernel
theorem dX12_init_293 : decode cX12_init 293 = .ok (.newarray .int, 2) := by decide +kernel
theorem dX12_init_295 : decode cX12_init 295 = .ok (.putfield 110, 3) := by decide +kernel
theorem dX12_init_298 : decode cX12_init 298 = .ok (.aload_n 0, 1) := by decide +kernel
theorem dX12_init_299 : decode cX12_init 299 = .ok (.bipush 70, 2) := by decide +kernel
theorem dX12_init_301 : decode cX12_init 301 = .ok (.newarray .int, 2) := by decide +kernel
theorem dX12_init_303 : decode cX12_init 303 = .ok (.putfield 113, 3) := by decide +kernel
theorem dX12_init_306 : decode cX12_init 306 = .ok (.aload_n 0, 1) := by decide +kernel
theorem dX12_init_307 : decode cX12_init 307 = .ok (.sipush 2800, 3) := by decide +kernel
theorem dX12_init_310 : decode cX12_init 310 = .ok (.newarray .int, 2) := by decide +kernel
theorem dX12_init_312 : decode cX12_init 312 = .ok (.putfield 116, 3) := by decide +kernel
theorem dX12_init_315 : decode cX12_init 315 = .ok (.aload_n 0, 1) := by decide +kernel
theorem dX12_init_316 : decode cX12_init 316 = .ok (.bipush 10, 2) := by decide +kernel
theorem dX12_init_318 : decode cX12_init 318 = .ok (.newarray .int, 2) := by decide +kernel
theorem dX12_init_320 : decode cX12_init 320 = .ok (.putfield 119, 3) := by decide +kernel
theorem dX12_init_323 : decode cX12_init 323 = .ok (.aload_n 0, 1) := by decide +kernel
theorem dX12_init_324 : decode cX12_init 324 = .ok (.bipush 10, 2) := by decide +kernel
theorem dX12_init_326 : decode cX12_init 326 = .ok (.newarray .int, 2) := by decide +kernel
theorem dX12_init_328 : decode cX12_init 328 = .ok (.putfield 122, 3) := by decide +kernel
theorem dX12_init_331 : decode cX12_init 331 = .ok (.aload_n 0, 1) := by decide +kernel
theorem dX12_init_332 : decode cX12_init 332 = .ok (.sipush 400, 3) := by decide +kernel
theorem dX12_init_335 : decode cX12_init 335 = .ok (.newarray .int, 2) := by decide +kernel
theorem dX12_init_337 : decode cX12_init 337 = .ok (.putfield 125, 3) := by decide +kernel
theorem dX12_init_340 : decode cX12_init 340 = .ok (.aload_n 0, 1) := by decide +kernel
theorem dX12_init_341 : decode cX12_init 341 = .ok (.bipush 6, 2) := by decide +kernel
theorem dX12_init_343 : decode cX12_init 343 = .ok (.newarray .int, 2) := by decide +kernel
theorem dX12_init_345 : decode cX12_init 345 = .ok (.putfield 128, 3) := by decide +kernel
theorem dX12_init_348 : decode cX12_init 348 = .ok (.aload_n 0, 1) := by decide +kernel
theorem dX12_init_349 : decode cX12_init 349 = .ok (.sipush 5000, 3) := by decide +kernel
theorem dX12_init_352 : decode cX12_init 352 = .ok (.newarray .int, 2) := by decide +kernel
theorem dX12_init_354 : decode cX12_init 354 = .ok (.putfield 131, 3) := by decide +kernel
theorem dX12_init_357 : decode cX12_init 357 = .ok (.aload_n 0, 1) := by decide +kernel
theorem dX12_init_358 : decode cX12_init 358 = .ok (.sipush 5000, 3) := by decide +kernel
theorem dX12_init_361 : decode cX12_init 361 = .ok (.newarray .int, 2) := by decide +kernel
theorem dX12_init_363 : decode cX12_init 363 = .ok (.putfield 134, 3) := by decide +kernel
theorem dX12_init_366 : decode cX12_init 366 = .ok (.aload_n 0, 1) := by decide +kernel
theorem dX12_init_367 : decode cX12_init 367 = .ok (.ldc 137, 2) := by decide +kernel
theorem dX12_init_369 : decode cX12_init 369 = .ok (.newarray .int, 2) := by decide +kernel
theorem dX12_init_371 : decode cX12_init 371 = .ok (.putfield 138, 3) := by decide +kernel
theorem dX12_init_374 : decode cX12_init 374 = .ok (.aload_n 0, 1) := by decide +kernel
theorem dX12_init_375 : decode cX12_init 375 = .ok (.bipush 40, 2) := by decide +kernel
theorem dX12_init_377 : decode cX12_init 377 = .ok (.newarray .int, 2) := by decide +kernel
theorem dX12_init_379 : decode cX12_init 379 = .ok (.putfield 141, 3) := by decide +kernel
theorem dX12_init_382 : decode cX12_init 382 = .ok (.aload_n 0, 1) := by decide +kernel
theorem dX12_init_383 : decode cX12_init 383 = .ok (.bipush 41, 2) := by decide +kernel
theorem dX12_init_385 : decode cX12_init 385 = .ok (.newarray .int, 2) := by decide +kernel
theorem dX12_init_387 : decode cX12_init 387 = .ok (.putfield 144, 3) := by decide +kernel
theorem dX12_init_390 : decode cX12_init 390 = .ok (.aload_n 0, 1) := by decide +kernel
theorem dX12_init_391 : decode cX12_init 391 = .ok (.iconst 0, 1) := by decide +kernel
theorem dX12_init_392 : decode cX12_init 392 = .ok (.putfield 147, 3) := by decide +kernel
theorem dX12_init_395 : decode cX12_init 395 = .ok (.return_, 1) := by decide +kernel
theorem dX12_thrown_0 : decode cX12_thrown 0 = .ok (.aload_n 0, 1) := by decide +kernel
theorem dX12_thrown_1 : decode cX12_thrown 1 = .ok (.getfield 147, 3) := by decide +kernel
theorem dX12_thrown_4 : decode cX12_thrown 4 = .ok (.ireturn, 1) := by decide +kernel
theorem dX12_in_0 : decode cX12_in 0 = .ok (.iload_n 0, 1) := by decide +kernel
theorem dX12_in_1 : decode cX12_in 1 = .ok (.iload_n 1, 1) := by decide +kernel
theorem dX12_in_2 : decode cX12_in 2 = .ok (.if_icmp .lt 12, 3) := by decide +kernel
theorem dX12_in_5 : decode cX12_in 5 = .ok (.iload_n 0, 1) := by decide +kernel
theorem dX12_in_6 : decode cX12_in 6 = .ok (.iload_n 2, 1) := by decide +kernel
theorem dX12_in_7 : decode cX12_in 7 = .ok (.if_icmp .gt 7, 3) := by decide +kernel
theorem dX12_in_10 : decode cX12_in 10 = .ok (.iconst 1, 1) := by decide +kernel
theorem dX12_in_11 : decode cX12_in 11 = .ok (.goto 4, 3) := by decide +kernel
theorem dX12_in_14 : decode cX12_in 14 = .ok (.iconst 0, 1) := by decide +kernel
theorem dX12_in_15 : decode cX12_in 15 = .ok (.ireturn, 1) := by decide +kernel
theorem dX12_isFunction_0 : decode cX12_isFunction 0 = .ok (.iload_n 1, 1) := by decide +kernel
theorem dX12_isFunction_1 : decode cX12_isFunction 1 = .ok (.iconst 0, 1) := by decide +kernel
theorem dX12_isFunction_2 : decode cX12_isFunction 2 = .ok (.aload_n 0, 1) := by decide +kernel
theorem dX12_isFunction_3 : decode cX12_isFunction 3 = .ok (.getfield 151, 3) := by decide +kernel
theorem dX12_isFunction_6 : decode cX12_isFunction 6 = .ok (.iconst 1, 1) := by decide +kernel
theorem dX12_isFunction_7 : decode cX12_isFunction 7 = .ok (.isub, 1) := by decide +kernel
theorem dX12_isFunction_8 : decode cX12_isFunction 8 = .ok (.invokestatic 154, 3) := by decide +kernel
theorem dX12_isFunction_11 : decode cX12_isFunction 11 = .ok (.ireturn, 1) := by decide +kernel
theorem dX12_isNode_0 : decode cX12_isNode 0 = .ok (.iload_n 1, 1) := by decide +kernel
theorem dX12_isNode_1 : decode cX12_isNode 1 = .ok (.iconst 0, 1) := by decide +kernel
theorem dX12_isNode_2 : decode cX12_isNode 2 = .ok (.aload_n 0, 1) := by decide +kernel
theorem dX12_isNode_3 : decode cX12_isNode 3 = .ok (.getfield 158, 3) := by decide +kernel
theorem dX12_isNode_6 : decode cX12_isNode 6 = .ok (.iconst 1, 1) := by decide +kernel
theorem dX12_isNode_7 : decode cX12_isNode 7 = .ok (.isub, 1) := by decide +kernel
theorem dX12_isNode_8 : decode cX12_isNode 8 = .ok (.invokestatic 154, 3) := by decide +kernel
theorem dX12_isNode_11 : decode cX12_isNode 11 = .ok (.ireturn, 1) := by decide +kernel
theorem dX12_partsOf_0 : decode cX12_partsOf 0 = .ok (.iload_n 1, 1) := by decide +kernel
theorem dX12_partsOf_1 : decode cX12_partsOf 1 = .ok (.bipush 10, 2) := by decide +kernel
theorem dX12_partsOf_3 : decode cX12_partsOf 3 = .ok (.if_icmp .ge 5, 3) := by decide +kernel
theorem dX12_partsOf_6 : decode cX12_partsOf 6 = .ok (.iconst 0, 1) := by decide +kernel
theorem dX12_partsOf_7 : decode cX12_partsOf 7 = .ok (.ireturn, 1) := by decide +kernel
theorem dX12_partsOf_8 : decode cX12_partsOf 8 = .ok (.iload_n 1, 1) := by decide +kernel
theorem dX12_partsOf_9 : decode cX12_partsOf 9 = .ok (.bipush 20, 2) := by decide +kernel
theorem dX12_partsOf_11 : decode cX12_partsOf 11 = .ok (.if_icmp .ge 10, 3) := by decide +kernel
theorem dX12_partsOf_14 : decode cX12_partsOf 14 = .ok (.iload_n 1, 1) := by decide +kernel
theorem dX12_partsOf_15 : decode cX12_partsOf 15 = .ok (.bipush 10, 2) := by decide +kernel
theorem dX12_partsOf_17 : decode cX12_partsOf 17 = .ok (.isub, 1) := by decide +kernel
theorem dX12_partsOf_18 : decode cX12_partsOf 18 = .ok (.iconst 2, 1) := by decide +kernel
theorem dX12_partsOf_19 : decode cX12_partsOf 19 = .ok (.idiv, 1) := by decide +kernel
theorem dX12_partsOf_20 : decode cX12_partsOf 20 = .ok (.ireturn, 1) := by decide +kernel
theorem dX12_partsOf_21 : decode cX12_partsOf 21 = .ok (.iload_n 1, 1) := by decide +kernel
theorem dX12_partsOf_22 : decode cX12_partsOf 22 = .ok (.bipush 30, 2) := by decide +kernel
theorem dX12_partsOf_24 : decode cX12_partsOf 24 = .ok (.if_icmp .ge 15, 3) := by decide +kernel
theorem dX12_partsOf_27 : decode cX12_partsOf 27 = .ok (.aload_n 0, 1) := by decide +kernel
theorem dX12_partsOf_28 : decode cX12_partsOf 28 = .ok (.getfield 7, 3) := by decide +kernel
theorem dX12_partsOf_31 : decode cX12_partsOf 31 = .ok (.iload_n 1, 1) := by decide +kernel
theorem dX12_partsOf_32 : decode cX12_partsOf 32 = .ok (.bipush 20, 2) := by decide +kernel
theorem dX12_partsOf_34 : decode cX12_partsOf 34 = .ok (.isub, 1) := by decide +kernel
theorem dX12_partsOf_35 : decode cX12_partsOf 35 = .ok (.iaload, 1) := by decide +kernel
theorem dX12_partsOf_36 : decode cX12_partsOf 36 = .ok (.goto 14, 3) := by decide +kernel
theorem dX12_partsOf_39 : decode cX12_partsOf 39 = .ok (.iload_n 1, 1) := by decide +kernel
theorem dX12_partsOf_40 : decode cX12_partsOf 40 = .ok (.bipush 33, 2) := by decide +kernel
theorem dX12_partsOf_42 : decode cX12_partsOf 42 = .ok (.if_icmp .ne 7, 3) := by decide +kernel
theorem dX12_partsOf_45 : decode cX12_partsOf 45 = .ok (.iconst 1, 1) := by decide +kernel
theorem dX12_partsOf_46 : decode cX12_partsOf 46 = .ok (.goto 4, 3) := by decide +kernel
theorem dX12_partsOf_49 : decode cX12_partsOf 49 = .ok (.iconst 2, 1) := by decide +kernel
theorem dX12_partsOf_50 : decode cX12_partsOf 50 = .ok (.ireturn, 1) := by decide +kernel
theorem dX12_function_0 : decode cX12_function 0 = .ok (.aload_n 0, 1) := by decide +kernel
theorem dX12_function_1 : decode cX12_function 1 = .ok (.iload_n 1, 1) := by decide +kernel
theorem dX12_function_2 : decode cX12_function 2 = .ok (.iconst 0, 1) := by decide +kernel
theorem dX12_function_3 : decode cX12_function 3 = .ok (.iconst 2, 1) := by decide +kernel
theorem dX12_function_4 : decode cX12_function 4 = .ok (.invokestatic 154, 3) := by decide +kernel
theorem dX12_function_7 : decode cX12_function 7 = .ok (.ifCond .ne 7, 3) := by decide +kernel
theorem dX12_function_10 : decode cX12_function 10 = .ok (.iconst 1, 1) := by decide +kernel
theorem dX12_function_11 : decode cX12_function 11 = .ok (.goto 17, 3) := by decide +kernel
theorem dX12_function_14 : decode cX12_function 14 = .ok (.aload_n 0, 1) := by decide +kernel
theorem dX12_function_15 : decode cX12_function 15 = .ok (.getfield 151, 3) := by decide +kernel
theorem dX12_function_18 : decode cX12_function 18 = .ok (.bipush 8, 2) := by decide +kernel
theorem dX12_function_20 : decode cX12_function 20 = .ok (.if_icmp .ne 7, 3) := by decide +kernel
theorem dX12_function_23 : decode cX12_function 23 = .ok (.iconst 2, 1) := by decide +kernel
theorem dX12_function_24 : decode cX12_function 24 = .ok (.goto 4, 3) := by decide +kernel
theorem dX12_function_27 : decode cX12_function 27 = .ok (.iconst 0, 1) := by decide +kernel
theorem dX12_function_28 : decode cX12_function 28 = .ok (.putfield 147, 3) := by decide +kernel
theorem dX12_function_31 : decode cX12_function 31 = .ok (.aload_n 0, 1) := by decide +kernel
theorem dX12_function_32 : decode cX12_function 32 = .ok (.getfield 147, 3) := by decide +kernel
theorem dX12_function_35 : decode cX12_function 35 = .ok (.ifCond .le 5, 3) := by decide +kernel
theorem dX12_function_38 : decode cX12_function 38 = .ok (.iconst 0, 1) := by decide +kernel
theorem dX12_function_39 : decode cX12_function 39 = .ok (.ireturn, 1) := by decide +kernel
theorem dX12_function_40 : decode cX12_function 40 = .ok (.aload_n 0, 1) := by decide +kernel
theorem dX12_function_41 : decode cX12_function 41 = .ok (.getfield 7, 3) := by decide +kernel
theorem dX12_function_44 : decode cX12_function 44 = .ok (.aload_n 0, 1) := by decide +kernel
theorem dX12_function_45 : decode cX12_function 45 = .ok (.getfield 151, 3) := by decide +kernel
theorem dX12_function_48 : decode cX12_function 48 = .ok (.iload_n 1, 1) := by decide +kernel
theorem dX12_function_49 : decode cX12_function 49 = .ok (.iastore, 1) := by decide +kernel
theorem dX12_function_50 : decode cX12_function 50 = .ok (.aload_n 0, 1) := by decide +kernel
theorem dX12_function_51 : decode cX12_function 51 = .ok (.getfield 13, 3) := by decide +kernel
theorem dX12_function_54 : decode cX12_function 54 = .ok (.aload_n 0, 1) := by decide +kernel
theorem dX12_function_55 : decode cX12_function 55 = .ok (.getfield 151, 3) := by decide +kernel
theorem dX12_function_58 : decode cX12_function 58 = .ok (.iload_n 2, 1) := by decide +kernel
theorem dX12_function_59 : decode cX12_function 59 = .ok (.bastore, 1) := by decide +kernel
theorem dX12_function_60 : decode cX12_function 60 = .ok (.aload_n 0, 1) := by decide +kernel
theorem dX12_function_61 : decode cX12_function 61 = .ok (.dup, 1) := by decide +kernel
theorem dX12_function_62 : decode cX12_function 62 = .ok (.getfield 151, 3) := by decide +kernel
theorem dX12_function_65 : decode cX12_function 65 = .ok (.iconst 1, 1) := by decide +kernel
theorem dX12_function_66 : decode cX12_function 66 = .ok (.iadd, 1) := by decide +kernel
theorem dX12_function_67 : decode cX12_function 67 = .ok (.putfield 151, 3) := by decide +kernel
theorem dX12_function_70 : decode cX12_function 70 = .ok (.aload_n 0, 1) := by decide +kernel
theorem dX12_function_71 : decode cX12_function 71 = .ok (.getfield 151, 3) := by decide +kernel
theorem dX12_function_74 : decode cX12_function 74 = .ok (.iconst 1, 1) := by decide +kernel
theorem dX12_function_75 : decode cX12_function 75 = .ok (.isub, 1) := by decide +kernel
theorem dX12_function_76 : decode cX12_function 76 = .ok (.ireturn, 1) := by decide +kernel
theorem dX12_adds_0 : decode cX12_adds 0 = .ok (.bipush 12, 2) := by decide +kernel
theorem dX12_adds_2 : decode cX12_adds 2 = .ok (.aload_n 0, 1) := by decide +kernel
theorem dX12_adds_3 : decode cX12_adds 3 = .ok (.getfield 158, 3) := by decide +kernel
theorem dX12_adds_6 : decode cX12_adds 6 = .ok (.imul, 1) := by decide +kernel
theorem dX12_adds_7 : decode cX12_adds 7 = .ok (.aload_n 0, 1) := by decide +kernel
theorem dX12_adds_8 : decode cX12_adds 8 = .ok (.getfield 17, 3) := by decide +kernel
theorem dX12_adds_11 : decode cX12_adds 11 = .ok (.aload_n 0, 1) := by decide +kernel
theorem dX12_adds_12 : decode cX12_adds 12 = .ok (.getfield 158, 3) := by decide +kernel
theorem dX12_adds_15 : decode cX12_adds 15 = .ok (.iaload, 1) := by decide +kernel
theorem dX12_adds_16 : decode cX12_adds 16 = .ok (.iadd, 1) := by decide +kernel
theorem dX12_adds_17 : decode cX12_adds 17 = .ok (.istore_n 2, 1) := by decide +kernel
theorem dX12_adds_18 : decode cX12_adds 18 = .ok (.iconst 0, 1) := by decide +kernel
theorem dX12_adds_19 : decode cX12_adds 19 = .ok (.istore_n 3, 1) := by decide +kernel
theorem dX12_adds_20 : decode cX12_adds 20 = .ok (.iload_n 3, 1) := by decide +kernel
theorem dX12_adds_21 : decode cX12_adds 21 = .ok (.aload_n 0, 1) := by decide +kernel
theorem dX12_adds_22 : decode cX12_adds 22 = .ok (.getfield 17, 3) := by decide +kernel
theorem dX12_adds_25 : decode cX12_adds 25 = .ok (.iload_n 1, 1) := by decide +kernel
theorem dX12_adds_26 : decode cX12_adds 26 = .ok (.iaload, 1) := by decide +kernel
theorem dX12_adds_27 : decode cX12_adds 27 = .ok (.if_icmp .ge 28, 3) := by decide +kernel
theorem dX12_adds_30 : decode cX12_adds 30 = .ok (.aload_n 0, 1) := by decide +kernel
theorem dX12_adds_31 : decode cX12_adds 31 = .ok (.getfield 20, 3) := by decide +kernel
theorem dX12_adds_34 : decode cX12_adds 34 = .ok (.iload_n 2, 1) := by decide +kernel
theorem dX12_adds_35 : decode cX12_adds 35 = .ok (.iload_n 3, 1) := by decide +kernel
theorem dX12_adds_36 : decode cX12_adds 36 = .ok (.iadd, 1) := by decide +kernel
theorem dX12_adds_37 : decode cX12_adds 37 = .ok (.aload_n 0, 1) := by decide +kernel
theorem dX12_adds_38 : decode cX12_adds 38 = .ok (.getfield 20, 3) := by decide +kernel
theorem dX12_adds_41 : decode cX12_adds 41 = .ok (.bipush 12, 2) := by decide +kernel
theorem dX12_adds_43 : decode cX12_adds 43 = .ok (.iload_n 1, 1) := by decide +kernel
theorem dX12_adds_44 : decode cX12_adds 44 = .ok (.imul, 1) := by decide +kernel
theorem dX12_adds_45 : decode cX12_adds 45 = .ok (.iload_n 3, 1) := by decide +kernel
theorem dX12_adds_46 : decode cX12_adds 46 = .ok (.iadd, 1) := by decide +kernel
theorem dX12_adds_47 : decode cX12_adds 47 = .ok (.iaload, 1) := by decide +kernel
theorem dX12_adds_48 : decode cX12_adds 48 = .ok (.iastore, 1) := by decide +kernel
theorem dX12_adds_49 : decode cX12_adds 49 = .ok (.iinc 3 1, 3) := by decide +kernel
theorem dX12_adds_52 : decode cX12_adds 52 = .ok (.goto (-32), 3) := by decide +kernel
theorem dX12_adds_55 : decode cX12_adds 55 = .ok (.aload_n 0, 1) := by decide +kernel
theorem dX12_adds_56 : decode cX12_adds 56 = .ok (.getfield 17, 3) := by decide +kernel
theorem dX12_adds_59 : decode cX12_adds 59 = .ok (.aload_n 0, 1) := by decide +kernel
theorem dX12_adds_60 : decode cX12_adds 60 = .ok (.getfield 158, 3) := by decide +kernel
theorem dX12_adds_63 : decode cX12_adds 63 = .ok (.dup2, 1) := by decide +kernel
theorem dX12_adds_64 : decode cX12_adds 64 = .ok (.iaload, 1) := by decide +kernel
theorem dX12_adds_65 : decode cX12_adds 65 = .ok (.aload_n 0, 1) := by decide +kernel
theorem dX12_adds_66 : decode cX12_adds 66 = .ok (.getfield 17, 3) := by decide +kernel
theorem dX12_adds_69 : decode cX12_adds 69 = .ok (.iload_n 1, 1) := by decide +kernel
theorem dX12_adds_70 : decode cX12_adds 70 = .ok (.iaload, 1) := by decide +kernel
theorem dX12_adds_71 : decode cX12_adds 71 = .ok (.iadd, 1) := by decide +kernel
theorem dX12_adds_72 : decode cX12_adds 72 = .ok (.iastore, 1) := by decide +kernel
theorem dX12_adds_73 : decode cX12_adds 73 = .ok (.return_, 1) := by decide +kernel
theorem dX12_lay_0 : decode cX12_lay 0 = .ok (.aload_n 0, 1) := by decide +kernel
theorem dX12_lay_1 : decode cX12_lay 1 = .ok (.iload_n 1, 1) := by decide +kernel
theorem dX12_lay_2 : decode cX12_lay 2 = .ok (.invokevirtual 161, 3) := by decide +kernel
theorem dX12_lay_5 : decode cX12_lay 5 = .ok (.istore 5, 2) := by decide +kernel
theorem dX12_lay_7 : decode cX12_lay 7 = .ok (.iconst 1, 1) := by decide +kernel
theorem dX12_lay_8 : decode cX12_lay 8 = .ok (.iload 5, 2) := by decide +kernel
theorem dX12_lay_10 : decode cX12_lay 10 = .ok (.ifCond .le 12, 3) := by decide +kernel
theorem dX12_lay_13 : decode cX12_lay 13 = .ok (.aload_n 0, 1) := by decide +kernel
theorem dX12_lay_14 : decode cX12_lay 14 = .ok (.getfield 17, 3) := by decide +kernel
theorem dX12_lay_17 : decode cX12_lay 17 = .ok (.iload_n 2, 1) := by decide +kernel
theorem dX12_lay_18 : decode cX12_lay 18 = .ok (.iaload, 1) := by decide +kernel
theorem dX12_lay_19 : decode cX12_lay 19 = .ok (.goto 4, 3) := by decide +kernel
theorem dX12_lay_22 : decode cX12_lay 22 = .ok (.iconst 0, 1) := by decide +kernel
theorem dX12_lay_23 : decode cX12_lay 23 = .ok (.iadd, 1) := by decide +kernel
theorem dX12_lay_24 : decode cX12_lay 24 = .ok (.iload 5, 2) := by decide +kernel
theorem dX12_lay_26 : decode cX12_lay 26 = .ok (.iconst 1, 1) := by decide +kernel
theorem dX12_lay_27 : decode cX12_lay 27 = .ok (.if_icmp .le 12, 3) := by decide +kernel
theorem dX12_lay_30 : decode cX12_lay 30 = .ok (.aload_n 0, 1) := by decide +kernel
theorem dX12_lay_31 : decode cX12_lay 31 = .ok (.getfield 17, 3) := by decide +kernel
theorem dX12_lay_34 : decode cX12_lay 34 = .ok (.iload_n 3, 1) := by decide +kernel
theorem dX12_lay_35 : decode cX12_lay 35 = .ok (.iaload, 1) := by decide +kernel
theorem dX12_lay_36 : decode cX12_lay 36 = .ok (.goto 4, 3) := by decide +kernel
theorem dX12_lay_39 : decode cX12_lay 39 = .ok (.iconst 0, 1) := by decide +kernel
theorem dX12_lay_40 : decode cX12_lay 40 = .ok (.iadd, 1) := by decide +kernel
theorem dX12_lay_41 : decode cX12_lay 41 = .ok (.istore 6, 2) := by decide +kernel
theorem dX12_lay_43 : decode cX12_lay 43 = .ok (.aload_n 0, 1) := by decide +kernel
theorem dX12_lay_44 : decode cX12_lay 44 = .ok (.aload_n 0, 1) := by decide +kernel
theorem dX12_lay_45 : decode cX12_lay 45 = .ok (.getfield 158, 3) := by decide +kernel
theorem dX12_lay_48 : decode cX12_lay 48 = .ok (.bipush 80, 2) := by decide +kernel
theorem dX12_lay_50 : decode cX12_lay 50 = .ok (.if_icmp .eq 10, 3) := by decide +kernel
theorem dX12_lay_53 : decode cX12_lay 53 = .ok (.iload 6, 2) := by decide +kernel
theorem dX12_lay_55 : decode cX12_lay 55 = .ok (.bipush 12, 2) := by decide +kernel
theorem dX12_lay_57 : decode cX12_lay 57 = .ok (.if_icmp .le 8, 3) := by decide +kernel
theorem dX12_lay_60 : decode cX12_lay 60 = .ok (.iload 4, 2) := by decide +kernel
theorem dX12_lay_62 : decode cX12_lay 62 = .ok (.goto 4, 3) := by decide +kernel
theorem dX12_lay_65 : decode cX12_lay 65 = .ok (.iconst 0, 1) := by decide +kernel
theorem dX12_lay_66 : decode cX12_lay 66 = .ok (.putfield 147, 3) := by decide +kernel
theorem dX12_lay_69 : decode cX12_lay 69 = .ok (.aload_n 0, 1) := by decide +kernel
theorem dX12_lay_70 : decode cX12_lay 70 = .ok (.getfield 147, 3) := by decide +kernel
theorem dX12_lay_73 : decode cX12_lay 73 = .ok (.ifCond .le 5, 3) := by decide +kernel
theorem dX12_lay_76 : decode cX12_lay 76 = .ok (.iconst 0, 1) := by decide +kernel
theorem dX12_lay_77 : decode cX12_lay 77 = .ok (.ireturn, 1) := by decide +kernel
theorem dX12_lay_78 : decode cX12_lay 78 = .ok (.aload_n 0, 1) := by decide +kernel
theorem dX12_lay_79 : decode cX12_lay 79 = .ok (.getfield 20, 3) := by decide +kernel
theorem dX12_lay_82 : decode cX12_lay 82 = .ok (.bipush 12, 2) := by decide +kernel
theorem dX12_lay_84 : decode cX12_lay 84 = .ok (.aload_n 0, 1) := by decide +kernel
theorem dX12_lay_85 : decode cX12_lay 85 = .ok (.getfield 158, 3) := by decide +kernel
theorem dX12_lay_88 : decode cX12_lay 88 = .ok (.imul, 1) := by decide +kernel
theorem dX12_lay_89 : decode cX12_lay 89 = .ok (.iload_n 1, 1) := by decide +kernel
theorem dX12_lay_90 : decode cX12_lay 90 = .ok (.iastore, 1) := by decide +kernel
theorem dX12_lay_91 : decode cX12_lay 91 = .ok (.aload_n 0, 1) := by decide +kernel
theorem dX12_lay_92 : decode cX12_lay 92 = .ok (.getfield 17, 3) := by decide +kernel
theorem dX12_lay_95 : decode cX12_lay 95 = .ok (.aload_n 0, 1) := by decide +kernel
theorem dX12_lay_96 : decode cX12_lay 96 = .ok (.getfield 158, 3) := by decide +kernel
theorem dX12_lay_99 : decode cX12_lay 99 = .ok (.iconst 1, 1) := by decide +kernel
theorem dX12_lay_100 : decode cX12_lay 100 = .ok (.iastore, 1) := by decide +kernel
theorem dX12_lay_101 : decode cX12_lay 101 = .ok (.iload 5, 2) := by decide +kernel
theorem dX12_lay_103 : decode cX12_lay 103 = .ok (.ifCond .le 8, 3) := by decide +kernel
theorem dX12_lay_106 : decode cX12_lay 106 = .ok (.aload_n 0, 1) := by decide +kernel
theorem dX12_lay_107 : decode cX12_lay 107 = .ok (.iload_n 2, 1) := by decide +kernel
theorem dX12_lay_108 : decode cX12_lay 108 = .ok (.invokevirtual 165, 3) := by decide +kernel
theorem dX12_lay_111 : decode cX12_lay 111 = .ok (.iload 5, 2) := by decide +kernel
theorem dX12_lay_113 : decode cX12_lay 113 = .ok (.iconst 1, 1) := by decide +kernel
theorem dX12_lay_114 : decode cX12_lay 114 = .ok (.if_icmp .le 8, 3) := by decide +kernel
theorem dX12_lay_117 : decode cX12_lay 117 = .ok (.aload_n 0, 1) := by decide +kernel
theorem dX12_lay_118 : decode cX12_lay 118 = .ok (.iload_n 3, 1) := by decide +kernel
theorem dX12_lay_119 : decode cX12_lay 119 = .ok (.invokevirtual 165, 3) := by decide +kernel
theorem dX12_lay_122 : decode cX12_lay 122 = .ok (.aload_n 0, 1) := by decide +kernel
theorem dX12_lay_123 : decode cX12_lay 123 = .ok (.dup, 1) := by decide +kernel
theorem dX12_lay_124 : decode cX12_lay 124 = .ok (.getfield 158, 3) := by decide +kernel
theorem dX12_lay_127 : decode cX12_lay 127 = .ok (.iconst 1, 1) := by decide +kernel
theorem dX12_lay_128 : decode cX12_lay 128 = .ok (.iadd, 1) := by decide +kernel
theorem dX12_lay_129 : decode cX12_lay 129 = .ok (.putfield 158, 3) := by decide +kernel
theorem dX12_lay_132 : decode cX12_lay 132 = .ok (.aload_n 0, 1) := by decide +kernel
theorem dX12_lay_133 : decode cX12_lay 133 = .ok (.getfield 158, 3) := by decide +kernel
theorem dX12_lay_136 : decode cX12_lay 136 = .ok (.iconst 1, 1) := by decide +kernel
theorem dX12_lay_137 : decode cX12_lay 137 = .ok (.isub, 1) := by decide +kernel
theorem dX12_lay_138 : decode cX12_lay 138 = .ok (.ireturn, 1) := by decide +kernel
theorem dX12_areParts_0 : decode cX12_areParts 0 = .ok (.iload_n 1, 1) := by decide +kernel
theorem dX12_areParts_1 : decode cX12_areParts 1 = .ok (.iconst 1, 1) := by decide +kernel
theorem dX12_areParts_2 : decode cX12_areParts 2 = .ok (.if_icmp .lt 11, 3) := by decide +kernel
theorem dX12_areParts_5 : decode cX12_areParts 5 = .ok (.aload_n 0, 1) := by decide +kernel
theorem dX12_areParts_6 : decode cX12_areParts 6 = .ok (.iload_n 2, 1) := by decide +kernel
theorem dX12_areParts_7 : decode cX12_areParts 7 = .ok (.invokevirtual 169, 3) := by decide +kernel
theorem dX12_areParts_10 : decode cX12_areParts 10 = .ok (.ifCond .eq 20, 3) := by decide +kernel
theorem dX12_areParts_13 : decode cX12_areParts 13 = .ok (.iload_n 1, 1) := by decide +kernel
theorem dX12_areParts_14 : decode cX12_areParts 14 = .ok (.iconst 2, 1) := by decide +kernel
theorem dX12_areParts_15 : decode cX12_areParts 15 = .ok (.if_icmp .lt 11, 3) := by decide +kernel
theorem dX12_areParts_18 : decode cX12_areParts 18 = .ok (.aload_n 0, 1) := by decide +kernel
theorem dX12_areParts_19 : decode cX12_areParts 19 = .ok (.iload_n 3, 1) := by decide +kernel
theorem dX12_areParts_20 : decode cX12_areParts 20 = .ok (.invokevirtual 169, 3) := by decide +kernel
theorem dX12_areParts_23 : decode cX12_areParts 23 = .ok (.ifCond .eq 7, 3) := by decide +kernel
theorem dX12_areParts_26 : decode cX12_areParts 26 = .ok (.iconst 1, 1) := by decide +kernel
theorem dX12_areParts_27 : decode cX12_areParts 27 = .ok (.goto 4, 3) := by decide +kernel
theorem dX12_areParts_30 : decode cX12_areParts 30 = .ok (.iconst 0, 1) := by decide +kernel
theorem dX12_areParts_31 : decode cX12_areParts 31 = .ok (.ireturn, 1) := by decide +kernel
theorem dX12_name_0 : decode cX12_name 0 = .ok (.aload_n 0, 1) := by decide +kernel
theorem dX12_name_1 : decode cX12_name 1 = .ok (.iload_n 1, 1) := by decide +kernel
theorem dX12_name_2 : decode cX12_name 2 = .ok (.iconst 0, 1) := by decide +kernel
theorem dX12_name_3 : decode cX12_name 3 = .ok (.iconst 5, 1) := by decide +kernel
theorem dX12_name_4 : decode cX12_name 4 = .ok (.invokestatic 154, 3) := by decide +kernel
theorem dX12_name_7 : decode cX12_name 7 = .ok (.ifCond .eq 7, 3) := by decide +kernel
theorem dX12_name_10 : decode cX12_name 10 = .ok (.iconst 0, 1) := by decide +kernel
theorem dX12_name_11 : decode cX12_name 11 = .ok (.goto 4, 3) := by decide +kernel
theorem dX12_name_14 : decode cX12_name 14 = .ok (.iconst 1, 1) := by decide +kernel
theorem dX12_name_15 : decode cX12_name 15 = .ok (.putfield 147, 3) := by decide +kernel
theorem dX12_name_18 : decode cX12_name 18 = .ok (.aload_n 0, 1) := by decide +kernel
theorem dX12_name_19 : decode cX12_name 19 = .ok (.getfield 147, 3) := by decide +kernel
theorem dX12_name_22 : decode cX12_name 22 = .ok (.ifCond .ne 14, 3) := by decide +kernel
theorem dX12_name_25 : decode cX12_name 25 = .ok (.aload_n 0, 1) := by decide +kernel
theorem dX12_name_26 : decode cX12_name 26 = .ok (.iload_n 1, 1) := by decide +kernel
theorem dX12_name_27 : decode cX12_name 27 = .ok (.iconst 0, 1) := by decide +kernel
theorem dX12_name_28 : decode cX12_name 28 = .ok (.iconst 0, 1) := by decide +kernel
theorem dX12_name_29 : decode cX12_name 29 = .ok (.iconst 2, 1) := by decide +kernel
theorem dX12_name_30 : decode cX12_name 30 = .ok (.invokevirtual 173, 3) := by decide +kernel
theorem dX12_name_33 : decode cX12_name 33 = .ok (.goto 4, 3) := by decide +kernel
theorem dX12_name_36 : decode cX12_name 36 = .ok (.iconst 0, 1) := by decide +kernel
theorem dX12_name_37 : decode cX12_name 37 = .ok (.ireturn, 1) := by decide +kernel
theorem dX12_data_0 : decode cX12_data 0 = .ok (.iload_n 1, 1) := by decide +kernel
theorem dX12_data_1 : decode cX12_data 1 = .ok (.iconst 0, 1) := by decide +kernel
theorem dX12_data_2 : decode cX12_data 2 = .ok (.iconst 5, 1) := by decide +kernel
theorem dX12_data_3 : decode cX12_data 3 = .ok (.invokestatic 154, 3) := by decide +kernel
theorem dX12_data_6 : decode cX12_data 6 = .ok (.istore 4, 2) := by decide +kernel
theorem dX12_data_8 : decode cX12_data 8 = .ok (.aload_n 0, 1) := by decide +kernel
theorem dX12_data_9 : decode cX12_data 9 = .ok (.iload 4, 2) := by decide +kernel
theorem dX12_data_11 : decode cX12_data 11 = .ok (.ifCond .eq 19, 3) := by decide +kernel
theorem dX12_data_14 : decode cX12_data 14 = .ok (.aload_n 0, 1) := by decide +kernel
theorem dX12_data_15 : decode cX12_data 15 = .ok (.iload_n 1, 1) := by decide +kernel
theorem dX12_data_16 : decode cX12_data 16 = .ok (.iconst 2, 1) := by decide +kernel
theorem dX12_data_17 : decode cX12_data 17 = .ok (.idiv, 1) := by decide +kernel
theorem dX12_data_18 : decode cX12_data 18 = .ok (.iload_n 2, 1) := by decide +kernel
theorem dX12_data_19 : decode cX12_data 19 = .ok (.iload_n 3, 1) := by decide +kernel
theorem dX12_data_20 : decode cX12_data 20 = .ok (.invokevirtual 177, 3) := by decide +kernel
theorem dX12_data_23 : decode cX12_data 23 = .ok (.ifCond .ne 7, 3) := by decide +kernel
theorem dX12_data_26 : decode cX12_data 26 = .ok (.iconst 1, 1) := by decide +kernel
theorem dX12_data_27 : decode cX12_data 27 = .ok (.goto 13, 3) := by decide +kernel
theorem dX12_data_30 : decode cX12_data 30 = .ok (.iload 4, 2) := by decide +kernel
theorem dX12_data_32 : decode cX12_data 32 = .ok (.ifCond .ne 7, 3) := by decide +kernel
theorem dX12_data_35 : decode cX12_data 35 = .ok (.iconst 2, 1) := by decide +kernel
theorem dX12_data_36 : decode cX12_data 36 = .ok (.goto 4, 3) := by decide +kernel
theorem dX12_data_39 : decode cX12_data 39 = .ok (.iconst 0, 1) := by decide +kernel
theorem dX12_data_40 : decode cX12_data 40 = .ok (.putfield 147, 3) := by decide +kernel
theorem dX12_data_43 : decode cX12_data 43 = .ok (.aload_n 0, 1) := by decide +kernel
theorem dX12_data_44 : decode cX12_data 44 = .ok (.getfield 147, 3) := by decide +kernel
theorem dX12_data_47 : decode cX12_data 47 = .ok (.ifCond .ne 17, 3) := by decide +kernel
theorem dX12_data_50 : decode cX12_data 50 = .ok (.aload_n 0, 1) := by decide +kernel
theorem dX12_data_51 : decode cX12_data 51 = .ok (.bipush 10, 2) := by decide +kernel
theorem dX12_data_53 : decode cX12_data 53 = .ok (.iload_n 1, 1) := by decide +kernel
theorem dX12_data_54 : decode cX12_data 54 = .ok (.iadd, 1) := by decide +kernel
theorem dX12_data_55 : decode cX12_data 55 = .ok (.iload_n 2, 1) := by decide +kernel
theorem dX12_data_56 : decode cX12_data 56 = .ok (.iload_n 3, 1) := by decide +kernel
theorem dX12_data_57 : decode cX12_data 57 = .ok (.iconst 3, 1) := by decide +kernel
theorem dX12_data_58 : decode cX12_data 58 = .ok (.invokevirtual 173, 3) := by decide +kernel
theorem dX12_data_61 : decode cX12_data 61 = .ok (.goto 4, 3) := by decide +kernel
theorem dX12_data_64 : decode cX12_data 64 = .ok (.iconst 0, 1) := by decide +kernel
theorem dX12_data_65 : decode cX12_data 65 = .ok (.ireturn, 1) := by decide +kernel
theorem dX12_call_0 : decode cX12_call 0 = .ok (.aload_n 0, 1) := by decide +kernel
theorem dX12_call_1 : decode cX12_call 1 = .ok (.aload_n 0, 1) := by decide +kernel
theorem dX12_call_2 : decode cX12_call 2 = .ok (.iload_n 1, 1) := by decide +kernel
theorem dX12_call_3 : decode cX12_call 3 = .ok (.invokevirtual 180, 3) := by decide +kernel
theorem dX12_call_6 : decode cX12_call 6 = .ok (.ifCond .eq 22, 3) := by decide +kernel
theorem dX12_call_9 : decode cX12_call 9 = .ok (.aload_n 0, 1) := by decide +kernel
theorem dX12_call_10 : decode cX12_call 10 = .ok (.aload_n 0, 1) := by decide +kernel
theorem dX12_call_11 : decode cX12_call 11 = .ok (.getfield 7, 3) := by decide +kernel
theorem dX12_call_14 : decode cX12_call 14 = .ok (.iload_n 1, 1) := by decide +kernel
theorem dX12_call_15 : decode cX12_call 15 = .ok (.iaload, 1) := by decide +kernel
theorem dX12_call_16 : decode cX12_call 16 = .ok (.iload_n 2, 1) := by decide +kernel
theorem dX12_call_17 : decode cX12_call 17 = .ok (.iload_n 3, 1) := by decide +kernel
theorem dX12_call_18 : decode cX12_call 18 = .ok (.invokevirtual 177, 3) := by decide +kernel
theorem dX12_call_21 : decode cX12_call 21 = .ok (.ifCond .eq 7, 3) := by decide +kernel
theorem dX12_call_24 : decode cX12_call 24 = .ok (.iconst 0, 1) := by decide +kernel
theorem dX12_call_25 : decode cX12_call 25 = .ok (.goto 4, 3) := by decide +kernel
theorem dX12_call_28 : decode cX12_call 28 = .ok (.iconst 1, 1) := by decide +kernel
theorem dX12_call_29 : decode cX12_call 29 = .ok (.putfield 147, 3) := by decide +kernel
theorem dX12_call_32 : decode cX12_call 32 = .ok (.aload_n 0, 1) := by decide +kernel
theorem dX12_call_33 : decode cX12_call 33 = .ok (.getfield 147, 3) := by decide +kernel
theorem dX12_call_36 : decode cX12_call 36 = .ok (.ifCond .ne 17, 3) := by decide +kernel
theorem dX12_call_39 : decode cX12_call 39 = .ok (.aload_n 0, 1) := by decide +kernel
theorem dX12_call_40 : decode cX12_call 40 = .ok (.bipush 20, 2) := by decide +kernel
theorem dX12_call_42 : decode cX12_call 42 = .ok (.iload_n 1, 1) := by decide +kernel
theorem dX12_call_43 : decode cX12_call 43 = .ok (.iadd, 1) := by decide +kernel
theorem dX12_call_44 : decode cX12_call 44 = .ok (.iload_n 2, 1) := by decide +kernel
theorem dX12_call_45 : decode cX12_call 45 = .ok (.iload_n 3, 1) := by decide +kernel
theorem dX12_call_46 : decode cX12_call 46 = .ok (.iconst 2, 1) := by decide +kernel
theorem dX12_call_47 : decode cX12_call 47 = .ok (.invokevirtual 173, 3) := by decide +kernel
theorem dX12_call_50 : decode cX12_call 50 = .ok (.goto 4, 3) := by decide +kernel
theorem dX12_call_53 : decode cX12_call 53 = .ok (.iconst 0, 1) := by decide +kernel
theorem dX12_call_54 : decode cX12_call 54 = .ok (.ireturn, 1) := by decide +kernel
theorem dX12_layTwo_0 : decode cX12_layTwo 0 = .ok (.aload_n 0, 1) := by decide +kernel
theorem dX12_layTwo_1 : decode cX12_layTwo 1 = .ok (.aload_n 0, 1) := by decide +kernel
theorem dX12_layTwo_2 : decode cX12_layTwo 2 = .ok (.iload_n 2, 1) := by decide +kernel
theorem dX12_layTwo_3 : decode cX12_layTwo 3 = .ok (.invokevirtual 169, 3) := by decide +kernel
theorem dX12_layTwo_6 : decode cX12_layTwo 6 = .ok (.ifCond .eq 15, 3) := by decide +kernel
theorem dX12_layTwo_9 : decode cX12_layTwo 9 = .ok (.aload_n 0, 1) := by decide +kernel
theorem dX12_layTwo_10 : decode cX12_layTwo 10 = .ok (.iload_n 3, 1) := by decide +kernel
theorem dX12_layTwo_11 : decode cX12_layTwo 11 = .ok (.invokevirtual 169, 3) := by decide +kernel
theorem dX12_layTwo_14 : decode cX12_layTwo 14 = .ok (.ifCond .eq 7, 3) := by decide +kernel
theorem dX12_layTwo_17 : decode cX12_layTwo 17 = .ok (.iconst 0, 1) := by decide +kernel
theorem dX12_layTwo_18 : decode cX12_layTwo 18 = .ok (.goto 4, 3) := by decide +kernel
theorem dX12_layTwo_21 : decode cX12_layTwo 21 = .ok (.iconst 1, 1) := by decide +kernel
theorem dX12_layTwo_22 : decode cX12_layTwo 22 = .ok (.putfield 147, 3) := by decide +kernel
theorem dX12_layTwo_25 : decode cX12_layTwo 25 = .ok (.aload_n 0, 1) := by decide +kernel
theorem dX12_layTwo_26 : decode cX12_layTwo 26 = .ok (.getfield 147, 3) := by decide +kernel
theorem dX12_layTwo_29 : decode cX12_layTwo 29 = .ok (.ifCond .ne 14, 3) := by decide +kernel
theorem dX12_layTwo_32 : decode cX12_layTwo 32 = .ok (.aload_n 0, 1) := by decide +kernel
theorem dX12_layTwo_33 : decode cX12_layTwo 33 = .ok (.iload_n 1, 1) := by decide +kernel
theorem dX12_layTwo_34 : decode cX12_layTwo 34 = .ok (.iload_n 2, 1) := by decide +kernel
theorem dX12_layTwo_35 : decode cX12_layTwo 35 = .ok (.iload_n 3, 1) := by decide +kernel
theorem dX12_layTwo_36 : decode cX12_layTwo 36 = .ok (.iconst 2, 1) := by decide +kernel
theorem dX12_layTwo_37 : decode cX12_layTwo 37 = .ok (.invokevirtual 173, 3) := by decide +kernel
theorem dX12_layTwo_40 : decode cX12_layTwo 40 = .ok (.goto 4, 3) := by decide +kernel
theorem dX12_layTwo_43 : decode cX12_layTwo 43 = .ok (.iconst 0, 1) := by decide +kernel
theorem dX12_layTwo_44 : decode cX12_layTwo 44 = .ok (.ireturn, 1) := by decide +kernel
theorem dX12_either_0 : decode cX12_either 0 = .ok (.aload_n 0, 1) := by decide +kernel
theorem dX12_either_1 : decode cX12_either 1 = .ok (.bipush 30, 2) := by decide +kernel
theorem dX12_either_3 : decode cX12_either 3 = .ok (.iload_n 1, 1) := by decide +kernel
theorem dX12_either_4 : decode cX12_either 4 = .ok (.iload_n 2, 1) := by decide +kernel
theorem dX12_either_5 : decode cX12_either 5 = .ok (.invokevirtual 183, 3) := by decide +kernel
theorem dX12_either_8 : decode cX12_either 8 = .ok (.ireturn, 1) := by decide +kernel
theorem dX12_same_0 : decode cX12_same 0 = .ok (.aload_n 0, 1) := by decide +kernel
theorem dX12_same_1 : decode cX12_same 1 = .ok (.bipush 31, 2) := by decide +kernel
theorem dX12_same_3 : decode cX12_same 3 = .ok (.iload_n 1, 1) := by decide +kernel
theorem dX12_same_4 : decode cX12_same 4 = .ok (.iload_n 2, 1) := by decide +kernel
theorem dX12_same_5 : decode cX12_same 5 = .ok (.invokevirtual 183, 3) := by decide +kernel
theorem dX12_same_8 : decode cX12_same 8 = .ok (.ireturn, 1) := by decide +kernel
theorem dX12_unlike_0 : decode cX12_unlike 0 = .ok (.aload_n 0, 1) := by decide +kernel
theorem dX12_unlike_1 : decode cX12_unlike 1 = .ok (.bipush 32, 2) := by decide +kernel
theorem dX12_unlike_3 : decode cX12_unlike 3 = .ok (.iload_n 1, 1) := by decide +kernel
theorem dX12_unlike_4 : decode cX12_unlike 4 = .ok (.iload_n 2, 1) := by decide +kernel
theorem dX12_unlike_5 : decode cX12_unlike 5 = .ok (.invokevirtual 183, 3) := by decide +kernel
theorem dX12_unlike_8 : decode cX12_unlike 8 = .ok (.ireturn, 1) := by decide +kernel
theorem dX12_some_0 : decode cX12_some 0 = .ok (.aload_n 0, 1) := by decide +kernel
theorem dX12_some_1 : decode cX12_some 1 = .ok (.bipush 33, 2) := by decide +kernel
theorem dX12_some_3 : decode cX12_some 3 = .ok (.iload_n 1, 1) := by decide +kernel
theorem dX12_some_4 : decode cX12_some 4 = .ok (.iload_n 1, 1) := by decide +kernel
theorem dX12_some_5 : decode cX12_some 5 = .ok (.invokevirtual 183, 3) := by decide +kernel
theorem dX12_some_8 : decode cX12_some 8 = .ok (.ireturn, 1) := by decide +kernel
theorem dX12_drop_0 : decode cX12_drop 0 = .ok (.aload_n 0, 1) := by decide +kernel
theorem dX12_drop_1 : decode cX12_drop 1 = .ok (.iconst 0, 1) := by decide +kernel
theorem dX12_drop_2 : decode cX12_drop 2 = .ok (.putfield 147, 3) := by decide +kernel
theorem dX12_drop_5 : decode cX12_drop 5 = .ok (.aload_n 0, 1) := by decide +kernel
theorem dX12_drop_6 : decode cX12_drop 6 = .ok (.getfield 158, 3) := by decide +kernel
theorem dX12_drop_9 : decode cX12_drop 9 = .ok (.istore_n 1, 1) := by decide +kernel
theorem dX12_drop_10 : decode cX12_drop 10 = .ok (.aload_n 0, 1) := by decide +kernel
theorem dX12_drop_11 : decode cX12_drop 11 = .ok (.iconst 0, 1) := by decide +kernel
theorem dX12_drop_12 : decode cX12_drop 12 = .ok (.putfield 158, 3) := by decide +kernel
theorem dX12_drop_15 : decode cX12_drop 15 = .ok (.iload_n 1, 1) := by decide +kernel
theorem dX12_drop_16 : decode cX12_drop 16 = .ok (.ireturn, 1) := by decide +kernel
theorem dX12_patternNames_0 : decode cX12_patternNames 0 = .ok (.iload_n 2, 1) := by decide +kernel
theorem dX12_patternNames_1 : decode cX12_patternNames 1 = .ok (.istore_n 3, 1) := by decide +kernel
theorem dX12_patternNames_2 : decode cX12_patternNames 2 = .ok (.iload_n 2, 1) := by decide +kernel
theorem dX12_patternNames_3 : decode cX12_patternNames 3 = .ok (.iconst (-1), 1) := by decide +kernel
theorem dX12_patternNames_4 : decode cX12_patternNames 4 = .ok (.if_icmp .eq 7, 3) := by decide +kernel
theorem dX12_patternNames_7 : decode cX12_patternNames 7 = .ok (.iconst 1, 1) := by decide +kernel
theorem dX12_patternNames_8 : decode cX12_patternNames 8 = .ok (.goto 4, 3) := by decide +kernel
theorem dX12_patternNames_11 : decode cX12_patternNames 11 = .ok (.iconst 0, 1) := by decide +kernel
theorem dX12_patternNames_12 : decode cX12_patternNames 12 = .ok (.istore 4, 2) := by decide +kernel
theorem dX12_patternNames_14 : decode cX12_patternNames 14 = .ok (.iconst 0, 1) := by decide +kernel
theorem dX12_patternNames_15 : decode cX12_patternNames 15 = .ok (.istore 5, 2) := by decide +kernel
theorem dX12_patternNames_17 : decode cX12_patternNames 17 = .ok (.iload 5, 2) := by decide +kernel
theorem dX12_patternNames_19 : decode cX12_patternNames 19 = .ok (.aload_n 0, 1) := by decide +kernel
theorem dX12_patternNames_20 : decode cX12_patternNames 20 = .ok (.getfield 17, 3) := by decide +kernel
theorem dX12_patternNames_23 : decode cX12_patternNames 23 = .ok (.iload_n 1, 1) := by decide +kernel
theorem dX12_patternNames_24 : decode cX12_patternNames 24 = .ok (.iaload, 1) := by decide +kernel
theorem dX12_patternNames_25 : decode cX12_patternNames 25 = .ok (.if_icmp .ge 76, 3) := by decide +kernel
theorem dX12_patternNames_28 : decode cX12_patternNames 28 = .ok (.iload 4, 2) := by decide +kernel
theorem dX12_patternNames_30 : decode cX12_patternNames 30 = .ok (.ifCond .eq 71, 3) := by decide +kernel
theorem dX12_patternNames_33 : decode cX12_patternNames 33 = .ok (.aload_n 0, 1) := by decide +kernel
theorem dX12_patternNames_34 : decode cX12_patternNames 34 = .ok (.getfield 20, 3) := by decide +kernel
theorem dX12_patternNames_37 : decode cX12_patternNames 37 = .ok (.bipush 12, 2) := by decide +kernel
theorem dX12_patternNames_39 : decode cX12_patternNames 39 = .ok (.iload_n 1, 1) := by decide +kernel
theorem dX12_patternNames_40 : decode cX12_patternNames 40 = .ok (.imul, 1) := by decide +kernel
theorem dX12_patternNames_41 : decode cX12_patternNames 41 = .ok (.iload 5, 2) := by decide +kernel
theorem dX12_patternNames_43 : decode cX12_patternNames 43 = .ok (.iadd, 1) := by decide +kernel
theorem dX12_patternNames_44 : decode cX12_patternNames 44 = .ok (.iaload, 1) := by decide +kernel
theorem dX12_patternNames_45 : decode cX12_patternNames 45 = .ok (.istore 6, 2) := by decide +kernel
theorem dX12_patternNames_47 : decode cX12_patternNames 47 = .ok (.iload 6, 2) := by decide +kernel
theorem dX12_patternNames_49 : decode cX12_patternNames 49 = .ok (.bipush 20, 2) := by decide +kernel
theorem dX12_patternNames_51 : decode cX12_patternNames 51 = .ok (.if_icmp .ge 23, 3) := by decide +kernel
theorem dX12_patternNames_54 : decode cX12_patternNames 54 = .ok (.iload 6, 2) := by decide +kernel
theorem dX12_patternNames_56 : decode cX12_patternNames 56 = .ok (.bipush 10, 2) := by decide +kernel
theorem dX12_patternNames_58 : decode cX12_patternNames 58 = .ok (.if_icmp .ge 12, 3) := by decide +kernel
theorem dX12_patternNames_61 : decode cX12_patternNames 61 = .ok (.iload_n 3, 1) := by decide +kernel
theorem dX12_patternNames_62 : decode cX12_patternNames 62 = .ok (.iload 6, 2) := by decide +kernel
theorem dX12_patternNames_64 : decode cX12_patternNames 64 = .ok (.ishr, 1) := by decide +kernel
theorem dX12_patternNames_65 : decode cX12_patternNames 65 = .ok (.iconst 1, 1) := by decide +kernel
theorem dX12_patternNames_66 : decode cX12_patternNames 66 = .ok (.iand, 1) := by decide +kernel
theorem dX12_patternNames_67 : decode cX12_patternNames 67 = .ok (.ifCond .ne 7, 3) := by decide +kernel
theorem dX12_patternNames_70 : decode cX12_patternNames 70 = .ok (.iconst 1, 1) := by decide +kernel
theorem dX12_patternNames_71 : decode cX12_patternNames 71 = .ok (.goto 4, 3) := by decide +kernel
theorem dX12_patternNames_74 : decode cX12_patternNames 74 = .ok (.iconst 0, 1) := by decide +kernel
theorem dX12_patternNames_75 : decode cX12_patternNames 75 = .ok (.istore 4, 2) := by decide +kernel
theorem dX12_patternNames_77 : decode cX12_patternNames 77 = .ok (.iload_n 3, 1) := by decide +kernel
theorem dX12_patternNames_78 : decode cX12_patternNames 78 = .ok (.iload 6, 2) := by decide +kernel
theorem dX12_patternNames_80 : decode cX12_patternNames 80 = .ok (.bipush 10, 2) := by decide +kernel
theorem dX12_patternNames_82 : decode cX12_patternNames 82 = .ok (.if_icmp .ge 10, 3) := by decide +kernel
theorem dX12_patternNames_85 : decode cX12_patternNames 85 = .ok (.iconst 1, 1) := by decide +kernel
theorem dX12_patternNames_86 : decode cX12_patternNames 86 = .ok (.iload 6, 2) := by decide +kernel
theorem dX12_patternNames_88 : decode cX12_patternNames 88 = .ok (.ishl, 1) := by decide +kernel
theorem dX12_patternNames_89 : decode cX12_patternNames 89 = .ok (.goto 4, 3) := by decide +kernel
theorem dX12_patternNames_92 : decode cX12_patternNames 92 = .ok (.iconst 0, 1) := by decide +kernel
theorem dX12_patternNames_93 : decode cX12_patternNames 93 = .ok (.ior, 1) := by decide +kernel
theorem dX12_patternNames_94 : decode cX12_patternNames 94 = .ok (.istore_n 3, 1) := by decide +kernel
theorem dX12_patternNames_95 : decode cX12_patternNames 95 = .ok (.iinc 5 1, 3) := by decide +kernel
theorem dX12_patternNames_98 : decode cX12_patternNames 98 = .ok (.goto (-81), 3) := by decide +kernel
theorem dX12_patternNames_101 : decode cX12_patternNames 101 = .ok (.iload 4, 2) := by decide +kernel
theorem dX12_patternNames_103 : decode cX12_patternNames 103 = .ok (.ifCond .eq 7, 3) := by decide +kernel
theorem dX12_patternNames_106 : decode cX12_patternNames 106 = .ok (.iload_n 3, 1) := by decide +kernel
theorem dX12_patternNames_107 : decode cX12_patternNames 107 = .ok (.goto 4, 3) := by decide +kernel
theorem dX12_patternNames_110 : decode cX12_patternNames 110 = .ok (.iconst (-1), 1) := by decide +kernel
theorem dX12_patternNames_111 : decode cX12_patternNames 111 = .ok (.ireturn, 1) := by decide +kernel
theorem dX12_copies_0 : decode cX12_copies 0 = .ok (.iconst 0, 1) := by decide +kernel
theorem dX12_copies_1 : decode cX12_copies 1 = .ok (.istore_n 3, 1) := by decide +kernel
theorem dX12_copies_2 : decode cX12_copies 2 = .ok (.iload_n 3, 1) := by decide +kernel
theorem dX12_copies_3 : decode cX12_copies 3 = .ok (.aload_n 0, 1) := by decide +kernel
theorem dX12_copies_4 : decode cX12_copies 4 = .ok (.getfield 17, 3) := by decide +kernel
theorem dX12_copies_7 : decode cX12_copies 7 = .ok (.iload_n 1, 1) := by decide +kernel
theorem dX12_copies_8 : decode cX12_copies 8 = .ok (.iaload, 1) := by decide +kernel
theorem dX12_copies_9 : decode cX12_copies 9 = .ok (.if_icmp .ge 28, 3) := by decide +kernel
theorem dX12_copies_12 : decode cX12_copies 12 = .ok (.aload_n 0, 1) := by decide +kernel
theorem dX12_copies_13 : decode cX12_copies 13 = .ok (.getfield 32, 3) := by decide +kernel
theorem dX12_copies_16 : decode cX12_copies 16 = .ok (.iload_n 2, 1) := by decide +kernel
theorem dX12_copies_17 : decode cX12_copies 17 = .ok (.iload_n 3, 1) := by decide +kernel
theorem dX12_copies_18 : decode cX12_copies 18 = .ok (.iadd, 1) := by decide +kernel
theorem dX12_copies_19 : decode cX12_copies 19 = .ok (.aload_n 0, 1) := by decide +kernel
theorem dX12_copies_20 : decode cX12_copies 20 = .ok (.getfield 20, 3) := by decide +kernel
theorem dX12_copies_23 : decode cX12_copies 23 = .ok (.bipush 12, 2) := by decide +kernel
theorem dX12_copies_25 : decode cX12_copies 25 = .ok (.iload_n 1, 1) := by decide +kernel
theorem dX12_copies_26 : decode cX12_copies 26 = .ok (.imul, 1) := by decide +kernel
theorem dX12_copies_27 : decode cX12_copies 27 = .ok (.iload_n 3, 1) := by decide +kernel
theorem dX12_copies_28 : decode cX12_copies 28 = .ok (.iadd, 1) := by decide +kernel
theorem dX12_copies_29 : decode cX12_copies 29 = .ok (.iaload, 1) := by decide +kernel
theorem dX12_copies_30 : decode cX12_copies 30 = .ok (.iastore, 1) := by decide +kernel
theorem dX12_copies_31 : decode cX12_copies 31 = .ok (.iinc 3 1, 3) := by decide +kernel
theorem dX12_copies_34 : decode cX12_copies 34 = .ok (.goto (-32), 3) := by decide +kernel
theorem dX12_copies_37 : decode cX12_copies 37 = .ok (.return_, 1) := by decide +kernel
theorem dX12_rule_0 : decode cX12_rule 0 = .ok (.aload_n 0, 1) := by decide +kernel
theorem dX12_rule_1 : decode cX12_rule 1 = .ok (.aload_n 0, 1) := by decide +kernel
theorem dX12_rule_2 : decode cX12_rule 2 = .ok (.iload_n 1, 1) := by decide +kernel
theorem dX12_rule_3 : decode cX12_rule 3 = .ok (.invokevirtual 180, 3) := by decide +kernel
theorem dX12_rule_6 : decode cX12_rule 6 = .ok (.ifCond .eq 27, 3) := by decide +kernel
theorem dX12_rule_9 : decode cX12_rule 9 = .ok (.aload_n 0, 1) := by decide +kernel
theorem dX12_rule_10 : decode cX12_rule 10 = .ok (.aload_n 0, 1) := by decide +kernel
theorem dX12_rule_11 : decode cX12_rule 11 = .ok (.getfield 7, 3) := by decide +kernel
theorem dX12_rule_14 : decode cX12_rule 14 = .ok (.iload_n 1, 1) := by decide +kernel
theorem dX12_rule_15 : decode cX12_rule 15 = .ok (.iaload, 1) := by decide +kernel
theorem dX12_rule_16 : decode cX12_rule 16 = .ok (.iload_n 2, 1) := by decide +kernel
theorem dX12_rule_17 : decode cX12_rule 17 = .ok (.iload_n 3, 1) := by decide +kernel
theorem dX12_rule_18 : decode cX12_rule 18 = .ok (.invokevirtual 177, 3) := by decide +kernel
theorem dX12_rule_21 : decode cX12_rule 21 = .ok (.ifCond .eq 12, 3) := by decide +kernel
theorem dX12_rule_24 : decode cX12_rule 24 = .ok (.aload_n 0, 1) := by decide +kernel
theorem dX12_rule_25 : decode cX12_rule 25 = .ok (.iload 4, 2) := by decide +kernel
theorem dX12_rule_27 : decode cX12_rule 27 = .ok (.invokevirtual 169, 3) := by decide +kernel
theorem dX12_rule_30 : decode cX12_rule 30 = .ok (.ifCond .ne 7, 3) := by decide +kernel
theorem dX12_rule_33 : decode cX12_rule 33 = .ok (.iconst 1, 1) := by decide +kernel
theorem dX12_rule_34 : decode cX12_rule 34 = .ok (.goto 4, 3) := by decide +kernel
theorem dX12_rule_37 : decode cX12_rule 37 = .ok (.iconst 0, 1) := by decide +kernel
theorem dX12_rule_38 : decode cX12_rule 38 = .ok (.putfield 147, 3) := by decide +kernel
theorem dX12_rule_41 : decode cX12_rule 41 = .ok (.aload_n 0, 1) := by decide +kernel
theorem dX12_rule_42 : decode cX12_rule 42 = .ok (.getfield 147, 3) := by decide +kernel
theorem dX12_rule_45 : decode cX12_rule 45 = .ok (.ifCond .le 5, 3) := by decide +kernel
theorem dX12_rule_48 : decode cX12_rule 48 = .ok (.iconst 0, 1) := by decide +kernel
theorem dX12_rule_49 : decode cX12_rule 49 = .ok (.ireturn, 1) := by decide +kernel
theorem dX12_rule_50 : decode cX12_rule 50 = .ok (.aload_n 0, 1) := by decide +kernel
theorem dX12_rule_51 : decode cX12_rule 51 = .ok (.getfield 7, 3) := by decide +kernel
theorem dX12_rule_54 : decode cX12_rule 54 = .ok (.iload_n 1, 1) := by decide +kernel
theorem dX12_rule_55 : decode cX12_rule 55 = .ok (.iaload, 1) := by decide +kernel
theorem dX12_rule_56 : decode cX12_rule 56 = .ok (.istore 5, 2) := by decide +kernel
theorem dX12_rule_58 : decode cX12_rule 58 = .ok (.iload 5, 2) := by decide +kernel
theorem dX12_rule_60 : decode cX12_rule 60 = .ok (.ifCond .le 12, 3) := by decide +kernel
theorem dX12_rule_63 : decode cX12_rule 63 = .ok (.aload_n 0, 1) := by decide +kernel
theorem dX12_rule_64 : decode cX12_rule 64 = .ok (.iload_n 2, 1) := by decide +kernel
theorem dX12_rule_65 : decode cX12_rule 65 = .ok (.iconst 0, 1) := by decide +kernel
theorem dX12_rule_66 : decode cX12_rule 66 = .ok (.invokevirtual 187, 3) := by decide +kernel
theorem dX12_rule_69 : decode cX12_rule 69 = .ok (.goto 4, 3) := by decide +kernel
theorem dX12_rule_72 : decode cX12_rule 72 = .ok (.iconst 0, 1) := by decide +kernel
theorem dX12_rule_73 : decode cX12_rule 73 = .ok (.istore 6, 2) := by decide +kernel
theorem dX12_rule_75 : decode cX12_rule 75 = .ok (.iload 5, 2) := by decide +kernel
theorem dX12_rule_77 : decode cX12_rule 77 = .ok (.iconst 1, 1) := by decide +kernel
theorem dX12_rule_78 : decode cX12_rule 78 = .ok (.if_icmp .le 13, 3) := by decide +kernel
theorem dX12_rule_81 : decode cX12_rule 81 = .ok (.aload_n 0, 1) := by decide +kernel
theorem dX12_rule_82 : decode cX12_rule 82 = .ok (.iload_n 3, 1) := by decide +kernel
theorem dX12_rule_83 : decode cX12_rule 83 = .ok (.iload 6, 2) := by decide +kernel
theorem dX12_rule_85 : decode cX12_rule 85 = .ok (.invokevirtual 187, 3) := by decide +kernel
theorem dX12_rule_88 : decode cX12_rule 88 = .ok (.goto 5, 3) := by decide +kernel
theorem dX12_rule_91 : decode cX12_rule 91 = .ok (.iload 6, 2) := by decide +kernel
theorem dX12_rule_93 : decode cX12_rule 93 = .ok (.istore 6, 2) := by decide +kernel
theorem dX12_rule_95 : decode cX12_rule 95 = .ok (.aload_n 0, 1) := by decide +kernel
theorem dX12_rule_96 : decode cX12_rule 96 = .ok (.iload 6, 2) := by decide +kernel
theorem dX12_rule_98 : decode cX12_rule 98 = .ok (.iconst (-1), 1) := by decide +kernel
theorem dX12_rule_99 : decode cX12_rule 99 = .ok (.if_icmp .ne 7, 3) := by decide +kernel
theorem dX12_rule_102 : decode cX12_rule 102 = .ok (.iconst 2, 1) := by decide +kernel
theorem dX12_rule_103 : decode cX12_rule 103 = .ok (.goto 17, 3) := by decide +kernel
theorem dX12_rule_106 : decode cX12_rule 106 = .ok (.aload_n 0, 1) := by decide +kernel
theorem dX12_rule_107 : decode cX12_rule 107 = .ok (.getfield 191, 3) := by decide +kernel
theorem dX12_rule_110 : decode cX12_rule 110 = .ok (.bipush 24, 2) := by decide +kernel
theorem dX12_rule_112 : decode cX12_rule 112 = .ok (.if_icmp .ne 7, 3) := by decide +kernel
theorem dX12_rule_115 : decode cX12_rule 115 = .ok (.iconst 3, 1) := by decide +kernel
theorem dX12_rule_116 : decode cX12_rule 116 = .ok (.goto 4, 3) := by decide +kernel
theorem dX12_rule_119 : decode cX12_rule 119 = .ok (.iconst 0, 1) := by decide +kernel
theorem dX12_rule_120 : decode cX12_rule 120 = .ok (.putfield 147, 3) := by decide +kernel
theorem dX12_rule_123 : decode cX12_rule 123 = .ok (.aload_n 0, 1) := by decide +kernel
theorem dX12_rule_124 : decode cX12_rule 124 = .ok (.getfield 147, 3) := by decide +kernel
theorem dX12_rule_127 : decode cX12_rule 127 = .ok (.ifCond .le 5, 3) := by decide +kernel
theorem dX12_rule_130 : decode cX12_rule 130 = .ok (.iconst 0, 1) := by decide +kernel
theorem dX12_rule_131 : decode cX12_rule 131 = .ok (.ireturn, 1) := by decide +kernel
theorem dX12_rule_132 : decode cX12_rule 132 = .ok (.iconst 0, 1) := by decide +kernel
theorem dX12_rule_133 : decode cX12_rule 133 = .ok (.istore 7, 2) := by decide +kernel
theorem dX12_rule_135 : decode cX12_rule 135 = .ok (.aload_n 0, 1) := by decide +kernel
theorem dX12_rule_136 : decode cX12_rule 136 = .ok (.getfield 29, 3) := by decide +kernel
theorem dX12_rule_139 : decode cX12_rule 139 = .ok (.iload 7, 2) := by decide +kernel
theorem dX12_rule_141 : decode cX12_rule 141 = .ok (.baload, 1) := by decide +kernel
theorem dX12_rule_142 : decode cX12_rule 142 = .ok (.ifCond .eq 9, 3) := by decide +kernel
theorem dX12_rule_145 : decode cX12_rule 145 = .ok (.iinc 7 1, 3) := by decide +kernel
theorem dX12_rule_148 : decode cX12_rule 148 = .ok (.goto (-13), 3) := by decide +kernel
theorem dX12_rule_151 : decode cX12_rule 151 = .ok (.aload_n 0, 1) := by decide +kernel
theorem dX12_rule_152 : decode cX12_rule 152 = .ok (.getfield 29, 3) := by decide +kernel
theorem dX12_rule_155 : decode cX12_rule 155 = .ok (.iload 7, 2) := by decide +kernel
theorem dX12_rule_157 : decode cX12_rule 157 = .ok (.iconst 1, 1) := by decide +kernel
theorem dX12_rule_158 : decode cX12_rule 158 = .ok (.bastore, 1) := by decide +kernel
theorem dX12_rule_159 : decode cX12_rule 159 = .ok (.iload 5, 2) := by decide +kernel
theorem dX12_rule_161 : decode cX12_rule 161 = .ok (.ifCond .le 14, 3) := by decide +kernel
theorem dX12_rule_164 : decode cX12_rule 164 = .ok (.aload_n 0, 1) := by decide +kernel
theorem dX12_rule_165 : decode cX12_rule 165 = .ok (.iload_n 2, 1) := by decide +kernel
theorem dX12_rule_166 : decode cX12_rule 166 = .ok (.iload 7, 2) := by decide +kernel
theorem dX12_rule_168 : decode cX12_rule 168 = .ok (.iconst 0, 1) := by decide +kernel
theorem dX12_rule_169 : decode cX12_rule 169 = .ok (.invokestatic 194, 3) := by decide +kernel
theorem dX12_rule_172 : decode cX12_rule 172 = .ok (.invokevirtual 197, 3) := by decide +kernel
theorem dX12_rule_175 : decode cX12_rule 175 = .ok (.iload 5, 2) := by decide +kernel
theorem dX12_rule_177 : decode cX12_rule 177 = .ok (.iconst 1, 1) := by decide +kernel
theorem dX12_rule_178 : decode cX12_rule 178 = .ok (.if_icmp .le 14, 3) := by decide +kernel
theorem dX12_rule_181 : decode cX12_rule 181 = .ok (.aload_n 0, 1) := by decide +kernel
theorem dX12_rule_182 : decode cX12_rule 182 = .ok (.iload_n 3, 1) := by decide +kernel
theorem dX12_rule_183 : decode cX12_rule 183 = .ok (.iload 7, 2) := by decide +kernel
theorem dX12_rule_185 : decode cX12_rule 185 = .ok (.iconst 1, 1) := by decide +kernel
theorem dX12_rule_186 : decode cX12_rule 186 = .ok (.invokestatic 194, 3) := by decide +kernel
theorem dX12_rule_189 : decode cX12_rule 189 = .ok (.invokevirtual 197, 3) := by decide +kernel
theorem dX12_rule_192 : decode cX12_rule 192 = .ok (.aload_n 0, 1) := by decide +kernel
theorem dX12_rule_193 : decode cX12_rule 193 = .ok (.iload 4, 2) := by decide +kernel
theorem dX12_rule_195 : decode cX12_rule 195 = .ok (.iload 7, 2) := by decide +kernel
theorem dX12_rule_197 : decode cX12_rule 197 = .ok (.iconst 2, 1) := by decide +kernel
theorem dX12_rule_198 : decode cX12_rule 198 = .ok (.invokestatic 194, 3) := by decide +kernel
theorem dX12_rule_201 : decode cX12_rule 201 = .ok (.invokevirtual 197, 3) := by decide +kernel
theorem dX12_rule_204 : decode cX12_rule 204 = .ok (.aload_n 0, 1) := by decide +kernel
theorem dX12_rule_205 : decode cX12_rule 205 = .ok (.getfield 26, 3) := by decide +kernel
theorem dX12_rule_208 : decode cX12_rule 208 = .ok (.bipush 24, 2) := by decide +kernel
theorem dX12_rule_210 : decode cX12_rule 210 = .ok (.iload_n 1, 1) := by decide +kernel
theorem dX12_rule_211 : decode cX12_rule 211 = .ok (.imul, 1) := by decide +kernel
theorem dX12_rule_212 : decode cX12_rule 212 = .ok (.aload_n 0, 1) := by decide +kernel
theorem dX12_rule_213 : decode cX12_rule 213 = .ok (.getfield 23, 3) := by decide +kernel
theorem dX12_rule_216 : decode cX12_rule 216 = .ok (.iload_n 1, 1) := by decide +kernel
theorem dX12_rule_217 : decode cX12_rule 217 = .ok (.iaload, 1) := by decide +kernel
theorem dX12_rule_218 : decode cX12_rule 218 = .ok (.iadd, 1) := by decide +kernel
theorem dX12_rule_219 : decode cX12_rule 219 = .ok (.iload 7, 2) := by decide +kernel
theorem dX12_rule_221 : decode cX12_rule 221 = .ok (.iastore, 1) := by decide +kernel
theorem dX12_rule_222 : decode cX12_rule 222 = .ok (.aload_n 0, 1) := by decide +kernel
theorem dX12_rule_223 : decode cX12_rule 223 = .ok (.getfield 23, 3) := by decide +kernel
theorem dX12_rule_226 : decode cX12_rule 226 = .ok (.iload_n 1, 1) := by decide +kernel
theorem dX12_rule_227 : decode cX12_rule 227 = .ok (.dup2, 1) := by decide +kernel
theorem dX12_rule_228 : decode cX12_rule 228 = .ok (.iaload, 1) := by decide +kernel
theorem dX12_rule_229 : decode cX12_rule 229 = .ok (.iconst 1, 1) := by decide +kernel
theorem dX12_rule_230 : decode cX12_rule 230 = .ok (.iadd, 1) := by decide +kernel
theorem dX12_rule_231 : decode cX12_rule 231 = .ok (.iastore, 1) := by decide +kernel
theorem dX12_rule_232 : decode cX12_rule 232 = .ok (.aload_n 0, 1) := by decide +kernel
theorem dX12_rule_233 : decode cX12_rule 233 = .ok (.dup, 1) := by decide +kernel
theorem dX12_rule_234 : decode cX12_rule 234 = .ok (.getfield 191, 3) := by decide +kernel
theorem dX12_rule_237 : decode cX12_rule 237 = .ok (.iconst 1, 1) := by decide +kernel
theorem dX12_rule_238 : decode cX12_rule 238 = .ok (.iadd, 1) := by decide +kernel
theorem dX12_rule_239 : decode cX12_rule 239 = .ok (.putfield 191, 3) := by decide +kernel
theorem dX12_rule_242 : decode cX12_rule 242 = .ok (.aload_n 0, 1) := by decide +kernel
theorem dX12_rule_243 : decode cX12_rule 243 = .ok (.getfield 23, 3) := by decide +kernel
theorem dX12_rule_246 : decode cX12_rule 246 = .ok (.iload_n 1, 1) := by decide +kernel
theorem dX12_rule_247 : decode cX12_rule 247 = .ok (.iaload, 1) := by decide +kernel
theorem dX12_rule_248 : decode cX12_rule 248 = .ok (.iconst 1, 1) := by decide +kernel
theorem dX12_rule_249 : decode cX12_rule 249 = .ok (.isub, 1) := by decide +kernel
theorem dX12_rule_250 : decode cX12_rule 250 = .ok (.ireturn, 1) := by decide +kernel
theorem dX12_patternAt_0 : decode cX12_patternAt 0 = .ok (.bipush 12, 2) := by decide +kernel
theorem dX12_patternAt_2 : decode cX12_patternAt 2 = .ok (.bipush 36, 2) := by decide +kernel
theorem dX12_patternAt_4 : decode cX12_patternAt 4 = .ok (.iload_n 0, 1) := by decide +kernel
theorem dX12_patternAt_5 : decode cX12_patternAt 5 = .ok (.imul, 1) := by decide +kernel
theorem dX12_patternAt_6 : decode cX12_patternAt 6 = .ok (.iadd, 1) := by decide +kernel
theorem dX12_patternAt_7 : decode cX12_patternAt 7 = .ok (.bipush 12, 2) := by decide +kernel
theorem dX12_patternAt_9 : decode cX12_patternAt 9 = .ok (.iload_n 1, 1) := by decide +kernel
theorem dX12_patternAt_10 : decode cX12_patternAt 10 = .ok (.imul, 1) := by decide +kernel
theorem dX12_patternAt_11 : decode cX12_patternAt 11 = .ok (.iadd, 1) := by decide +kernel
theorem dX12_patternAt_12 : decode cX12_patternAt 12 = .ok (.ireturn, 1) := by decide +kernel
theorem dX12_unrule_0 : decode cX12_unrule 0 = .ok (.aload_n 0, 1) := by decide +kernel
theorem dX12_unrule_1 : decode cX12_unrule 1 = .ok (.aload_n 0, 1) := by decide +kernel
theorem dX12_unrule_2 : decode cX12_unrule 2 = .ok (.iload_n 1, 1) := by decide +kernel
theorem dX12_unrule_3 : decode cX12_unrule 3 = .ok (.invokevirtual 180, 3) := by decide +kernel
theorem dX12_unrule_6 : decode cX12_unrule 6 = .ok (.ifCond .ne 7, 3) := by decide +kernel
theorem dX12_unrule_9 : decode cX12_unrule 9 = .ok (.iconst 1, 1) := by decide +kernel
theorem dX12_unrule_10 : decode cX12_unrule 10 = .ok (.goto 17, 3) := by decide +kernel
theorem dX12_unrule_13 : decode cX12_unrule 13 = .ok (.aload_n 0, 1) := by decide +kernel
theorem dX12_unrule_14 : decode cX12_unrule 14 = .ok (.getfield 23, 3) := by decide +kernel
theorem dX12_unrule_17 : decode cX12_unrule 17 = .ok (.iload_n 1, 1) := by decide +kernel
theorem dX12_unrule_18 : decode cX12_unrule 18 = .ok (.iaload, 1) := by decide +kernel
theorem dX12_unrule_19 : decode cX12_unrule 19 = .ok (.ifCond .ne 7, 3) := by decide +kernel
theorem dX12_unrule_22 : decode cX12_unrule 22 = .ok (.iconst 2, 1) := by decide +kernel
theorem dX12_unrule_23 : decode cX12_unrule 23 = .ok (.goto 4, 3) := by decide +kernel
theorem dX12_unrule_26 : decode cX12_unrule 26 = .ok (.iconst 0, 1) := by decide +kernel
theorem dX12_unrule_27 : decode cX12_unrule 27 = .ok (.putfield 147, 3) := by decide +kernel
theorem dX12_unrule_30 : decode cX12_unrule 30 = .ok (.aload_n 0, 1) := by decide +kernel
theorem dX12_unrule_31 : decode cX12_unrule 31 = .ok (.getfield 147, 3) := by decide +kernel
theorem dX12_unrule_34 : decode cX12_unrule 34 = .ok (.ifCond .le 5, 3) := by decide +kernel
theorem dX12_unrule_37 : decode cX12_unrule 37 = .ok (.iconst 0, 1) := by decide +kernel
theorem dX12_unrule_38 : decode cX12_unrule 38 = .ok (.ireturn, 1) := by decide +kernel
theorem dX12_unrule_39 : decode cX12_unrule 39 = .ok (.aload_n 0, 1) := by decide +kernel
theorem dX12_unrule_40 : decode cX12_unrule 40 = .ok (.getfield 23, 3) := by decide +kernel
theorem dX12_unrule_43 : decode cX12_unrule 43 = .ok (.iload_n 1, 1) := by decide +kernel
theorem dX12_unrule_44 : decode cX12_unrule 44 = .ok (.dup2, 1) := by decide +kernel
theorem dX12_unrule_45 : decode cX12_unrule 45 = .ok (.iaload, 1) := by decide +kernel
theorem dX12_unrule_46 : decode cX12_unrule 46 = .ok (.iconst 1, 1) := by decide +kernel
theorem dX12_unrule_47 : decode cX12_unrule 47 = .ok (.isub, 1) := by decide +kernel
theorem dX12_unrule_48 : decode cX12_unrule 48 = .ok (.iastore, 1) := by decide +kernel
theorem dX12_unrule_49 : decode cX12_unrule 49 = .ok (.aload_n 0, 1) := by decide +kernel
theorem dX12_unrule_50 : decode cX12_unrule 50 = .ok (.getfield 29, 3) := by decide +kernel
theorem dX12_unrule_53 : decode cX12_unrule 53 = .ok (.aload_n 0, 1) := by decide +kernel
theorem dX12_unrule_54 : decode cX12_unrule 54 = .ok (.getfield 26, 3) := by decide +kernel
theorem dX12_unrule_57 : decode cX12_unrule 57 = .ok (.bipush 24, 2) := by decide +kernel
theorem dX12_unrule_59 : decode cX12_unrule 59 = .ok (.iload_n 1, 1) := by decide +kernel
theorem dX12_unrule_60 : decode cX12_unrule 60 = .ok (.imul, 1) := by decide +kernel
theorem dX12_unrule_61 : decode cX12_unrule 61 = .ok (.aload_n 0, 1) := by decide +kernel
theorem dX12_unrule_62 : decode cX12_unrule 62 = .ok (.getfield 23, 3) := by decide +kernel
theorem dX12_unrule_65 : decode cX12_unrule 65 = .ok (.iload_n 1, 1) := by decide +kernel
theorem dX12_unrule_66 : decode cX12_unrule 66 = .ok (.iaload, 1) := by decide +kernel
theorem dX12_unrule_67 : decode cX12_unrule 67 = .ok (.iadd, 1) := by decide +kernel
theorem dX12_unrule_68 : decode cX12_unrule 68 = .ok (.iaload, 1) := by decide +kernel
theorem dX12_unrule_69 : decode cX12_unrule 69 = .ok (.iconst 0, 1) := by decide +kernel
theorem dX12_unrule_70 : decode cX12_unrule 70 = .ok (.bastore, 1) := by decide +kernel
theorem dX12_unrule_71 : decode cX12_unrule 71 = .ok (.aload_n 0, 1) := by decide +kernel
theorem dX12_unrule_72 : decode cX12_unrule 72 = .ok (.dup, 1) := by decide +kernel
theorem dX12_unrule_73 : decode cX12_unrule 73 = .ok (.getfield 191, 3) := by decide +kernel
theorem dX12_unrule_76 : decode cX12_unrule 76 = .ok (.iconst 1, 1) := by decide +kernel
theorem dX12_unrule_77 : decode cX12_unrule 77 = .ok (.isub, 1) := by decide +kernel
theorem dX12_unrule_78 : decode cX12_unrule 78 = .ok (.putfield 191, 3) := by decide +kernel
theorem dX12_unrule_81 : decode cX12_unrule 81 = .ok (.aload_n 0, 1) := by decide +kernel
theorem dX12_unrule_82 : decode cX12_unrule 82 = .ok (.getfield 23, 3) := by decide +kernel
theorem dX12_unrule_85 : decode cX12_unrule 85 = .ok (.iload_n 1, 1) := by decide +kernel
theorem dX12_unrule_86 : decode cX12_unrule 86 = .ok (.iaload, 1) := by decide +kernel
theorem dX12_unrule_87 : decode cX12_unrule 87 = .ok (.ireturn, 1) := by decide +kernel
theorem dX12_endOf_0 : decode cX12_endOf 0 = .ok (.iconst 1, 1) := by decide +kernel
theorem dX12_endOf_1 : decode cX12_endOf 1 = .ok (.istore_n 2, 1) := by decide +kernel
theorem dX12_endOf_2 : decode cX12_endOf 2 = .ok (.iload_n 1, 1) := by decide +kernel
theorem dX12_endOf_3 : decode cX12_endOf 3 = .ok (.istore_n 3, 1) := by decide +kernel
theorem dX12_endOf_4 : decode cX12_endOf 4 = .ok (.iload_n 2, 1) := by decide +kernel
theorem dX12_endOf_5 : decode cX12_endOf 5 = .ok (.ifCond .le 24, 3) := by decide +kernel
theorem dX12_endOf_8 : decode cX12_endOf 8 = .ok (.iload_n 2, 1) := by decide +kernel
theorem dX12_endOf_9 : decode cX12_endOf 9 = .ok (.aload_n 0, 1) := by decide +kernel
theorem dX12_endOf_10 : decode cX12_endOf 10 = .ok (.aload_n 0, 1) := by decide +kernel
theorem dX12_endOf_11 : decode cX12_endOf 11 = .ok (.getfield 32, 3) := by decide +kernel
theorem dX12_endOf_14 : decode cX12_endOf 14 = .ok (.iload_n 3, 1) := by decide +kernel
theorem dX12_endOf_15 : decode cX12_endOf 15 = .ok (.iaload, 1) := by decide +kernel
theorem dX12_endOf_16 : decode cX12_endOf 16 = .ok (.invokevirtual 161, 3) := by decide +kernel
theorem dX12_endOf_19 : decode cX12_endOf 19 = .ok (.iconst 1, 1) := by decide +kernel
theorem dX12_endOf_20 : decode cX12_endOf 20 = .ok (.isub, 1) := by decide +kernel
theorem dX12_endOf_21 : decode cX12_endOf 21 = .ok (.iadd, 1) := by decide +kernel
theorem dX12_endOf_22 : decode cX12_endOf 22 = .ok (.istore_n 2, 1) := by decide +kernel
theorem dX12_endOf_23 : decode cX12_endOf 23 = .ok (.iinc 3 1, 3) := by decide +kernel
theorem dX12_endOf_26 : decode cX12_endOf 26 = .ok (.goto (-22), 3) := by decide +kernel
theorem dX12_endOf_29 : decode cX12_endOf 29 = .ok (.iload_n 3, 1) := by decide +kernel
theorem dX12_endOf_30 : decode cX12_endOf 30 = .ok (.ireturn, 1) := by decide +kernel
theorem dX12_canMeet_0 : decode cX12_canMeet 0 = .ok (.iload_n 1, 1) := by decide +kernel
theorem dX12_canMeet_1 : decode cX12_canMeet 1 = .ok (.istore_n 3, 1) := by decide +kernel
theorem dX12_canMeet_2 : decode cX12_canMeet 2 = .ok (.iload_n 2, 1) := by decide +kernel
theorem dX12_canMeet_3 : decode cX12_canMeet 3 = .ok (.istore 4, 2) := by decide +kernel
theorem dX12_canMeet_5 : decode cX12_canMeet 5 = .ok (.aload_n 0, 1) := by decide +kernel
theorem dX12_canMeet_6 : decode cX12_canMeet 6 = .ok (.iload_n 1, 1) := by decide +kernel
theorem dX12_canMeet_7 : decode cX12_canMeet 7 = .ok (.invokevirtual 201, 3) := by decide +kernel
theorem dX12_canMeet_10 : decode cX12_canMeet 10 = .ok (.istore 5, 2) := by decide +kernel
theorem dX12_canMeet_12 : decode cX12_canMeet 12 = .ok (.iload_n 3, 1) := by decide +kernel
theorem dX12_canMeet_13 : decode cX12_canMeet 13 = .ok (.iload 5, 2) := by decide +kernel
theorem dX12_canMeet_15 : decode cX12_canMeet 15 = .ok (.if_icmp .ge 70, 3) := by decide +kernel
theorem dX12_canMeet_18 : decode cX12_canMeet 18 = .ok (.aload_n 0, 1) := by decide +kernel
theorem dX12_canMeet_19 : decode cX12_canMeet 19 = .ok (.getfield 32, 3) := by decide +kernel
theorem dX12_canMeet_22 : decode cX12_canMeet 22 = .ok (.iload_n 3, 1) := by decide +kernel
theorem dX12_canMeet_23 : decode cX12_canMeet 23 = .ok (.iaload, 1) := by decide +kernel
theorem dX12_canMeet_24 : decode cX12_canMeet 24 = .ok (.bipush 10, 2) := by decide +kernel
theorem dX12_canMeet_26 : decode cX12_canMeet 26 = .ok (.if_icmp .lt 15, 3) := by decide +kernel
theorem dX12_canMeet_29 : decode cX12_canMeet 29 = .ok (.aload_n 0, 1) := by decide +kernel
theorem dX12_canMeet_30 : decode cX12_canMeet 30 = .ok (.getfield 32, 3) := by decide +kernel
theorem dX12_canMeet_33 : decode cX12_canMeet 33 = .ok (.iload 4, 2) := by decide +kernel
theorem dX12_canMeet_35 : decode cX12_canMeet 35 = .ok (.iaload, 1) := by decide +kernel
theorem dX12_canMeet_36 : decode cX12_canMeet 36 = .ok (.bipush 10, 2) := by decide +kernel
theorem dX12_canMeet_38 : decode cX12_canMeet 38 = .ok (.if_icmp .ge 20, 3) := by decide +kernel
theorem dX12_canMeet_41 : decode cX12_canMeet 41 = .ok (.aload_n 0, 1) := by decide +kernel
theorem dX12_canMeet_42 : decode cX12_canMeet 42 = .ok (.iload_n 3, 1) := by decide +kernel
theorem dX12_canMeet_43 : decode cX12_canMeet 43 = .ok (.invokevirtual 201, 3) := by decide +kernel
theorem dX12_canMeet_46 : decode cX12_canMeet 46 = .ok (.istore_n 3, 1) := by decide +kernel
theorem dX12_canMeet_47 : decode cX12_canMeet 47 = .ok (.aload_n 0, 1) := by decide +kernel
theorem dX12_canMeet_48 : decode cX12_canMeet 48 = .ok (.iload 4, 2) := by decide +kernel
theorem dX12_canMeet_50 : decode cX12_canMeet 50 = .ok (.invokevirtual 201, 3) := by decide +kernel
theorem dX12_canMeet_53 : decode cX12_canMeet 53 = .ok (.istore 4, 2) := by decide +kernel
theorem dX12_canMeet_55 : decode cX12_canMeet 55 = .ok (.goto (-43), 3) := by decide +kernel
theorem dX12_canMeet_58 : decode cX12_canMeet 58 = .ok (.aload_n 0, 1) := by decide +kernel
theorem dX12_canMeet_59 : decode cX12_canMeet 59 = .ok (.getfield 32, 3) := by decide +kernel
theorem dX12_canMeet_62 : decode cX12_canMeet 62 = .ok (.iload_n 3, 1) := by decide +kernel
theorem dX12_canMeet_63 : decode cX12_canMeet 63 = .ok (.iaload, 1) := by decide +kernel
theorem dX12_canMeet_64 : decode cX12_canMeet 64 = .ok (.aload_n 0, 1) := by decide +kernel
theorem dX12_canMeet_65 : decode cX12_canMeet 65 = .ok (.getfield 32, 3) := by decide +kernel
theorem dX12_canMeet_68 : decode cX12_canMeet 68 = .ok (.iload 4, 2) := by decide +kernel
theorem dX12_canMeet_70 : decode cX12_canMeet 70 = .ok (.iaload, 1) := by decide +kernel
theorem dX12_canMeet_71 : decode cX12_canMeet 71 = .ok (.if_icmp .eq 5, 3) := by decide +kernel
theorem dX12_canMeet_74 : decode cX12_canMeet 74 = .ok (.iconst 0, 1) := by decide +kernel
theorem dX12_canMeet_75 : decode cX12_canMeet 75 = .ok (.ireturn, 1) := by decide +kernel
theorem dX12_canMeet_76 : decode cX12_canMeet 76 = .ok (.iinc 3 1, 3) := by decide +kernel
theorem dX12_canMeet_79 : decode cX12_canMeet 79 = .ok (.iinc 4 1, 3) := by decide +kernel
theorem dX12_canMeet_82 : decode cX12_canMeet 82 = .ok (.goto (-70), 3) := by decide +kernel
theorem dX12_canMeet_85 : decode cX12_canMeet 85 = .ok (.iconst 1, 1) := by decide +kernel
theorem dX12_canMeet_86 : decode cX12_canMeet 86 = .ok (.ireturn, 1) := by decide +kernel
theorem dX12_doRulesMeet_0 : decode cX12_doRulesMeet 0 = .ok (.iconst 1, 1) := by decide +kernel
theorem dX12_doRulesMeet_1 : decode cX12_doRulesMeet 1 = .ok (.istore 4, 2) := by decide +kernel
theorem dX12_doRulesMeet_3 : decode cX12_doRulesMeet 3 = .ok (.iconst 0, 1) := by decide +kernel
theorem dX12_doRulesMeet_4 : decode cX12_doRulesMeet 4 = .ok (.istore 5, 2) := by decide +kernel
theorem dX12_doRulesMeet_6 : decode cX12_doRulesMeet 6 = .ok (.iload 5, 2) := by decide +kernel
theorem dX12_doRulesMeet_8 : decode cX12_doRulesMeet 8 = .ok (.aload_n 0, 1) := by decide +kernel
theorem dX12_doRulesMeet_9 : decode cX12_doRulesMeet 9 = .ok (.getfield 7, 3) := by decide +kernel
theorem dX12_doRulesMeet_12 : decode cX12_doRulesMeet 12 = .ok (.iload_n 1, 1) := by decide +kernel
theorem dX12_doRulesMeet_13 : decode cX12_doRulesMeet 13 = .ok (.iaload, 1) := by decide +kernel
theorem dX12_doRulesMeet_14 : decode cX12_doRulesMeet 14 = .ok (.if_icmp .ge 40, 3) := by decide +kernel
theorem dX12_doRulesMeet_17 : decode cX12_doRulesMeet 17 = .ok (.iload 4, 2) := by decide +kernel
theorem dX12_doRulesMeet_19 : decode cX12_doRulesMeet 19 = .ok (.ifCond .eq 26, 3) := by decide +kernel
theorem dX12_doRulesMeet_22 : decode cX12_doRulesMeet 22 = .ok (.aload_n 0, 1) := by decide +kernel
theorem dX12_doRulesMeet_23 : decode cX12_doRulesMeet 23 = .ok (.iload_n 2, 1) := by decide +kernel
theorem dX12_doRulesMeet_24 : decode cX12_doRulesMeet 24 = .ok (.iload 5, 2) := by decide +kernel
theorem dX12_doRulesMeet_26 : decode cX12_doRulesMeet 26 = .ok (.invokestatic 194, 3) := by decide +kernel
theorem dX12_doRulesMeet_29 : decode cX12_doRulesMeet 29 = .ok (.iload_n 3, 1) := by decide +kernel
theorem dX12_doRulesMeet_30 : decode cX12_doRulesMeet 30 = .ok (.iload 5, 2) := by decide +kernel
theorem dX12_doRulesMeet_32 : decode cX12_doRulesMeet 32 = .ok (.invokestatic 194, 3) := by decide +kernel
theorem dX12_doRulesMeet_35 : decode cX12_doRulesMeet 35 = .ok (.invokevirtual 204, 3) := by decide +kernel
theorem dX12_doRulesMeet_38 : decode cX12_doRulesMeet 38 = .ok (.ifCond .eq 7, 3) := by decide +kernel
theorem dX12_doRulesMeet_41 : decode cX12_doRulesMeet 41 = .ok (.iconst 1, 1) := by decide +kernel
theorem dX12_doRulesMeet_42 : decode cX12_doRulesMeet 42 = .ok (.goto 4, 3) := by decide +kernel
theorem dX12_doRulesMeet_45 : decode cX12_doRulesMeet 45 = .ok (.iconst 0, 1) := by decide +kernel
theorem dX12_doRulesMeet_46 : decode cX12_doRulesMeet 46 = .ok (.istore 4, 2) := by decide +kernel
theorem dX12_doRulesMeet_48 : decode cX12_doRulesMeet 48 = .ok (.iinc 5 1, 3) := by decide +kernel
theorem dX12_doRulesMeet_51 : decode cX12_doRulesMeet 51 = .ok (.goto (-45), 3) := by decide +kernel
theorem dX12_doRulesMeet_54 : decode cX12_doRulesMeet 54 = .ok (.iload 4, 2) := by decide +kernel
theorem dX12_doRulesMeet_56 : decode cX12_doRulesMeet 56 = .ok (.ireturn, 1) := by decide +kernel
theorem dX12_namesAt_0 : decode cX12_namesAt 0 = .ok (.iconst 0, 1) := by decide +kernel
theorem dX12_namesAt_1 : decode cX12_namesAt 1 = .ok (.istore_n 2, 1) := by decide +kernel
theorem dX12_namesAt_2 : decode cX12_namesAt 2 = .ok (.aload_n 0, 1) := by decide +kernel
theorem dX12_namesAt_3 : decode cX12_namesAt 3 = .ok (.iload_n 1, 1) := by decide +kernel
theorem dX12_namesAt_4 : decode cX12_namesAt 4 = .ok (.invokevirtual 201, 3) := by decide +kernel
theorem dX12_namesAt_7 : decode cX12_namesAt 7 = .ok (.istore_n 3, 1) := by decide +kernel
theorem dX12_namesAt_8 : decode cX12_namesAt 8 = .ok (.iload_n 1, 1) := by decide +kernel
theorem dX12_namesAt_9 : decode cX12_namesAt 9 = .ok (.istore 4, 2) := by decide +kernel
theorem dX12_namesAt_11 : decode cX12_namesAt 11 = .ok (.iload 4, 2) := by decide +kernel
theorem dX12_namesAt_13 : decode cX12_namesAt 13 = .ok (.iload_n 3, 1) := by decide +kernel
theorem dX12_namesAt_14 : decode cX12_namesAt 14 = .ok (.if_icmp .ge 37, 3) := by decide +kernel
theorem dX12_namesAt_17 : decode cX12_namesAt 17 = .ok (.iload_n 2, 1) := by decide +kernel
theorem dX12_namesAt_18 : decode cX12_namesAt 18 = .ok (.aload_n 0, 1) := by decide +kernel
theorem dX12_namesAt_19 : decode cX12_namesAt 19 = .ok (.getfield 32, 3) := by decide +kernel
theorem dX12_namesAt_22 : decode cX12_namesAt 22 = .ok (.iload 4, 2) := by decide +kernel
theorem dX12_namesAt_24 : decode cX12_namesAt 24 = .ok (.iaload, 1) := by decide +kernel
theorem dX12_namesAt_25 : decode cX12_namesAt 25 = .ok (.bipush 10, 2) := by decide +kernel
theorem dX12_namesAt_27 : decode cX12_namesAt 27 = .ok (.if_icmp .ge 15, 3) := by decide +kernel
theorem dX12_namesAt_30 : decode cX12_namesAt 30 = .ok (.iconst 1, 1) := by decide +kernel
theorem dX12_namesAt_31 : decode cX12_namesAt 31 = .ok (.aload_n 0, 1) := by decide +kernel
theorem dX12_namesAt_32 : decode cX12_namesAt 32 = .ok (.getfield 32, 3) := by decide +kernel
theorem dX12_namesAt_35 : decode cX12_namesAt 35 = .ok (.iload 4, 2) := by decide +kernel
theorem dX12_namesAt_37 : decode cX12_namesAt 37 = .ok (.iaload, 1) := by decide +kernel
theorem dX12_namesAt_38 : decode cX12_namesAt 38 = .ok (.ishl, 1) := by decide +kernel
theorem dX12_namesAt_39 : decode cX12_namesAt 39 = .ok (.goto 4, 3) := by decide +kernel
theorem dX12_namesAt_42 : decode cX12_namesAt 42 = .ok (.iconst 0, 1) := by decide +kernel
theorem dX12_namesAt_43 : decode cX12_namesAt 43 = .ok (.ior, 1) := by decide +kernel
theorem dX12_namesAt_44 : decode cX12_namesAt 44 = .ok (.istore_n 2, 1) := by decide +kernel
theorem dX12_namesAt_45 : decode cX12_namesAt 45 = .ok (.iinc 4 1, 3) := by decide +kernel
theorem dX12_namesAt_48 : decode cX12_namesAt 48 = .ok (.goto (-37), 3) := by decide +kernel
theorem dX12_namesAt_51 : decode cX12_namesAt 51 = .ok (.iload_n 2, 1) := by decide +kernel
theorem dX12_namesAt_52 : decode cX12_namesAt 52 = .ok (.ireturn, 1) := by decide +kernel
theorem dX12_bringsMany_0 : decode cX12_bringsMany 0 = .ok (.aload_n 0, 1) := by decide +kernel
theorem dX12_bringsMany_1 : decode cX12_bringsMany 1 = .ok (.getfield 7, 3) := by decide +kernel
theorem dX12_bringsMany_4 : decode cX12_bringsMany 4 = .ok (.iload_n 1, 1) := by decide +kernel
theorem dX12_bringsMany_5 : decode cX12_bringsMany 5 = .ok (.iaload, 1) := by decide +kernel
theorem dX12_bringsMany_6 : decode cX12_bringsMany 6 = .ok (.ifCond .le 15, 3) := by decide +kernel
theorem dX12_bringsMany_9 : decode cX12_bringsMany 9 = .ok (.aload_n 0, 1) := by decide +kernel
theorem dX12_bringsMany_10 : decode cX12_bringsMany 10 = .ok (.iload_n 2, 1) := by decide +kernel
theorem dX12_bringsMany_11 : decode cX12_bringsMany 11 = .ok (.iconst 0, 1) := by decide +kernel
theorem dX12_bringsMany_12 : decode cX12_bringsMany 12 = .ok (.invokestatic 194, 3) := by decide +kernel
theorem dX12_bringsMany_15 : decode cX12_bringsMany 15 = .ok (.invokevirtual 208, 3) := by decide +kernel
theorem dX12_bringsMany_18 : decode cX12_bringsMany 18 = .ok (.goto 4, 3) := by decide +kernel
theorem dX12_bringsMany_21 : decode cX12_bringsMany 21 = .ok (.iconst 0, 1) := by decide +kernel
theorem dX12_bringsMany_22 : decode cX12_bringsMany 22 = .ok (.istore 4, 2) := by decide +kernel
theorem dX12_bringsMany_24 : decode cX12_bringsMany 24 = .ok (.iload 4, 2) := by decide +kernel
theorem dX12_bringsMany_26 : decode cX12_bringsMany 26 = .ok (.aload_n 0, 1) := by decide +kernel
theorem dX12_bringsMany_27 : decode cX12_bringsMany 27 = .ok (.getfield 7, 3) := by decide +kernel
theorem dX12_bringsMany_30 : decode cX12_bringsMany 30 = .ok (.iload_n 1, 1) := by decide +kernel
theorem dX12_bringsMany_31 : decode cX12_bringsMany 31 = .ok (.iaload, 1) := by decide +kernel
theorem dX12_bringsMany_32 : decode cX12_bringsMany 32 = .ok (.iconst 1, 1) := by decide +kernel
theorem dX12_bringsMany_33 : decode cX12_bringsMany 33 = .ok (.if_icmp .le 15, 3) := by decide +kernel
theorem dX12_bringsMany_36 : decode cX12_bringsMany 36 = .ok (.aload_n 0, 1) := by decide +kernel
theorem dX12_bringsMany_37 : decode cX12_bringsMany 37 = .ok (.iload_n 2, 1) := by decide +kernel
theorem dX12_bringsMany_38 : decode cX12_bringsMany 38 = .ok (.iconst 1, 1) := by decide +kernel
theorem dX12_bringsMany_39 : decode cX12_bringsMany 39 = .ok (.invokestatic 194, 3) := by decide +kernel
theorem dX12_bringsMany_42 : decode cX12_bringsMany 42 = .ok (.invokevirtual 208, 3) := by decide +kernel
theorem dX12_bringsMany_45 : decode cX12_bringsMany 45 = .ok (.goto 4, 3) := by decide +kernel
theorem dX12_bringsMany_48 : decode cX12_bringsMany 48 = .ok (.iconst 0, 1) := by decide +kernel
theorem dX12_bringsMany_49 : decode cX12_bringsMany 49 = .ok (.ior, 1) := by decide +kernel
theorem dX12_bringsMany_50 : decode cX12_bringsMany 50 = .ok (.istore 4, 2) := by decide +kernel
theorem dX12_bringsMany_52 : decode cX12_bringsMany 52 = .ok (.iload_n 2, 1) := by decide +kernel
theorem dX12_bringsMany_53 : decode cX12_bringsMany 53 = .ok (.iconst 2, 1) := by decide +kernel
theorem dX12_bringsMany_54 : decode cX12_bringsMany 54 = .ok (.invokestatic 194, 3) := by decide +kernel
theorem dX12_bringsMany_57 : decode cX12_bringsMany 57 = .ok (.istore 5, 2) := by decide +kernel
theorem dX12_bringsMany_59 : decode cX12_bringsMany 59 = .ok (.aload_n 0, 1) := by decide +kernel
theorem dX12_bringsMany_60 : decode cX12_bringsMany 60 = .ok (.iload 5, 2) := by decide +kernel
theorem dX12_bringsMany_62 : decode cX12_bringsMany 62 = .ok (.invokevirtual 201, 3) := by decide +kernel
theorem dX12_bringsMany_65 : decode cX12_bringsMany 65 = .ok (.istore 6, 2) := by decide +kernel
theorem dX12_bringsMany_67 : decode cX12_bringsMany 67 = .ok (.iload 5, 2) := by decide +kernel
theorem dX12_bringsMany_69 : decode cX12_bringsMany 69 = .ok (.istore 7, 2) := by decide +kernel
theorem dX12_bringsMany_71 : decode cX12_bringsMany 71 = .ok (.iconst 0, 1) := by decide +kernel
theorem dX12_bringsMany_72 : decode cX12_bringsMany 72 = .ok (.istore 8, 2) := by decide +kernel
theorem dX12_bringsMany_74 : decode cX12_bringsMany 74 = .ok (.iload 7, 2) := by decide +kernel
theorem dX12_bringsMany_76 : decode cX12_bringsMany 76 = .ok (.iload 6, 2) := by decide +kernel
theorem dX12_bringsMany_78 : decode cX12_bringsMany 78 = .ok (.if_icmp .ge 98, 3) := by decide +kernel
theorem dX12_bringsMany_81 : decode cX12_bringsMany 81 = .ok (.aload_n 0, 1) := by decide +kernel
theorem dX12_bringsMany_82 : decode cX12_bringsMany 82 = .ok (.getfield 32, 3) := by decide +kernel
theorem dX12_bringsMany_85 : decode cX12_bringsMany 85 = .ok (.iload 7, 2) := by decide +kernel
theorem dX12_bringsMany_87 : decode cX12_bringsMany 87 = .ok (.iaload, 1) := by decide +kernel
theorem dX12_bringsMany_88 : decode cX12_bringsMany 88 = .ok (.istore 9, 2) := by decide +kernel
theorem dX12_bringsMany_90 : decode cX12_bringsMany 90 = .ok (.iload 8, 2) := by decide +kernel
theorem dX12_bringsMany_92 : decode cX12_bringsMany 92 = .ok (.ifCond .ne 52, 3) := by decide +kernel
theorem dX12_bringsMany_95 : decode cX12_bringsMany 95 = .ok (.iload 9, 2) := by decide +kernel
theorem dX12_bringsMany_97 : decode cX12_bringsMany 97 = .ok (.bipush 30, 2) := by decide +kernel
theorem dX12_bringsMany_99 : decode cX12_bringsMany 99 = .ok (.if_icmp .eq 45, 3) := by decide +kernel
theorem dX12_bringsMany_102 : decode cX12_bringsMany 102 = .ok (.iload 9, 2) := by decide +kernel
theorem dX12_bringsMany_104 : decode cX12_bringsMany 104 = .ok (.bipush 10, 2) := by decide +kernel
theorem dX12_bringsMany_106 : decode cX12_bringsMany 106 = .ok (.if_icmp .ge 13, 3) := by decide +kernel
theorem dX12_bringsMany_109 : decode cX12_bringsMany 109 = .ok (.iload 4, 2) := by decide +kernel
theorem dX12_bringsMany_111 : decode cX12_bringsMany 111 = .ok (.iload 9, 2) := by decide +kernel
theorem dX12_bringsMany_113 : decode cX12_bringsMany 113 = .ok (.ishr, 1) := by decide +kernel
theorem dX12_bringsMany_114 : decode cX12_bringsMany 114 = .ok (.iconst 1, 1) := by decide +kernel
theorem dX12_bringsMany_115 : decode cX12_bringsMany 115 = .ok (.iand, 1) := by decide +kernel
theorem dX12_bringsMany_116 : decode cX12_bringsMany 116 = .ok (.ifCond .eq 28, 3) := by decide +kernel
theorem dX12_bringsMany_119 : decode cX12_bringsMany 119 = .ok (.iload 9, 2) := by decide +kernel
theorem dX12_bringsMany_121 : decode cX12_bringsMany 121 = .ok (.bipush 20, 2) := by decide +kernel
theorem dX12_bringsMany_123 : decode cX12_bringsMany 123 = .ok (.bipush 29, 2) := by decide +kernel
theorem dX12_bringsMany_125 : decode cX12_bringsMany 125 = .ok (.invokestatic 154, 3) := by decide +kernel
theorem dX12_bringsMany_128 : decode cX12_bringsMany 128 = .ok (.ifCond .eq 20, 3) := by decide +kernel
theorem dX12_bringsMany_131 : decode cX12_bringsMany 131 = .ok (.iload_n 3, 1) := by decide +kernel
theorem dX12_bringsMany_132 : decode cX12_bringsMany 132 = .ok (.iload 9, 2) := by decide +kernel
theorem dX12_bringsMany_134 : decode cX12_bringsMany 134 = .ok (.bipush 20, 2) := by decide +kernel
theorem dX12_bringsMany_136 : decode cX12_bringsMany 136 = .ok (.isub, 1) := by decide +kernel
theorem dX12_bringsMany_137 : decode cX12_bringsMany 137 = .ok (.ishr, 1) := by decide +kernel
theorem dX12_bringsMany_138 : decode cX12_bringsMany 138 = .ok (.iconst 1, 1) := by decide +kernel
theorem dX12_bringsMany_139 : decode cX12_bringsMany 139 = .ok (.iand, 1) := by decide +kernel
theorem dX12_bringsMany_140 : decode cX12_bringsMany 140 = .ok (.iconst 1, 1) := by decide +kernel
theorem dX12_bringsMany_141 : decode cX12_bringsMany 141 = .ok (.if_icmp .ne 7, 3) := by decide +kernel
theorem dX12_bringsMany_144 : decode cX12_bringsMany 144 = .ok (.iconst 1, 1) := by decide +kernel
theorem dX12_bringsMany_145 : decode cX12_bringsMany 145 = .ok (.goto 4, 3) := by decide +kernel
theorem dX12_bringsMany_148 : decode cX12_bringsMany 148 = .ok (.iconst 0, 1) := by decide +kernel
theorem dX12_bringsMany_149 : decode cX12_bringsMany 149 = .ok (.istore 8, 2) := by decide +kernel
theorem dX12_bringsMany_151 : decode cX12_bringsMany 151 = .ok (.iload 9, 2) := by decide +kernel
theorem dX12_bringsMany_153 : decode cX12_bringsMany 153 = .ok (.bipush 33, 2) := by decide +kernel
theorem dX12_bringsMany_155 : decode cX12_bringsMany 155 = .ok (.if_icmp .ne 12, 3) := by decide +kernel
theorem dX12_bringsMany_158 : decode cX12_bringsMany 158 = .ok (.aload_n 0, 1) := by decide +kernel
theorem dX12_bringsMany_159 : decode cX12_bringsMany 159 = .ok (.iload 7, 2) := by decide +kernel
theorem dX12_bringsMany_161 : decode cX12_bringsMany 161 = .ok (.invokevirtual 201, 3) := by decide +kernel
theorem dX12_bringsMany_164 : decode cX12_bringsMany 164 = .ok (.goto 7, 3) := by decide +kernel
theorem dX12_bringsMany_167 : decode cX12_bringsMany 167 = .ok (.iload 7, 2) := by decide +kernel
theorem dX12_bringsMany_169 : decode cX12_bringsMany 169 = .ok (.iconst 1, 1) := by decide +kernel
theorem dX12_bringsMany_170 : decode cX12_bringsMany 170 = .ok (.iadd, 1) := by decide +kernel
theorem dX12_bringsMany_171 : decode cX12_bringsMany 171 = .ok (.istore 7, 2) := by decide +kernel
theorem dX12_bringsMany_173 : decode cX12_bringsMany 173 = .ok (.goto (-99), 3) := by decide +kernel
theorem dX12_bringsMany_176 : decode cX12_bringsMany 176 = .ok (.iload 8, 2) := by decide +kernel
theorem dX12_bringsMany_178 : decode cX12_bringsMany 178 = .ok (.ireturn, 1) := by decide +kernel
theorem dX12_isMany_0 : decode cX12_isMany 0 = .ok (.iconst 0, 1) := by decide +kernel
theorem dX12_isMany_1 : decode cX12_isMany 1 = .ok (.istore_n 3, 1) := by decide +kernel
theorem dX12_isMany_2 : decode cX12_isMany 2 = .ok (.iconst 0, 1) := by decide +kernel
theorem dX12_isMany_3 : decode cX12_isMany 3 = .ok (.istore 4, 2) := by decide +kernel
theorem dX12_isMany_5 : decode cX12_isMany 5 = .ok (.iload 4, 2) := by decide +kernel
theorem dX12_isMany_7 : decode cX12_isMany 7 = .ok (.aload_n 0, 1) := by decide +kernel
theorem dX12_isMany_8 : decode cX12_isMany 8 = .ok (.getfield 23, 3) := by decide +kernel
theorem dX12_isMany_11 : decode cX12_isMany 11 = .ok (.iload_n 1, 1) := by decide +kernel
theorem dX12_isMany_12 : decode cX12_isMany 12 = .ok (.iaload, 1) := by decide +kernel
theorem dX12_isMany_13 : decode cX12_isMany 13 = .ok (.if_icmp .ge 92, 3) := by decide +kernel
theorem dX12_isMany_16 : decode cX12_isMany 16 = .ok (.aload_n 0, 1) := by decide +kernel
theorem dX12_isMany_17 : decode cX12_isMany 17 = .ok (.getfield 26, 3) := by decide +kernel
theorem dX12_isMany_20 : decode cX12_isMany 20 = .ok (.bipush 24, 2) := by decide +kernel
theorem dX12_isMany_22 : decode cX12_isMany 22 = .ok (.iload_n 1, 1) := by decide +kernel
theorem dX12_isMany_23 : decode cX12_isMany 23 = .ok (.imul, 1) := by decide +kernel
theorem dX12_isMany_24 : decode cX12_isMany 24 = .ok (.iload 4, 2) := by decide +kernel
theorem dX12_isMany_26 : decode cX12_isMany 26 = .ok (.iadd, 1) := by decide +kernel
theorem dX12_isMany_27 : decode cX12_isMany 27 = .ok (.iaload, 1) := by decide +kernel
theorem dX12_isMany_28 : decode cX12_isMany 28 = .ok (.istore 5, 2) := by decide +kernel
theorem dX12_isMany_30 : decode cX12_isMany 30 = .ok (.iload_n 3, 1) := by decide +kernel
theorem dX12_isMany_31 : decode cX12_isMany 31 = .ok (.ifCond .ne 14, 3) := by decide +kernel
theorem dX12_isMany_34 : decode cX12_isMany 34 = .ok (.aload_n 0, 1) := by decide +kernel
theorem dX12_isMany_35 : decode cX12_isMany 35 = .ok (.iload_n 1, 1) := by decide +kernel
theorem dX12_isMany_36 : decode cX12_isMany 36 = .ok (.iload 5, 2) := by decide +kernel
theorem dX12_isMany_38 : decode cX12_isMany 38 = .ok (.iload_n 2, 1) := by decide +kernel
theorem dX12_isMany_39 : decode cX12_isMany 39 = .ok (.invokevirtual 211, 3) := by decide +kernel
theorem dX12_isMany_42 : decode cX12_isMany 42 = .ok (.ifCond .eq 7, 3) := by decide +kernel
theorem dX12_isMany_45 : decode cX12_isMany 45 = .ok (.iconst 1, 1) := by decide +kernel
theorem dX12_isMany_46 : decode cX12_isMany 46 = .ok (.goto 4, 3) := by decide +kernel
theorem dX12_isMany_49 : decode cX12_isMany 49 = .ok (.iconst 0, 1) := by decide +kernel
theorem dX12_isMany_50 : decode cX12_isMany 50 = .ok (.istore_n 3, 1) := by decide +kernel
theorem dX12_isMany_51 : decode cX12_isMany 51 = .ok (.iconst 0, 1) := by decide +kernel
theorem dX12_isMany_52 : decode cX12_isMany 52 = .ok (.istore 6, 2) := by decide +kernel
theorem dX12_isMany_54 : decode cX12_isMany 54 = .ok (.iload 6, 2) := by decide +kernel
theorem dX12_isMany_56 : decode cX12_isMany 56 = .ok (.iload 4, 2) := by decide +kernel
theorem dX12_isMany_58 : decode cX12_isMany 58 = .ok (.if_icmp .ge 41, 3) := by decide +kernel
theorem dX12_isMany_61 : decode cX12_isMany 61 = .ok (.iload_n 3, 1) := by decide +kernel
theorem dX12_isMany_62 : decode cX12_isMany 62 = .ok (.ifCond .ne 25, 3) := by decide +kernel
theorem dX12_isMany_65 : decode cX12_isMany 65 = .ok (.aload_n 0, 1) := by decide +kernel
theorem dX12_isMany_66 : decode cX12_isMany 66 = .ok (.iload_n 1, 1) := by decide +kernel
theorem dX12_isMany_67 : decode cX12_isMany 67 = .ok (.iload 5, 2) := by decide +kernel
theorem dX12_isMany_69 : decode cX12_isMany 69 = .ok (.aload_n 0, 1) := by decide +kernel
theorem dX12_isMany_70 : decode cX12_isMany 70 = .ok (.getfield 26, 3) := by decide +kernel
theorem dX12_isMany_73 : decode cX12_isMany 73 = .ok (.bipush 24, 2) := by decide +kernel
theorem dX12_isMany_75 : decode cX12_isMany 75 = .ok (.iload_n 1, 1) := by decide +kernel
theorem dX12_isMany_76 : decode cX12_isMany 76 = .ok (.imul, 1) := by decide +kernel
theorem dX12_isMany_77 : decode cX12_isMany 77 = .ok (.iload 6, 2) := by decide +kernel
theorem dX12_isMany_79 : decode cX12_isMany 79 = .ok (.iadd, 1) := by decide +kernel
theorem dX12_isMany_80 : decode cX12_isMany 80 = .ok (.iaload, 1) := by decide +kernel
theorem dX12_isMany_81 : decode cX12_isMany 81 = .ok (.invokevirtual 214, 3) := by decide +kernel
theorem dX12_isMany_84 : decode cX12_isMany 84 = .ok (.ifCond .eq 7, 3) := by decide +kernel
theorem dX12_isMany_87 : decode cX12_isMany 87 = .ok (.iconst 1, 1) := by decide +kernel
theorem dX12_isMany_88 : decode cX12_isMany 88 = .ok (.goto 4, 3) := by decide +kernel
theorem dX12_isMany_91 : decode cX12_isMany 91 = .ok (.iconst 0, 1) := by decide +kernel
theorem dX12_isMany_92 : decode cX12_isMany 92 = .ok (.istore_n 3, 1) := by decide +kernel
theorem dX12_isMany_93 : decode cX12_isMany 93 = .ok (.iinc 6 1, 3) := by decide +kernel
theorem dX12_isMany_96 : decode cX12_isMany 96 = .ok (.goto (-42), 3) := by decide +kernel
theorem dX12_isMany_99 : decode cX12_isMany 99 = .ok (.iinc 4 1, 3) := by decide +kernel
theorem dX12_isMany_102 : decode cX12_isMany 102 = .ok (.goto (-97), 3) := by decide +kernel
theorem dX12_isMany_105 : decode cX12_isMany 105 = .ok (.iload_n 3, 1) := by decide +kernel
theorem dX12_isMany_106 : decode cX12_isMany 106 = .ok (.ireturn, 1) := by decide +kernel
theorem dX12_many_0 : decode cX12_many 0 = .ok (.aload_n 0, 1) := by decide +kernel
theorem dX12_many_1 : decode cX12_many 1 = .ok (.iconst 0, 1) := by decide +kernel
theorem dX12_many_2 : decode cX12_many 2 = .ok (.putfield 147, 3) := by decide +kernel
theorem dX12_many_5 : decode cX12_many 5 = .ok (.iconst 0, 1) := by decide +kernel
theorem dX12_many_6 : decode cX12_many 6 = .ok (.istore_n 1, 1) := by decide +kernel
theorem dX12_many_7 : decode cX12_many 7 = .ok (.iconst 0, 1) := by decide +kernel
theorem dX12_many_8 : decode cX12_many 8 = .ok (.istore_n 2, 1) := by decide +kernel
theorem dX12_many_9 : decode cX12_many 9 = .ok (.iload_n 2, 1) := by decide +kernel
theorem dX12_many_10 : decode cX12_many 10 = .ok (.bipush 8, 2) := by decide +kernel
theorem dX12_many_12 : decode cX12_many 12 = .ok (.if_icmp .ge 44, 3) := by decide +kernel
theorem dX12_many_15 : decode cX12_many 15 = .ok (.iconst 0, 1) := by decide +kernel
theorem dX12_many_16 : decode cX12_many 16 = .ok (.istore_n 3, 1) := by decide +kernel
theorem dX12_many_17 : decode cX12_many 17 = .ok (.iload_n 3, 1) := by decide +kernel
theorem dX12_many_18 : decode cX12_many 18 = .ok (.aload_n 0, 1) := by decide +kernel
theorem dX12_many_19 : decode cX12_many 19 = .ok (.getfield 151, 3) := by decide +kernel
theorem dX12_many_22 : decode cX12_many 22 = .ok (.if_icmp .ge 28, 3) := by decide +kernel
theorem dX12_many_25 : decode cX12_many 25 = .ok (.iload_n 1, 1) := by decide +kernel
theorem dX12_many_26 : decode cX12_many 26 = .ok (.aload_n 0, 1) := by decide +kernel
theorem dX12_many_27 : decode cX12_many 27 = .ok (.iload_n 3, 1) := by decide +kernel
theorem dX12_many_28 : decode cX12_many 28 = .ok (.iload_n 1, 1) := by decide +kernel
theorem dX12_many_29 : decode cX12_many 29 = .ok (.invokevirtual 217, 3) := by decide +kernel
theorem dX12_many_32 : decode cX12_many 32 = .ok (.ifCond .eq 9, 3) := by decide +kernel
theorem dX12_many_35 : decode cX12_many 35 = .ok (.iconst 1, 1) := by decide +kernel
theorem dX12_many_36 : decode cX12_many 36 = .ok (.iload_n 3, 1) := by decide +kernel
theorem dX12_many_37 : decode cX12_many 37 = .ok (.ishl, 1) := by decide +kernel
theorem dX12_many_38 : decode cX12_many 38 = .ok (.goto 4, 3) := by decide +kernel
theorem dX12_many_41 : decode cX12_many 41 = .ok (.iconst 0, 1) := by decide +kernel
theorem dX12_many_42 : decode cX12_many 42 = .ok (.ior, 1) := by decide +kernel
theorem dX12_many_43 : decode cX12_many 43 = .ok (.istore_n 1, 1) := by decide +kernel
theorem dX12_many_44 : decode cX12_many 44 = .ok (.iinc 3 1, 3) := by decide +kernel
theorem dX12_many_47 : decode cX12_many 47 = .ok (.goto (-30), 3) := by decide +kernel
theorem dX12_many_50 : decode cX12_many 50 = .ok (.iinc 2 1, 3) := by decide +kernel
theorem dX12_many_53 : decode cX12_many 53 = .ok (.goto (-44), 3) := by decide +kernel
theorem dX12_many_56 : decode cX12_many 56 = .ok (.iload_n 1, 1) := by decide +kernel
theorem dX12_many_57 : decode cX12_many 57 = .ok (.ireturn, 1) := by decide +kernel
theorem dX12_goal_0 : decode cX12_goal 0 = .ok (.aload_n 0, 1) := by decide +kernel
theorem dX12_goal_1 : decode cX12_goal 1 = .ok (.aload_n 0, 1) := by decide +kernel
theorem dX12_goal_2 : decode cX12_goal 2 = .ok (.iload_n 1, 1) := by decide +kernel
theorem dX12_goal_3 : decode cX12_goal 3 = .ok (.invokevirtual 169, 3) := by decide +kernel
theorem dX12_goal_6 : decode cX12_goal 6 = .ok (.ifCond .eq 7, 3) := by decide +kernel
theorem dX12_goal_9 : decode cX12_goal 9 = .ok (.iconst 0, 1) := by decide +kernel
theorem dX12_goal_10 : decode cX12_goal 10 = .ok (.goto 4, 3) := by decide +kernel
theorem dX12_goal_13 : decode cX12_goal 13 = .ok (.iconst 1, 1) := by decide +kernel
theorem dX12_goal_14 : decode cX12_goal 14 = .ok (.putfield 147, 3) := by decide +kernel
theorem dX12_goal_17 : decode cX12_goal 17 = .ok (.aload_n 0, 1) := by decide +kernel
theorem dX12_goal_18 : decode cX12_goal 18 = .ok (.getfield 147, 3) := by decide +kernel
theorem dX12_goal_21 : decode cX12_goal 21 = .ok (.ifCond .le 5, 3) := by decide +kernel
theorem dX12_goal_24 : decode cX12_goal 24 = .ok (.iconst 0, 1) := by decide +kernel
theorem dX12_goal_25 : decode cX12_goal 25 = .ok (.ireturn, 1) := by decide +kernel
theorem dX12_goal_26 : decode cX12_goal 26 = .ok (.aload_n 0, 1) := by decide +kernel
theorem dX12_goal_27 : decode cX12_goal 27 = .ok (.iload_n 1, 1) := by decide +kernel
theorem dX12_goal_28 : decode cX12_goal 28 = .ok (.iconst 0, 1) := by decide +kernel
theorem dX12_goal_29 : decode cX12_goal 29 = .ok (.invokevirtual 197, 3) := by decide +kernel
theorem dX12_goal_32 : decode cX12_goal 32 = .ok (.aload_n 0, 1) := by decide +kernel
theorem dX12_goal_33 : decode cX12_goal 33 = .ok (.iconst 1, 1) := by decide +kernel
theorem dX12_goal_34 : decode cX12_goal 34 = .ok (.putfield 220, 3) := by decide +kernel
theorem dX12_goal_37 : decode cX12_goal 37 = .ok (.aload_n 0, 1) := by decide +kernel
theorem dX12_goal_38 : decode cX12_goal 38 = .ok (.iconst 0, 1) := by decide +kernel
theorem dX12_goal_39 : decode cX12_goal 39 = .ok (.putfield 224, 3) := by decide +kernel
theorem dX12_goal_42 : decode cX12_goal 42 = .ok (.aload_n 0, 1) := by decide +kernel
theorem dX12_goal_43 : decode cX12_goal 43 = .ok (.getfield 17, 3) := by decide +kernel
theorem dX12_goal_46 : decode cX12_goal 46 = .ok (.iload_n 1, 1) := by decide +kernel
theorem dX12_goal_47 : decode cX12_goal 47 = .ok (.iaload, 1) := by decide +kernel
theorem dX12_goal_48 : decode cX12_goal 48 = .ok (.ireturn, 1) := by decide +kernel
theorem dX12_newThing_0 : decode cX12_newThing 0 = .ok (.aload_n 0, 1) := by decide +kernel
theorem dX12_newThing_1 : decode cX12_newThing 1 = .ok (.getfield 35, 3) := by decide +kernel
theorem dX12_newThing_4 : decode cX12_newThing 4 = .ok (.aload_n 0, 1) := by decide +kernel
theorem dX12_newThing_5 : decode cX12_newThing 5 = .ok (.getfield 227, 3) := by decide +kernel
theorem dX12_newThing_8 : decode cX12_newThing 8 = .ok (.iload_n 1, 1) := by decide +kernel
theorem dX12_newThing_9 : decode cX12_newThing 9 = .ok (.iastore, 1) := by decide +kernel
theorem dX12_newThing_10 : decode cX12_newThing 10 = .ok (.aload_n 0, 1) := by decide +kernel
theorem dX12_newThing_11 : decode cX12_newThing 11 = .ok (.getfield 38, 3) := by decide +kernel
theorem dX12_newThing_14 : decode cX12_newThing 14 = .ok (.aload_n 0, 1) := by decide +kernel
theorem dX12_newThing_15 : decode cX12_newThing 15 = .ok (.getfield 227, 3) := by decide +kernel
theorem dX12_newThing_18 : decode cX12_newThing 18 = .ok (.iload_n 2, 1) := by decide +kernel
theorem dX12_newThing_19 : decode cX12_newThing 19 = .ok (.iastore, 1) := by decide +kernel
theorem dX12_newThing_20 : decode cX12_newThing 20 = .ok (.aload_n 0, 1) := by decide +kernel
theorem dX12_newThing_21 : decode cX12_newThing 21 = .ok (.getfield 47, 3) := by decide +kernel
theorem dX12_newThing_24 : decode cX12_newThing 24 = .ok (.aload_n 0, 1) := by decide +kernel
theorem dX12_newThing_25 : decode cX12_newThing 25 = .ok (.getfield 227, 3) := by decide +kernel
theorem dX12_newThing_28 : decode cX12_newThing 28 = .ok (.iload_n 3, 1) := by decide +kernel
theorem dX12_newThing_29 : decode cX12_newThing 29 = .ok (.iastore, 1) := by decide +kernel
theorem dX12_newThing_30 : decode cX12_newThing 30 = .ok (.aload_n 0, 1) := by decide +kernel
theorem dX12_newThing_31 : decode cX12_newThing 31 = .ok (.getfield 41, 3) := by decide +kernel
theorem dX12_newThing_34 : decode cX12_newThing 34 = .ok (.aload_n 0, 1) := by decide +kernel
theorem dX12_newThing_35 : decode cX12_newThing 35 = .ok (.getfield 227, 3) := by decide +kernel
theorem dX12_newThing_38 : decode cX12_newThing 38 = .ok (.iconst (-1), 1) := by decide +kernel
theorem dX12_newThing_39 : decode cX12_newThing 39 = .ok (.iastore, 1) := by decide +kernel
theorem dX12_newThing_40 : decode cX12_newThing 40 = .ok (.aload_n 0, 1) := by decide +kernel
theorem dX12_newThing_41 : decode cX12_newThing 41 = .ok (.getfield 44, 3) := by decide +kernel
theorem dX12_newThing_44 : decode cX12_newThing 44 = .ok (.aload_n 0, 1) := by decide +kernel
theorem dX12_newThing_45 : decode cX12_newThing 45 = .ok (.getfield 227, 3) := by decide +kernel
theorem dX12_newThing_48 : decode cX12_newThing 48 = .ok (.iconst (-1), 1) := by decide +kernel
theorem dX12_newThing_49 : decode cX12_newThing 49 = .ok (.iastore, 1) := by decide +kernel
theorem dX12_newThing_50 : decode cX12_newThing 50 = .ok (.aload_n 0, 1) := by decide +kernel
theorem dX12_newThing_51 : decode cX12_newThing 51 = .ok (.getfield 56, 3) := by decide +kernel
theorem dX12_newThing_54 : decode cX12_newThing 54 = .ok (.aload_n 0, 1) := by decide +kernel
theorem dX12_newThing_55 : decode cX12_newThing 55 = .ok (.getfield 227, 3) := by decide +kernel
theorem dX12_newThing_58 : decode cX12_newThing 58 = .ok (.iconst 0, 1) := by decide +kernel
theorem dX12_newThing_59 : decode cX12_newThing 59 = .ok (.bastore, 1) := by decide +kernel
theorem dX12_newThing_60 : decode cX12_newThing 60 = .ok (.aload_n 0, 1) := by decide +kernel
theorem dX12_newThing_61 : decode cX12_newThing 61 = .ok (.dup, 1) := by decide +kernel
theorem dX12_newThing_62 : decode cX12_newThing 62 = .ok (.getfield 227, 3) := by decide +kernel
theorem dX12_newThing_65 : decode cX12_newThing 65 = .ok (.iconst 1, 1) := by decide +kernel
theorem dX12_newThing_66 : decode cX12_newThing 66 = .ok (.iadd, 1) := by decide +kernel
theorem dX12_newThing_67 : decode cX12_newThing 67 = .ok (.putfield 227, 3) := by decide +kernel
theorem dX12_newThing_70 : decode cX12_newThing 70 = .ok (.aload_n 0, 1) := by decide +kernel
theorem dX12_newThing_71 : decode cX12_newThing 71 = .ok (.getfield 227, 3) := by decide +kernel
theorem dX12_newThing_74 : decode cX12_newThing 74 = .ok (.iconst 1, 1) := by decide +kernel
theorem dX12_newThing_75 : decode cX12_newThing 75 = .ok (.isub, 1) := by decide +kernel
theorem dX12_newThing_76 : decode cX12_newThing 76 = .ok (.ireturn, 1) := by decide +kernel
theorem dX12_root_0 : decode cX12_root 0 = .ok (.iload_n 1, 1) := by decide +kernel
theorem dX12_root_1 : decode cX12_root 1 = .ok (.istore_n 2, 1) := by decide +kernel
theorem dX12_root_2 : decode cX12_root 2 = .ok (.aload_n 0, 1) := by decide +kernel
theorem dX12_root_3 : decode cX12_root 3 = .ok (.getfield 35, 3) := by decide +kernel
theorem dX12_root_6 : decode cX12_root 6 = .ok (.iload_n 2, 1) := by decide +kernel
theorem dX12_root_7 : decode cX12_root 7 = .ok (.iaload, 1) := by decide +kernel
theorem dX12_root_8 : decode cX12_root 8 = .ok (.bipush 7, 2) := by decide +kernel
theorem dX12_root_10 : decode cX12_root 10 = .ok (.if_icmp .ne 13, 3) := by decide +kernel
theorem dX12_root_13 : decode cX12_root 13 = .ok (.aload_n 0, 1) := by decide +kernel
theorem dX12_root_14 : decode cX12_root 14 = .ok (.getfield 41, 3) := by decide +kernel
theorem dX12_root_17 : decode cX12_root 17 = .ok (.iload_n 2, 1) := by decide +kernel
theorem dX12_root_18 : decode cX12_root 18 = .ok (.iaload, 1) := by decide +kernel
theorem dX12_root_19 : decode cX12_root 19 = .ok (.istore_n 2, 1) := by decide +kernel
theorem dX12_root_20 : decode cX12_root 20 = .ok (.goto (-18), 3) := by decide +kernel
theorem dX12_root_23 : decode cX12_root 23 = .ok (.iload_n 2, 1) := by decide +kernel
theorem dX12_root_24 : decode cX12_root 24 = .ok (.ireturn, 1) := by decide +kernel
theorem dX12_become_0 : decode cX12_become 0 = .ok (.aload_n 0, 1) := by decide +kernel
theorem dX12_become_1 : decode cX12_become 1 = .ok (.getfield 35, 3) := by decide +kernel
theorem dX12_become_4 : decode cX12_become 4 = .ok (.iload_n 1, 1) := by decide +kernel
theorem dX12_become_5 : decode cX12_become 5 = .ok (.bipush 7, 2) := by decide +kernel
theorem dX12_become_7 : decode cX12_become 7 = .ok (.iastore, 1) := by decide +kernel
theorem dX12_become_8 : decode cX12_become 8 = .ok (.aload_n 0, 1) := by decide +kernel
theorem dX12_become_9 : decode cX12_become 9 = .ok (.getfield 41, 3) := by decide +kernel
theorem dX12_become_12 : decode cX12_become 12 = .ok (.iload_n 1, 1) := by decide +kernel
theorem dX12_become_13 : decode cX12_become 13 = .ok (.iload_n 2, 1) := by decide +kernel
theorem dX12_become_14 : decode cX12_become 14 = .ok (.iastore, 1) := by decide +kernel
theorem dX12_become_15 : decode cX12_become 15 = .ok (.return_, 1) := by decide +kernel
theorem dX12_becomeData_0 : decode cX12_becomeData 0 = .ok (.aload_n 0, 1) := by decide +kernel
theorem dX12_becomeData_1 : decode cX12_becomeData 1 = .ok (.getfield 35, 3) := by decide +kernel
theorem dX12_becomeData_4 : decode cX12_becomeData 4 = .ok (.iload_n 1, 1) := by decide +kernel
theorem dX12_becomeData_5 : decode cX12_becomeData 5 = .ok (.iconst 1, 1) := by decide +kernel
theorem dX12_becomeData_6 : decode cX12_becomeData 6 = .ok (.iastore, 1) := by decide +kernel
theorem dX12_becomeData_7 : decode cX12_becomeData 7 = .ok (.aload_n 0, 1) := by decide +kernel
theorem dX12_becomeData_8 : decode cX12_becomeData 8 = .ok (.getfield 38, 3) := by decide +kernel
theorem dX12_becomeData_11 : decode cX12_becomeData 11 = .ok (.iload_n 1, 1) := by decide +kernel
theorem dX12_becomeData_12 : decode cX12_becomeData 12 = .ok (.iload_n 2, 1) := by decide +kernel
theorem dX12_becomeData_13 : decode cX12_becomeData 13 = .ok (.iastore, 1) := by decide +kernel
theorem dX12_becomeData_14 : decode cX12_becomeData 14 = .ok (.aload_n 0, 1) := by decide +kernel
theorem dX12_becomeData_15 : decode cX12_becomeData 15 = .ok (.getfield 41, 3) := by decide +kernel
theorem dX12_becomeData_18 : decode cX12_becomeData 18 = .ok (.iload_n 1, 1) := by decide +kernel
theorem dX12_becomeData_19 : decode cX12_becomeData 19 = .ok (.iconst (-1), 1) := by decide +kernel
theorem dX12_becomeData_20 : decode cX12_becomeData 20 = .ok (.iastore, 1) := by decide +kernel
theorem dX12_becomeData_21 : decode cX12_becomeData 21 = .ok (.aload_n 0, 1) := by decide +kernel
theorem dX12_becomeData_22 : decode cX12_becomeData 22 = .ok (.getfield 44, 3) := by decide +kernel
theorem dX12_becomeData_25 : decode cX12_becomeData 25 = .ok (.iload_n 1, 1) := by decide +kernel
theorem dX12_becomeData_26 : decode cX12_becomeData 26 = .ok (.iconst (-1), 1) := by decide +kernel
theorem dX12_becomeData_27 : decode cX12_becomeData 27 = .ok (.iastore, 1) := by decide +kernel
theorem dX12_becomeData_28 : decode cX12_becomeData 28 = .ok (.return_, 1) := by decide +kernel
theorem dX12_newNames_0 : decode cX12_newNames 0 = .ok (.iconst 0, 1) := by decide +kernel
theorem dX12_newNames_1 : decode cX12_newNames 1 = .ok (.istore_n 1, 1) := by decide +kernel
theorem dX12_newNames_2 : decode cX12_newNames 2 = .ok (.iload_n 1, 1) := by decide +kernel
theorem dX12_newNames_3 : decode cX12_newNames 3 = .ok (.bipush 6, 2) := by decide +kernel
theorem dX12_newNames_5 : decode cX12_newNames 5 = .ok (.if_icmp .ge 24, 3) := by decide +kernel
theorem dX12_newNames_8 : decode cX12_newNames 8 = .ok (.aload_n 0, 1) := by decide +kernel
theorem dX12_newNames_9 : decode cX12_newNames 9 = .ok (.getfield 59, 3) := by decide +kernel
theorem dX12_newNames_12 : decode cX12_newNames 12 = .ok (.bipush 6, 2) := by decide +kernel
theorem dX12_newNames_14 : decode cX12_newNames 14 = .ok (.aload_n 0, 1) := by decide +kernel
theorem dX12_newNames_15 : decode cX12_newNames 15 = .ok (.getfield 230, 3) := by decide +kernel
theorem dX12_newNames_18 : decode cX12_newNames 18 = .ok (.imul, 1) := by decide +kernel
theorem dX12_newNames_19 : decode cX12_newNames 19 = .ok (.iload_n 1, 1) := by decide +kernel
theorem dX12_newNames_20 : decode cX12_newNames 20 = .ok (.iadd, 1) := by decide +kernel
theorem dX12_newNames_21 : decode cX12_newNames 21 = .ok (.iconst (-1), 1) := by decide +kernel
theorem dX12_newNames_22 : decode cX12_newNames 22 = .ok (.iastore, 1) := by decide +kernel
theorem dX12_newNames_23 : decode cX12_newNames 23 = .ok (.iinc 1 1, 3) := by decide +kernel
theorem dX12_newNames_26 : decode cX12_newNames 26 = .ok (.goto (-24), 3) := by decide +kernel
theorem dX12_newNames_29 : decode cX12_newNames 29 = .ok (.aload_n 0, 1) := by decide +kernel
theorem dX12_newNames_30 : decode cX12_newNames 30 = .ok (.dup, 1) := by decide +kernel
theorem dX12_newNames_31 : decode cX12_newNames 31 = .ok (.getfield 230, 3) := by decide +kernel
theorem dX12_newNames_34 : decode cX12_newNames 34 = .ok (.iconst 1, 1) := by decide +kernel
theorem dX12_newNames_35 : decode cX12_newNames 35 = .ok (.iadd, 1) := by decide +kernel
theorem dX12_newNames_36 : decode cX12_newNames 36 = .ok (.putfield 230, 3) := by decide +kernel
theorem dX12_newNames_39 : decode cX12_newNames 39 = .ok (.aload_n 0, 1) := by decide +kernel
theorem dX12_newNames_40 : decode cX12_newNames 40 = .ok (.getfield 230, 3) := by decide +kernel
theorem dX12_newNames_43 : decode cX12_newNames 43 = .ok (.iconst 1, 1) := by decide +kernel
theorem dX12_newNames_44 : decode cX12_newNames 44 = .ok (.isub, 1) := by decide +kernel
theorem dX12_newNames_45 : decode cX12_newNames 45 = .ok (.ireturn, 1) := by decide +kernel
theorem dX12_opens_0 : decode cX12_opens 0 = .ok (.aload_n 0, 1) := by decide +kernel
theorem dX12_opens_1 : decode cX12_opens 1 = .ok (.iload_n 1, 1) := by decide +kernel
theorem dX12_opens_2 : decode cX12_opens 2 = .ok (.invokevirtual 208, 3) := by decide +kernel
theorem dX12_opens_5 : decode cX12_opens 5 = .ok (.istore 4, 2) := by decide +kernel
theorem dX12_opens_7 : decode cX12_opens 7 = .ok (.iconst 0, 1) := by decide +kernel
theorem dX12_opens_8 : decode cX12_opens 8 = .ok (.istore 5, 2) := by decide +kernel
theorem dX12_opens_10 : decode cX12_opens 10 = .ok (.iload 5, 2) := by decide +kernel
theorem dX12_opens_12 : decode cX12_opens 12 = .ok (.bipush 6, 2) := by decide +kernel
theorem dX12_opens_14 : decode cX12_opens 14 = .ok (.if_icmp .ge 55, 3) := by decide +kernel
theorem dX12_opens_17 : decode cX12_opens 17 = .ok (.iload 4, 2) := by decide +kernel
theorem dX12_opens_19 : decode cX12_opens 19 = .ok (.iload 5, 2) := by decide +kernel
theorem dX12_opens_21 : decode cX12_opens 21 = .ok (.ishr, 1) := by decide +kernel
theorem dX12_opens_22 : decode cX12_opens 22 = .ok (.iconst 1, 1) := by decide +kernel
theorem dX12_opens_23 : decode cX12_opens 23 = .ok (.iand, 1) := by decide +kernel
theorem dX12_opens_24 : decode cX12_opens 24 = .ok (.iconst 1, 1) := by decide +kernel
theorem dX12_opens_25 : decode cX12_opens 25 = .ok (.if_icmp .ne 38, 3) := by decide +kernel
theorem dX12_opens_28 : decode cX12_opens 28 = .ok (.aload_n 0, 1) := by decide +kernel
theorem dX12_opens_29 : decode cX12_opens 29 = .ok (.getfield 59, 3) := by decide +kernel
theorem dX12_opens_32 : decode cX12_opens 32 = .ok (.bipush 6, 2) := by decide +kernel
theorem dX12_opens_34 : decode cX12_opens 34 = .ok (.iload_n 2, 1) := by decide +kernel
theorem dX12_opens_35 : decode cX12_opens 35 = .ok (.imul, 1) := by decide +kernel
theorem dX12_opens_36 : decode cX12_opens 36 = .ok (.iload 5, 2) := by decide +kernel
theorem dX12_opens_38 : decode cX12_opens 38 = .ok (.iadd, 1) := by decide +kernel
theorem dX12_opens_39 : decode cX12_opens 39 = .ok (.iaload, 1) := by decide +kernel
theorem dX12_opens_40 : decode cX12_opens 40 = .ok (.iconst (-1), 1) := by decide +kernel
theorem dX12_opens_41 : decode cX12_opens 41 = .ok (.if_icmp .ne 22, 3) := by decide +kernel
theorem dX12_opens_44 : decode cX12_opens 44 = .ok (.aload_n 0, 1) := by decide +kernel
theorem dX12_opens_45 : decode cX12_opens 45 = .ok (.getfield 59, 3) := by decide +kernel
theorem dX12_opens_48 : decode cX12_opens 48 = .ok (.bipush 6, 2) := by decide +kernel
theorem dX12_opens_50 : decode cX12_opens 50 = .ok (.iload_n 2, 1) := by decide +kernel
theorem dX12_opens_51 : decode cX12_opens 51 = .ok (.imul, 1) := by decide +kernel
theorem dX12_opens_52 : decode cX12_opens 52 = .ok (.iload 5, 2) := by decide +kernel
theorem dX12_opens_54 : decode cX12_opens 54 = .ok (.iadd, 1) := by decide +kernel
theorem dX12_opens_55 : decode cX12_opens 55 = .ok (.aload_n 0, 1) := by decide +kernel
theorem dX12_opens_56 : decode cX12_opens 56 = .ok (.iconst 0, 1) := by decide +kernel
theorem dX12_opens_57 : decode cX12_opens 57 = .ok (.iconst 0, 1) := by decide +kernel
theorem dX12_opens_58 : decode cX12_opens 58 = .ok (.iload_n 3, 1) := by decide +kernel
theorem dX12_opens_59 : decode cX12_opens 59 = .ok (.invokevirtual 233, 3) := by decide +kernel
theorem dX12_opens_62 : decode cX12_opens 62 = .ok (.iastore, 1) := by decide +kernel
theorem dX12_opens_63 : decode cX12_opens 63 = .ok (.iinc 5 1, 3) := by decide +kernel
theorem dX12_opens_66 : decode cX12_opens 66 = .ok (.goto (-56), 3) := by decide +kernel
theorem dX12_opens_69 : decode cX12_opens 69 = .ok (.return_, 1) := by decide +kernel
theorem dX12_kindOf_0 : decode cX12_kindOf 0 = .ok (.iload_n 0, 1) := by decide +kernel
theorem dX12_kindOf_1 : decode cX12_kindOf 1 = .ok (.bipush 20, 2) := by decide +kernel
theorem dX12_kindOf_3 : decode cX12_kindOf 3 = .ok (.if_icmp .ge 7, 3) := by decide +kernel
theorem dX12_kindOf_6 : decode cX12_kindOf 6 = .ok (.iconst 1, 1) := by decide +kernel
theorem dX12_kindOf_7 : decode cX12_kindOf 7 = .ok (.goto 19, 3) := by decide +kernel
theorem dX12_kindOf_10 : decode cX12_kindOf 10 = .ok (.iload_n 0, 1) := by decide +kernel
theorem dX12_kindOf_11 : decode cX12_kindOf 11 = .ok (.bipush 30, 2) := by decide +kernel
theorem dX12_kindOf_13 : decode cX12_kindOf 13 = .ok (.if_icmp .ge 7, 3) := by decide +kernel
theorem dX12_kindOf_16 : decode cX12_kindOf 16 = .ok (.iconst 2, 1) := by decide +kernel
theorem dX12_kindOf_17 : decode cX12_kindOf 17 = .ok (.goto 9, 3) := by decide +kernel
theorem dX12_kindOf_20 : decode cX12_kindOf 20 = .ok (.iconst 3, 1) := by decide +kernel
theorem dX12_kindOf_21 : decode cX12_kindOf 21 = .ok (.iload_n 0, 1) := by decide +kernel
theorem dX12_kindOf_22 : decode cX12_kindOf 22 = .ok (.iadd, 1) := by decide +kernel
theorem dX12_kindOf_23 : decode cX12_kindOf 23 = .ok (.bipush 30, 2) := by decide +kernel
theorem dX12_kindOf_25 : decode cX12_kindOf 25 = .ok (.isub, 1) := by decide +kernel
theorem dX12_kindOf_26 : decode cX12_kindOf 26 = .ok (.ireturn, 1) := by decide +kernel
theorem dX12_make_0 : decode cX12_make 0 = .ok (.iconst (-1), 1) := by decide +kernel
theorem dX12_make_1 : decode cX12_make 1 = .ok (.istore 4, 2) := by decide +kernel
theorem dX12_make_3 : decode cX12_make 3 = .ok (.iconst 0, 1) := by decide +kernel
theorem dX12_make_4 : decode cX12_make 4 = .ok (.istore 5, 2) := by decide +kernel
theorem dX12_make_6 : decode cX12_make 6 = .ok (.iload_n 1, 1) := by decide +kernel
theorem dX12_make_7 : decode cX12_make 7 = .ok (.istore 6, 2) := by decide +kernel
theorem dX12_make_9 : decode cX12_make 9 = .ok (.iconst 1, 1) := by decide +kernel
theorem dX12_make_10 : decode cX12_make 10 = .ok (.istore 7, 2) := by decide +kernel
theorem dX12_make_12 : decode cX12_make 12 = .ok (.iload 7, 2) := by decide +kernel
theorem dX12_make_14 : decode cX12_make 14 = .ok (.ifCond .eq 310, 3) := by decide +kernel
theorem dX12_make_17 : decode cX12_make 17 = .ok (.aload_n 0, 1) := by decide +kernel
theorem dX12_make_18 : decode cX12_make 18 = .ok (.getfield 32, 3) := by decide +kernel
theorem dX12_make_21 : decode cX12_make 21 = .ok (.iload 6, 2) := by decide +kernel
theorem dX12_make_23 : decode cX12_make 23 = .ok (.iaload, 1) := by decide +kernel
theorem dX12_make_24 : decode cX12_make 24 = .ok (.istore 8, 2) := by decide +kernel
theorem dX12_make_26 : decode cX12_make 26 = .ok (.iload 8, 2) := by decide +kernel
theorem dX12_make_28 : decode cX12_make 28 = .ok (.bipush 10, 2) := by decide +kernel
theorem dX12_make_30 : decode cX12_make 30 = .ok (.if_icmp .ge 18, 3) := by decide +kernel
theorem dX12_make_33 : decode cX12_make 33 = .ok (.aload_n 0, 1) := by decide +kernel
theorem dX12_make_34 : decode cX12_make 34 = .ok (.getfield 59, 3) := by decide +kernel
theorem dX12_make_37 : decode cX12_make 37 = .ok (.bipush 6, 2) := by decide +kernel
theorem dX12_make_39 : decode cX12_make 39 = .ok (.iload_n 2, 1) := by decide +kernel
theorem dX12_make_40 : decode cX12_make 40 = .ok (.imul, 1) := by decide +kernel
theorem dX12_make_41 : decode cX12_make 41 = .ok (.iload 8, 2) := by decide +kernel
theorem dX12_make_43 : decode cX12_make 43 = .ok (.iadd, 1) := by decide +kernel
theorem dX12_make_44 : decode cX12_make 44 = .ok (.iaload, 1) := by decide +kernel
theorem dX12_make_45 : decode cX12_make 45 = .ok (.goto 33, 3) := by decide +kernel
theorem dX12_make_48 : decode cX12_make 48 = .ok (.aload_n 0, 1) := by decide +kernel
theorem dX12_make_49 : decode cX12_make 49 = .ok (.iload 8, 2) := by decide +kernel
theorem dX12_make_51 : decode cX12_make 51 = .ok (.invokestatic 236, 3) := by decide +kernel
theorem dX12_make_54 : decode cX12_make 54 = .ok (.iload 8, 2) := by decide +kernel
theorem dX12_make_56 : decode cX12_make 56 = .ok (.bipush 20, 2) := by decide +kernel
theorem dX12_make_58 : decode cX12_make 58 = .ok (.if_icmp .ge 11, 3) := by decide +kernel
theorem dX12_make_61 : decode cX12_make 61 = .ok (.iload 8, 2) := by decide +kernel
theorem dX12_make_63 : decode cX12_make 63 = .ok (.bipush 10, 2) := by decide +kernel
theorem dX12_make_65 : decode cX12_make 65 = .ok (.isub, 1) := by decide +kernel
theorem dX12_make_66 : decode cX12_make 66 = .ok (.goto 8, 3) := by decide +kernel
theorem dX12_make_69 : decode cX12_make 69 = .ok (.iload 8, 2) := by decide +kernel
theorem dX12_make_71 : decode cX12_make 71 = .ok (.bipush 20, 2) := by decide +kernel
theorem dX12_make_73 : decode cX12_make 73 = .ok (.isub, 1) := by decide +kernel
theorem dX12_make_74 : decode cX12_make 74 = .ok (.iload_n 3, 1) := by decide +kernel
theorem dX12_make_75 : decode cX12_make 75 = .ok (.invokevirtual 233, 3) := by decide +kernel
theorem dX12_make_78 : decode cX12_make 78 = .ok (.istore 9, 2) := by decide +kernel
theorem dX12_make_80 : decode cX12_make 80 = .ok (.iload 8, 2) := by decide +kernel
theorem dX12_make_82 : decode cX12_make 82 = .ok (.bipush 33, 2) := by decide +kernel
theorem dX12_make_84 : decode cX12_make 84 = .ok (.if_icmp .ne 7, 3) := by decide +kernel
theorem dX12_make_87 : decode cX12_make 87 = .ok (.iconst 0, 1) := by decide +kernel
theorem dX12_make_88 : decode cX12_make 88 = .ok (.goto 9, 3) := by decide +kernel
theorem dX12_make_91 : decode cX12_make 91 = .ok (.aload_n 0, 1) := by decide +kernel
theorem dX12_make_92 : decode cX12_make 92 = .ok (.iload 8, 2) := by decide +kernel
theorem dX12_make_94 : decode cX12_make 94 = .ok (.invokevirtual 161, 3) := by decide +kernel
theorem dX12_make_97 : decode cX12_make 97 = .ok (.istore 10, 2) := by decide +kernel
theorem dX12_make_99 : decode cX12_make 99 = .ok (.iload 8, 2) := by decide +kernel
theorem dX12_make_101 : decode cX12_make 101 = .ok (.bipush 33, 2) := by decide +kernel
theorem dX12_make_103 : decode cX12_make 103 = .ok (.if_icmp .ne 22, 3) := by decide +kernel
theorem dX12_make_106 : decode cX12_make 106 = .ok (.aload_n 0, 1) := by decide +kernel
theorem dX12_make_107 : decode cX12_make 107 = .ok (.getfield 38, 3) := by decide +kernel
theorem dX12_make_110 : decode cX12_make 110 = .ok (.iload 9, 2) := by decide +kernel
theorem dX12_make_112 : decode cX12_make 112 = .ok (.iload 6, 2) := by decide +kernel
theorem dX12_make_114 : decode cX12_make 114 = .ok (.iconst 1, 1) := by decide +kernel
theorem dX12_make_115 : decode cX12_make 115 = .ok (.iadd, 1) := by decide +kernel
theorem dX12_make_116 : decode cX12_make 116 = .ok (.iastore, 1) := by decide +kernel
theorem dX12_make_117 : decode cX12_make 117 = .ok (.aload_n 0, 1) := by decide +kernel
theorem dX12_make_118 : decode cX12_make 118 = .ok (.getfield 50, 3) := by decide +kernel
theorem dX12_make_121 : decode cX12_make 121 = .ok (.iload 9, 2) := by decide +kernel
theorem dX12_make_123 : decode cX12_make 123 = .ok (.iload_n 2, 1) := by decide +kernel
theorem dX12_make_124 : decode cX12_make 124 = .ok (.iastore, 1) := by decide +kernel
theorem dX12_make_125 : decode cX12_make 125 = .ok (.iload 5, 2) := by decide +kernel
theorem dX12_make_127 : decode cX12_make 127 = .ok (.ifCond .ne 10, 3) := by decide +kernel
theorem dX12_make_130 : decode cX12_make 130 = .ok (.iload 9, 2) := by decide +kernel
theorem dX12_make_132 : decode cX12_make 132 = .ok (.istore 4, 2) := by decide +kernel
theorem dX12_make_134 : decode cX12_make 134 = .ok (.goto 104, 3) := by decide +kernel
theorem dX12_make_137 : decode cX12_make 137 = .ok (.aload_n 0, 1) := by decide +kernel
theorem dX12_make_138 : decode cX12_make 138 = .ok (.getfield 41, 3) := by decide +kernel
theorem dX12_make_141 : decode cX12_make 141 = .ok (.aload_n 0, 1) := by decide +kernel
theorem dX12_make_142 : decode cX12_make 142 = .ok (.getfield 95, 3) := by decide +kernel
theorem dX12_make_145 : decode cX12_make 145 = .ok (.iload 5, 2) := by decide +kernel
theorem dX12_make_147 : decode cX12_make 147 = .ok (.iconst 1, 1) := by decide +kernel
theorem dX12_make_148 : decode cX12_make 148 = .ok (.isub, 1) := by decide +kernel
theorem dX12_make_149 : decode cX12_make 149 = .ok (.iaload, 1) := by decide +kernel
theorem dX12_make_150 : decode cX12_make 150 = .ok (.iaload, 1) := by decide +kernel
theorem dX12_make_151 : decode cX12_make 151 = .ok (.iconst (-1), 1) := by decide +kernel
theorem dX12_make_152 : decode cX12_make 152 = .ok (.if_icmp .ne 7, 3) := by decide +kernel
theorem dX12_make_155 : decode cX12_make 155 = .ok (.iconst 1, 1) := by decide +kernel
theorem dX12_make_156 : decode cX12_make 156 = .ok (.goto 4, 3) := by decide +kernel
theorem dX12_make_159 : decode cX12_make 159 = .ok (.iconst 0, 1) := by decide +kernel
theorem dX12_make_160 : decode cX12_make 160 = .ok (.istore 11, 2) := by decide +kernel
theorem dX12_make_162 : decode cX12_make 162 = .ok (.aload_n 0, 1) := by decide +kernel
theorem dX12_make_163 : decode cX12_make 163 = .ok (.getfield 41, 3) := by decide +kernel
theorem dX12_make_166 : decode cX12_make 166 = .ok (.aload_n 0, 1) := by decide +kernel
theorem dX12_make_167 : decode cX12_make 167 = .ok (.getfield 95, 3) := by decide +kernel
theorem dX12_make_170 : decode cX12_make 170 = .ok (.iload 5, 2) := by decide +kernel
theorem dX12_make_172 : decode cX12_make 172 = .ok (.iconst 1, 1) := by decide +kernel
theorem dX12_make_173 : decode cX12_make 173 = .ok (.isub, 1) := by decide +kernel
theorem dX12_make_174 : decode cX12_make 174 = .ok (.iaload, 1) := by decide +kernel
theorem dX12_make_175 : decode cX12_make 175 = .ok (.iload 11, 2) := by decide +kernel
theorem dX12_make_177 : decode cX12_make 177 = .ok (.ifCond .eq 8, 3) := by decide +kernel
theorem dX12_make_180 : decode cX12_make 180 = .ok (.iload 9, 2) := by decide +kernel
theorem dX12_make_182 : decode cX12_make 182 = .ok (.goto 17, 3) := by decide +kernel
theorem dX12_make_185 : decode cX12_make 185 = .ok (.aload_n 0, 1) := by decide +kernel
theorem dX12_make_186 : decode cX12_make 186 = .ok (.getfield 41, 3) := by decide +kernel
theorem dX12_make_189 : decode cX12_make 189 = .ok (.aload_n 0, 1) := by decide +kernel
theorem dX12_make_190 : decode cX12_make 190 = .ok (.getfield 95, 3) := by decide +kernel
theorem dX12_make_193 : decode cX12_make 193 = .ok (.iload 5, 2) := by decide +kernel
theorem dX12_make_195 : decode cX12_make 195 = .ok (.iconst 1, 1) := by decide +kernel
theorem dX12_make_196 : decode cX12_make 196 = .ok (.isub, 1) := by decide +kernel
theorem dX12_make_197 : decode cX12_make 197 = .ok (.iaload, 1) := by decide +kernel
theorem dX12_make_198 : decode cX12_make 198 = .ok (.iaload, 1) := by decide +kernel
theorem dX12_make_199 : decode cX12_make 199 = .ok (.iastore, 1) := by decide +kernel
theorem dX12_make_200 : decode cX12_make 200 = .ok (.aload_n 0, 1) := by decide +kernel
theorem dX12_make_201 : decode cX12_make 201 = .ok (.getfield 44, 3) := by decide +kernel
theorem dX12_make_204 : decode cX12_make 204 = .ok (.aload_n 0, 1) := by decide +kernel
theorem dX12_make_205 : decode cX12_make 205 = .ok (.getfield 95, 3) := by decide +kernel
theorem dX12_make_208 : decode cX12_make 208 = .ok (.iload 5, 2) := by decide +kernel
theorem dX12_make_210 : decode cX12_make 210 = .ok (.iconst 1, 1) := by decide +kernel
theorem dX12_make_211 : decode cX12_make 211 = .ok (.isub, 1) := by decide +kernel
theorem dX12_make_212 : decode cX12_make 212 = .ok (.iaload, 1) := by decide +kernel
theorem dX12_make_213 : decode cX12_make 213 = .ok (.iload 11, 2) := by decide +kernel
theorem dX12_make_215 : decode cX12_make 215 = .ok (.ifCond .eq 7, 3) := by decide +kernel
theorem dX12_make_218 : decode cX12_make 218 = .ok (.iconst (-1), 1) := by decide +kernel
theorem dX12_make_219 : decode cX12_make 219 = .ok (.goto 5, 3) := by decide +kernel
theorem dX12_make_222 : decode cX12_make 222 = .ok (.iload 9, 2) := by decide +kernel
theorem dX12_make_224 : decode cX12_make 224 = .ok (.iastore, 1) := by decide +kernel
theorem dX12_make_225 : decode cX12_make 225 = .ok (.aload_n 0, 1) := by decide +kernel
theorem dX12_make_226 : decode cX12_make 226 = .ok (.getfield 98, 3) := by decide +kernel
theorem dX12_make_229 : decode cX12_make 229 = .ok (.iload 5, 2) := by decide +kernel
theorem dX12_make_231 : decode cX12_make 231 = .ok (.iconst 1, 1) := by decide +kernel
theorem dX12_make_232 : decode cX12_make 232 = .ok (.isub, 1) := by decide +kernel
theorem dX12_make_233 : decode cX12_make 233 = .ok (.dup2, 1) := by decide +kernel
theorem dX12_make_234 : decode cX12_make 234 = .ok (.iaload, 1) := by decide +kernel
theorem dX12_make_235 : decode cX12_make 235 = .ok (.iconst 1, 1) := by decide +kernel
theorem dX12_make_236 : decode cX12_make 236 = .ok (.isub, 1) := by decide +kernel
theorem dX12_make_237 : decode cX12_make 237 = .ok (.iastore, 1) := by decide +kernel
theorem dX12_make_238 : decode cX12_make 238 = .ok (.iload 10, 2) := by decide +kernel
theorem dX12_make_240 : decode cX12_make 240 = .ok (.ifCond .le 24, 3) := by decide +kernel
theorem dX12_make_243 : decode cX12_make 243 = .ok (.aload_n 0, 1) := by decide +kernel
theorem dX12_make_244 : decode cX12_make 244 = .ok (.getfield 95, 3) := by decide +kernel
theorem dX12_make_247 : decode cX12_make 247 = .ok (.iload 5, 2) := by decide +kernel
theorem dX12_make_249 : decode cX12_make 249 = .ok (.iload 9, 2) := by decide +kernel
theorem dX12_make_251 : decode cX12_make 251 = .ok (.iastore, 1) := by decide +kernel
theorem dX12_make_252 : decode cX12_make 252 = .ok (.aload_n 0, 1) := by decide +kernel
theorem dX12_make_253 : decode cX12_make 253 = .ok (.getfield 98, 3) := by decide +kernel
theorem dX12_make_256 : decode cX12_make 256 = .ok (.iload 5, 2) := by decide +kernel
theorem dX12_make_258 : decode cX12_make 258 = .ok (.iload 10, 2) := by decide +kernel
theorem dX12_make_260 : decode cX12_make 260 = .ok (.iastore, 1) := by decide +kernel
theorem dX12_make_261 : decode cX12_make 261 = .ok (.iinc 5 1, 3) := by decide +kernel
theorem dX12_make_264 : decode cX12_make 264 = .ok (.iload 5, 2) := by decide +kernel
theorem dX12_make_266 : decode cX12_make 266 = .ok (.ifCond .le 21, 3) := by decide +kernel
theorem dX12_make_269 : decode cX12_make 269 = .ok (.aload_n 0, 1) := by decide +kernel
theorem dX12_make_270 : decode cX12_make 270 = .ok (.getfield 98, 3) := by decide +kernel
theorem dX12_make_273 : decode cX12_make 273 = .ok (.iload 5, 2) := by decide +kernel
theorem dX12_make_275 : decode cX12_make 275 = .ok (.iconst 1, 1) := by decide +kernel
theorem dX12_make_276 : decode cX12_make 276 = .ok (.isub, 1) := by decide +kernel
theorem dX12_make_277 : decode cX12_make 277 = .ok (.iaload, 1) := by decide +kernel
theorem dX12_make_278 : decode cX12_make 278 = .ok (.ifCond .ne 9, 3) := by decide +kernel
theorem dX12_make_281 : decode cX12_make 281 = .ok (.iinc 5 (-1), 3) := by decide +kernel
theorem dX12_make_284 : decode cX12_make 284 = .ok (.goto (-20), 3) := by decide +kernel
theorem dX12_make_287 : decode cX12_make 287 = .ok (.iload 8, 2) := by decide +kernel
theorem dX12_make_289 : decode cX12_make 289 = .ok (.bipush 33, 2) := by decide +kernel
theorem dX12_make_291 : decode cX12_make 291 = .ok (.if_icmp .ne 12, 3) := by decide +kernel
theorem dX12_make_294 : decode cX12_make 294 = .ok (.aload_n 0, 1) := by decide +kernel
theorem dX12_make_295 : decode cX12_make 295 = .ok (.iload 6, 2) := by decide +kernel
theorem dX12_make_297 : decode cX12_make 297 = .ok (.invokevirtual 201, 3) := by decide +kernel
theorem dX12_make_300 : decode cX12_make 300 = .ok (.goto 7, 3) := by decide +kernel
theorem dX12_make_303 : decode cX12_make 303 = .ok (.iload 6, 2) := by decide +kernel
theorem dX12_make_305 : decode cX12_make 305 = .ok (.iconst 1, 1) := by decide +kernel
theorem dX12_make_306 : decode cX12_make 306 = .ok (.iadd, 1) := by decide +kernel
theorem dX12_make_307 : decode cX12_make 307 = .ok (.istore 6, 2) := by decide +kernel
theorem dX12_make_309 : decode cX12_make 309 = .ok (.iload 5, 2) := by decide +kernel
theorem dX12_make_311 : decode cX12_make 311 = .ok (.ifCond .le 7, 3) := by decide +kernel
theorem dX12_make_314 : decode cX12_make 314 = .ok (.iconst 1, 1) := by decide +kernel
theorem dX12_make_315 : decode cX12_make 315 = .ok (.goto 4, 3) := by decide +kernel
theorem dX12_make_318 : decode cX12_make 318 = .ok (.iconst 0, 1) := by decide +kernel
theorem dX12_make_319 : decode cX12_make 319 = .ok (.istore 7, 2) := by decide +kernel
theorem dX12_make_321 : decode cX12_make 321 = .ok (.goto (-309), 3) := by decide +kernel
theorem dX12_make_324 : decode cX12_make 324 = .ok (.iload 4, 2) := by decide +kernel
theorem dX12_make_326 : decode cX12_make 326 = .ok (.ireturn, 1) := by decide +kernel
theorem dX12_task_0 : decode cX12_task 0 = .ok (.aload_n 0, 1) := by decide +kernel
theorem dX12_task_1 : decode cX12_task 1 = .ok (.getfield 62, 3) := by decide +kernel
theorem dX12_task_4 : decode cX12_task 4 = .ok (.aload_n 0, 1) := by decide +kernel
theorem dX12_task_5 : decode cX12_task 5 = .ok (.getfield 239, 3) := by decide +kernel
theorem dX12_task_8 : decode cX12_task 8 = .ok (.iload_n 1, 1) := by decide +kernel
theorem dX12_task_9 : decode cX12_task 9 = .ok (.iastore, 1) := by decide +kernel
theorem dX12_task_10 : decode cX12_task 10 = .ok (.aload_n 0, 1) := by decide +kernel
theorem dX12_task_11 : decode cX12_task 11 = .ok (.getfield 65, 3) := by decide +kernel
theorem dX12_task_14 : decode cX12_task 14 = .ok (.aload_n 0, 1) := by decide +kernel
theorem dX12_task_15 : decode cX12_task 15 = .ok (.getfield 239, 3) := by decide +kernel
theorem dX12_task_18 : decode cX12_task 18 = .ok (.iload_n 2, 1) := by decide +kernel
theorem dX12_task_19 : decode cX12_task 19 = .ok (.iastore, 1) := by decide +kernel
theorem dX12_task_20 : decode cX12_task 20 = .ok (.aload_n 0, 1) := by decide +kernel
theorem dX12_task_21 : decode cX12_task 21 = .ok (.getfield 68, 3) := by decide +kernel
theorem dX12_task_24 : decode cX12_task 24 = .ok (.aload_n 0, 1) := by decide +kernel
theorem dX12_task_25 : decode cX12_task 25 = .ok (.getfield 239, 3) := by decide +kernel
theorem dX12_task_28 : decode cX12_task 28 = .ok (.iload_n 3, 1) := by decide +kernel
theorem dX12_task_29 : decode cX12_task 29 = .ok (.iastore, 1) := by decide +kernel
theorem dX12_task_30 : decode cX12_task 30 = .ok (.aload_n 0, 1) := by decide +kernel
theorem dX12_task_31 : decode cX12_task 31 = .ok (.getfield 71, 3) := by decide +kernel
theorem dX12_task_34 : decode cX12_task 34 = .ok (.aload_n 0, 1) := by decide +kernel
theorem dX12_task_35 : decode cX12_task 35 = .ok (.getfield 239, 3) := by decide +kernel
theorem dX12_task_38 : decode cX12_task 38 = .ok (.iload 4, 2) := by decide +kernel
theorem dX12_task_40 : decode cX12_task 40 = .ok (.iastore, 1) := by decide +kernel
theorem dX12_task_41 : decode cX12_task 41 = .ok (.aload_n 0, 1) := by decide +kernel
theorem dX12_task_42 : decode cX12_task 42 = .ok (.dup, 1) := by decide +kernel
theorem dX12_task_43 : decode cX12_task 43 = .ok (.getfield 239, 3) := by decide +kernel
theorem dX12_task_46 : decode cX12_task 46 = .ok (.iconst 1, 1) := by decide +kernel
theorem dX12_task_47 : decode cX12_task 47 = .ok (.iadd, 1) := by decide +kernel
theorem dX12_task_48 : decode cX12_task 48 = .ok (.putfield 239, 3) := by decide +kernel
theorem dX12_task_51 : decode cX12_task 51 = .ok (.return_, 1) := by decide +kernel
theorem dX12_step_0 : decode cX12_step 0 = .ok (.aload_n 0, 1) := by decide +kernel
theorem dX12_step_1 : decode cX12_step 1 = .ok (.getfield 242, 3) := by decide +kernel
theorem dX12_step_4 : decode cX12_step 4 = .ok (.bipush 100, 2) := by decide +kernel
theorem dX12_step_6 : decode cX12_step 6 = .ok (.if_icmp .ne 11, 3) := by decide +kernel
theorem dX12_step_9 : decode cX12_step 9 = .ok (.aload_n 0, 1) := by decide +kernel
theorem dX12_step_10 : decode cX12_step 10 = .ok (.iconst 4, 1) := by decide +kernel
theorem dX12_step_11 : decode cX12_step 11 = .ok (.putfield 245, 3) := by decide +kernel
theorem dX12_step_14 : decode cX12_step 14 = .ok (.goto 13, 3) := by decide +kernel
theorem dX12_step_17 : decode cX12_step 17 = .ok (.aload_n 0, 1) := by decide +kernel
theorem dX12_step_18 : decode cX12_step 18 = .ok (.dup, 1) := by decide +kernel
theorem dX12_step_19 : decode cX12_step 19 = .ok (.getfield 242, 3) := by decide +kernel
theorem dX12_step_22 : decode cX12_step 22 = .ok (.iconst 1, 1) := by decide +kernel
theorem dX12_step_23 : decode cX12_step 23 = .ok (.iadd, 1) := by decide +kernel
theorem dX12_step_24 : decode cX12_step 24 = .ok (.putfield 242, 3) := by decide +kernel
theorem dX12_step_27 : decode cX12_step 27 = .ok (.return_, 1) := by decide +kernel
theorem dX12_decide_0 : decode cX12_decide 0 = .ok (.bipush 41, 2) := by decide +kernel
theorem dX12_decide_2 : decode cX12_decide 2 = .ok (.iload_n 1, 1) := by decide +kernel
theorem dX12_decide_3 : decode cX12_decide 3 = .ok (.imul, 1) := by decide +kernel
theorem dX12_decide_4 : decode cX12_decide 4 = .ok (.aload_n 0, 1) := by decide +kernel
theorem dX12_decide_5 : decode cX12_decide 5 = .ok (.getfield 86, 3) := by decide +kernel
theorem dX12_decide_8 : decode cX12_decide 8 = .ok (.iload_n 1, 1) := by decide +kernel
theorem dX12_decide_9 : decode cX12_decide 9 = .ok (.iaload, 1) := by decide +kernel
theorem dX12_decide_10 : decode cX12_decide 10 = .ok (.iadd, 1) := by decide +kernel
theorem dX12_decide_11 : decode cX12_decide 11 = .ok (.istore_n 3, 1) := by decide +kernel
theorem dX12_decide_12 : decode cX12_decide 12 = .ok (.aload_n 0, 1) := by decide +kernel
theorem dX12_decide_13 : decode cX12_decide 13 = .ok (.getfield 86, 3) := by decide +kernel
theorem dX12_decide_16 : decode cX12_decide 16 = .ok (.iload_n 1, 1) := by decide +kernel
theorem dX12_decide_17 : decode cX12_decide 17 = .ok (.iaload, 1) := by decide +kernel
theorem dX12_decide_18 : decode cX12_decide 18 = .ok (.bipush 40, 2) := by decide +kernel
theorem dX12_decide_20 : decode cX12_decide 20 = .ok (.if_icmp .ne 10, 3) := by decide +kernel
theorem dX12_decide_23 : decode cX12_decide 23 = .ok (.aload_n 0, 1) := by decide +kernel
theorem dX12_decide_24 : decode cX12_decide 24 = .ok (.iconst 4, 1) := by decide +kernel
theorem dX12_decide_25 : decode cX12_decide 25 = .ok (.putfield 245, 3) := by decide +kernel
theorem dX12_decide_28 : decode cX12_decide 28 = .ok (.iconst 0, 1) := by decide +kernel
theorem dX12_decide_29 : decode cX12_decide 29 = .ok (.ireturn, 1) := by decide +kernel
theorem dX12_decide_30 : decode cX12_decide 30 = .ok (.aload_n 0, 1) := by decide +kernel
theorem dX12_decide_31 : decode cX12_decide 31 = .ok (.getfield 86, 3) := by decide +kernel
theorem dX12_decide_34 : decode cX12_decide 34 = .ok (.iload_n 1, 1) := by decide +kernel
theorem dX12_decide_35 : decode cX12_decide 35 = .ok (.iaload, 1) := by decide +kernel
theorem dX12_decide_36 : decode cX12_decide 36 = .ok (.aload_n 0, 1) := by decide +kernel
theorem dX12_decide_37 : decode cX12_decide 37 = .ok (.getfield 83, 3) := by decide +kernel
theorem dX12_decide_40 : decode cX12_decide 40 = .ok (.iload_n 1, 1) := by decide +kernel
theorem dX12_decide_41 : decode cX12_decide 41 = .ok (.iaload, 1) := by decide +kernel
theorem dX12_decide_42 : decode cX12_decide 42 = .ok (.if_icmp .ne 19, 3) := by decide +kernel
theorem dX12_decide_45 : decode cX12_decide 45 = .ok (.iload_n 1, 1) := by decide +kernel
theorem dX12_decide_46 : decode cX12_decide 46 = .ok (.ifCond .ne 15, 3) := by decide +kernel
theorem dX12_decide_49 : decode cX12_decide 49 = .ok (.aload_n 0, 1) := by decide +kernel
theorem dX12_decide_50 : decode cX12_decide 50 = .ok (.iconst 5, 1) := by decide +kernel
theorem dX12_decide_51 : decode cX12_decide 51 = .ok (.putfield 245, 3) := by decide +kernel
theorem dX12_decide_54 : decode cX12_decide 54 = .ok (.aload_n 0, 1) := by decide +kernel
theorem dX12_decide_55 : decode cX12_decide 55 = .ok (.iload_n 2, 1) := by decide +kernel
theorem dX12_decide_56 : decode cX12_decide 56 = .ok (.putfield 248, 3) := by decide +kernel
theorem dX12_decide_59 : decode cX12_decide 59 = .ok (.iconst 0, 1) := by decide +kernel
theorem dX12_decide_60 : decode cX12_decide 60 = .ok (.ireturn, 1) := by decide +kernel
theorem dX12_decide_61 : decode cX12_decide 61 = .ok (.aload_n 0, 1) := by decide +kernel
theorem dX12_decide_62 : decode cX12_decide 62 = .ok (.getfield 86, 3) := by decide +kernel
theorem dX12_decide_65 : decode cX12_decide 65 = .ok (.iload_n 1, 1) := by decide +kernel
theorem dX12_decide_66 : decode cX12_decide 66 = .ok (.iaload, 1) := by decide +kernel
theorem dX12_decide_67 : decode cX12_decide 67 = .ok (.aload_n 0, 1) := by decide +kernel
theorem dX12_decide_68 : decode cX12_decide 68 = .ok (.getfield 83, 3) := by decide +kernel
theorem dX12_decide_71 : decode cX12_decide 71 = .ok (.iload_n 1, 1) := by decide +kernel
theorem dX12_decide_72 : decode cX12_decide 72 = .ok (.iaload, 1) := by decide +kernel
theorem dX12_decide_73 : decode cX12_decide 73 = .ok (.if_icmp .ne 20, 3) := by decide +kernel
theorem dX12_decide_76 : decode cX12_decide 76 = .ok (.aload_n 0, 1) := by decide +kernel
theorem dX12_decide_77 : decode cX12_decide 77 = .ok (.getfield 89, 3) := by decide +kernel
theorem dX12_decide_80 : decode cX12_decide 80 = .ok (.iload_n 3, 1) := by decide +kernel
theorem dX12_decide_81 : decode cX12_decide 81 = .ok (.iconst 0, 1) := by decide +kernel
theorem dX12_decide_82 : decode cX12_decide 82 = .ok (.iastore, 1) := by decide +kernel
theorem dX12_decide_83 : decode cX12_decide 83 = .ok (.aload_n 0, 1) := by decide +kernel
theorem dX12_decide_84 : decode cX12_decide 84 = .ok (.getfield 83, 3) := by decide +kernel
theorem dX12_decide_87 : decode cX12_decide 87 = .ok (.iload_n 1, 1) := by decide +kernel
theorem dX12_decide_88 : decode cX12_decide 88 = .ok (.dup2, 1) := by decide +kernel
theorem dX12_decide_89 : decode cX12_decide 89 = .ok (.iaload, 1) := by decide +kernel
theorem dX12_decide_90 : decode cX12_decide 90 = .ok (.iconst 1, 1) := by decide +kernel
theorem dX12_decide_91 : decode cX12_decide 91 = .ok (.iadd, 1) := by decide +kernel
theorem dX12_decide_92 : decode cX12_decide 92 = .ok (.iastore, 1) := by decide +kernel
theorem dX12_decide_93 : decode cX12_decide 93 = .ok (.aload_n 0, 1) := by decide +kernel
theorem dX12_decide_94 : decode cX12_decide 94 = .ok (.getfield 92, 3) := by decide +kernel
theorem dX12_decide_97 : decode cX12_decide 97 = .ok (.iload_n 3, 1) := by decide +kernel
theorem dX12_decide_98 : decode cX12_decide 98 = .ok (.iload_n 2, 1) := by decide +kernel
theorem dX12_decide_99 : decode cX12_decide 99 = .ok (.iastore, 1) := by decide +kernel
theorem dX12_decide_100 : decode cX12_decide 100 = .ok (.aload_n 0, 1) := by decide +kernel
theorem dX12_decide_101 : decode cX12_decide 101 = .ok (.getfield 86, 3) := by decide +kernel
theorem dX12_decide_104 : decode cX12_decide 104 = .ok (.iload_n 1, 1) := by decide +kernel
theorem dX12_decide_105 : decode cX12_decide 105 = .ok (.dup2, 1) := by decide +kernel
theorem dX12_decide_106 : decode cX12_decide 106 = .ok (.iaload, 1) := by decide +kernel
theorem dX12_decide_107 : decode cX12_decide 107 = .ok (.iconst 1, 1) := by decide +kernel
theorem dX12_decide_108 : decode cX12_decide 108 = .ok (.iadd, 1) := by decide +kernel
theorem dX12_decide_109 : decode cX12_decide 109 = .ok (.iastore, 1) := by decide +kernel
theorem dX12_decide_110 : decode cX12_decide 110 = .ok (.aload_n 0, 1) := by decide +kernel
theorem dX12_decide_111 : decode cX12_decide 111 = .ok (.getfield 89, 3) := by decide +kernel
theorem dX12_decide_114 : decode cX12_decide 114 = .ok (.iload_n 3, 1) := by decide +kernel
theorem dX12_decide_115 : decode cX12_decide 115 = .ok (.iaload, 1) := by decide +kernel
theorem dX12_decide_116 : decode cX12_decide 116 = .ok (.ireturn, 1) := by decide +kernel
theorem dX12_attempt_0 : decode cX12_attempt 0 = .ok (.aload_n 0, 1) := by decide +kernel
theorem dX12_attempt_1 : decode cX12_attempt 1 = .ok (.getfield 80, 3) := by decide +kernel
theorem dX12_attempt_4 : decode cX12_attempt 4 = .ok (.aload_n 0, 1) := by decide +kernel
theorem dX12_attempt_5 : decode cX12_attempt 5 = .ok (.getfield 251, 3) := by decide +kernel
theorem dX12_attempt_8 : decode cX12_attempt 8 = .ok (.iaload, 1) := by decide +kernel
theorem dX12_attempt_9 : decode cX12_attempt 9 = .ok (.bipush 20, 2) := by decide +kernel
theorem dX12_attempt_11 : decode cX12_attempt 11 = .ok (.if_icmp .ne 9, 3) := by decide +kernel
theorem dX12_attempt_14 : decode cX12_attempt 14 = .ok (.aload_n 0, 1) := by decide +kernel
theorem dX12_attempt_15 : decode cX12_attempt 15 = .ok (.iconst 4, 1) := by decide +kernel
theorem dX12_attempt_16 : decode cX12_attempt 16 = .ok (.putfield 245, 3) := by decide +kernel
theorem dX12_attempt_19 : decode cX12_attempt 19 = .ok (.return_, 1) := by decide +kernel
theorem dX12_attempt_20 : decode cX12_attempt 20 = .ok (.aload_n 0, 1) := by decide +kernel
theorem dX12_attempt_21 : decode cX12_attempt 21 = .ok (.getfield 80, 3) := by decide +kernel
theorem dX12_attempt_24 : decode cX12_attempt 24 = .ok (.aload_n 0, 1) := by decide +kernel
theorem dX12_attempt_25 : decode cX12_attempt 25 = .ok (.getfield 251, 3) := by decide +kernel
theorem dX12_attempt_28 : decode cX12_attempt 28 = .ok (.dup2, 1) := by decide +kernel
theorem dX12_attempt_29 : decode cX12_attempt 29 = .ok (.iaload, 1) := by decide +kernel
theorem dX12_attempt_30 : decode cX12_attempt 30 = .ok (.iconst 1, 1) := by decide +kernel
theorem dX12_attempt_31 : decode cX12_attempt 31 = .ok (.iadd, 1) := by decide +kernel
theorem dX12_attempt_32 : decode cX12_attempt 32 = .ok (.iastore, 1) := by decide +kernel
theorem dX12_attempt_33 : decode cX12_attempt 33 = .ok (.aload_n 0, 1) := by decide +kernel
theorem dX12_attempt_34 : decode cX12_attempt 34 = .ok (.invokevirtual 254, 3) := by decide +kernel
theorem dX12_attempt_37 : decode cX12_attempt 37 = .ok (.aload_n 0, 1) := by decide +kernel
theorem dX12_attempt_38 : decode cX12_attempt 38 = .ok (.getfield 245, 3) := by decide +kernel
theorem dX12_attempt_41 : decode cX12_attempt 41 = .ok (.ifCond .ne 61, 3) := by decide +kernel
theorem dX12_attempt_44 : decode cX12_attempt 44 = .ok (.aload_n 0, 1) := by decide +kernel
theorem dX12_attempt_45 : decode cX12_attempt 45 = .ok (.getfield 86, 3) := by decide +kernel
theorem dX12_attempt_48 : decode cX12_attempt 48 = .ok (.aload_n 0, 1) := by decide +kernel
theorem dX12_attempt_49 : decode cX12_attempt 49 = .ok (.getfield 251, 3) := by decide +kernel
theorem dX12_attempt_52 : decode cX12_attempt 52 = .ok (.iconst 0, 1) := by decide +kernel
theorem dX12_attempt_53 : decode cX12_attempt 53 = .ok (.iastore, 1) := by decide +kernel
theorem dX12_attempt_54 : decode cX12_attempt 54 = .ok (.aload_n 0, 1) := by decide +kernel
theorem dX12_attempt_55 : decode cX12_attempt 55 = .ok (.getfield 77, 3) := by decide +kernel
theorem dX12_attempt_58 : decode cX12_attempt 58 = .ok (.aload_n 0, 1) := by decide +kernel
theorem dX12_attempt_59 : decode cX12_attempt 59 = .ok (.getfield 251, 3) := by decide +kernel
theorem dX12_attempt_62 : decode cX12_attempt 62 = .ok (.iaload, 1) := by decide +kernel
theorem dX12_attempt_63 : decode cX12_attempt 63 = .ok (.istore_n 1, 1) := by decide +kernel
theorem dX12_attempt_64 : decode cX12_attempt 64 = .ok (.aload_n 0, 1) := by decide +kernel
theorem dX12_attempt_65 : decode cX12_attempt 65 = .ok (.aload_n 0, 1) := by decide +kernel
theorem dX12_attempt_66 : decode cX12_attempt 66 = .ok (.getfield 38, 3) := by decide +kernel
theorem dX12_attempt_69 : decode cX12_attempt 69 = .ok (.iload_n 1, 1) := by decide +kernel
theorem dX12_attempt_70 : decode cX12_attempt 70 = .ok (.iaload, 1) := by decide +kernel
theorem dX12_attempt_71 : decode cX12_attempt 71 = .ok (.aload_n 0, 1) := by decide +kernel
theorem dX12_attempt_72 : decode cX12_attempt 72 = .ok (.getfield 50, 3) := by decide +kernel
theorem dX12_attempt_75 : decode cX12_attempt 75 = .ok (.iload_n 1, 1) := by decide +kernel
theorem dX12_attempt_76 : decode cX12_attempt 76 = .ok (.iaload, 1) := by decide +kernel
theorem dX12_attempt_77 : decode cX12_attempt 77 = .ok (.aload_n 0, 1) := by decide +kernel
theorem dX12_attempt_78 : decode cX12_attempt 78 = .ok (.getfield 251, 3) := by decide +kernel
theorem dX12_attempt_81 : decode cX12_attempt 81 = .ok (.invokevirtual 257, 3) := by decide +kernel
theorem dX12_attempt_84 : decode cX12_attempt 84 = .ok (.istore_n 2, 1) := by decide +kernel
theorem dX12_attempt_85 : decode cX12_attempt 85 = .ok (.aload_n 0, 1) := by decide +kernel
theorem dX12_attempt_86 : decode cX12_attempt 86 = .ok (.bipush 9, 2) := by decide +kernel
theorem dX12_attempt_88 : decode cX12_attempt 88 = .ok (.iload_n 1, 1) := by decide +kernel
theorem dX12_attempt_89 : decode cX12_attempt 89 = .ok (.iconst 0, 1) := by decide +kernel
theorem dX12_attempt_90 : decode cX12_attempt 90 = .ok (.iconst 0, 1) := by decide +kernel
theorem dX12_attempt_91 : decode cX12_attempt 91 = .ok (.invokevirtual 260, 3) := by decide +kernel
theorem dX12_attempt_94 : decode cX12_attempt 94 = .ok (.aload_n 0, 1) := by decide +kernel
theorem dX12_attempt_95 : decode cX12_attempt 95 = .ok (.iconst 1, 1) := by decide +kernel
theorem dX12_attempt_96 : decode cX12_attempt 96 = .ok (.iload_n 2, 1) := by decide +kernel
theorem dX12_attempt_97 : decode cX12_attempt 97 = .ok (.iconst 0, 1) := by decide +kernel
theorem dX12_attempt_98 : decode cX12_attempt 98 = .ok (.iconst 0, 1) := by decide +kernel
theorem dX12_attempt_99 : decode cX12_attempt 99 = .ok (.invokevirtual 260, 3) := by decide +kernel
theorem dX12_attempt_102 : decode cX12_attempt 102 = .ok (.return_, 1) := by decide +kernel
theorem dX12_beginSome_0 : decode cX12_beginSome 0 = .ok (.aload_n 0, 1) := by decide +kernel
theorem dX12_beginSome_1 : decode cX12_beginSome 1 = .ok (.dup, 1) := by decide +kernel
theorem dX12_beginSome_2 : decode cX12_beginSome 2 = .ok (.getfield 251, 3) := by decide +kernel
theorem dX12_beginSome_5 : decode cX12_beginSome 5 = .ok (.iconst 1, 1) := by decide +kernel
theorem dX12_beginSome_6 : decode cX12_beginSome 6 = .ok (.iadd, 1) := by decide +kernel
theorem dX12_beginSome_7 : decode cX12_beginSome 7 = .ok (.putfield 251, 3) := by decide +kernel
theorem dX12_beginSome_10 : decode cX12_beginSome 10 = .ok (.aload_n 0, 1) := by decide +kernel
theorem dX12_beginSome_11 : decode cX12_beginSome 11 = .ok (.getfield 74, 3) := by decide +kernel
theorem dX12_beginSome_14 : decode cX12_beginSome 14 = .ok (.aload_n 0, 1) := by decide +kernel
theorem dX12_beginSome_15 : decode cX12_beginSome 15 = .ok (.getfield 251, 3) := by decide +kernel
theorem dX12_beginSome_18 : decode cX12_beginSome 18 = .ok (.aload_n 0, 1) := by decide +kernel
theorem dX12_beginSome_19 : decode cX12_beginSome 19 = .ok (.getfield 239, 3) := by decide +kernel
theorem dX12_beginSome_22 : decode cX12_beginSome 22 = .ok (.iastore, 1) := by decide +kernel
theorem dX12_beginSome_23 : decode cX12_beginSome 23 = .ok (.aload_n 0, 1) := by decide +kernel
theorem dX12_beginSome_24 : decode cX12_beginSome 24 = .ok (.getfield 77, 3) := by decide +kernel
theorem dX12_beginSome_27 : decode cX12_beginSome 27 = .ok (.aload_n 0, 1) := by decide +kernel
theorem dX12_beginSome_28 : decode cX12_beginSome 28 = .ok (.getfield 251, 3) := by decide +kernel
theorem dX12_beginSome_31 : decode cX12_beginSome 31 = .ok (.iload_n 1, 1) := by decide +kernel
theorem dX12_beginSome_32 : decode cX12_beginSome 32 = .ok (.iastore, 1) := by decide +kernel
theorem dX12_beginSome_33 : decode cX12_beginSome 33 = .ok (.aload_n 0, 1) := by decide +kernel
theorem dX12_beginSome_34 : decode cX12_beginSome 34 = .ok (.getfield 80, 3) := by decide +kernel
theorem dX12_beginSome_37 : decode cX12_beginSome 37 = .ok (.aload_n 0, 1) := by decide +kernel
theorem dX12_beginSome_38 : decode cX12_beginSome 38 = .ok (.getfield 251, 3) := by decide +kernel
theorem dX12_beginSome_41 : decode cX12_beginSome 41 = .ok (.iconst 0, 1) := by decide +kernel
theorem dX12_beginSome_42 : decode cX12_beginSome 42 = .ok (.iastore, 1) := by decide +kernel
theorem dX12_beginSome_43 : decode cX12_beginSome 43 = .ok (.aload_n 0, 1) := by decide +kernel
theorem dX12_beginSome_44 : decode cX12_beginSome 44 = .ok (.getfield 83, 3) := by decide +kernel
theorem dX12_beginSome_47 : decode cX12_beginSome 47 = .ok (.aload_n 0, 1) := by decide +kernel
theorem dX12_beginSome_48 : decode cX12_beginSome 48 = .ok (.getfield 251, 3) := by decide +kernel
theorem dX12_beginSome_51 : decode cX12_beginSome 51 = .ok (.iconst 0, 1) := by decide +kernel
theorem dX12_beginSome_52 : decode cX12_beginSome 52 = .ok (.iastore, 1) := by decide +kernel
theorem dX12_beginSome_53 : decode cX12_beginSome 53 = .ok (.aload_n 0, 1) := by decide +kernel
theorem dX12_beginSome_54 : decode cX12_beginSome 54 = .ok (.invokevirtual 264, 3) := by decide +kernel
theorem dX12_beginSome_57 : decode cX12_beginSome 57 = .ok (.return_, 1) := by decide +kernel
theorem dX12_fail_0 : decode cX12_fail 0 = .ok (.iload_n 1, 1) := by decide +kernel
theorem dX12_fail_1 : decode cX12_fail 1 = .ok (.ifCond .ne 9, 3) := by decide +kernel
theorem dX12_fail_4 : decode cX12_fail 4 = .ok (.aload_n 0, 1) := by decide +kernel
theorem dX12_fail_5 : decode cX12_fail 5 = .ok (.iconst 2, 1) := by decide +kernel
theorem dX12_fail_6 : decode cX12_fail 6 = .ok (.putfield 245, 3) := by decide +kernel
theorem dX12_fail_9 : decode cX12_fail 9 = .ok (.return_, 1) := by decide +kernel
theorem dX12_fail_10 : decode cX12_fail 10 = .ok (.aload_n 0, 1) := by decide +kernel
theorem dX12_fail_11 : decode cX12_fail 11 = .ok (.iload_n 1, 1) := by decide +kernel
theorem dX12_fail_12 : decode cX12_fail 12 = .ok (.putfield 251, 3) := by decide +kernel
theorem dX12_fail_15 : decode cX12_fail 15 = .ok (.aload_n 0, 1) := by decide +kernel
theorem dX12_fail_16 : decode cX12_fail 16 = .ok (.aload_n 0, 1) := by decide +kernel
theorem dX12_fail_17 : decode cX12_fail 17 = .ok (.getfield 74, 3) := by decide +kernel
theorem dX12_fail_20 : decode cX12_fail 20 = .ok (.iload_n 1, 1) := by decide +kernel
theorem dX12_fail_21 : decode cX12_fail 21 = .ok (.iaload, 1) := by decide +kernel
theorem dX12_fail_22 : decode cX12_fail 22 = .ok (.putfield 239, 3) := by decide +kernel
theorem dX12_fail_25 : decode cX12_fail 25 = .ok (.aload_n 0, 1) := by decide +kernel
theorem dX12_fail_26 : decode cX12_fail 26 = .ok (.getfield 86, 3) := by decide +kernel
theorem dX12_fail_29 : decode cX12_fail 29 = .ok (.iload_n 1, 1) := by decide +kernel
theorem dX12_fail_30 : decode cX12_fail 30 = .ok (.iaload, 1) := by decide +kernel
theorem dX12_fail_31 : decode cX12_fail 31 = .ok (.iconst 1, 1) := by decide +kernel
theorem dX12_fail_32 : decode cX12_fail 32 = .ok (.isub, 1) := by decide +kernel
theorem dX12_fail_33 : decode cX12_fail 33 = .ok (.istore_n 2, 1) := by decide +kernel
theorem dX12_fail_34 : decode cX12_fail 34 = .ok (.iload_n 2, 1) := by decide +kernel
theorem dX12_fail_35 : decode cX12_fail 35 = .ok (.ifCond .lt 36, 3) := by decide +kernel
theorem dX12_fail_38 : decode cX12_fail 38 = .ok (.aload_n 0, 1) := by decide +kernel
theorem dX12_fail_39 : decode cX12_fail 39 = .ok (.getfield 89, 3) := by decide +kernel
theorem dX12_fail_42 : decode cX12_fail 42 = .ok (.bipush 41, 2) := by decide +kernel
theorem dX12_fail_44 : decode cX12_fail 44 = .ok (.iload_n 1, 1) := by decide +kernel
theorem dX12_fail_45 : decode cX12_fail 45 = .ok (.imul, 1) := by decide +kernel
theorem dX12_fail_46 : decode cX12_fail 46 = .ok (.iload_n 2, 1) := by decide +kernel
theorem dX12_fail_47 : decode cX12_fail 47 = .ok (.iadd, 1) := by decide +kernel
theorem dX12_fail_48 : decode cX12_fail 48 = .ok (.iaload, 1) := by decide +kernel
theorem dX12_fail_49 : decode cX12_fail 49 = .ok (.iconst 1, 1) := by decide +kernel
theorem dX12_fail_50 : decode cX12_fail 50 = .ok (.iadd, 1) := by decide +kernel
theorem dX12_fail_51 : decode cX12_fail 51 = .ok (.aload_n 0, 1) := by decide +kernel
theorem dX12_fail_52 : decode cX12_fail 52 = .ok (.getfield 92, 3) := by decide +kernel
theorem dX12_fail_55 : decode cX12_fail 55 = .ok (.bipush 41, 2) := by decide +kernel
theorem dX12_fail_57 : decode cX12_fail 57 = .ok (.iload_n 1, 1) := by decide +kernel
theorem dX12_fail_58 : decode cX12_fail 58 = .ok (.imul, 1) := by decide +kernel
theorem dX12_fail_59 : decode cX12_fail 59 = .ok (.iload_n 2, 1) := by decide +kernel
theorem dX12_fail_60 : decode cX12_fail 60 = .ok (.iadd, 1) := by decide +kernel
theorem dX12_fail_61 : decode cX12_fail 61 = .ok (.iaload, 1) := by decide +kernel
theorem dX12_fail_62 : decode cX12_fail 62 = .ok (.if_icmp .ne 9, 3) := by decide +kernel
theorem dX12_fail_65 : decode cX12_fail 65 = .ok (.iinc 2 (-1), 3) := by decide +kernel
theorem dX12_fail_68 : decode cX12_fail 68 = .ok (.goto (-34), 3) := by decide +kernel
theorem dX12_fail_71 : decode cX12_fail 71 = .ok (.iload_n 2, 1) := by decide +kernel
theorem dX12_fail_72 : decode cX12_fail 72 = .ok (.ifCond .lt 34, 3) := by decide +kernel
theorem dX12_fail_75 : decode cX12_fail 75 = .ok (.aload_n 0, 1) := by decide +kernel
theorem dX12_fail_76 : decode cX12_fail 76 = .ok (.getfield 89, 3) := by decide +kernel
theorem dX12_fail_79 : decode cX12_fail 79 = .ok (.bipush 41, 2) := by decide +kernel
theorem dX12_fail_81 : decode cX12_fail 81 = .ok (.iload_n 1, 1) := by decide +kernel
theorem dX12_fail_82 : decode cX12_fail 82 = .ok (.imul, 1) := by decide +kernel
theorem dX12_fail_83 : decode cX12_fail 83 = .ok (.iload_n 2, 1) := by decide +kernel
theorem dX12_fail_84 : decode cX12_fail 84 = .ok (.iadd, 1) := by decide +kernel
theorem dX12_fail_85 : decode cX12_fail 85 = .ok (.dup2, 1) := by decide +kernel
theorem dX12_fail_86 : decode cX12_fail 86 = .ok (.iaload, 1) := by decide +kernel
theorem dX12_fail_87 : decode cX12_fail 87 = .ok (.iconst 1, 1) := by decide +kernel
theorem dX12_fail_88 : decode cX12_fail 88 = .ok (.iadd, 1) := by decide +kernel
theorem dX12_fail_89 : decode cX12_fail 89 = .ok (.iastore, 1) := by decide +kernel
theorem dX12_fail_90 : decode cX12_fail 90 = .ok (.aload_n 0, 1) := by decide +kernel
theorem dX12_fail_91 : decode cX12_fail 91 = .ok (.getfield 83, 3) := by decide +kernel
theorem dX12_fail_94 : decode cX12_fail 94 = .ok (.iload_n 1, 1) := by decide +kernel
theorem dX12_fail_95 : decode cX12_fail 95 = .ok (.iload_n 2, 1) := by decide +kernel
theorem dX12_fail_96 : decode cX12_fail 96 = .ok (.iconst 1, 1) := by decide +kernel
theorem dX12_fail_97 : decode cX12_fail 97 = .ok (.iadd, 1) := by decide +kernel
theorem dX12_fail_98 : decode cX12_fail 98 = .ok (.iastore, 1) := by decide +kernel
theorem dX12_fail_99 : decode cX12_fail 99 = .ok (.aload_n 0, 1) := by decide +kernel
theorem dX12_fail_100 : decode cX12_fail 100 = .ok (.invokevirtual 264, 3) := by decide +kernel
theorem dX12_fail_103 : decode cX12_fail 103 = .ok (.goto 24, 3) := by decide +kernel
theorem dX12_fail_106 : decode cX12_fail 106 = .ok (.aload_n 0, 1) := by decide +kernel
theorem dX12_fail_107 : decode cX12_fail 107 = .ok (.aload_n 0, 1) := by decide +kernel
theorem dX12_fail_108 : decode cX12_fail 108 = .ok (.getfield 77, 3) := by decide +kernel
theorem dX12_fail_111 : decode cX12_fail 111 = .ok (.iload_n 1, 1) := by decide +kernel
theorem dX12_fail_112 : decode cX12_fail 112 = .ok (.iaload, 1) := by decide +kernel
theorem dX12_fail_113 : decode cX12_fail 113 = .ok (.iconst 0, 1) := by decide +kernel
theorem dX12_fail_114 : decode cX12_fail 114 = .ok (.invokevirtual 267, 3) := by decide +kernel
theorem dX12_fail_117 : decode cX12_fail 117 = .ok (.aload_n 0, 1) := by decide +kernel
theorem dX12_fail_118 : decode cX12_fail 118 = .ok (.dup, 1) := by decide +kernel
theorem dX12_fail_119 : decode cX12_fail 119 = .ok (.getfield 251, 3) := by decide +kernel
theorem dX12_fail_122 : decode cX12_fail 122 = .ok (.iconst 1, 1) := by decide +kernel
theorem dX12_fail_123 : decode cX12_fail 123 = .ok (.isub, 1) := by decide +kernel
theorem dX12_fail_124 : decode cX12_fail 124 = .ok (.putfield 251, 3) := by decide +kernel
theorem dX12_fail_127 : decode cX12_fail 127 = .ok (.return_, 1) := by decide +kernel
theorem dX12_call__0 : decode cX12_call_ 0 = .ok (.aload_n 0, 1) := by decide +kernel
theorem dX12_call__1 : decode cX12_call_ 1 = .ok (.getfield 38, 3) := by decide +kernel
theorem dX12_call__4 : decode cX12_call_ 4 = .ok (.iload_n 1, 1) := by decide +kernel
theorem dX12_call__5 : decode cX12_call_ 5 = .ok (.iaload, 1) := by decide +kernel
theorem dX12_call__6 : decode cX12_call_ 6 = .ok (.istore_n 2, 1) := by decide +kernel
theorem dX12_call__7 : decode cX12_call_ 7 = .ok (.aload_n 0, 1) := by decide +kernel
theorem dX12_call__8 : decode cX12_call_ 8 = .ok (.getfield 47, 3) := by decide +kernel
theorem dX12_call__11 : decode cX12_call_ 11 = .ok (.iload_n 1, 1) := by decide +kernel
theorem dX12_call__12 : decode cX12_call_ 12 = .ok (.iaload, 1) := by decide +kernel
theorem dX12_call__13 : decode cX12_call_ 13 = .ok (.istore_n 3, 1) := by decide +kernel
theorem dX12_call__14 : decode cX12_call_ 14 = .ok (.aload_n 0, 1) := by decide +kernel
theorem dX12_call__15 : decode cX12_call_ 15 = .ok (.getfield 23, 3) := by decide +kernel
theorem dX12_call__18 : decode cX12_call_ 18 = .ok (.iload_n 2, 1) := by decide +kernel
theorem dX12_call__19 : decode cX12_call_ 19 = .ok (.iaload, 1) := by decide +kernel
theorem dX12_call__20 : decode cX12_call_ 20 = .ok (.istore 4, 2) := by decide +kernel
theorem dX12_call__22 : decode cX12_call_ 22 = .ok (.iload 4, 2) := by decide +kernel
theorem dX12_call__24 : decode cX12_call_ 24 = .ok (.ifCond .ne 9, 3) := by decide +kernel
theorem dX12_call__27 : decode cX12_call_ 27 = .ok (.aload_n 0, 1) := by decide +kernel
theorem dX12_call__28 : decode cX12_call_ 28 = .ok (.iload_n 3, 1) := by decide +kernel
theorem dX12_call__29 : decode cX12_call_ 29 = .ok (.invokevirtual 270, 3) := by decide +kernel
theorem dX12_call__32 : decode cX12_call_ 32 = .ok (.return_, 1) := by decide +kernel
theorem dX12_call__33 : decode cX12_call_ 33 = .ok (.iload 4, 2) := by decide +kernel
theorem dX12_call__35 : decode cX12_call_ 35 = .ok (.iconst 1, 1) := by decide +kernel
theorem dX12_call__36 : decode cX12_call_ 36 = .ok (.if_icmp .le 13, 3) := by decide +kernel
theorem dX12_call__39 : decode cX12_call_ 39 = .ok (.aload_n 0, 1) := by decide +kernel
theorem dX12_call__40 : decode cX12_call_ 40 = .ok (.iload_n 3, 1) := by decide +kernel
theorem dX12_call__41 : decode cX12_call_ 41 = .ok (.iload 4, 2) := by decide +kernel
theorem dX12_call__43 : decode cX12_call_ 43 = .ok (.invokevirtual 273, 3) := by decide +kernel
theorem dX12_call__46 : decode cX12_call_ 46 = .ok (.goto 4, 3) := by decide +kernel
theorem dX12_call__49 : decode cX12_call_ 49 = .ok (.iconst 0, 1) := by decide +kernel
theorem dX12_call__50 : decode cX12_call_ 50 = .ok (.istore 5, 2) := by decide +kernel
theorem dX12_call__52 : decode cX12_call_ 52 = .ok (.aload_n 0, 1) := by decide +kernel
theorem dX12_call__53 : decode cX12_call_ 53 = .ok (.getfield 245, 3) := by decide +kernel
theorem dX12_call__56 : decode cX12_call_ 56 = .ok (.ifCond .ne 7, 3) := by decide +kernel
theorem dX12_call__59 : decode cX12_call_ 59 = .ok (.aload_n 0, 1) := by decide +kernel
theorem dX12_call__60 : decode cX12_call_ 60 = .ok (.invokevirtual 254, 3) := by decide +kernel
theorem dX12_call__63 : decode cX12_call_ 63 = .ok (.aload_n 0, 1) := by decide +kernel
theorem dX12_call__64 : decode cX12_call_ 64 = .ok (.getfield 245, 3) := by decide +kernel
theorem dX12_call__67 : decode cX12_call_ 67 = .ok (.ifCond .eq 4, 3) := by decide +kernel
theorem dX12_call__70 : decode cX12_call_ 70 = .ok (.return_, 1) := by decide +kernel
theorem dX12_call__71 : decode cX12_call_ 71 = .ok (.aload_n 0, 1) := by decide +kernel
theorem dX12_call__72 : decode cX12_call_ 72 = .ok (.getfield 26, 3) := by decide +kernel
theorem dX12_call__75 : decode cX12_call_ 75 = .ok (.bipush 24, 2) := by decide +kernel
theorem dX12_call__77 : decode cX12_call_ 77 = .ok (.iload_n 2, 1) := by decide +kernel
theorem dX12_call__78 : decode cX12_call_ 78 = .ok (.imul, 1) := by decide +kernel
theorem dX12_call__79 : decode cX12_call_ 79 = .ok (.iload 5, 2) := by decide +kernel
theorem dX12_call__81 : decode cX12_call_ 81 = .ok (.iadd, 1) := by decide +kernel
theorem dX12_call__82 : decode cX12_call_ 82 = .ok (.iaload, 1) := by decide +kernel
theorem dX12_call__83 : decode cX12_call_ 83 = .ok (.istore 6, 2) := by decide +kernel
theorem dX12_call__85 : decode cX12_call_ 85 = .ok (.aload_n 0, 1) := by decide +kernel
theorem dX12_call__86 : decode cX12_call_ 86 = .ok (.getfield 50, 3) := by decide +kernel
theorem dX12_call__89 : decode cX12_call_ 89 = .ok (.iload_n 1, 1) := by decide +kernel
theorem dX12_call__90 : decode cX12_call_ 90 = .ok (.aload_n 0, 1) := by decide +kernel
theorem dX12_call__91 : decode cX12_call_ 91 = .ok (.invokevirtual 276, 3) := by decide +kernel
theorem dX12_call__94 : decode cX12_call_ 94 = .ok (.iastore, 1) := by decide +kernel
theorem dX12_call__95 : decode cX12_call_ 95 = .ok (.aload_n 0, 1) := by decide +kernel
theorem dX12_call__96 : decode cX12_call_ 96 = .ok (.getfield 53, 3) := by decide +kernel
theorem dX12_call__99 : decode cX12_call_ 99 = .ok (.iload_n 1, 1) := by decide +kernel
theorem dX12_call__100 : decode cX12_call_ 100 = .ok (.iload 6, 2) := by decide +kernel
theorem dX12_call__102 : decode cX12_call_ 102 = .ok (.iastore, 1) := by decide +kernel
theorem dX12_call__103 : decode cX12_call_ 103 = .ok (.aload_n 0, 1) := by decide +kernel
theorem dX12_call__104 : decode cX12_call_ 104 = .ok (.bipush 6, 2) := by decide +kernel
theorem dX12_call__106 : decode cX12_call_ 106 = .ok (.iload_n 1, 1) := by decide +kernel
theorem dX12_call__107 : decode cX12_call_ 107 = .ok (.iconst 0, 1) := by decide +kernel
theorem dX12_call__108 : decode cX12_call_ 108 = .ok (.iconst 0, 1) := by decide +kernel
theorem dX12_call__109 : decode cX12_call_ 109 = .ok (.invokevirtual 260, 3) := by decide +kernel
theorem dX12_call__112 : decode cX12_call_ 112 = .ok (.aload_n 0, 1) := by decide +kernel
theorem dX12_call__113 : decode cX12_call_ 113 = .ok (.getfield 7, 3) := by decide +kernel
theorem dX12_call__116 : decode cX12_call_ 116 = .ok (.iload_n 2, 1) := by decide +kernel
theorem dX12_call__117 : decode cX12_call_ 117 = .ok (.iaload, 1) := by decide +kernel
theorem dX12_call__118 : decode cX12_call_ 118 = .ok (.iconst 1, 1) := by decide +kernel
theorem dX12_call__119 : decode cX12_call_ 119 = .ok (.if_icmp .le 21, 3) := by decide +kernel
theorem dX12_call__122 : decode cX12_call_ 122 = .ok (.aload_n 0, 1) := by decide +kernel
theorem dX12_call__123 : decode cX12_call_ 123 = .ok (.iconst 4, 1) := by decide +kernel
theorem dX12_call__124 : decode cX12_call_ 124 = .ok (.iload 6, 2) := by decide +kernel
theorem dX12_call__126 : decode cX12_call_ 126 = .ok (.iconst 1, 1) := by decide +kernel
theorem dX12_call__127 : decode cX12_call_ 127 = .ok (.invokestatic 194, 3) := by decide +kernel
theorem dX12_call__130 : decode cX12_call_ 130 = .ok (.aload_n 0, 1) := by decide +kernel
theorem dX12_call__131 : decode cX12_call_ 131 = .ok (.getfield 44, 3) := by decide +kernel
theorem dX12_call__134 : decode cX12_call_ 134 = .ok (.iload_n 1, 1) := by decide +kernel
theorem dX12_call__135 : decode cX12_call_ 135 = .ok (.iaload, 1) := by decide +kernel
theorem dX12_call__136 : decode cX12_call_ 136 = .ok (.iload_n 1, 1) := by decide +kernel
theorem dX12_call__137 : decode cX12_call_ 137 = .ok (.invokevirtual 260, 3) := by decide +kernel
theorem dX12_call__140 : decode cX12_call_ 140 = .ok (.aload_n 0, 1) := by decide +kernel
theorem dX12_call__141 : decode cX12_call_ 141 = .ok (.getfield 7, 3) := by decide +kernel
theorem dX12_call__144 : decode cX12_call_ 144 = .ok (.iload_n 2, 1) := by decide +kernel
theorem dX12_call__145 : decode cX12_call_ 145 = .ok (.iaload, 1) := by decide +kernel
theorem dX12_call__146 : decode cX12_call_ 146 = .ok (.ifCond .le 21, 3) := by decide +kernel
theorem dX12_call__149 : decode cX12_call_ 149 = .ok (.aload_n 0, 1) := by decide +kernel
theorem dX12_call__150 : decode cX12_call_ 150 = .ok (.iconst 4, 1) := by decide +kernel
theorem dX12_call__151 : decode cX12_call_ 151 = .ok (.iload 6, 2) := by decide +kernel
theorem dX12_call__153 : decode cX12_call_ 153 = .ok (.iconst 0, 1) := by decide +kernel
theorem dX12_call__154 : decode cX12_call_ 154 = .ok (.invokestatic 194, 3) := by decide +kernel
theorem dX12_call__157 : decode cX12_call_ 157 = .ok (.aload_n 0, 1) := by decide +kernel
theorem dX12_call__158 : decode cX12_call_ 158 = .ok (.getfield 41, 3) := by decide +kernel
theorem dX12_call__161 : decode cX12_call_ 161 = .ok (.iload_n 1, 1) := by decide +kernel
theorem dX12_call__162 : decode cX12_call_ 162 = .ok (.iaload, 1) := by decide +kernel
theorem dX12_call__163 : decode cX12_call_ 163 = .ok (.iload_n 1, 1) := by decide +kernel
theorem dX12_call__164 : decode cX12_call_ 164 = .ok (.invokevirtual 260, 3) := by decide +kernel
theorem dX12_call__167 : decode cX12_call_ 167 = .ok (.return_, 1) := by decide +kernel
theorem dX12_force_0 : decode cX12_force 0 = .ok (.aload_n 0, 1) := by decide +kernel
theorem dX12_force_1 : decode cX12_force 1 = .ok (.iload_n 1, 1) := by decide +kernel
theorem dX12_force_2 : decode cX12_force 2 = .ok (.invokevirtual 280, 3) := by decide +kernel
theorem dX12_force_5 : decode cX12_force 5 = .ok (.istore_n 2, 1) := by decide +kernel
theorem dX12_force_6 : decode cX12_force 6 = .ok (.aload_n 0, 1) := by decide +kernel
theorem dX12_force_7 : decode cX12_force 7 = .ok (.getfield 35, 3) := by decide +kernel
theorem dX12_force_10 : decode cX12_force 10 = .ok (.iload_n 2, 1) := by decide +kernel
theorem dX12_force_11 : decode cX12_force 11 = .ok (.iaload, 1) := by decide +kernel
theorem dX12_force_12 : decode cX12_force 12 = .ok (.iconst 2, 1) := by decide +kernel
theorem dX12_force_13 : decode cX12_force 13 = .ok (.if_icmp .ne 11, 3) := by decide +kernel
theorem dX12_force_16 : decode cX12_force 16 = .ok (.aload_n 0, 1) := by decide +kernel
theorem dX12_force_17 : decode cX12_force 17 = .ok (.iload_n 2, 1) := by decide +kernel
theorem dX12_force_18 : decode cX12_force 18 = .ok (.invokevirtual 283, 3) := by decide +kernel
theorem dX12_force_21 : decode cX12_force 21 = .ok (.goto 161, 3) := by decide +kernel
theorem dX12_force_24 : decode cX12_force 24 = .ok (.aload_n 0, 1) := by decide +kernel
theorem dX12_force_25 : decode cX12_force 25 = .ok (.getfield 35, 3) := by decide +kernel
theorem dX12_force_28 : decode cX12_force 28 = .ok (.iload_n 2, 1) := by decide +kernel
theorem dX12_force_29 : decode cX12_force 29 = .ok (.iaload, 1) := by decide +kernel
theorem dX12_force_30 : decode cX12_force 30 = .ok (.iconst 3, 1) := by decide +kernel
theorem dX12_force_31 : decode cX12_force 31 = .ok (.if_icmp .ne 62, 3) := by decide +kernel
theorem dX12_force_34 : decode cX12_force 34 = .ok (.aload_n 0, 1) := by decide +kernel
theorem dX12_force_35 : decode cX12_force 35 = .ok (.aload_n 0, 1) := by decide +kernel
theorem dX12_force_36 : decode cX12_force 36 = .ok (.getfield 47, 3) := by decide +kernel
theorem dX12_force_39 : decode cX12_force 39 = .ok (.iload_n 2, 1) := by decide +kernel
theorem dX12_force_40 : decode cX12_force 40 = .ok (.iaload, 1) := by decide +kernel
theorem dX12_force_41 : decode cX12_force 41 = .ok (.iconst 2, 1) := by decide +kernel
theorem dX12_force_42 : decode cX12_force 42 = .ok (.invokevirtual 273, 3) := by decide +kernel
theorem dX12_force_45 : decode cX12_force 45 = .ok (.istore_n 3, 1) := by decide +kernel
theorem dX12_force_46 : decode cX12_force 46 = .ok (.aload_n 0, 1) := by decide +kernel
theorem dX12_force_47 : decode cX12_force 47 = .ok (.getfield 245, 3) := by decide +kernel
theorem dX12_force_50 : decode cX12_force 50 = .ok (.ifCond .ne 40, 3) := by decide +kernel
theorem dX12_force_53 : decode cX12_force 53 = .ok (.iload_n 3, 1) := by decide +kernel
theorem dX12_force_54 : decode cX12_force 54 = .ok (.ifCond .ne 12, 3) := by decide +kernel
theorem dX12_force_57 : decode cX12_force 57 = .ok (.aload_n 0, 1) := by decide +kernel
theorem dX12_force_58 : decode cX12_force 58 = .ok (.getfield 41, 3) := by decide +kernel
theorem dX12_force_61 : decode cX12_force 61 = .ok (.iload_n 2, 1) := by decide +kernel
theorem dX12_force_62 : decode cX12_force 62 = .ok (.iaload, 1) := by decide +kernel
theorem dX12_force_63 : decode cX12_force 63 = .ok (.goto 9, 3) := by decide +kernel
theorem dX12_force_66 : decode cX12_force 66 = .ok (.aload_n 0, 1) := by decide +kernel
theorem dX12_force_67 : decode cX12_force 67 = .ok (.getfield 44, 3) := by decide +kernel
theorem dX12_force_70 : decode cX12_force 70 = .ok (.iload_n 2, 1) := by decide +kernel
theorem dX12_force_71 : decode cX12_force 71 = .ok (.iaload, 1) := by decide +kernel
theorem dX12_force_72 : decode cX12_force 72 = .ok (.istore 4, 2) := by decide +kernel
theorem dX12_force_74 : decode cX12_force 74 = .ok (.aload_n 0, 1) := by decide +kernel
theorem dX12_force_75 : decode cX12_force 75 = .ok (.iload_n 2, 1) := by decide +kernel
theorem dX12_force_76 : decode cX12_force 76 = .ok (.iload 4, 2) := by decide +kernel
theorem dX12_force_78 : decode cX12_force 78 = .ok (.invokevirtual 286, 3) := by decide +kernel
theorem dX12_force_81 : decode cX12_force 81 = .ok (.aload_n 0, 1) := by decide +kernel
theorem dX12_force_82 : decode cX12_force 82 = .ok (.iconst 0, 1) := by decide +kernel
theorem dX12_force_83 : decode cX12_force 83 = .ok (.iload 4, 2) := by decide +kernel
theorem dX12_force_85 : decode cX12_force 85 = .ok (.iconst 0, 1) := by decide +kernel
theorem dX12_force_86 : decode cX12_force 86 = .ok (.iconst 0, 1) := by decide +kernel
theorem dX12_force_87 : decode cX12_force 87 = .ok (.invokevirtual 260, 3) := by decide +kernel
theorem dX12_force_90 : decode cX12_force 90 = .ok (.goto 92, 3) := by decide +kernel
theorem dX12_force_93 : decode cX12_force 93 = .ok (.aload_n 0, 1) := by decide +kernel
theorem dX12_force_94 : decode cX12_force 94 = .ok (.getfield 35, 3) := by decide +kernel
theorem dX12_force_97 : decode cX12_force 97 = .ok (.iload_n 2, 1) := by decide +kernel
theorem dX12_force_98 : decode cX12_force 98 = .ok (.iaload, 1) := by decide +kernel
theorem dX12_force_99 : decode cX12_force 99 = .ok (.iconst 4, 1) := by decide +kernel
theorem dX12_force_100 : decode cX12_force 100 = .ok (.if_icmp .eq 13, 3) := by decide +kernel
theorem dX12_force_103 : decode cX12_force 103 = .ok (.aload_n 0, 1) := by decide +kernel
theorem dX12_force_104 : decode cX12_force 104 = .ok (.getfield 35, 3) := by decide +kernel
theorem dX12_force_107 : decode cX12_force 107 = .ok (.iload_n 2, 1) := by decide +kernel
theorem dX12_force_108 : decode cX12_force 108 = .ok (.iaload, 1) := by decide +kernel
theorem dX12_force_109 : decode cX12_force 109 = .ok (.iconst 5, 1) := by decide +kernel
theorem dX12_force_110 : decode cX12_force 110 = .ok (.if_icmp .ne 56, 3) := by decide +kernel
theorem dX12_force_113 : decode cX12_force 113 = .ok (.aload_n 0, 1) := by decide +kernel
theorem dX12_force_114 : decode cX12_force 114 = .ok (.aload_n 0, 1) := by decide +kernel
theorem dX12_force_115 : decode cX12_force 115 = .ok (.getfield 35, 3) := by decide +kernel
theorem dX12_force_118 : decode cX12_force 118 = .ok (.iload_n 2, 1) := by decide +kernel
theorem dX12_force_119 : decode cX12_force 119 = .ok (.iaload, 1) := by decide +kernel
theorem dX12_force_120 : decode cX12_force 120 = .ok (.iconst 4, 1) := by decide +kernel
theorem dX12_force_121 : decode cX12_force 121 = .ok (.if_icmp .ne 8, 3) := by decide +kernel
theorem dX12_force_124 : decode cX12_force 124 = .ok (.bipush 7, 2) := by decide +kernel
theorem dX12_force_126 : decode cX12_force 126 = .ok (.goto 5, 3) := by decide +kernel
theorem dX12_force_129 : decode cX12_force 129 = .ok (.bipush 8, 2) := by decide +kernel
theorem dX12_force_131 : decode cX12_force 131 = .ok (.iload_n 2, 1) := by decide +kernel
theorem dX12_force_132 : decode cX12_force 132 = .ok (.iconst 0, 1) := by decide +kernel
theorem dX12_force_133 : decode cX12_force 133 = .ok (.iconst 0, 1) := by decide +kernel
theorem dX12_force_134 : decode cX12_force 134 = .ok (.invokevirtual 260, 3) := by decide +kernel
theorem dX12_force_137 : decode cX12_force 137 = .ok (.aload_n 0, 1) := by decide +kernel
theorem dX12_force_138 : decode cX12_force 138 = .ok (.iconst 1, 1) := by decide +kernel
theorem dX12_force_139 : decode cX12_force 139 = .ok (.aload_n 0, 1) := by decide +kernel
theorem dX12_force_140 : decode cX12_force 140 = .ok (.getfield 44, 3) := by decide +kernel
theorem dX12_force_143 : decode cX12_force 143 = .ok (.iload_n 2, 1) := by decide +kernel
theorem dX12_force_144 : decode cX12_force 144 = .ok (.iaload, 1) := by decide +kernel
theorem dX12_force_145 : decode cX12_force 145 = .ok (.iconst 0, 1) := by decide +kernel
theorem dX12_force_146 : decode cX12_force 146 = .ok (.iconst 0, 1) := by decide +kernel
theorem dX12_force_147 : decode cX12_force 147 = .ok (.invokevirtual 260, 3) := by decide +kernel
theorem dX12_force_150 : decode cX12_force 150 = .ok (.aload_n 0, 1) := by decide +kernel
theorem dX12_force_151 : decode cX12_force 151 = .ok (.iconst 1, 1) := by decide +kernel
theorem dX12_force_152 : decode cX12_force 152 = .ok (.aload_n 0, 1) := by decide +kernel
theorem dX12_force_153 : decode cX12_force 153 = .ok (.getfield 41, 3) := by decide +kernel
theorem dX12_force_156 : decode cX12_force 156 = .ok (.iload_n 2, 1) := by decide +kernel
theorem dX12_force_157 : decode cX12_force 157 = .ok (.iaload, 1) := by decide +kernel
theorem dX12_force_158 : decode cX12_force 158 = .ok (.iconst 0, 1) := by decide +kernel
theorem dX12_force_159 : decode cX12_force 159 = .ok (.iconst 0, 1) := by decide +kernel
theorem dX12_force_160 : decode cX12_force 160 = .ok (.invokevirtual 260, 3) := by decide +kernel
theorem dX12_force_163 : decode cX12_force 163 = .ok (.goto 19, 3) := by decide +kernel
theorem dX12_force_166 : decode cX12_force 166 = .ok (.aload_n 0, 1) := by decide +kernel
theorem dX12_force_167 : decode cX12_force 167 = .ok (.getfield 35, 3) := by decide +kernel
theorem dX12_force_170 : decode cX12_force 170 = .ok (.iload_n 2, 1) := by decide +kernel
theorem dX12_force_171 : decode cX12_force 171 = .ok (.iaload, 1) := by decide +kernel
theorem dX12_force_172 : decode cX12_force 172 = .ok (.bipush 6, 2) := by decide +kernel
theorem dX12_force_174 : decode cX12_force 174 = .ok (.if_icmp .ne 8, 3) := by decide +kernel
theorem dX12_force_177 : decode cX12_force 177 = .ok (.aload_n 0, 1) := by decide +kernel
theorem dX12_force_178 : decode cX12_force 178 = .ok (.iload_n 2, 1) := by decide +kernel
theorem dX12_force_179 : decode cX12_force 179 = .ok (.invokevirtual 289, 3) := by decide +kernel
theorem dX12_force_182 : decode cX12_force 182 = .ok (.return_, 1) := by decide +kernel
theorem dX12_match_0 : decode cX12_match 0 = .ok (.aload_n 0, 1) := by decide +kernel
theorem dX12_match_1 : decode cX12_match 1 = .ok (.getfield 32, 3) := by decide +kernel
theorem dX12_match_4 : decode cX12_match 4 = .ok (.iload_n 1, 1) := by decide +kernel
theorem dX12_match_5 : decode cX12_match 5 = .ok (.iaload, 1) := by decide +kernel
theorem dX12_match_6 : decode cX12_match 6 = .ok (.bipush 10, 2) := by decide +kernel
theorem dX12_match_8 : decode cX12_match 8 = .ok (.if_icmp .ge 28, 3) := by decide +kernel
theorem dX12_match_11 : decode cX12_match 11 = .ok (.aload_n 0, 1) := by decide +kernel
theorem dX12_match_12 : decode cX12_match 12 = .ok (.getfield 59, 3) := by decide +kernel
theorem dX12_match_15 : decode cX12_match 15 = .ok (.bipush 6, 2) := by decide +kernel
theorem dX12_match_17 : decode cX12_match 17 = .ok (.aload_n 0, 1) := by decide +kernel
theorem dX12_match_18 : decode cX12_match 18 = .ok (.getfield 50, 3) := by decide +kernel
theorem dX12_match_21 : decode cX12_match 21 = .ok (.iload_n 3, 1) := by decide +kernel
theorem dX12_match_22 : decode cX12_match 22 = .ok (.iaload, 1) := by decide +kernel
theorem dX12_match_23 : decode cX12_match 23 = .ok (.imul, 1) := by decide +kernel
theorem dX12_match_24 : decode cX12_match 24 = .ok (.aload_n 0, 1) := by decide +kernel
theorem dX12_match_25 : decode cX12_match 25 = .ok (.getfield 32, 3) := by decide +kernel
theorem dX12_match_28 : decode cX12_match 28 = .ok (.iload_n 1, 1) := by decide +kernel
theorem dX12_match_29 : decode cX12_match 29 = .ok (.iaload, 1) := by decide +kernel
theorem dX12_match_30 : decode cX12_match 30 = .ok (.iadd, 1) := by decide +kernel
theorem dX12_match_31 : decode cX12_match 31 = .ok (.iload_n 2, 1) := by decide +kernel
theorem dX12_match_32 : decode cX12_match 32 = .ok (.iastore, 1) := by decide +kernel
theorem dX12_match_33 : decode cX12_match 33 = .ok (.goto 19, 3) := by decide +kernel
theorem dX12_match_36 : decode cX12_match 36 = .ok (.aload_n 0, 1) := by decide +kernel
theorem dX12_match_37 : decode cX12_match 37 = .ok (.iconst 5, 1) := by decide +kernel
theorem dX12_match_38 : decode cX12_match 38 = .ok (.iload_n 1, 1) := by decide +kernel
theorem dX12_match_39 : decode cX12_match 39 = .ok (.iload_n 2, 1) := by decide +kernel
theorem dX12_match_40 : decode cX12_match 40 = .ok (.iload_n 3, 1) := by decide +kernel
theorem dX12_match_41 : decode cX12_match 41 = .ok (.invokevirtual 260, 3) := by decide +kernel
theorem dX12_match_44 : decode cX12_match 44 = .ok (.aload_n 0, 1) := by decide +kernel
theorem dX12_match_45 : decode cX12_match 45 = .ok (.iconst 0, 1) := by decide +kernel
theorem dX12_match_46 : decode cX12_match 46 = .ok (.iload_n 2, 1) := by decide +kernel
theorem dX12_match_47 : decode cX12_match 47 = .ok (.iconst 0, 1) := by decide +kernel
theorem dX12_match_48 : decode cX12_match 48 = .ok (.iconst 0, 1) := by decide +kernel
theorem dX12_match_49 : decode cX12_match 49 = .ok (.invokevirtual 260, 3) := by decide +kernel
theorem dX12_match_52 : decode cX12_match 52 = .ok (.return_, 1) := by decide +kernel
theorem dX12_matchData_0 : decode cX12_matchData 0 = .ok (.aload_n 0, 1) := by decide +kernel
theorem dX12_matchData_1 : decode cX12_matchData 1 = .ok (.iload_n 2, 1) := by decide +kernel
theorem dX12_matchData_2 : decode cX12_matchData 2 = .ok (.invokevirtual 280, 3) := by decide +kernel
theorem dX12_matchData_5 : decode cX12_matchData 5 = .ok (.istore 4, 2) := by decide +kernel
theorem dX12_matchData_7 : decode cX12_matchData 7 = .ok (.aload_n 0, 1) := by decide +kernel
theorem dX12_matchData_8 : decode cX12_matchData 8 = .ok (.getfield 32, 3) := by decide +kernel
theorem dX12_matchData_11 : decode cX12_matchData 11 = .ok (.iload_n 1, 1) := by decide +kernel
theorem dX12_matchData_12 : decode cX12_matchData 12 = .ok (.iaload, 1) := by decide +kernel
theorem dX12_matchData_13 : decode cX12_matchData 13 = .ok (.bipush 10, 2) := by decide +kernel
theorem dX12_matchData_15 : decode cX12_matchData 15 = .ok (.isub, 1) := by decide +kernel
theorem dX12_matchData_16 : decode cX12_matchData 16 = .ok (.istore 5, 2) := by decide +kernel
theorem dX12_matchData_18 : decode cX12_matchData 18 = .ok (.iload 5, 2) := by decide +kernel
theorem dX12_matchData_20 : decode cX12_matchData 20 = .ok (.iconst 2, 1) := by decide +kernel
theorem dX12_matchData_21 : decode cX12_matchData 21 = .ok (.idiv, 1) := by decide +kernel
theorem dX12_matchData_22 : decode cX12_matchData 22 = .ok (.istore 6, 2) := by decide +kernel
theorem dX12_matchData_24 : decode cX12_matchData 24 = .ok (.aload_n 0, 1) := by decide +kernel
theorem dX12_matchData_25 : decode cX12_matchData 25 = .ok (.getfield 35, 3) := by decide +kernel
theorem dX12_matchData_28 : decode cX12_matchData 28 = .ok (.iload 4, 2) := by decide +kernel
theorem dX12_matchData_30 : decode cX12_matchData 30 = .ok (.iaload, 1) := by decide +kernel
theorem dX12_matchData_31 : decode cX12_matchData 31 = .ok (.ifCond .ne 39, 3) := by decide +kernel
theorem dX12_matchData_34 : decode cX12_matchData 34 = .ok (.aload_n 0, 1) := by decide +kernel
theorem dX12_matchData_35 : decode cX12_matchData 35 = .ok (.getfield 13, 3) := by decide +kernel
theorem dX12_matchData_38 : decode cX12_matchData 38 = .ok (.aload_n 0, 1) := by decide +kernel
theorem dX12_matchData_39 : decode cX12_matchData 39 = .ok (.getfield 38, 3) := by decide +kernel
theorem dX12_matchData_42 : decode cX12_matchData 42 = .ok (.iload_n 3, 1) := by decide +kernel
theorem dX12_matchData_43 : decode cX12_matchData 43 = .ok (.iaload, 1) := by decide +kernel
theorem dX12_matchData_44 : decode cX12_matchData 44 = .ok (.baload, 1) := by decide +kernel
theorem dX12_matchData_45 : decode cX12_matchData 45 = .ok (.ifCond .ne 19, 3) := by decide +kernel
theorem dX12_matchData_48 : decode cX12_matchData 48 = .ok (.aload_n 0, 1) := by decide +kernel
theorem dX12_matchData_49 : decode cX12_matchData 49 = .ok (.getfield 47, 3) := by decide +kernel
theorem dX12_matchData_52 : decode cX12_matchData 52 = .ok (.iload 4, 2) := by decide +kernel
theorem dX12_matchData_54 : decode cX12_matchData 54 = .ok (.iaload, 1) := by decide +kernel
theorem dX12_matchData_55 : decode cX12_matchData 55 = .ok (.aload_n 0, 1) := by decide +kernel
theorem dX12_matchData_56 : decode cX12_matchData 56 = .ok (.getfield 47, 3) := by decide +kernel
theorem dX12_matchData_59 : decode cX12_matchData 59 = .ok (.iload_n 3, 1) := by decide +kernel
theorem dX12_matchData_60 : decode cX12_matchData 60 = .ok (.iaload, 1) := by decide +kernel
theorem dX12_matchData_61 : decode cX12_matchData 61 = .ok (.if_icmp .eq 9, 3) := by decide +kernel
theorem dX12_matchData_64 : decode cX12_matchData 64 = .ok (.aload_n 0, 1) := by decide +kernel
theorem dX12_matchData_65 : decode cX12_matchData 65 = .ok (.iconst 3, 1) := by decide +kernel
theorem dX12_matchData_66 : decode cX12_matchData 66 = .ok (.putfield 245, 3) := by decide +kernel
theorem dX12_matchData_69 : decode cX12_matchData 69 = .ok (.return_, 1) := by decide +kernel
theorem dX12_matchData_70 : decode cX12_matchData 70 = .ok (.aload_n 0, 1) := by decide +kernel
theorem dX12_matchData_71 : decode cX12_matchData 71 = .ok (.getfield 35, 3) := by decide +kernel
theorem dX12_matchData_74 : decode cX12_matchData 74 = .ok (.iload 4, 2) := by decide +kernel
theorem dX12_matchData_76 : decode cX12_matchData 76 = .ok (.iaload, 1) := by decide +kernel
theorem dX12_matchData_77 : decode cX12_matchData 77 = .ok (.ifCond .ne 78, 3) := by decide +kernel
theorem dX12_matchData_80 : decode cX12_matchData 80 = .ok (.aload_n 0, 1) := by decide +kernel
theorem dX12_matchData_81 : decode cX12_matchData 81 = .ok (.iload 4, 2) := by decide +kernel
theorem dX12_matchData_83 : decode cX12_matchData 83 = .ok (.iload 5, 2) := by decide +kernel
theorem dX12_matchData_85 : decode cX12_matchData 85 = .ok (.invokevirtual 267, 3) := by decide +kernel
theorem dX12_matchData_88 : decode cX12_matchData 88 = .ok (.iload 6, 2) := by decide +kernel
theorem dX12_matchData_90 : decode cX12_matchData 90 = .ok (.ifCond .le 19, 3) := by decide +kernel
theorem dX12_matchData_93 : decode cX12_matchData 93 = .ok (.aload_n 0, 1) := by decide +kernel
theorem dX12_matchData_94 : decode cX12_matchData 94 = .ok (.iconst 0, 1) := by decide +kernel
theorem dX12_matchData_95 : decode cX12_matchData 95 = .ok (.iconst 0, 1) := by decide +kernel
theorem dX12_matchData_96 : decode cX12_matchData 96 = .ok (.aload_n 0, 1) := by decide +kernel
theorem dX12_matchData_97 : decode cX12_matchData 97 = .ok (.getfield 47, 3) := by decide +kernel
theorem dX12_matchData_100 : decode cX12_matchData 100 = .ok (.iload 4, 2) := by decide +kernel
theorem dX12_matchData_102 : decode cX12_matchData 102 = .ok (.iaload, 1) := by decide +kernel
theorem dX12_matchData_103 : decode cX12_matchData 103 = .ok (.invokevirtual 233, 3) := by decide +kernel
theorem dX12_matchData_106 : decode cX12_matchData 106 = .ok (.goto 4, 3) := by decide +kernel
theorem dX12_matchData_109 : decode cX12_matchData 109 = .ok (.iconst (-1), 1) := by decide +kernel
theorem dX12_matchData_110 : decode cX12_matchData 110 = .ok (.istore 7, 2) := by decide +kernel
theorem dX12_matchData_112 : decode cX12_matchData 112 = .ok (.iload 6, 2) := by decide +kernel
theorem dX12_matchData_114 : decode cX12_matchData 114 = .ok (.iconst 1, 1) := by decide +kernel
theorem dX12_matchData_115 : decode cX12_matchData 115 = .ok (.if_icmp .le 19, 3) := by decide +kernel
theorem dX12_matchData_118 : decode cX12_matchData 118 = .ok (.aload_n 0, 1) := by decide +kernel
theorem dX12_matchData_119 : decode cX12_matchData 119 = .ok (.iconst 0, 1) := by decide +kernel
theorem dX12_matchData_120 : decode cX12_matchData 120 = .ok (.iconst 0, 1) := by decide +kernel
theorem dX12_matchData_121 : decode cX12_matchData 121 = .ok (.aload_n 0, 1) := by decide +kernel
theorem dX12_matchData_122 : decode cX12_matchData 122 = .ok (.getfield 47, 3) := by decide +kernel
theorem dX12_matchData_125 : decode cX12_matchData 125 = .ok (.iload 4, 2) := by decide +kernel
theorem dX12_matchData_127 : decode cX12_matchData 127 = .ok (.iaload, 1) := by decide +kernel
theorem dX12_matchData_128 : decode cX12_matchData 128 = .ok (.invokevirtual 233, 3) := by decide +kernel
theorem dX12_matchData_131 : decode cX12_matchData 131 = .ok (.goto 4, 3) := by decide +kernel
theorem dX12_matchData_134 : decode cX12_matchData 134 = .ok (.iconst (-1), 1) := by decide +kernel
theorem dX12_matchData_135 : decode cX12_matchData 135 = .ok (.istore 8, 2) := by decide +kernel
theorem dX12_matchData_137 : decode cX12_matchData 137 = .ok (.aload_n 0, 1) := by decide +kernel
theorem dX12_matchData_138 : decode cX12_matchData 138 = .ok (.getfield 41, 3) := by decide +kernel
theorem dX12_matchData_141 : decode cX12_matchData 141 = .ok (.iload 4, 2) := by decide +kernel
theorem dX12_matchData_143 : decode cX12_matchData 143 = .ok (.iload 7, 2) := by decide +kernel
theorem dX12_matchData_145 : decode cX12_matchData 145 = .ok (.iastore, 1) := by decide +kernel
theorem dX12_matchData_146 : decode cX12_matchData 146 = .ok (.aload_n 0, 1) := by decide +kernel
theorem dX12_matchData_147 : decode cX12_matchData 147 = .ok (.getfield 44, 3) := by decide +kernel
theorem dX12_matchData_150 : decode cX12_matchData 150 = .ok (.iload 4, 2) := by decide +kernel
theorem dX12_matchData_152 : decode cX12_matchData 152 = .ok (.iload 8, 2) := by decide +kernel
theorem dX12_matchData_154 : decode cX12_matchData 154 = .ok (.iastore, 1) := by decide +kernel
theorem dX12_matchData_155 : decode cX12_matchData 155 = .ok (.aload_n 0, 1) := by decide +kernel
theorem dX12_matchData_156 : decode cX12_matchData 156 = .ok (.getfield 38, 3) := by decide +kernel
theorem dX12_matchData_159 : decode cX12_matchData 159 = .ok (.iload 4, 2) := by decide +kernel
theorem dX12_matchData_161 : decode cX12_matchData 161 = .ok (.iaload, 1) := by decide +kernel
theorem dX12_matchData_162 : decode cX12_matchData 162 = .ok (.iload 5, 2) := by decide +kernel
theorem dX12_matchData_164 : decode cX12_matchData 164 = .ok (.if_icmp .eq 14, 3) := by decide +kernel
theorem dX12_matchData_167 : decode cX12_matchData 167 = .ok (.aload_n 0, 1) := by decide +kernel
theorem dX12_matchData_168 : decode cX12_matchData 168 = .ok (.aload_n 0, 1) := by decide +kernel
theorem dX12_matchData_169 : decode cX12_matchData 169 = .ok (.getfield 47, 3) := by decide +kernel
theorem dX12_matchData_172 : decode cX12_matchData 172 = .ok (.iload_n 3, 1) := by decide +kernel
theorem dX12_matchData_173 : decode cX12_matchData 173 = .ok (.iaload, 1) := by decide +kernel
theorem dX12_matchData_174 : decode cX12_matchData 174 = .ok (.invokevirtual 270, 3) := by decide +kernel
theorem dX12_matchData_177 : decode cX12_matchData 177 = .ok (.return_, 1) := by decide +kernel
theorem dX12_matchData_178 : decode cX12_matchData 178 = .ok (.iload 6, 2) := by decide +kernel
theorem dX12_matchData_180 : decode cX12_matchData 180 = .ok (.iconst 1, 1) := by decide +kernel
theorem dX12_matchData_181 : decode cX12_matchData 181 = .ok (.if_icmp .le 23, 3) := by decide +kernel
theorem dX12_matchData_184 : decode cX12_matchData 184 = .ok (.aload_n 0, 1) := by decide +kernel
theorem dX12_matchData_185 : decode cX12_matchData 185 = .ok (.iconst 4, 1) := by decide +kernel
theorem dX12_matchData_186 : decode cX12_matchData 186 = .ok (.aload_n 0, 1) := by decide +kernel
theorem dX12_matchData_187 : decode cX12_matchData 187 = .ok (.iload_n 1, 1) := by decide +kernel
theorem dX12_matchData_188 : decode cX12_matchData 188 = .ok (.iconst 1, 1) := by decide +kernel
theorem dX12_matchData_189 : decode cX12_matchData 189 = .ok (.iadd, 1) := by decide +kernel
theorem dX12_matchData_190 : decode cX12_matchData 190 = .ok (.invokevirtual 201, 3) := by decide +kernel
theorem dX12_matchData_193 : decode cX12_matchData 193 = .ok (.aload_n 0, 1) := by decide +kernel
theorem dX12_matchData_194 : decode cX12_matchData 194 = .ok (.getfield 44, 3) := by decide +kernel
theorem dX12_matchData_197 : decode cX12_matchData 197 = .ok (.iload 4, 2) := by decide +kernel
theorem dX12_matchData_199 : decode cX12_matchData 199 = .ok (.iaload, 1) := by decide +kernel
theorem dX12_matchData_200 : decode cX12_matchData 200 = .ok (.iload_n 3, 1) := by decide +kernel
theorem dX12_matchData_201 : decode cX12_matchData 201 = .ok (.invokevirtual 260, 3) := by decide +kernel
theorem dX12_matchData_204 : decode cX12_matchData 204 = .ok (.iload 6, 2) := by decide +kernel
theorem dX12_matchData_206 : decode cX12_matchData 206 = .ok (.ifCond .le 19, 3) := by decide +kernel
theorem dX12_matchData_209 : decode cX12_matchData 209 = .ok (.aload_n 0, 1) := by decide +kernel
theorem dX12_matchData_210 : decode cX12_matchData 210 = .ok (.iconst 4, 1) := by decide +kernel
theorem dX12_matchData_211 : decode cX12_matchData 211 = .ok (.iload_n 1, 1) := by decide +kernel
theorem dX12_matchData_212 : decode cX12_matchData 212 = .ok (.iconst 1, 1) := by decide +kernel
theorem dX12_matchData_213 : decode cX12_matchData 213 = .ok (.iadd, 1) := by decide +kernel
theorem dX12_matchData_214 : decode cX12_matchData 214 = .ok (.aload_n 0, 1) := by decide +kernel
theorem dX12_matchData_215 : decode cX12_matchData 215 = .ok (.getfield 41, 3) := by decide +kernel
theorem dX12_matchData_218 : decode cX12_matchData 218 = .ok (.iload 4, 2) := by decide +kernel
theorem dX12_matchData_220 : decode cX12_matchData 220 = .ok (.iaload, 1) := by decide +kernel
theorem dX12_matchData_221 : decode cX12_matchData 221 = .ok (.iload_n 3, 1) := by decide +kernel
theorem dX12_matchData_222 : decode cX12_matchData 222 = .ok (.invokevirtual 260, 3) := by decide +kernel
theorem dX12_matchData_225 : decode cX12_matchData 225 = .ok (.return_, 1) := by decide +kernel
theorem dX12_endCall_0 : decode cX12_endCall 0 = .ok (.aload_n 0, 1) := by decide +kernel
theorem dX12_endCall_1 : decode cX12_endCall 1 = .ok (.getfield 53, 3) := by decide +kernel
theorem dX12_endCall_4 : decode cX12_endCall 4 = .ok (.iload_n 1, 1) := by decide +kernel
theorem dX12_endCall_5 : decode cX12_endCall 5 = .ok (.iaload, 1) := by decide +kernel
theorem dX12_endCall_6 : decode cX12_endCall 6 = .ok (.iconst 2, 1) := by decide +kernel
theorem dX12_endCall_7 : decode cX12_endCall 7 = .ok (.invokestatic 194, 3) := by decide +kernel
theorem dX12_endCall_10 : decode cX12_endCall 10 = .ok (.istore_n 2, 1) := by decide +kernel
theorem dX12_endCall_11 : decode cX12_endCall 11 = .ok (.aload_n 0, 1) := by decide +kernel
theorem dX12_endCall_12 : decode cX12_endCall 12 = .ok (.iload_n 2, 1) := by decide +kernel
theorem dX12_endCall_13 : decode cX12_endCall 13 = .ok (.aload_n 0, 1) := by decide +kernel
theorem dX12_endCall_14 : decode cX12_endCall 14 = .ok (.getfield 50, 3) := by decide +kernel
theorem dX12_endCall_17 : decode cX12_endCall 17 = .ok (.iload_n 1, 1) := by decide +kernel
theorem dX12_endCall_18 : decode cX12_endCall 18 = .ok (.iaload, 1) := by decide +kernel
theorem dX12_endCall_19 : decode cX12_endCall 19 = .ok (.aload_n 0, 1) := by decide +kernel
theorem dX12_endCall_20 : decode cX12_endCall 20 = .ok (.getfield 47, 3) := by decide +kernel
theorem dX12_endCall_23 : decode cX12_endCall 23 = .ok (.iload_n 1, 1) := by decide +kernel
theorem dX12_endCall_24 : decode cX12_endCall 24 = .ok (.iaload, 1) := by decide +kernel
theorem dX12_endCall_25 : decode cX12_endCall 25 = .ok (.invokevirtual 292, 3) := by decide +kernel
theorem dX12_endCall_28 : decode cX12_endCall 28 = .ok (.aload_n 0, 1) := by decide +kernel
theorem dX12_endCall_29 : decode cX12_endCall 29 = .ok (.iload_n 2, 1) := by decide +kernel
theorem dX12_endCall_30 : decode cX12_endCall 30 = .ok (.aload_n 0, 1) := by decide +kernel
theorem dX12_endCall_31 : decode cX12_endCall 31 = .ok (.getfield 50, 3) := by decide +kernel
theorem dX12_endCall_34 : decode cX12_endCall 34 = .ok (.iload_n 1, 1) := by decide +kernel
theorem dX12_endCall_35 : decode cX12_endCall 35 = .ok (.iaload, 1) := by decide +kernel
theorem dX12_endCall_36 : decode cX12_endCall 36 = .ok (.aload_n 0, 1) := by decide +kernel
theorem dX12_endCall_37 : decode cX12_endCall 37 = .ok (.getfield 47, 3) := by decide +kernel
theorem dX12_endCall_40 : decode cX12_endCall 40 = .ok (.iload_n 1, 1) := by decide +kernel
theorem dX12_endCall_41 : decode cX12_endCall 41 = .ok (.iaload, 1) := by decide +kernel
theorem dX12_endCall_42 : decode cX12_endCall 42 = .ok (.invokevirtual 257, 3) := by decide +kernel
theorem dX12_endCall_45 : decode cX12_endCall 45 = .ok (.istore_n 3, 1) := by decide +kernel
theorem dX12_endCall_46 : decode cX12_endCall 46 = .ok (.aload_n 0, 1) := by decide +kernel
theorem dX12_endCall_47 : decode cX12_endCall 47 = .ok (.iload_n 1, 1) := by decide +kernel
theorem dX12_endCall_48 : decode cX12_endCall 48 = .ok (.iload_n 3, 1) := by decide +kernel
theorem dX12_endCall_49 : decode cX12_endCall 49 = .ok (.invokevirtual 286, 3) := by decide +kernel
theorem dX12_endCall_52 : decode cX12_endCall 52 = .ok (.aload_n 0, 1) := by decide +kernel
theorem dX12_endCall_53 : decode cX12_endCall 53 = .ok (.iconst 0, 1) := by decide +kernel
theorem dX12_endCall_54 : decode cX12_endCall 54 = .ok (.iload_n 3, 1) := by decide +kernel
theorem dX12_endCall_55 : decode cX12_endCall 55 = .ok (.iconst 0, 1) := by decide +kernel
theorem dX12_endCall_56 : decode cX12_endCall 56 = .ok (.iconst 0, 1) := by decide +kernel
theorem dX12_endCall_57 : decode cX12_endCall 57 = .ok (.invokevirtual 260, 3) := by decide +kernel
theorem dX12_endCall_60 : decode cX12_endCall 60 = .ok (.return_, 1) := by decide +kernel
theorem dX12_parts_0 : decode cX12_parts 0 = .ok (.aload_n 0, 1) := by decide +kernel
theorem dX12_parts_1 : decode cX12_parts 1 = .ok (.iload_n 1, 1) := by decide +kernel
theorem dX12_parts_2 : decode cX12_parts 2 = .ok (.invokevirtual 280, 3) := by decide +kernel
theorem dX12_parts_5 : decode cX12_parts 5 = .ok (.istore_n 2, 1) := by decide +kernel
theorem dX12_parts_6 : decode cX12_parts 6 = .ok (.aload_n 0, 1) := by decide +kernel
theorem dX12_parts_7 : decode cX12_parts 7 = .ok (.getfield 35, 3) := by decide +kernel
theorem dX12_parts_10 : decode cX12_parts 10 = .ok (.iload_n 2, 1) := by decide +kernel
theorem dX12_parts_11 : decode cX12_parts 11 = .ok (.iaload, 1) := by decide +kernel
theorem dX12_parts_12 : decode cX12_parts 12 = .ok (.iconst 1, 1) := by decide +kernel
theorem dX12_parts_13 : decode cX12_parts 13 = .ok (.if_icmp .ne 66, 3) := by decide +kernel
theorem dX12_parts_16 : decode cX12_parts 16 = .ok (.aload_n 0, 1) := by decide +kernel
theorem dX12_parts_17 : decode cX12_parts 17 = .ok (.getfield 56, 3) := by decide +kernel
theorem dX12_parts_20 : decode cX12_parts 20 = .ok (.iload_n 2, 1) := by decide +kernel
theorem dX12_parts_21 : decode cX12_parts 21 = .ok (.baload, 1) := by decide +kernel
theorem dX12_parts_22 : decode cX12_parts 22 = .ok (.ifCond .ne 57, 3) := by decide +kernel
theorem dX12_parts_25 : decode cX12_parts 25 = .ok (.aload_n 0, 1) := by decide +kernel
theorem dX12_parts_26 : decode cX12_parts 26 = .ok (.iconst 3, 1) := by decide +kernel
theorem dX12_parts_27 : decode cX12_parts 27 = .ok (.iload_n 2, 1) := by decide +kernel
theorem dX12_parts_28 : decode cX12_parts 28 = .ok (.iconst 0, 1) := by decide +kernel
theorem dX12_parts_29 : decode cX12_parts 29 = .ok (.iconst 0, 1) := by decide +kernel
theorem dX12_parts_30 : decode cX12_parts 30 = .ok (.invokevirtual 260, 3) := by decide +kernel
theorem dX12_parts_33 : decode cX12_parts 33 = .ok (.aload_n 0, 1) := by decide +kernel
theorem dX12_parts_34 : decode cX12_parts 34 = .ok (.getfield 44, 3) := by decide +kernel
theorem dX12_parts_37 : decode cX12_parts 37 = .ok (.iload_n 2, 1) := by decide +kernel
theorem dX12_parts_38 : decode cX12_parts 38 = .ok (.iaload, 1) := by decide +kernel
theorem dX12_parts_39 : decode cX12_parts 39 = .ok (.iconst (-1), 1) := by decide +kernel
theorem dX12_parts_40 : decode cX12_parts 40 = .ok (.if_icmp .eq 16, 3) := by decide +kernel
theorem dX12_parts_43 : decode cX12_parts 43 = .ok (.aload_n 0, 1) := by decide +kernel
theorem dX12_parts_44 : decode cX12_parts 44 = .ok (.iconst 1, 1) := by decide +kernel
theorem dX12_parts_45 : decode cX12_parts 45 = .ok (.aload_n 0, 1) := by decide +kernel
theorem dX12_parts_46 : decode cX12_parts 46 = .ok (.getfield 44, 3) := by decide +kernel
theorem dX12_parts_49 : decode cX12_parts 49 = .ok (.iload_n 2, 1) := by decide +kernel
theorem dX12_parts_50 : decode cX12_parts 50 = .ok (.iaload, 1) := by decide +kernel
theorem dX12_parts_51 : decode cX12_parts 51 = .ok (.iconst 0, 1) := by decide +kernel
theorem dX12_parts_52 : decode cX12_parts 52 = .ok (.iconst 0, 1) := by decide +kernel
theorem dX12_parts_53 : decode cX12_parts 53 = .ok (.invokevirtual 260, 3) := by decide +kernel
theorem dX12_parts_56 : decode cX12_parts 56 = .ok (.aload_n 0, 1) := by decide +kernel
theorem dX12_parts_57 : decode cX12_parts 57 = .ok (.getfield 41, 3) := by decide +kernel
theorem dX12_parts_60 : decode cX12_parts 60 = .ok (.iload_n 2, 1) := by decide +kernel
theorem dX12_parts_61 : decode cX12_parts 61 = .ok (.iaload, 1) := by decide +kernel
theorem dX12_parts_62 : decode cX12_parts 62 = .ok (.iconst (-1), 1) := by decide +kernel
theorem dX12_parts_63 : decode cX12_parts 63 = .ok (.if_icmp .eq 16, 3) := by decide +kernel
theorem dX12_parts_66 : decode cX12_parts 66 = .ok (.aload_n 0, 1) := by decide +kernel
theorem dX12_parts_67 : decode cX12_parts 67 = .ok (.iconst 1, 1) := by decide +kernel
theorem dX12_parts_68 : decode cX12_parts 68 = .ok (.aload_n 0, 1) := by decide +kernel
theorem dX12_parts_69 : decode cX12_parts 69 = .ok (.getfield 41, 3) := by decide +kernel
theorem dX12_parts_72 : decode cX12_parts 72 = .ok (.iload_n 2, 1) := by decide +kernel
theorem dX12_parts_73 : decode cX12_parts 73 = .ok (.iaload, 1) := by decide +kernel
theorem dX12_parts_74 : decode cX12_parts 74 = .ok (.iconst 0, 1) := by decide +kernel
theorem dX12_parts_75 : decode cX12_parts 75 = .ok (.iconst 0, 1) := by decide +kernel
theorem dX12_parts_76 : decode cX12_parts 76 = .ok (.invokevirtual 260, 3) := by decide +kernel
theorem dX12_parts_79 : decode cX12_parts 79 = .ok (.return_, 1) := by decide +kernel
theorem dX12_pair_0 : decode cX12_pair 0 = .ok (.iload_n 1, 1) := by decide +kernel
theorem dX12_pair_1 : decode cX12_pair 1 = .ok (.iconst (-1), 1) := by decide +kernel
theorem dX12_pair_2 : decode cX12_pair 2 = .ok (.if_icmp .eq 33, 3) := by decide +kernel
theorem dX12_pair_5 : decode cX12_pair 5 = .ok (.aload_n 0, 1) := by decide +kernel
theorem dX12_pair_6 : decode cX12_pair 6 = .ok (.getfield 101, 3) := by decide +kernel
theorem dX12_pair_9 : decode cX12_pair 9 = .ok (.aload_n 0, 1) := by decide +kernel
theorem dX12_pair_10 : decode cX12_pair 10 = .ok (.getfield 296, 3) := by decide +kernel
theorem dX12_pair_13 : decode cX12_pair 13 = .ok (.iload_n 1, 1) := by decide +kernel
theorem dX12_pair_14 : decode cX12_pair 14 = .ok (.iastore, 1) := by decide +kernel
theorem dX12_pair_15 : decode cX12_pair 15 = .ok (.aload_n 0, 1) := by decide +kernel
theorem dX12_pair_16 : decode cX12_pair 16 = .ok (.getfield 104, 3) := by decide +kernel
theorem dX12_pair_19 : decode cX12_pair 19 = .ok (.aload_n 0, 1) := by decide +kernel
theorem dX12_pair_20 : decode cX12_pair 20 = .ok (.getfield 296, 3) := by decide +kernel
theorem dX12_pair_23 : decode cX12_pair 23 = .ok (.iload_n 2, 1) := by decide +kernel
theorem dX12_pair_24 : decode cX12_pair 24 = .ok (.iastore, 1) := by decide +kernel
theorem dX12_pair_25 : decode cX12_pair 25 = .ok (.aload_n 0, 1) := by decide +kernel
theorem dX12_pair_26 : decode cX12_pair 26 = .ok (.dup, 1) := by decide +kernel
theorem dX12_pair_27 : decode cX12_pair 27 = .ok (.getfield 296, 3) := by decide +kernel
theorem dX12_pair_30 : decode cX12_pair 30 = .ok (.iconst 1, 1) := by decide +kernel
theorem dX12_pair_31 : decode cX12_pair 31 = .ok (.iadd, 1) := by decide +kernel
theorem dX12_pair_32 : decode cX12_pair 32 = .ok (.putfield 296, 3) := by decide +kernel
theorem dX12_pair_35 : decode cX12_pair 35 = .ok (.return_, 1) := by decide +kernel
theorem dX12_isIn_0 : decode cX12_isIn 0 = .ok (.aload_n 0, 1) := by decide +kernel
theorem dX12_isIn_1 : decode cX12_isIn 1 = .ok (.dup, 1) := by decide +kernel
theorem dX12_isIn_2 : decode cX12_isIn 2 = .ok (.getfield 299, 3) := by decide +kernel
theorem dX12_isIn_5 : decode cX12_isIn 5 = .ok (.iconst 1, 1) := by decide +kernel
theorem dX12_isIn_6 : decode cX12_isIn 6 = .ok (.iadd, 1) := by decide +kernel
theorem dX12_isIn_7 : decode cX12_isIn 7 = .ok (.putfield 299, 3) := by decide +kernel
theorem dX12_isIn_10 : decode cX12_isIn 10 = .ok (.iconst 1, 1) := by decide +kernel
theorem dX12_isIn_11 : decode cX12_isIn 11 = .ok (.istore_n 3, 1) := by decide +kernel
theorem dX12_isIn_12 : decode cX12_isIn 12 = .ok (.aload_n 0, 1) := by decide +kernel
theorem dX12_isIn_13 : decode cX12_isIn 13 = .ok (.getfield 110, 3) := by decide +kernel
theorem dX12_isIn_16 : decode cX12_isIn 16 = .ok (.iconst 0, 1) := by decide +kernel
theorem dX12_isIn_17 : decode cX12_isIn 17 = .ok (.aload_n 0, 1) := by decide +kernel
theorem dX12_isIn_18 : decode cX12_isIn 18 = .ok (.iload_n 2, 1) := by decide +kernel
theorem dX12_isIn_19 : decode cX12_isIn 19 = .ok (.invokevirtual 280, 3) := by decide +kernel
theorem dX12_isIn_22 : decode cX12_isIn 22 = .ok (.iastore, 1) := by decide +kernel
theorem dX12_isIn_23 : decode cX12_isIn 23 = .ok (.aload_n 0, 1) := by decide +kernel
theorem dX12_isIn_24 : decode cX12_isIn 24 = .ok (.getfield 107, 3) := by decide +kernel
theorem dX12_isIn_27 : decode cX12_isIn 27 = .ok (.aload_n 0, 1) := by decide +kernel
theorem dX12_isIn_28 : decode cX12_isIn 28 = .ok (.getfield 110, 3) := by decide +kernel
theorem dX12_isIn_31 : decode cX12_isIn 31 = .ok (.iconst 0, 1) := by decide +kernel
theorem dX12_isIn_32 : decode cX12_isIn 32 = .ok (.iaload, 1) := by decide +kernel
theorem dX12_isIn_33 : decode cX12_isIn 33 = .ok (.aload_n 0, 1) := by decide +kernel
theorem dX12_isIn_34 : decode cX12_isIn 34 = .ok (.getfield 299, 3) := by decide +kernel
theorem dX12_isIn_37 : decode cX12_isIn 37 = .ok (.iastore, 1) := by decide +kernel
theorem dX12_isIn_38 : decode cX12_isIn 38 = .ok (.iload_n 3, 1) := by decide +kernel
theorem dX12_isIn_39 : decode cX12_isIn 39 = .ok (.ifCond .le 135, 3) := by decide +kernel
theorem dX12_isIn_42 : decode cX12_isIn 42 = .ok (.iinc 3 (-1), 3) := by decide +kernel
theorem dX12_isIn_45 : decode cX12_isIn 45 = .ok (.aload_n 0, 1) := by decide +kernel
theorem dX12_isIn_46 : decode cX12_isIn 46 = .ok (.getfield 110, 3) := by decide +kernel
theorem dX12_isIn_49 : decode cX12_isIn 49 = .ok (.iload_n 3, 1) := by decide +kernel
theorem dX12_isIn_50 : decode cX12_isIn 50 = .ok (.iaload, 1) := by decide +kernel
theorem dX12_isIn_51 : decode cX12_isIn 51 = .ok (.istore 4, 2) := by decide +kernel
theorem dX12_isIn_53 : decode cX12_isIn 53 = .ok (.iload 4, 2) := by decide +kernel
theorem dX12_isIn_55 : decode cX12_isIn 55 = .ok (.iload_n 1, 1) := by decide +kernel
theorem dX12_isIn_56 : decode cX12_isIn 56 = .ok (.if_icmp .ne 5, 3) := by decide +kernel
theorem dX12_isIn_59 : decode cX12_isIn 59 = .ok (.iconst 1, 1) := by decide +kernel
theorem dX12_isIn_60 : decode cX12_isIn 60 = .ok (.ireturn, 1) := by decide +kernel
theorem dX12_isIn_61 : decode cX12_isIn 61 = .ok (.iconst 0, 1) := by decide +kernel
theorem dX12_isIn_62 : decode cX12_isIn 62 = .ok (.istore 5, 2) := by decide +kernel
theorem dX12_isIn_64 : decode cX12_isIn 64 = .ok (.iload 5, 2) := by decide +kernel
theorem dX12_isIn_66 : decode cX12_isIn 66 = .ok (.iconst 2, 1) := by decide +kernel
theorem dX12_isIn_67 : decode cX12_isIn 67 = .ok (.if_icmp .ge 104, 3) := by decide +kernel
theorem dX12_isIn_70 : decode cX12_isIn 70 = .ok (.aload_n 0, 1) := by decide +kernel
theorem dX12_isIn_71 : decode cX12_isIn 71 = .ok (.getfield 35, 3) := by decide +kernel
theorem dX12_isIn_74 : decode cX12_isIn 74 = .ok (.iload 4, 2) := by decide +kernel
theorem dX12_isIn_76 : decode cX12_isIn 76 = .ok (.iaload, 1) := by decide +kernel
theorem dX12_isIn_77 : decode cX12_isIn 77 = .ok (.iconst 1, 1) := by decide +kernel
theorem dX12_isIn_78 : decode cX12_isIn 78 = .ok (.if_icmp .ne 93, 3) := by decide +kernel
theorem dX12_isIn_81 : decode cX12_isIn 81 = .ok (.iload 5, 2) := by decide +kernel
theorem dX12_isIn_83 : decode cX12_isIn 83 = .ok (.ifCond .ne 13, 3) := by decide +kernel
theorem dX12_isIn_86 : decode cX12_isIn 86 = .ok (.aload_n 0, 1) := by decide +kernel
theorem dX12_isIn_87 : decode cX12_isIn 87 = .ok (.getfield 41, 3) := by decide +kernel
theorem dX12_isIn_90 : decode cX12_isIn 90 = .ok (.iload 4, 2) := by decide +kernel
theorem dX12_isIn_92 : decode cX12_isIn 92 = .ok (.iaload, 1) := by decide +kernel
theorem dX12_isIn_93 : decode cX12_isIn 93 = .ok (.goto 10, 3) := by decide +kernel
theorem dX12_isIn_96 : decode cX12_isIn 96 = .ok (.aload_n 0, 1) := by decide +kernel
theorem dX12_isIn_97 : decode cX12_isIn 97 = .ok (.getfield 44, 3) := by decide +kernel
theorem dX12_isIn_100 : decode cX12_isIn 100 = .ok (.iload 4, 2) := by decide +kernel
theorem dX12_isIn_102 : decode cX12_isIn 102 = .ok (.iaload, 1) := by decide +kernel
theorem dX12_isIn_103 : decode cX12_isIn 103 = .ok (.istore 6, 2) := by decide +kernel
theorem dX12_isIn_105 : decode cX12_isIn 105 = .ok (.iload 6, 2) := by decide +kernel
theorem dX12_isIn_107 : decode cX12_isIn 107 = .ok (.iconst (-1), 1) := by decide +kernel
theorem dX12_isIn_108 : decode cX12_isIn 108 = .ok (.if_icmp .ne 7, 3) := by decide +kernel
theorem dX12_isIn_111 : decode cX12_isIn 111 = .ok (.iconst (-1), 1) := by decide +kernel
theorem dX12_isIn_112 : decode cX12_isIn 112 = .ok (.goto 9, 3) := by decide +kernel
theorem dX12_isIn_115 : decode cX12_isIn 115 = .ok (.aload_n 0, 1) := by decide +kernel
theorem dX12_isIn_116 : decode cX12_isIn 116 = .ok (.iload 6, 2) := by decide +kernel
theorem dX12_isIn_118 : decode cX12_isIn 118 = .ok (.invokevirtual 280, 3) := by decide +kernel
theorem dX12_isIn_121 : decode cX12_isIn 121 = .ok (.istore 6, 2) := by decide +kernel
theorem dX12_isIn_123 : decode cX12_isIn 123 = .ok (.iload 6, 2) := by decide +kernel
theorem dX12_isIn_125 : decode cX12_isIn 125 = .ok (.iconst (-1), 1) := by decide +kernel
theorem dX12_isIn_126 : decode cX12_isIn 126 = .ok (.if_icmp .eq 39, 3) := by decide +kernel
theorem dX12_isIn_129 : decode cX12_isIn 129 = .ok (.aload_n 0, 1) := by decide +kernel
theorem dX12_isIn_130 : decode cX12_isIn 130 = .ok (.getfield 107, 3) := by decide +kernel
theorem dX12_isIn_133 : decode cX12_isIn 133 = .ok (.iload 6, 2) := by decide +kernel
theorem dX12_isIn_135 : decode cX12_isIn 135 = .ok (.iaload, 1) := by decide +kernel
theorem dX12_isIn_136 : decode cX12_isIn 136 = .ok (.aload_n 0, 1) := by decide +kernel
theorem dX12_isIn_137 : decode cX12_isIn 137 = .ok (.getfield 299, 3) := by decide +kernel
theorem dX12_isIn_140 : decode cX12_isIn 140 = .ok (.if_icmp .eq 25, 3) := by decide +kernel
theorem dX12_isIn_143 : decode cX12_isIn 143 = .ok (.aload_n 0, 1) := by decide +kernel
theorem dX12_isIn_144 : decode cX12_isIn 144 = .ok (.getfield 107, 3) := by decide +kernel
theorem dX12_isIn_147 : decode cX12_isIn 147 = .ok (.iload 6, 2) := by decide +kernel
theorem dX12_isIn_149 : decode cX12_isIn 149 = .ok (.aload_n 0, 1) := by decide +kernel
theorem dX12_isIn_150 : decode cX12_isIn 150 = .ok (.getfield 299, 3) := by decide +kernel
theorem dX12_isIn_153 : decode cX12_isIn 153 = .ok (.iastore, 1) := by decide +kernel
theorem dX12_isIn_154 : decode cX12_isIn 154 = .ok (.aload_n 0, 1) := by decide +kernel
theorem dX12_isIn_155 : decode cX12_isIn 155 = .ok (.getfield 110, 3) := by decide +kernel
theorem dX12_isIn_158 : decode cX12_isIn 158 = .ok (.iload_n 3, 1) := by decide +kernel
theorem dX12_isIn_159 : decode cX12_isIn 159 = .ok (.iload 6, 2) := by decide +kernel
theorem dX12_isIn_161 : decode cX12_isIn 161 = .ok (.iastore, 1) := by decide +kernel
theorem dX12_isIn_162 : decode cX12_isIn 162 = .ok (.iinc 3 1, 3) := by decide +kernel
theorem dX12_isIn_165 : decode cX12_isIn 165 = .ok (.iinc 5 1, 3) := by decide +kernel
theorem dX12_isIn_168 : decode cX12_isIn 168 = .ok (.goto (-104), 3) := by decide +kernel
theorem dX12_isIn_171 : decode cX12_isIn 171 = .ok (.goto (-133), 3) := by decide +kernel
theorem dX12_isIn_174 : decode cX12_isIn 174 = .ok (.iconst 0, 1) := by decide +kernel
theorem dX12_isIn_175 : decode cX12_isIn 175 = .ok (.ireturn, 1) := by decide +kernel
theorem dX12_bind_0 : decode cX12_bind 0 = .ok (.aload_n 0, 1) := by decide +kernel
theorem dX12_bind_1 : decode cX12_bind 1 = .ok (.iload_n 1, 1) := by decide +kernel
theorem dX12_bind_2 : decode cX12_bind 2 = .ok (.iload_n 2, 1) := by decide +kernel
theorem dX12_bind_3 : decode cX12_bind 3 = .ok (.invokevirtual 302, 3) := by decide +kernel
theorem dX12_bind_6 : decode cX12_bind 6 = .ok (.ifCond .eq 11, 3) := by decide +kernel
theorem dX12_bind_9 : decode cX12_bind 9 = .ok (.aload_n 0, 1) := by decide +kernel
theorem dX12_bind_10 : decode cX12_bind 10 = .ok (.iload_n 3, 1) := by decide +kernel
theorem dX12_bind_11 : decode cX12_bind 11 = .ok (.invokevirtual 270, 3) := by decide +kernel
theorem dX12_bind_14 : decode cX12_bind 14 = .ok (.goto 55, 3) := by decide +kernel
theorem dX12_bind_17 : decode cX12_bind 17 = .ok (.aload_n 0, 1) := by decide +kernel
theorem dX12_bind_18 : decode cX12_bind 18 = .ok (.getfield 47, 3) := by decide +kernel
theorem dX12_bind_21 : decode cX12_bind 21 = .ok (.iload_n 1, 1) := by decide +kernel
theorem dX12_bind_22 : decode cX12_bind 22 = .ok (.iaload, 1) := by decide +kernel
theorem dX12_bind_23 : decode cX12_bind 23 = .ok (.iload_n 3, 1) := by decide +kernel
theorem dX12_bind_24 : decode cX12_bind 24 = .ok (.if_icmp .ne 12, 3) := by decide +kernel
theorem dX12_bind_27 : decode cX12_bind 27 = .ok (.aload_n 0, 1) := by decide +kernel
theorem dX12_bind_28 : decode cX12_bind 28 = .ok (.iload_n 1, 1) := by decide +kernel
theorem dX12_bind_29 : decode cX12_bind 29 = .ok (.iload_n 2, 1) := by decide +kernel
theorem dX12_bind_30 : decode cX12_bind 30 = .ok (.invokevirtual 286, 3) := by decide +kernel
theorem dX12_bind_33 : decode cX12_bind 33 = .ok (.goto 36, 3) := by decide +kernel
theorem dX12_bind_36 : decode cX12_bind 36 = .ok (.aload_n 0, 1) := by decide +kernel
theorem dX12_bind_37 : decode cX12_bind 37 = .ok (.getfield 35, 3) := by decide +kernel
theorem dX12_bind_40 : decode cX12_bind 40 = .ok (.iload_n 2, 1) := by decide +kernel
theorem dX12_bind_41 : decode cX12_bind 41 = .ok (.iaload, 1) := by decide +kernel
theorem dX12_bind_42 : decode cX12_bind 42 = .ok (.ifCond .ne 22, 3) := by decide +kernel
theorem dX12_bind_45 : decode cX12_bind 45 = .ok (.aload_n 0, 1) := by decide +kernel
theorem dX12_bind_46 : decode cX12_bind 46 = .ok (.getfield 47, 3) := by decide +kernel
theorem dX12_bind_49 : decode cX12_bind 49 = .ok (.iload_n 2, 1) := by decide +kernel
theorem dX12_bind_50 : decode cX12_bind 50 = .ok (.iaload, 1) := by decide +kernel
theorem dX12_bind_51 : decode cX12_bind 51 = .ok (.iload_n 3, 1) := by decide +kernel
theorem dX12_bind_52 : decode cX12_bind 52 = .ok (.if_icmp .ne 12, 3) := by decide +kernel
theorem dX12_bind_55 : decode cX12_bind 55 = .ok (.aload_n 0, 1) := by decide +kernel
theorem dX12_bind_56 : decode cX12_bind 56 = .ok (.iload_n 2, 1) := by decide +kernel
theorem dX12_bind_57 : decode cX12_bind 57 = .ok (.iload_n 1, 1) := by decide +kernel
theorem dX12_bind_58 : decode cX12_bind 58 = .ok (.invokevirtual 286, 3) := by decide +kernel
theorem dX12_bind_61 : decode cX12_bind 61 = .ok (.goto 8, 3) := by decide +kernel
theorem dX12_bind_64 : decode cX12_bind 64 = .ok (.aload_n 0, 1) := by decide +kernel
theorem dX12_bind_65 : decode cX12_bind 65 = .ok (.iconst 3, 1) := by decide +kernel
theorem dX12_bind_66 : decode cX12_bind 66 = .ok (.putfield 245, 3) := by decide +kernel
theorem dX12_bind_69 : decode cX12_bind 69 = .ok (.return_, 1) := by decide +kernel
theorem dX12_endSame_0 : decode cX12_endSame 0 = .ok (.aload_n 0, 1) := by decide +kernel
theorem dX12_endSame_1 : decode cX12_endSame 1 = .ok (.getfield 47, 3) := by decide +kernel
theorem dX12_endSame_4 : decode cX12_endSame 4 = .ok (.iload_n 1, 1) := by decide +kernel
theorem dX12_endSame_5 : decode cX12_endSame 5 = .ok (.iaload, 1) := by decide +kernel
theorem dX12_endSame_6 : decode cX12_endSame 6 = .ok (.istore_n 2, 1) := by decide +kernel
theorem dX12_endSame_7 : decode cX12_endSame 7 = .ok (.aload_n 0, 1) := by decide +kernel
theorem dX12_endSame_8 : decode cX12_endSame 8 = .ok (.getfield 251, 3) := by decide +kernel
theorem dX12_endSame_11 : decode cX12_endSame 11 = .ok (.istore_n 3, 1) := by decide +kernel
theorem dX12_endSame_12 : decode cX12_endSame 12 = .ok (.aload_n 0, 1) := by decide +kernel
theorem dX12_endSame_13 : decode cX12_endSame 13 = .ok (.getfield 239, 3) := by decide +kernel
theorem dX12_endSame_16 : decode cX12_endSame 16 = .ok (.istore 4, 2) := by decide +kernel
theorem dX12_endSame_18 : decode cX12_endSame 18 = .ok (.iconst 1, 1) := by decide +kernel
theorem dX12_endSame_19 : decode cX12_endSame 19 = .ok (.istore 5, 2) := by decide +kernel
theorem dX12_endSame_21 : decode cX12_endSame 21 = .ok (.aload_n 0, 1) := by decide +kernel
theorem dX12_endSame_22 : decode cX12_endSame 22 = .ok (.iconst 0, 1) := by decide +kernel
theorem dX12_endSame_23 : decode cX12_endSame 23 = .ok (.putfield 296, 3) := by decide +kernel
theorem dX12_endSame_26 : decode cX12_endSame 26 = .ok (.aload_n 0, 1) := by decide +kernel
theorem dX12_endSame_27 : decode cX12_endSame 27 = .ok (.aload_n 0, 1) := by decide +kernel
theorem dX12_endSame_28 : decode cX12_endSame 28 = .ok (.getfield 41, 3) := by decide +kernel
theorem dX12_endSame_31 : decode cX12_endSame 31 = .ok (.iload_n 1, 1) := by decide +kernel
theorem dX12_endSame_32 : decode cX12_endSame 32 = .ok (.iaload, 1) := by decide +kernel
theorem dX12_endSame_33 : decode cX12_endSame 33 = .ok (.aload_n 0, 1) := by decide +kernel
theorem dX12_endSame_34 : decode cX12_endSame 34 = .ok (.getfield 44, 3) := by decide +kernel
theorem dX12_endSame_37 : decode cX12_endSame 37 = .ok (.iload_n 1, 1) := by decide +kernel
theorem dX12_endSame_38 : decode cX12_endSame 38 = .ok (.iaload, 1) := by decide +kernel
theorem dX12_endSame_39 : decode cX12_endSame 39 = .ok (.invokevirtual 305, 3) := by decide +kernel
theorem dX12_endSame_42 : decode cX12_endSame 42 = .ok (.iload 5, 2) := by decide +kernel
theorem dX12_endSame_44 : decode cX12_endSame 44 = .ok (.ifCond .eq 257, 3) := by decide +kernel
theorem dX12_endSame_47 : decode cX12_endSame 47 = .ok (.aload_n 0, 1) := by decide +kernel
theorem dX12_endSame_48 : decode cX12_endSame 48 = .ok (.getfield 296, 3) := by decide +kernel
theorem dX12_endSame_51 : decode cX12_endSame 51 = .ok (.ifCond .le 250, 3) := by decide +kernel
theorem dX12_endSame_54 : decode cX12_endSame 54 = .ok (.aload_n 0, 1) := by decide +kernel
theorem dX12_endSame_55 : decode cX12_endSame 55 = .ok (.dup, 1) := by decide +kernel
theorem dX12_endSame_56 : decode cX12_endSame 56 = .ok (.getfield 296, 3) := by decide +kernel
theorem dX12_endSame_59 : decode cX12_endSame 59 = .ok (.iconst 1, 1) := by decide +kernel
theorem dX12_endSame_60 : decode cX12_endSame 60 = .ok (.isub, 1) := by decide +kernel
theorem dX12_endSame_61 : decode cX12_endSame 61 = .ok (.putfield 296, 3) := by decide +kernel
theorem dX12_endSame_64 : decode cX12_endSame 64 = .ok (.aload_n 0, 1) := by decide +kernel
theorem dX12_endSame_65 : decode cX12_endSame 65 = .ok (.aload_n 0, 1) := by decide +kernel
theorem dX12_endSame_66 : decode cX12_endSame 66 = .ok (.getfield 101, 3) := by decide +kernel
theorem dX12_endSame_69 : decode cX12_endSame 69 = .ok (.aload_n 0, 1) := by decide +kernel
theorem dX12_endSame_70 : decode cX12_endSame 70 = .ok (.getfield 296, 3) := by decide +kernel
theorem dX12_endSame_73 : decode cX12_endSame 73 = .ok (.iaload, 1) := by decide +kernel
theorem dX12_endSame_74 : decode cX12_endSame 74 = .ok (.invokevirtual 280, 3) := by decide +kernel
theorem dX12_endSame_77 : decode cX12_endSame 77 = .ok (.istore 6, 2) := by decide +kernel
theorem dX12_endSame_79 : decode cX12_endSame 79 = .ok (.aload_n 0, 1) := by decide +kernel
theorem dX12_endSame_80 : decode cX12_endSame 80 = .ok (.aload_n 0, 1) := by decide +kernel
theorem dX12_endSame_81 : decode cX12_endSame 81 = .ok (.getfield 104, 3) := by decide +kernel
theorem dX12_endSame_84 : decode cX12_endSame 84 = .ok (.aload_n 0, 1) := by decide +kernel
theorem dX12_endSame_85 : decode cX12_endSame 85 = .ok (.getfield 296, 3) := by decide +kernel
theorem dX12_endSame_88 : decode cX12_endSame 88 = .ok (.iaload, 1) := by decide +kernel
theorem dX12_endSame_89 : decode cX12_endSame 89 = .ok (.invokevirtual 280, 3) := by decide +kernel
theorem dX12_endSame_92 : decode cX12_endSame 92 = .ok (.istore 7, 2) := by decide +kernel
theorem dX12_endSame_94 : decode cX12_endSame 94 = .ok (.iload 6, 2) := by decide +kernel
theorem dX12_endSame_96 : decode cX12_endSame 96 = .ok (.iload 7, 2) := by decide +kernel
theorem dX12_endSame_98 : decode cX12_endSame 98 = .ok (.if_icmp .eq 200, 3) := by decide +kernel
theorem dX12_endSame_101 : decode cX12_endSame 101 = .ok (.aload_n 0, 1) := by decide +kernel
theorem dX12_endSame_102 : decode cX12_endSame 102 = .ok (.invokevirtual 254, 3) := by decide +kernel
theorem dX12_endSame_105 : decode cX12_endSame 105 = .ok (.aload_n 0, 1) := by decide +kernel
theorem dX12_endSame_106 : decode cX12_endSame 106 = .ok (.getfield 245, 3) := by decide +kernel
theorem dX12_endSame_109 : decode cX12_endSame 109 = .ok (.ifCond .eq 9, 3) := by decide +kernel
theorem dX12_endSame_112 : decode cX12_endSame 112 = .ok (.iconst 0, 1) := by decide +kernel
theorem dX12_endSame_113 : decode cX12_endSame 113 = .ok (.istore 5, 2) := by decide +kernel
theorem dX12_endSame_115 : decode cX12_endSame 115 = .ok (.goto 147, 3) := by decide +kernel
theorem dX12_endSame_118 : decode cX12_endSame 118 = .ok (.aload_n 0, 1) := by decide +kernel
theorem dX12_endSame_119 : decode cX12_endSame 119 = .ok (.getfield 35, 3) := by decide +kernel
theorem dX12_endSame_122 : decode cX12_endSame 122 = .ok (.iload 6, 2) := by decide +kernel
theorem dX12_endSame_124 : decode cX12_endSame 124 = .ok (.iaload, 1) := by decide +kernel
theorem dX12_endSame_125 : decode cX12_endSame 125 = .ok (.ifCond .ne 33, 3) := by decide +kernel
theorem dX12_endSame_128 : decode cX12_endSame 128 = .ok (.aload_n 0, 1) := by decide +kernel
theorem dX12_endSame_129 : decode cX12_endSame 129 = .ok (.iload 6, 2) := by decide +kernel
theorem dX12_endSame_131 : decode cX12_endSame 131 = .ok (.iload 7, 2) := by decide +kernel
theorem dX12_endSame_133 : decode cX12_endSame 133 = .ok (.invokevirtual 302, 3) := by decide +kernel
theorem dX12_endSame_136 : decode cX12_endSame 136 = .ok (.ifCond .ne 7, 3) := by decide +kernel
theorem dX12_endSame_139 : decode cX12_endSame 139 = .ok (.iconst 1, 1) := by decide +kernel
theorem dX12_endSame_140 : decode cX12_endSame 140 = .ok (.goto 4, 3) := by decide +kernel
theorem dX12_endSame_143 : decode cX12_endSame 143 = .ok (.iconst 0, 1) := by decide +kernel
theorem dX12_endSame_144 : decode cX12_endSame 144 = .ok (.istore 5, 2) := by decide +kernel
theorem dX12_endSame_146 : decode cX12_endSame 146 = .ok (.aload_n 0, 1) := by decide +kernel
theorem dX12_endSame_147 : decode cX12_endSame 147 = .ok (.iload 6, 2) := by decide +kernel
theorem dX12_endSame_149 : decode cX12_endSame 149 = .ok (.iload 7, 2) := by decide +kernel
theorem dX12_endSame_151 : decode cX12_endSame 151 = .ok (.iload_n 2, 1) := by decide +kernel
theorem dX12_endSame_152 : decode cX12_endSame 152 = .ok (.invokevirtual 308, 3) := by decide +kernel
theorem dX12_endSame_155 : decode cX12_endSame 155 = .ok (.goto 107, 3) := by decide +kernel
theorem dX12_endSame_158 : decode cX12_endSame 158 = .ok (.aload_n 0, 1) := by decide +kernel
theorem dX12_endSame_159 : decode cX12_endSame 159 = .ok (.getfield 35, 3) := by decide +kernel
theorem dX12_endSame_162 : decode cX12_endSame 162 = .ok (.iload 7, 2) := by decide +kernel
theorem dX12_endSame_164 : decode cX12_endSame 164 = .ok (.iaload, 1) := by decide +kernel
theorem dX12_endSame_165 : decode cX12_endSame 165 = .ok (.ifCond .ne 33, 3) := by decide +kernel
theorem dX12_endSame_168 : decode cX12_endSame 168 = .ok (.aload_n 0, 1) := by decide +kernel
theorem dX12_endSame_169 : decode cX12_endSame 169 = .ok (.iload 7, 2) := by decide +kernel
theorem dX12_endSame_171 : decode cX12_endSame 171 = .ok (.iload 6, 2) := by decide +kernel
theorem dX12_endSame_173 : decode cX12_endSame 173 = .ok (.invokevirtual 302, 3) := by decide +kernel
theorem dX12_endSame_176 : decode cX12_endSame 176 = .ok (.ifCond .ne 7, 3) := by decide +kernel
theorem dX12_endSame_179 : decode cX12_endSame 179 = .ok (.iconst 1, 1) := by decide +kernel
theorem dX12_endSame_180 : decode cX12_endSame 180 = .ok (.goto 4, 3) := by decide +kernel
theorem dX12_endSame_183 : decode cX12_endSame 183 = .ok (.iconst 0, 1) := by decide +kernel
theorem dX12_endSame_184 : decode cX12_endSame 184 = .ok (.istore 5, 2) := by decide +kernel
theorem dX12_endSame_186 : decode cX12_endSame 186 = .ok (.aload_n 0, 1) := by decide +kernel
theorem dX12_endSame_187 : decode cX12_endSame 187 = .ok (.iload 7, 2) := by decide +kernel
theorem dX12_endSame_189 : decode cX12_endSame 189 = .ok (.iload 6, 2) := by decide +kernel
theorem dX12_endSame_191 : decode cX12_endSame 191 = .ok (.iload_n 2, 1) := by decide +kernel
theorem dX12_endSame_192 : decode cX12_endSame 192 = .ok (.invokevirtual 308, 3) := by decide +kernel
theorem dX12_endSame_195 : decode cX12_endSame 195 = .ok (.goto 67, 3) := by decide +kernel
theorem dX12_endSame_198 : decode cX12_endSame 198 = .ok (.aload_n 0, 1) := by decide +kernel
theorem dX12_endSame_199 : decode cX12_endSame 199 = .ok (.getfield 38, 3) := by decide +kernel
theorem dX12_endSame_202 : decode cX12_endSame 202 = .ok (.iload 6, 2) := by decide +kernel
theorem dX12_endSame_204 : decode cX12_endSame 204 = .ok (.iaload, 1) := by decide +kernel
theorem dX12_endSame_205 : decode cX12_endSame 205 = .ok (.aload_n 0, 1) := by decide +kernel
theorem dX12_endSame_206 : decode cX12_endSame 206 = .ok (.getfield 38, 3) := by decide +kernel
theorem dX12_endSame_209 : decode cX12_endSame 209 = .ok (.iload 7, 2) := by decide +kernel
theorem dX12_endSame_211 : decode cX12_endSame 211 = .ok (.iaload, 1) := by decide +kernel
theorem dX12_endSame_212 : decode cX12_endSame 212 = .ok (.if_icmp .eq 14, 3) := by decide +kernel
theorem dX12_endSame_215 : decode cX12_endSame 215 = .ok (.iconst 0, 1) := by decide +kernel
theorem dX12_endSame_216 : decode cX12_endSame 216 = .ok (.istore 5, 2) := by decide +kernel
theorem dX12_endSame_218 : decode cX12_endSame 218 = .ok (.aload_n 0, 1) := by decide +kernel
theorem dX12_endSame_219 : decode cX12_endSame 219 = .ok (.iload_n 2, 1) := by decide +kernel
theorem dX12_endSame_220 : decode cX12_endSame 220 = .ok (.invokevirtual 270, 3) := by decide +kernel
theorem dX12_endSame_223 : decode cX12_endSame 223 = .ok (.goto 39, 3) := by decide +kernel
theorem dX12_endSame_226 : decode cX12_endSame 226 = .ok (.aload_n 0, 1) := by decide +kernel
theorem dX12_endSame_227 : decode cX12_endSame 227 = .ok (.aload_n 0, 1) := by decide +kernel
theorem dX12_endSame_228 : decode cX12_endSame 228 = .ok (.getfield 44, 3) := by decide +kernel
theorem dX12_endSame_231 : decode cX12_endSame 231 = .ok (.iload 6, 2) := by decide +kernel
theorem dX12_endSame_233 : decode cX12_endSame 233 = .ok (.iaload, 1) := by decide +kernel
theorem dX12_endSame_234 : decode cX12_endSame 234 = .ok (.aload_n 0, 1) := by decide +kernel
theorem dX12_endSame_235 : decode cX12_endSame 235 = .ok (.getfield 44, 3) := by decide +kernel
theorem dX12_endSame_238 : decode cX12_endSame 238 = .ok (.iload 7, 2) := by decide +kernel
theorem dX12_endSame_240 : decode cX12_endSame 240 = .ok (.iaload, 1) := by decide +kernel
theorem dX12_endSame_241 : decode cX12_endSame 241 = .ok (.invokevirtual 305, 3) := by decide +kernel
theorem dX12_endSame_244 : decode cX12_endSame 244 = .ok (.aload_n 0, 1) := by decide +kernel
theorem dX12_endSame_245 : decode cX12_endSame 245 = .ok (.aload_n 0, 1) := by decide +kernel
theorem dX12_endSame_246 : decode cX12_endSame 246 = .ok (.getfield 41, 3) := by decide +kernel
theorem dX12_endSame_249 : decode cX12_endSame 249 = .ok (.iload 6, 2) := by decide +kernel
theorem dX12_endSame_251 : decode cX12_endSame 251 = .ok (.iaload, 1) := by decide +kernel
theorem dX12_endSame_252 : decode cX12_endSame 252 = .ok (.aload_n 0, 1) := by decide +kernel
theorem dX12_endSame_253 : decode cX12_endSame 253 = .ok (.getfield 41, 3) := by decide +kernel
theorem dX12_endSame_256 : decode cX12_endSame 256 = .ok (.iload 7, 2) := by decide +kernel
theorem dX12_endSame_258 : decode cX12_endSame 258 = .ok (.iaload, 1) := by decide +kernel
theorem dX12_endSame_259 : decode cX12_endSame 259 = .ok (.invokevirtual 305, 3) := by decide +kernel
theorem dX12_endSame_262 : decode cX12_endSame 262 = .ok (.iload 5, 2) := by decide +kernel
theorem dX12_endSame_264 : decode cX12_endSame 264 = .ok (.ifCond .eq 31, 3) := by decide +kernel
theorem dX12_endSame_267 : decode cX12_endSame 267 = .ok (.aload_n 0, 1) := by decide +kernel
theorem dX12_endSame_268 : decode cX12_endSame 268 = .ok (.getfield 245, 3) := by decide +kernel
theorem dX12_endSame_271 : decode cX12_endSame 271 = .ok (.ifCond .ne 24, 3) := by decide +kernel
theorem dX12_endSame_274 : decode cX12_endSame 274 = .ok (.aload_n 0, 1) := by decide +kernel
theorem dX12_endSame_275 : decode cX12_endSame 275 = .ok (.getfield 251, 3) := by decide +kernel
theorem dX12_endSame_278 : decode cX12_endSame 278 = .ok (.iload_n 3, 1) := by decide +kernel
theorem dX12_endSame_279 : decode cX12_endSame 279 = .ok (.if_icmp .ne 16, 3) := by decide +kernel
theorem dX12_endSame_282 : decode cX12_endSame 282 = .ok (.aload_n 0, 1) := by decide +kernel
theorem dX12_endSame_283 : decode cX12_endSame 283 = .ok (.getfield 239, 3) := by decide +kernel
theorem dX12_endSame_286 : decode cX12_endSame 286 = .ok (.iload 4, 2) := by decide +kernel
theorem dX12_endSame_288 : decode cX12_endSame 288 = .ok (.if_icmp .ne 7, 3) := by decide +kernel
theorem dX12_endSame_291 : decode cX12_endSame 291 = .ok (.iconst 1, 1) := by decide +kernel
theorem dX12_endSame_292 : decode cX12_endSame 292 = .ok (.goto 4, 3) := by decide +kernel
theorem dX12_endSame_295 : decode cX12_endSame 295 = .ok (.iconst 0, 1) := by decide +kernel
theorem dX12_endSame_296 : decode cX12_endSame 296 = .ok (.istore 5, 2) := by decide +kernel
theorem dX12_endSame_298 : decode cX12_endSame 298 = .ok (.goto (-256), 3) := by decide +kernel
theorem dX12_endSame_301 : decode cX12_endSame 301 = .ok (.iload 5, 2) := by decide +kernel
theorem dX12_endSame_303 : decode cX12_endSame 303 = .ok (.ifCond .eq 9, 3) := by decide +kernel
theorem dX12_endSame_306 : decode cX12_endSame 306 = .ok (.aload_n 0, 1) := by decide +kernel
theorem dX12_endSame_307 : decode cX12_endSame 307 = .ok (.iload_n 1, 1) := by decide +kernel
theorem dX12_endSame_308 : decode cX12_endSame 308 = .ok (.iconst 1, 1) := by decide +kernel
theorem dX12_endSame_309 : decode cX12_endSame 309 = .ok (.invokevirtual 267, 3) := by decide +kernel
theorem dX12_endSame_312 : decode cX12_endSame 312 = .ok (.return_, 1) := by decide +kernel
theorem dX12_endUnlike_0 : decode cX12_endUnlike 0 = .ok (.iconst 1, 1) := by decide +kernel
theorem dX12_endUnlike_1 : decode cX12_endUnlike 1 = .ok (.istore_n 2, 1) := by decide +kernel
theorem dX12_endUnlike_2 : decode cX12_endUnlike 2 = .ok (.aload_n 0, 1) := by decide +kernel
theorem dX12_endUnlike_3 : decode cX12_endUnlike 3 = .ok (.iconst 0, 1) := by decide +kernel
theorem dX12_endUnlike_4 : decode cX12_endUnlike 4 = .ok (.putfield 296, 3) := by decide +kernel
theorem dX12_endUnlike_7 : decode cX12_endUnlike 7 = .ok (.aload_n 0, 1) := by decide +kernel
theorem dX12_endUnlike_8 : decode cX12_endUnlike 8 = .ok (.aload_n 0, 1) := by decide +kernel
theorem dX12_endUnlike_9 : decode cX12_endUnlike 9 = .ok (.getfield 41, 3) := by decide +kernel
theorem dX12_endUnlike_12 : decode cX12_endUnlike 12 = .ok (.iload_n 1, 1) := by decide +kernel
theorem dX12_endUnlike_13 : decode cX12_endUnlike 13 = .ok (.iaload, 1) := by decide +kernel
theorem dX12_endUnlike_14 : decode cX12_endUnlike 14 = .ok (.aload_n 0, 1) := by decide +kernel
theorem dX12_endUnlike_15 : decode cX12_endUnlike 15 = .ok (.getfield 44, 3) := by decide +kernel
theorem dX12_endUnlike_18 : decode cX12_endUnlike 18 = .ok (.iload_n 1, 1) := by decide +kernel
theorem dX12_endUnlike_19 : decode cX12_endUnlike 19 = .ok (.iaload, 1) := by decide +kernel
theorem dX12_endUnlike_20 : decode cX12_endUnlike 20 = .ok (.invokevirtual 305, 3) := by decide +kernel
theorem dX12_endUnlike_23 : decode cX12_endUnlike 23 = .ok (.iload_n 2, 1) := by decide +kernel
theorem dX12_endUnlike_24 : decode cX12_endUnlike 24 = .ok (.ifCond .eq 162, 3) := by decide +kernel
theorem dX12_endUnlike_27 : decode cX12_endUnlike 27 = .ok (.aload_n 0, 1) := by decide +kernel
theorem dX12_endUnlike_28 : decode cX12_endUnlike 28 = .ok (.getfield 245, 3) := by decide +kernel
theorem dX12_endUnlike_31 : decode cX12_endUnlike 31 = .ok (.ifCond .ne 155, 3) := by decide +kernel
theorem dX12_endUnlike_34 : decode cX12_endUnlike 34 = .ok (.aload_n 0, 1) := by decide +kernel
theorem dX12_endUnlike_35 : decode cX12_endUnlike 35 = .ok (.getfield 296, 3) := by decide +kernel
theorem dX12_endUnlike_38 : decode cX12_endUnlike 38 = .ok (.ifCond .le 148, 3) := by decide +kernel
theorem dX12_endUnlike_41 : decode cX12_endUnlike 41 = .ok (.aload_n 0, 1) := by decide +kernel
theorem dX12_endUnlike_42 : decode cX12_endUnlike 42 = .ok (.dup, 1) := by decide +kernel
theorem dX12_endUnlike_43 : decode cX12_endUnlike 43 = .ok (.getfield 296, 3) := by decide +kernel
theorem dX12_endUnlike_46 : decode cX12_endUnlike 46 = .ok (.iconst 1, 1) := by decide +kernel
theorem dX12_endUnlike_47 : decode cX12_endUnlike 47 = .ok (.isub, 1) := by decide +kernel
theorem dX12_endUnlike_48 : decode cX12_endUnlike 48 = .ok (.putfield 296, 3) := by decide +kernel
theorem dX12_endUnlike_51 : decode cX12_endUnlike 51 = .ok (.aload_n 0, 1) := by decide +kernel
theorem dX12_endUnlike_52 : decode cX12_endUnlike 52 = .ok (.aload_n 0, 1) := by decide +kernel
theorem dX12_endUnlike_53 : decode cX12_endUnlike 53 = .ok (.getfield 101, 3) := by decide +kernel
theorem dX12_endUnlike_56 : decode cX12_endUnlike 56 = .ok (.aload_n 0, 1) := by decide +kernel
theorem dX12_endUnlike_57 : decode cX12_endUnlike 57 = .ok (.getfield 296, 3) := by decide +kernel
theorem dX12_endUnlike_60 : decode cX12_endUnlike 60 = .ok (.iaload, 1) := by decide +kernel
theorem dX12_endUnlike_61 : decode cX12_endUnlike 61 = .ok (.invokevirtual 280, 3) := by decide +kernel
theorem dX12_endUnlike_64 : decode cX12_endUnlike 64 = .ok (.istore_n 3, 1) := by decide +kernel
theorem dX12_endUnlike_65 : decode cX12_endUnlike 65 = .ok (.aload_n 0, 1) := by decide +kernel
theorem dX12_endUnlike_66 : decode cX12_endUnlike 66 = .ok (.aload_n 0, 1) := by decide +kernel
theorem dX12_endUnlike_67 : decode cX12_endUnlike 67 = .ok (.getfield 104, 3) := by decide +kernel
theorem dX12_endUnlike_70 : decode cX12_endUnlike 70 = .ok (.aload_n 0, 1) := by decide +kernel
theorem dX12_endUnlike_71 : decode cX12_endUnlike 71 = .ok (.getfield 296, 3) := by decide +kernel
theorem dX12_endUnlike_74 : decode cX12_endUnlike 74 = .ok (.iaload, 1) := by decide +kernel
theorem dX12_endUnlike_75 : decode cX12_endUnlike 75 = .ok (.invokevirtual 280, 3) := by decide +kernel
theorem dX12_endUnlike_78 : decode cX12_endUnlike 78 = .ok (.istore 4, 2) := by decide +kernel
theorem dX12_endUnlike_80 : decode cX12_endUnlike 80 = .ok (.iload_n 3, 1) := by decide +kernel
theorem dX12_endUnlike_81 : decode cX12_endUnlike 81 = .ok (.iload 4, 2) := by decide +kernel
theorem dX12_endUnlike_83 : decode cX12_endUnlike 83 = .ok (.if_icmp .eq 30, 3) := by decide +kernel
theorem dX12_endUnlike_86 : decode cX12_endUnlike 86 = .ok (.aload_n 0, 1) := by decide +kernel
theorem dX12_endUnlike_87 : decode cX12_endUnlike 87 = .ok (.getfield 35, 3) := by decide +kernel
theorem dX12_endUnlike_90 : decode cX12_endUnlike 90 = .ok (.iload_n 3, 1) := by decide +kernel
theorem dX12_endUnlike_91 : decode cX12_endUnlike 91 = .ok (.iaload, 1) := by decide +kernel
theorem dX12_endUnlike_92 : decode cX12_endUnlike 92 = .ok (.ifCond .eq 13, 3) := by decide +kernel
theorem dX12_endUnlike_95 : decode cX12_endUnlike 95 = .ok (.aload_n 0, 1) := by decide +kernel
theorem dX12_endUnlike_96 : decode cX12_endUnlike 96 = .ok (.getfield 35, 3) := by decide +kernel
theorem dX12_endUnlike_99 : decode cX12_endUnlike 99 = .ok (.iload 4, 2) := by decide +kernel
theorem dX12_endUnlike_101 : decode cX12_endUnlike 101 = .ok (.iaload, 1) := by decide +kernel
theorem dX12_endUnlike_102 : decode cX12_endUnlike 102 = .ok (.ifCond .ne 11, 3) := by decide +kernel
theorem dX12_endUnlike_105 : decode cX12_endUnlike 105 = .ok (.aload_n 0, 1) := by decide +kernel
theorem dX12_endUnlike_106 : decode cX12_endUnlike 106 = .ok (.iconst 3, 1) := by decide +kernel
theorem dX12_endUnlike_107 : decode cX12_endUnlike 107 = .ok (.putfield 245, 3) := by decide +kernel
theorem dX12_endUnlike_110 : decode cX12_endUnlike 110 = .ok (.goto 73, 3) := by decide +kernel
theorem dX12_endUnlike_113 : decode cX12_endUnlike 113 = .ok (.iload_n 3, 1) := by decide +kernel
theorem dX12_endUnlike_114 : decode cX12_endUnlike 114 = .ok (.iload 4, 2) := by decide +kernel
theorem dX12_endUnlike_116 : decode cX12_endUnlike 116 = .ok (.if_icmp .eq 67, 3) := by decide +kernel
theorem dX12_endUnlike_119 : decode cX12_endUnlike 119 = .ok (.aload_n 0, 1) := by decide +kernel
theorem dX12_endUnlike_120 : decode cX12_endUnlike 120 = .ok (.invokevirtual 254, 3) := by decide +kernel
theorem dX12_endUnlike_123 : decode cX12_endUnlike 123 = .ok (.aload_n 0, 1) := by decide +kernel
theorem dX12_endUnlike_124 : decode cX12_endUnlike 124 = .ok (.getfield 38, 3) := by decide +kernel
theorem dX12_endUnlike_127 : decode cX12_endUnlike 127 = .ok (.iload_n 3, 1) := by decide +kernel
theorem dX12_endUnlike_128 : decode cX12_endUnlike 128 = .ok (.iaload, 1) := by decide +kernel
theorem dX12_endUnlike_129 : decode cX12_endUnlike 129 = .ok (.aload_n 0, 1) := by decide +kernel
theorem dX12_endUnlike_130 : decode cX12_endUnlike 130 = .ok (.getfield 38, 3) := by decide +kernel
theorem dX12_endUnlike_133 : decode cX12_endUnlike 133 = .ok (.iload 4, 2) := by decide +kernel
theorem dX12_endUnlike_135 : decode cX12_endUnlike 135 = .ok (.iaload, 1) := by decide +kernel
theorem dX12_endUnlike_136 : decode cX12_endUnlike 136 = .ok (.if_icmp .ne 7, 3) := by decide +kernel
theorem dX12_endUnlike_139 : decode cX12_endUnlike 139 = .ok (.iconst 1, 1) := by decide +kernel
theorem dX12_endUnlike_140 : decode cX12_endUnlike 140 = .ok (.goto 4, 3) := by decide +kernel
theorem dX12_endUnlike_143 : decode cX12_endUnlike 143 = .ok (.iconst 0, 1) := by decide +kernel
theorem dX12_endUnlike_144 : decode cX12_endUnlike 144 = .ok (.istore_n 2, 1) := by decide +kernel
theorem dX12_endUnlike_145 : decode cX12_endUnlike 145 = .ok (.iload_n 2, 1) := by decide +kernel
theorem dX12_endUnlike_146 : decode cX12_endUnlike 146 = .ok (.ifCond .eq 37, 3) := by decide +kernel
theorem dX12_endUnlike_149 : decode cX12_endUnlike 149 = .ok (.aload_n 0, 1) := by decide +kernel
theorem dX12_endUnlike_150 : decode cX12_endUnlike 150 = .ok (.aload_n 0, 1) := by decide +kernel
theorem dX12_endUnlike_151 : decode cX12_endUnlike 151 = .ok (.getfield 44, 3) := by decide +kernel
theorem dX12_endUnlike_154 : decode cX12_endUnlike 154 = .ok (.iload_n 3, 1) := by decide +kernel
theorem dX12_endUnlike_155 : decode cX12_endUnlike 155 = .ok (.iaload, 1) := by decide +kernel
theorem dX12_endUnlike_156 : decode cX12_endUnlike 156 = .ok (.aload_n 0, 1) := by decide +kernel
theorem dX12_endUnlike_157 : decode cX12_endUnlike 157 = .ok (.getfield 44, 3) := by decide +kernel
theorem dX12_endUnlike_160 : decode cX12_endUnlike 160 = .ok (.iload 4, 2) := by decide +kernel
theorem dX12_endUnlike_162 : decode cX12_endUnlike 162 = .ok (.iaload, 1) := by decide +kernel
theorem dX12_endUnlike_163 : decode cX12_endUnlike 163 = .ok (.invokevirtual 305, 3) := by decide +kernel
theorem dX12_endUnlike_166 : decode cX12_endUnlike 166 = .ok (.aload_n 0, 1) := by decide +kernel
theorem dX12_endUnlike_167 : decode cX12_endUnlike 167 = .ok (.aload_n 0, 1) := by decide +kernel
theorem dX12_endUnlike_168 : decode cX12_endUnlike 168 = .ok (.getfield 41, 3) := by decide +kernel
theorem dX12_endUnlike_171 : decode cX12_endUnlike 171 = .ok (.iload_n 3, 1) := by decide +kernel
theorem dX12_endUnlike_172 : decode cX12_endUnlike 172 = .ok (.iaload, 1) := by decide +kernel
theorem dX12_endUnlike_173 : decode cX12_endUnlike 173 = .ok (.aload_n 0, 1) := by decide +kernel
theorem dX12_endUnlike_174 : decode cX12_endUnlike 174 = .ok (.getfield 41, 3) := by decide +kernel
theorem dX12_endUnlike_177 : decode cX12_endUnlike 177 = .ok (.iload 4, 2) := by decide +kernel
theorem dX12_endUnlike_179 : decode cX12_endUnlike 179 = .ok (.iaload, 1) := by decide +kernel
theorem dX12_endUnlike_180 : decode cX12_endUnlike 180 = .ok (.invokevirtual 305, 3) := by decide +kernel
theorem dX12_endUnlike_183 : decode cX12_endUnlike 183 = .ok (.goto (-160), 3) := by decide +kernel
theorem dX12_endUnlike_186 : decode cX12_endUnlike 186 = .ok (.aload_n 0, 1) := by decide +kernel
theorem dX12_endUnlike_187 : decode cX12_endUnlike 187 = .ok (.getfield 245, 3) := by decide +kernel
theorem dX12_endUnlike_190 : decode cX12_endUnlike 190 = .ok (.ifCond .eq 4, 3) := by decide +kernel
theorem dX12_endUnlike_193 : decode cX12_endUnlike 193 = .ok (.return_, 1) := by decide +kernel
theorem dX12_endUnlike_194 : decode cX12_endUnlike 194 = .ok (.iload_n 2, 1) := by decide +kernel
theorem dX12_endUnlike_195 : decode cX12_endUnlike 195 = .ok (.ifCond .eq 16, 3) := by decide +kernel
theorem dX12_endUnlike_198 : decode cX12_endUnlike 198 = .ok (.aload_n 0, 1) := by decide +kernel
theorem dX12_endUnlike_199 : decode cX12_endUnlike 199 = .ok (.aload_n 0, 1) := by decide +kernel
theorem dX12_endUnlike_200 : decode cX12_endUnlike 200 = .ok (.getfield 47, 3) := by decide +kernel
theorem dX12_endUnlike_203 : decode cX12_endUnlike 203 = .ok (.iload_n 1, 1) := by decide +kernel
theorem dX12_endUnlike_204 : decode cX12_endUnlike 204 = .ok (.iaload, 1) := by decide +kernel
theorem dX12_endUnlike_205 : decode cX12_endUnlike 205 = .ok (.invokevirtual 270, 3) := by decide +kernel
theorem dX12_endUnlike_208 : decode cX12_endUnlike 208 = .ok (.goto 9, 3) := by decide +kernel
theorem dX12_endUnlike_211 : decode cX12_endUnlike 211 = .ok (.aload_n 0, 1) := by decide +kernel
theorem dX12_endUnlike_212 : decode cX12_endUnlike 212 = .ok (.iload_n 1, 1) := by decide +kernel
theorem dX12_endUnlike_213 : decode cX12_endUnlike 213 = .ok (.iconst 1, 1) := by decide +kernel
theorem dX12_endUnlike_214 : decode cX12_endUnlike 214 = .ok (.invokevirtual 267, 3) := by decide +kernel
theorem dX12_endUnlike_217 : decode cX12_endUnlike 217 = .ok (.return_, 1) := by decide +kernel
theorem dX12_does_0 : decode cX12_does 0 = .ok (.iload_n 1, 1) := by decide +kernel
theorem dX12_does_1 : decode cX12_does 1 = .ok (.tableswitch 142 0 8 #[51, 59, 78, 86, 96, 107, 118, 126, 134], 51) := by decide +kernel
theorem dX12_does_52 : decode cX12_does 52 = .ok (.aload_n 0, 1) := by decide +kernel
theorem dX12_does_53 : decode cX12_does 53 = .ok (.iload_n 2, 1) := by decide +kernel
theorem dX12_does_54 : decode cX12_does 54 = .ok (.invokevirtual 311, 3) := by decide +kernel
theorem dX12_does_57 : decode cX12_does 57 = .ok (.goto 102, 3) := by decide +kernel
theorem dX12_does_60 : decode cX12_does 60 = .ok (.aload_n 0, 1) := by decide +kernel
theorem dX12_does_61 : decode cX12_does 61 = .ok (.iconst 2, 1) := by decide +kernel
theorem dX12_does_62 : decode cX12_does 62 = .ok (.iload_n 2, 1) := by decide +kernel
theorem dX12_does_63 : decode cX12_does 63 = .ok (.iconst 0, 1) := by decide +kernel
theorem dX12_does_64 : decode cX12_does 64 = .ok (.iconst 0, 1) := by decide +kernel
theorem dX12_does_65 : decode cX12_does 65 = .ok (.invokevirtual 260, 3) := by decide +kernel
theorem dX12_does_68 : decode cX12_does 68 = .ok (.aload_n 0, 1) := by decide +kernel
theorem dX12_does_69 : decode cX12_does 69 = .ok (.iconst 0, 1) := by decide +kernel
theorem dX12_does_70 : decode cX12_does 70 = .ok (.iload_n 2, 1) := by decide +kernel
theorem dX12_does_71 : decode cX12_does 71 = .ok (.iconst 0, 1) := by decide +kernel
theorem dX12_does_72 : decode cX12_does 72 = .ok (.iconst 0, 1) := by decide +kernel
theorem dX12_does_73 : decode cX12_does 73 = .ok (.invokevirtual 260, 3) := by decide +kernel
theorem dX12_does_76 : decode cX12_does 76 = .ok (.goto 83, 3) := by decide +kernel
theorem dX12_does_79 : decode cX12_does 79 = .ok (.aload_n 0, 1) := by decide +kernel
theorem dX12_does_80 : decode cX12_does 80 = .ok (.iload_n 2, 1) := by decide +kernel
theorem dX12_does_81 : decode cX12_does 81 = .ok (.invokevirtual 314, 3) := by decide +kernel
theorem dX12_does_84 : decode cX12_does 84 = .ok (.goto 75, 3) := by decide +kernel
theorem dX12_does_87 : decode cX12_does 87 = .ok (.aload_n 0, 1) := by decide +kernel
theorem dX12_does_88 : decode cX12_does 88 = .ok (.getfield 56, 3) := by decide +kernel
theorem dX12_does_91 : decode cX12_does 91 = .ok (.iload_n 2, 1) := by decide +kernel
theorem dX12_does_92 : decode cX12_does 92 = .ok (.iconst 1, 1) := by decide +kernel
theorem dX12_does_93 : decode cX12_does 93 = .ok (.bastore, 1) := by decide +kernel
theorem dX12_does_94 : decode cX12_does 94 = .ok (.goto 65, 3) := by decide +kernel
theorem dX12_does_97 : decode cX12_does 97 = .ok (.aload_n 0, 1) := by decide +kernel
theorem dX12_does_98 : decode cX12_does 98 = .ok (.iload_n 2, 1) := by decide +kernel
theorem dX12_does_99 : decode cX12_does 99 = .ok (.iload_n 3, 1) := by decide +kernel
theorem dX12_does_100 : decode cX12_does 100 = .ok (.iload 4, 2) := by decide +kernel
theorem dX12_does_102 : decode cX12_does 102 = .ok (.invokevirtual 317, 3) := by decide +kernel
theorem dX12_does_105 : decode cX12_does 105 = .ok (.goto 54, 3) := by decide +kernel
theorem dX12_does_108 : decode cX12_does 108 = .ok (.aload_n 0, 1) := by decide +kernel
theorem dX12_does_109 : decode cX12_does 109 = .ok (.iload_n 2, 1) := by decide +kernel
theorem dX12_does_110 : decode cX12_does 110 = .ok (.iload_n 3, 1) := by decide +kernel
theorem dX12_does_111 : decode cX12_does 111 = .ok (.iload 4, 2) := by decide +kernel
theorem dX12_does_113 : decode cX12_does 113 = .ok (.invokevirtual 320, 3) := by decide +kernel
theorem dX12_does_116 : decode cX12_does 116 = .ok (.goto 43, 3) := by decide +kernel
theorem dX12_does_119 : decode cX12_does 119 = .ok (.aload_n 0, 1) := by decide +kernel
theorem dX12_does_120 : decode cX12_does 120 = .ok (.iload_n 2, 1) := by decide +kernel
theorem dX12_does_121 : decode cX12_does 121 = .ok (.invokevirtual 323, 3) := by decide +kernel
theorem dX12_does_124 : decode cX12_does 124 = .ok (.goto 35, 3) := by decide +kernel
theorem dX12_does_127 : decode cX12_does 127 = .ok (.aload_n 0, 1) := by decide +kernel
theorem dX12_does_128 : decode cX12_does 128 = .ok (.iload_n 2, 1) := by decide +kernel
theorem dX12_does_129 : decode cX12_does 129 = .ok (.invokevirtual 326, 3) := by decide +kernel
theorem dX12_does_132 : decode cX12_does 132 = .ok (.goto 27, 3) := by decide +kernel
theorem dX12_does_135 : decode cX12_does 135 = .ok (.aload_n 0, 1) := by decide +kernel
theorem dX12_does_136 : decode cX12_does 136 = .ok (.iload_n 2, 1) := by decide +kernel
theorem dX12_does_137 : decode cX12_does 137 = .ok (.invokevirtual 329, 3) := by decide +kernel
theorem dX12_does_140 : decode cX12_does 140 = .ok (.goto 19, 3) := by decide +kernel
theorem dX12_does_143 : decode cX12_does 143 = .ok (.aload_n 0, 1) := by decide +kernel
theorem dX12_does_144 : decode cX12_does 144 = .ok (.iload_n 2, 1) := by decide +kernel
theorem dX12_does_145 : decode cX12_does 145 = .ok (.iconst 1, 1) := by decide +kernel
theorem dX12_does_146 : decode cX12_does 146 = .ok (.invokevirtual 267, 3) := by decide +kernel
theorem dX12_does_149 : decode cX12_does 149 = .ok (.aload_n 0, 1) := by decide +kernel
theorem dX12_does_150 : decode cX12_does 150 = .ok (.dup, 1) := by decide +kernel
theorem dX12_does_151 : decode cX12_does 151 = .ok (.getfield 251, 3) := by decide +kernel
theorem dX12_does_154 : decode cX12_does 154 = .ok (.iconst 1, 1) := by decide +kernel
theorem dX12_does_155 : decode cX12_does 155 = .ok (.isub, 1) := by decide +kernel
theorem dX12_does_156 : decode cX12_does 156 = .ok (.putfield 251, 3) := by decide +kernel
theorem dX12_does_159 : decode cX12_does 159 = .ok (.return_, 1) := by decide +kernel
theorem dX12_run_0 : decode cX12_run 0 = .ok (.aload_n 0, 1) := by decide +kernel
theorem dX12_run_1 : decode cX12_run 1 = .ok (.iconst 0, 1) := by decide +kernel
theorem dX12_run_2 : decode cX12_run 2 = .ok (.putfield 227, 3) := by decide +kernel
theorem dX12_run_5 : decode cX12_run 5 = .ok (.aload_n 0, 1) := by decide +kernel
theorem dX12_run_6 : decode cX12_run 6 = .ok (.iconst 0, 1) := by decide +kernel
theorem dX12_run_7 : decode cX12_run 7 = .ok (.putfield 230, 3) := by decide +kernel
theorem dX12_run_10 : decode cX12_run 10 = .ok (.aload_n 0, 1) := by decide +kernel
theorem dX12_run_11 : decode cX12_run 11 = .ok (.iconst 0, 1) := by decide +kernel
theorem dX12_run_12 : decode cX12_run 12 = .ok (.putfield 239, 3) := by decide +kernel
theorem dX12_run_15 : decode cX12_run 15 = .ok (.aload_n 0, 1) := by decide +kernel
theorem dX12_run_16 : decode cX12_run 16 = .ok (.iconst 0, 1) := by decide +kernel
theorem dX12_run_17 : decode cX12_run 17 = .ok (.putfield 242, 3) := by decide +kernel
theorem dX12_run_20 : decode cX12_run 20 = .ok (.aload_n 0, 1) := by decide +kernel
theorem dX12_run_21 : decode cX12_run 21 = .ok (.iconst 0, 1) := by decide +kernel
theorem dX12_run_22 : decode cX12_run 22 = .ok (.putfield 251, 3) := by decide +kernel
theorem dX12_run_25 : decode cX12_run 25 = .ok (.aload_n 0, 1) := by decide +kernel
theorem dX12_run_26 : decode cX12_run 26 = .ok (.getfield 86, 3) := by decide +kernel
theorem dX12_run_29 : decode cX12_run 29 = .ok (.iconst 0, 1) := by decide +kernel
theorem dX12_run_30 : decode cX12_run 30 = .ok (.iconst 0, 1) := by decide +kernel
theorem dX12_run_31 : decode cX12_run 31 = .ok (.iastore, 1) := by decide +kernel
theorem dX12_run_32 : decode cX12_run 32 = .ok (.aload_n 0, 1) := by decide +kernel
theorem dX12_run_33 : decode cX12_run 33 = .ok (.iconst 0, 1) := by decide +kernel
theorem dX12_run_34 : decode cX12_run 34 = .ok (.putfield 245, 3) := by decide +kernel
theorem dX12_run_37 : decode cX12_run 37 = .ok (.aload_n 0, 1) := by decide +kernel
theorem dX12_run_38 : decode cX12_run 38 = .ok (.aload_n 0, 1) := by decide +kernel
theorem dX12_run_39 : decode cX12_run 39 = .ok (.invokevirtual 276, 3) := by decide +kernel
theorem dX12_run_42 : decode cX12_run 42 = .ok (.putfield 332, 3) := by decide +kernel
theorem dX12_run_45 : decode cX12_run 45 = .ok (.aload_n 0, 1) := by decide +kernel
theorem dX12_run_46 : decode cX12_run 46 = .ok (.iconst 0, 1) := by decide +kernel
theorem dX12_run_47 : decode cX12_run 47 = .ok (.aload_n 0, 1) := by decide +kernel
theorem dX12_run_48 : decode cX12_run 48 = .ok (.getfield 332, 3) := by decide +kernel
theorem dX12_run_51 : decode cX12_run 51 = .ok (.iconst 0, 1) := by decide +kernel
theorem dX12_run_52 : decode cX12_run 52 = .ok (.invokevirtual 292, 3) := by decide +kernel
theorem dX12_run_55 : decode cX12_run 55 = .ok (.aload_n 0, 1) := by decide +kernel
theorem dX12_run_56 : decode cX12_run 56 = .ok (.aload_n 0, 1) := by decide +kernel
theorem dX12_run_57 : decode cX12_run 57 = .ok (.iconst 0, 1) := by decide +kernel
theorem dX12_run_58 : decode cX12_run 58 = .ok (.aload_n 0, 1) := by decide +kernel
theorem dX12_run_59 : decode cX12_run 59 = .ok (.getfield 332, 3) := by decide +kernel
theorem dX12_run_62 : decode cX12_run 62 = .ok (.iconst 0, 1) := by decide +kernel
theorem dX12_run_63 : decode cX12_run 63 = .ok (.invokevirtual 257, 3) := by decide +kernel
theorem dX12_run_66 : decode cX12_run 66 = .ok (.putfield 335, 3) := by decide +kernel
theorem dX12_run_69 : decode cX12_run 69 = .ok (.aload_n 0, 1) := by decide +kernel
theorem dX12_run_70 : decode cX12_run 70 = .ok (.iconst 1, 1) := by decide +kernel
theorem dX12_run_71 : decode cX12_run 71 = .ok (.aload_n 0, 1) := by decide +kernel
theorem dX12_run_72 : decode cX12_run 72 = .ok (.getfield 335, 3) := by decide +kernel
theorem dX12_run_75 : decode cX12_run 75 = .ok (.iconst 0, 1) := by decide +kernel
theorem dX12_run_76 : decode cX12_run 76 = .ok (.iconst 0, 1) := by decide +kernel
theorem dX12_run_77 : decode cX12_run 77 = .ok (.invokevirtual 260, 3) := by decide +kernel
theorem dX12_run_80 : decode cX12_run 80 = .ok (.aload_n 0, 1) := by decide +kernel
theorem dX12_run_81 : decode cX12_run 81 = .ok (.getfield 239, 3) := by decide +kernel
theorem dX12_run_84 : decode cX12_run 84 = .ok (.ifCond .le 63, 3) := by decide +kernel
theorem dX12_run_87 : decode cX12_run 87 = .ok (.aload_n 0, 1) := by decide +kernel
theorem dX12_run_88 : decode cX12_run 88 = .ok (.getfield 245, 3) := by decide +kernel
theorem dX12_run_91 : decode cX12_run 91 = .ok (.ifCond .ne 56, 3) := by decide +kernel
theorem dX12_run_94 : decode cX12_run 94 = .ok (.aload_n 0, 1) := by decide +kernel
theorem dX12_run_95 : decode cX12_run 95 = .ok (.dup, 1) := by decide +kernel
theorem dX12_run_96 : decode cX12_run 96 = .ok (.getfield 239, 3) := by decide +kernel
theorem dX12_run_99 : decode cX12_run 99 = .ok (.iconst 1, 1) := by decide +kernel
theorem dX12_run_100 : decode cX12_run 100 = .ok (.isub, 1) := by decide +kernel
theorem dX12_run_101 : decode cX12_run 101 = .ok (.putfield 239, 3) := by decide +kernel
theorem dX12_run_104 : decode cX12_run 104 = .ok (.aload_n 0, 1) := by decide +kernel
theorem dX12_run_105 : decode cX12_run 105 = .ok (.aload_n 0, 1) := by decide +kernel
theorem dX12_run_106 : decode cX12_run 106 = .ok (.getfield 62, 3) := by decide +kernel
theorem dX12_run_109 : decode cX12_run 109 = .ok (.aload_n 0, 1) := by decide +kernel
theorem dX12_run_110 : decode cX12_run 110 = .ok (.getfield 239, 3) := by decide +kernel
theorem dX12_run_113 : decode cX12_run 113 = .ok (.iaload, 1) := by decide +kernel
theorem dX12_run_114 : decode cX12_run 114 = .ok (.aload_n 0, 1) := by decide +kernel
theorem dX12_run_115 : decode cX12_run 115 = .ok (.getfield 65, 3) := by decide +kernel
theorem dX12_run_118 : decode cX12_run 118 = .ok (.aload_n 0, 1) := by decide +kernel
theorem dX12_run_119 : decode cX12_run 119 = .ok (.getfield 239, 3) := by decide +kernel
theorem dX12_run_122 : decode cX12_run 122 = .ok (.iaload, 1) := by decide +kernel
theorem dX12_run_123 : decode cX12_run 123 = .ok (.aload_n 0, 1) := by decide +kernel
theorem dX12_run_124 : decode cX12_run 124 = .ok (.getfield 68, 3) := by decide +kernel
theorem dX12_run_127 : decode cX12_run 127 = .ok (.aload_n 0, 1) := by decide +kernel
theorem dX12_run_128 : decode cX12_run 128 = .ok (.getfield 239, 3) := by decide +kernel
theorem dX12_run_131 : decode cX12_run 131 = .ok (.iaload, 1) := by decide +kernel
theorem dX12_run_132 : decode cX12_run 132 = .ok (.aload_n 0, 1) := by decide +kernel
theorem dX12_run_133 : decode cX12_run 133 = .ok (.getfield 71, 3) := by decide +kernel
theorem dX12_run_136 : decode cX12_run 136 = .ok (.aload_n 0, 1) := by decide +kernel
theorem dX12_run_137 : decode cX12_run 137 = .ok (.getfield 239, 3) := by decide +kernel
theorem dX12_run_140 : decode cX12_run 140 = .ok (.iaload, 1) := by decide +kernel
theorem dX12_run_141 : decode cX12_run 141 = .ok (.invokevirtual 338, 3) := by decide +kernel
theorem dX12_run_144 : decode cX12_run 144 = .ok (.goto (-64), 3) := by decide +kernel
theorem dX12_run_147 : decode cX12_run 147 = .ok (.aload_n 0, 1) := by decide +kernel
theorem dX12_run_148 : decode cX12_run 148 = .ok (.aload_n 0, 1) := by decide +kernel
theorem dX12_run_149 : decode cX12_run 149 = .ok (.getfield 245, 3) := by decide +kernel
theorem dX12_run_152 : decode cX12_run 152 = .ok (.ifCond .ne 7, 3) := by decide +kernel
theorem dX12_run_155 : decode cX12_run 155 = .ok (.iconst 1, 1) := by decide +kernel
theorem dX12_run_156 : decode cX12_run 156 = .ok (.goto 7, 3) := by decide +kernel
theorem dX12_run_159 : decode cX12_run 159 = .ok (.aload_n 0, 1) := by decide +kernel
theorem dX12_run_160 : decode cX12_run 160 = .ok (.getfield 245, 3) := by decide +kernel
theorem dX12_run_163 : decode cX12_run 163 = .ok (.putfield 245, 3) := by decide +kernel
theorem dX12_run_166 : decode cX12_run 166 = .ok (.return_, 1) := by decide +kernel
theorem dX12_tell_0 : decode cX12_tell 0 = .ok (.iconst 0, 1) := by decide +kernel
theorem dX12_tell_1 : decode cX12_tell 1 = .ok (.istore_n 3, 1) := by decide +kernel
theorem dX12_tell_2 : decode cX12_tell 2 = .ok (.iconst 0, 1) := by decide +kernel
theorem dX12_tell_3 : decode cX12_tell 3 = .ok (.istore 4, 2) := by decide +kernel
theorem dX12_tell_5 : decode cX12_tell 5 = .ok (.iconst 0, 1) := by decide +kernel
theorem dX12_tell_6 : decode cX12_tell 6 = .ok (.istore 5, 2) := by decide +kernel
theorem dX12_tell_8 : decode cX12_tell 8 = .ok (.iload_n 2, 1) := by decide +kernel
theorem dX12_tell_9 : decode cX12_tell 9 = .ok (.iconst (-1), 1) := by decide +kernel
theorem dX12_tell_10 : decode cX12_tell 10 = .ok (.if_icmp .eq 12, 3) := by decide +kernel
theorem dX12_tell_13 : decode cX12_tell 13 = .ok (.aload_n 0, 1) := by decide +kernel
theorem dX12_tell_14 : decode cX12_tell 14 = .ok (.getfield 110, 3) := by decide +kernel
theorem dX12_tell_17 : decode cX12_tell 17 = .ok (.iconst 0, 1) := by decide +kernel
theorem dX12_tell_18 : decode cX12_tell 18 = .ok (.iload_n 2, 1) := by decide +kernel
theorem dX12_tell_19 : decode cX12_tell 19 = .ok (.iastore, 1) := by decide +kernel
theorem dX12_tell_20 : decode cX12_tell 20 = .ok (.iconst 1, 1) := by decide +kernel
theorem dX12_tell_21 : decode cX12_tell 21 = .ok (.istore_n 3, 1) := by decide +kernel
theorem dX12_tell_22 : decode cX12_tell 22 = .ok (.iload_n 3, 1) := by decide +kernel
theorem dX12_tell_23 : decode cX12_tell 23 = .ok (.ifCond .le 182, 3) := by decide +kernel
theorem dX12_tell_26 : decode cX12_tell 26 = .ok (.iload 5, 2) := by decide +kernel
theorem dX12_tell_28 : decode cX12_tell 28 = .ok (.bipush 40, 2) := by decide +kernel
theorem dX12_tell_30 : decode cX12_tell 30 = .ok (.if_icmp .ge 175, 3) := by decide +kernel
theorem dX12_tell_33 : decode cX12_tell 33 = .ok (.iinc 3 (-1), 3) := by decide +kernel
theorem dX12_tell_36 : decode cX12_tell 36 = .ok (.aload_n 0, 1) := by decide +kernel
theorem dX12_tell_37 : decode cX12_tell 37 = .ok (.aload_n 0, 1) := by decide +kernel
theorem dX12_tell_38 : decode cX12_tell 38 = .ok (.getfield 110, 3) := by decide +kernel
theorem dX12_tell_41 : decode cX12_tell 41 = .ok (.iload_n 3, 1) := by decide +kernel
theorem dX12_tell_42 : decode cX12_tell 42 = .ok (.iaload, 1) := by decide +kernel
theorem dX12_tell_43 : decode cX12_tell 43 = .ok (.invokevirtual 280, 3) := by decide +kernel
theorem dX12_tell_46 : decode cX12_tell 46 = .ok (.istore 6, 2) := by decide +kernel
theorem dX12_tell_48 : decode cX12_tell 48 = .ok (.aload_n 0, 1) := by decide +kernel
theorem dX12_tell_49 : decode cX12_tell 49 = .ok (.getfield 38, 3) := by decide +kernel
theorem dX12_tell_52 : decode cX12_tell 52 = .ok (.iload 6, 2) := by decide +kernel
theorem dX12_tell_54 : decode cX12_tell 54 = .ok (.iaload, 1) := by decide +kernel
theorem dX12_tell_55 : decode cX12_tell 55 = .ok (.istore 7, 2) := by decide +kernel
theorem dX12_tell_57 : decode cX12_tell 57 = .ok (.aload_n 0, 1) := by decide +kernel
theorem dX12_tell_58 : decode cX12_tell 58 = .ok (.getfield 35, 3) := by decide +kernel
theorem dX12_tell_61 : decode cX12_tell 61 = .ok (.iload 6, 2) := by decide +kernel
theorem dX12_tell_63 : decode cX12_tell 63 = .ok (.iaload, 1) := by decide +kernel
theorem dX12_tell_64 : decode cX12_tell 64 = .ok (.ifCond .ne 67, 3) := by decide +kernel
theorem dX12_tell_67 : decode cX12_tell 67 = .ok (.iconst 0, 1) := by decide +kernel
theorem dX12_tell_68 : decode cX12_tell 68 = .ok (.istore 8, 2) := by decide +kernel
theorem dX12_tell_70 : decode cX12_tell 70 = .ok (.iload 8, 2) := by decide +kernel
theorem dX12_tell_72 : decode cX12_tell 72 = .ok (.iload 4, 2) := by decide +kernel
theorem dX12_tell_74 : decode cX12_tell 74 = .ok (.if_icmp .ge 21, 3) := by decide +kernel
theorem dX12_tell_77 : decode cX12_tell 77 = .ok (.aload_n 0, 1) := by decide +kernel
theorem dX12_tell_78 : decode cX12_tell 78 = .ok (.getfield 141, 3) := by decide +kernel
theorem dX12_tell_81 : decode cX12_tell 81 = .ok (.iload 8, 2) := by decide +kernel
theorem dX12_tell_83 : decode cX12_tell 83 = .ok (.iaload, 1) := by decide +kernel
theorem dX12_tell_84 : decode cX12_tell 84 = .ok (.iload 6, 2) := by decide +kernel
theorem dX12_tell_86 : decode cX12_tell 86 = .ok (.if_icmp .eq 9, 3) := by decide +kernel
theorem dX12_tell_89 : decode cX12_tell 89 = .ok (.iinc 8 1, 3) := by decide +kernel
theorem dX12_tell_92 : decode cX12_tell 92 = .ok (.goto (-22), 3) := by decide +kernel
theorem dX12_tell_95 : decode cX12_tell 95 = .ok (.aload_n 0, 1) := by decide +kernel
theorem dX12_tell_96 : decode cX12_tell 96 = .ok (.getfield 141, 3) := by decide +kernel
theorem dX12_tell_99 : decode cX12_tell 99 = .ok (.iload 8, 2) := by decide +kernel
theorem dX12_tell_101 : decode cX12_tell 101 = .ok (.iload 6, 2) := by decide +kernel
theorem dX12_tell_103 : decode cX12_tell 103 = .ok (.iastore, 1) := by decide +kernel
theorem dX12_tell_104 : decode cX12_tell 104 = .ok (.iload 4, 2) := by decide +kernel
theorem dX12_tell_106 : decode cX12_tell 106 = .ok (.iload 8, 2) := by decide +kernel
theorem dX12_tell_108 : decode cX12_tell 108 = .ok (.iload 4, 2) := by decide +kernel
theorem dX12_tell_110 : decode cX12_tell 110 = .ok (.if_icmp .ne 7, 3) := by decide +kernel
theorem dX12_tell_113 : decode cX12_tell 113 = .ok (.iconst 1, 1) := by decide +kernel
theorem dX12_tell_114 : decode cX12_tell 114 = .ok (.goto 4, 3) := by decide +kernel
theorem dX12_tell_117 : decode cX12_tell 117 = .ok (.iconst 0, 1) := by decide +kernel
theorem dX12_tell_118 : decode cX12_tell 118 = .ok (.iadd, 1) := by decide +kernel
theorem dX12_tell_119 : decode cX12_tell 119 = .ok (.istore 4, 2) := by decide +kernel
theorem dX12_tell_121 : decode cX12_tell 121 = .ok (.bipush 10, 2) := by decide +kernel
theorem dX12_tell_123 : decode cX12_tell 123 = .ok (.iload 8, 2) := by decide +kernel
theorem dX12_tell_125 : decode cX12_tell 125 = .ok (.iadd, 1) := by decide +kernel
theorem dX12_tell_126 : decode cX12_tell 126 = .ok (.istore 7, 2) := by decide +kernel
theorem dX12_tell_128 : decode cX12_tell 128 = .ok (.goto 57, 3) := by decide +kernel
theorem dX12_tell_131 : decode cX12_tell 131 = .ok (.aload_n 0, 1) := by decide +kernel
theorem dX12_tell_132 : decode cX12_tell 132 = .ok (.getfield 44, 3) := by decide +kernel
theorem dX12_tell_135 : decode cX12_tell 135 = .ok (.iload 6, 2) := by decide +kernel
theorem dX12_tell_137 : decode cX12_tell 137 = .ok (.iaload, 1) := by decide +kernel
theorem dX12_tell_138 : decode cX12_tell 138 = .ok (.iconst (-1), 1) := by decide +kernel
theorem dX12_tell_139 : decode cX12_tell 139 = .ok (.if_icmp .eq 19, 3) := by decide +kernel
theorem dX12_tell_142 : decode cX12_tell 142 = .ok (.aload_n 0, 1) := by decide +kernel
theorem dX12_tell_143 : decode cX12_tell 143 = .ok (.getfield 110, 3) := by decide +kernel
theorem dX12_tell_146 : decode cX12_tell 146 = .ok (.iload_n 3, 1) := by decide +kernel
theorem dX12_tell_147 : decode cX12_tell 147 = .ok (.aload_n 0, 1) := by decide +kernel
theorem dX12_tell_148 : decode cX12_tell 148 = .ok (.getfield 44, 3) := by decide +kernel
theorem dX12_tell_151 : decode cX12_tell 151 = .ok (.iload 6, 2) := by decide +kernel
theorem dX12_tell_153 : decode cX12_tell 153 = .ok (.iaload, 1) := by decide +kernel
theorem dX12_tell_154 : decode cX12_tell 154 = .ok (.iastore, 1) := by decide +kernel
theorem dX12_tell_155 : decode cX12_tell 155 = .ok (.iinc 3 1, 3) := by decide +kernel
theorem dX12_tell_158 : decode cX12_tell 158 = .ok (.aload_n 0, 1) := by decide +kernel
theorem dX12_tell_159 : decode cX12_tell 159 = .ok (.getfield 41, 3) := by decide +kernel
theorem dX12_tell_162 : decode cX12_tell 162 = .ok (.iload 6, 2) := by decide +kernel
theorem dX12_tell_164 : decode cX12_tell 164 = .ok (.iaload, 1) := by decide +kernel
theorem dX12_tell_165 : decode cX12_tell 165 = .ok (.iconst (-1), 1) := by decide +kernel
theorem dX12_tell_166 : decode cX12_tell 166 = .ok (.if_icmp .eq 19, 3) := by decide +kernel
theorem dX12_tell_169 : decode cX12_tell 169 = .ok (.aload_n 0, 1) := by decide +kernel
theorem dX12_tell_170 : decode cX12_tell 170 = .ok (.getfield 110, 3) := by decide +kernel
theorem dX12_tell_173 : decode cX12_tell 173 = .ok (.iload_n 3, 1) := by decide +kernel
theorem dX12_tell_174 : decode cX12_tell 174 = .ok (.aload_n 0, 1) := by decide +kernel
theorem dX12_tell_175 : decode cX12_tell 175 = .ok (.getfield 41, 3) := by decide +kernel
theorem dX12_tell_178 : decode cX12_tell 178 = .ok (.iload 6, 2) := by decide +kernel
theorem dX12_tell_180 : decode cX12_tell 180 = .ok (.iaload, 1) := by decide +kernel
theorem dX12_tell_181 : decode cX12_tell 181 = .ok (.iastore, 1) := by decide +kernel
theorem dX12_tell_182 : decode cX12_tell 182 = .ok (.iinc 3 1, 3) := by decide +kernel
theorem dX12_tell_185 : decode cX12_tell 185 = .ok (.aload_n 0, 1) := by decide +kernel
theorem dX12_tell_186 : decode cX12_tell 186 = .ok (.getfield 116, 3) := by decide +kernel
theorem dX12_tell_189 : decode cX12_tell 189 = .ok (.bipush 40, 2) := by decide +kernel
theorem dX12_tell_191 : decode cX12_tell 191 = .ok (.iload_n 1, 1) := by decide +kernel
theorem dX12_tell_192 : decode cX12_tell 192 = .ok (.imul, 1) := by decide +kernel
theorem dX12_tell_193 : decode cX12_tell 193 = .ok (.iload 5, 2) := by decide +kernel
theorem dX12_tell_195 : decode cX12_tell 195 = .ok (.iadd, 1) := by decide +kernel
theorem dX12_tell_196 : decode cX12_tell 196 = .ok (.iload 7, 2) := by decide +kernel
theorem dX12_tell_198 : decode cX12_tell 198 = .ok (.iastore, 1) := by decide +kernel
theorem dX12_tell_199 : decode cX12_tell 199 = .ok (.iinc 5 1, 3) := by decide +kernel
theorem dX12_tell_202 : decode cX12_tell 202 = .ok (.goto (-180), 3) := by decide +kernel
theorem dX12_tell_205 : decode cX12_tell 205 = .ok (.aload_n 0, 1) := by decide +kernel
theorem dX12_tell_206 : decode cX12_tell 206 = .ok (.getfield 113, 3) := by decide +kernel
theorem dX12_tell_209 : decode cX12_tell 209 = .ok (.iload_n 1, 1) := by decide +kernel
theorem dX12_tell_210 : decode cX12_tell 210 = .ok (.iload 5, 2) := by decide +kernel
theorem dX12_tell_212 : decode cX12_tell 212 = .ok (.iastore, 1) := by decide +kernel
theorem dX12_tell_213 : decode cX12_tell 213 = .ok (.return_, 1) := by decide +kernel
theorem dX12_keepValue_0 : decode cX12_keepValue 0 = .ok (.bipush 7, 2) := by decide +kernel
theorem dX12_keepValue_2 : decode cX12_keepValue 2 = .ok (.aload_n 0, 1) := by decide +kernel
theorem dX12_keepValue_3 : decode cX12_keepValue 3 = .ok (.getfield 224, 3) := by decide +kernel
theorem dX12_keepValue_6 : decode cX12_keepValue 6 = .ok (.imul, 1) := by decide +kernel
theorem dX12_keepValue_7 : decode cX12_keepValue 7 = .ok (.istore_n 1, 1) := by decide +kernel
theorem dX12_keepValue_8 : decode cX12_keepValue 8 = .ok (.aload_n 0, 1) := by decide +kernel
theorem dX12_keepValue_9 : decode cX12_keepValue 9 = .ok (.iload_n 1, 1) := by decide +kernel
theorem dX12_keepValue_10 : decode cX12_keepValue 10 = .ok (.aload_n 0, 1) := by decide +kernel
theorem dX12_keepValue_11 : decode cX12_keepValue 11 = .ok (.getfield 335, 3) := by decide +kernel
theorem dX12_keepValue_14 : decode cX12_keepValue 14 = .ok (.invokevirtual 341, 3) := by decide +kernel
theorem dX12_keepValue_17 : decode cX12_keepValue 17 = .ok (.iconst 0, 1) := by decide +kernel
theorem dX12_keepValue_18 : decode cX12_keepValue 18 = .ok (.istore_n 2, 1) := by decide +kernel
theorem dX12_keepValue_19 : decode cX12_keepValue 19 = .ok (.iload_n 2, 1) := by decide +kernel
theorem dX12_keepValue_20 : decode cX12_keepValue 20 = .ok (.bipush 6, 2) := by decide +kernel
theorem dX12_keepValue_22 : decode cX12_keepValue 22 = .ok (.if_icmp .ge 32, 3) := by decide +kernel
theorem dX12_keepValue_25 : decode cX12_keepValue 25 = .ok (.aload_n 0, 1) := by decide +kernel
theorem dX12_keepValue_26 : decode cX12_keepValue 26 = .ok (.iload_n 1, 1) := by decide +kernel
theorem dX12_keepValue_27 : decode cX12_keepValue 27 = .ok (.iconst 1, 1) := by decide +kernel
theorem dX12_keepValue_28 : decode cX12_keepValue 28 = .ok (.iadd, 1) := by decide +kernel
theorem dX12_keepValue_29 : decode cX12_keepValue 29 = .ok (.iload_n 2, 1) := by decide +kernel
theorem dX12_keepValue_30 : decode cX12_keepValue 30 = .ok (.iadd, 1) := by decide +kernel
theorem dX12_keepValue_31 : decode cX12_keepValue 31 = .ok (.aload_n 0, 1) := by decide +kernel
theorem dX12_keepValue_32 : decode cX12_keepValue 32 = .ok (.getfield 59, 3) := by decide +kernel
theorem dX12_keepValue_35 : decode cX12_keepValue 35 = .ok (.bipush 6, 2) := by decide +kernel
theorem dX12_keepValue_37 : decode cX12_keepValue 37 = .ok (.aload_n 0, 1) := by decide +kernel
theorem dX12_keepValue_38 : decode cX12_keepValue 38 = .ok (.getfield 332, 3) := by decide +kernel
theorem dX12_keepValue_41 : decode cX12_keepValue 41 = .ok (.imul, 1) := by decide +kernel
theorem dX12_keepValue_42 : decode cX12_keepValue 42 = .ok (.iload_n 2, 1) := by decide +kernel
theorem dX12_keepValue_43 : decode cX12_keepValue 43 = .ok (.iadd, 1) := by decide +kernel
theorem dX12_keepValue_44 : decode cX12_keepValue 44 = .ok (.iaload, 1) := by decide +kernel
theorem dX12_keepValue_45 : decode cX12_keepValue 45 = .ok (.invokevirtual 341, 3) := by decide +kernel
theorem dX12_keepValue_48 : decode cX12_keepValue 48 = .ok (.iinc 2 1, 3) := by decide +kernel
theorem dX12_keepValue_51 : decode cX12_keepValue 51 = .ok (.goto (-32), 3) := by decide +kernel
theorem dX12_keepValue_54 : decode cX12_keepValue 54 = .ok (.aload_n 0, 1) := by decide +kernel
theorem dX12_keepValue_55 : decode cX12_keepValue 55 = .ok (.getfield 119, 3) := by decide +kernel
theorem dX12_keepValue_58 : decode cX12_keepValue 58 = .ok (.aload_n 0, 1) := by decide +kernel
theorem dX12_keepValue_59 : decode cX12_keepValue 59 = .ok (.getfield 224, 3) := by decide +kernel
theorem dX12_keepValue_62 : decode cX12_keepValue 62 = .ok (.aload_n 0, 1) := by decide +kernel
theorem dX12_keepValue_63 : decode cX12_keepValue 63 = .ok (.getfield 242, 3) := by decide +kernel
theorem dX12_keepValue_66 : decode cX12_keepValue 66 = .ok (.iastore, 1) := by decide +kernel
theorem dX12_keepValue_67 : decode cX12_keepValue 67 = .ok (.aload_n 0, 1) := by decide +kernel
theorem dX12_keepValue_68 : decode cX12_keepValue 68 = .ok (.getfield 122, 3) := by decide +kernel
theorem dX12_keepValue_71 : decode cX12_keepValue 71 = .ok (.aload_n 0, 1) := by decide +kernel
theorem dX12_keepValue_72 : decode cX12_keepValue 72 = .ok (.getfield 224, 3) := by decide +kernel
theorem dX12_keepValue_75 : decode cX12_keepValue 75 = .ok (.aload_n 0, 1) := by decide +kernel
theorem dX12_keepValue_76 : decode cX12_keepValue 76 = .ok (.getfield 86, 3) := by decide +kernel
theorem dX12_keepValue_79 : decode cX12_keepValue 79 = .ok (.iconst 0, 1) := by decide +kernel
theorem dX12_keepValue_80 : decode cX12_keepValue 80 = .ok (.iaload, 1) := by decide +kernel
theorem dX12_keepValue_81 : decode cX12_keepValue 81 = .ok (.iastore, 1) := by decide +kernel
theorem dX12_keepValue_82 : decode cX12_keepValue 82 = .ok (.iconst 0, 1) := by decide +kernel
theorem dX12_keepValue_83 : decode cX12_keepValue 83 = .ok (.istore_n 2, 1) := by decide +kernel
theorem dX12_keepValue_84 : decode cX12_keepValue 84 = .ok (.iload_n 2, 1) := by decide +kernel
theorem dX12_keepValue_85 : decode cX12_keepValue 85 = .ok (.aload_n 0, 1) := by decide +kernel
theorem dX12_keepValue_86 : decode cX12_keepValue 86 = .ok (.getfield 86, 3) := by decide +kernel
theorem dX12_keepValue_89 : decode cX12_keepValue 89 = .ok (.iconst 0, 1) := by decide +kernel
theorem dX12_keepValue_90 : decode cX12_keepValue 90 = .ok (.iaload, 1) := by decide +kernel
theorem dX12_keepValue_91 : decode cX12_keepValue 91 = .ok (.if_icmp .ge 29, 3) := by decide +kernel
theorem dX12_keepValue_94 : decode cX12_keepValue 94 = .ok (.aload_n 0, 1) := by decide +kernel
theorem dX12_keepValue_95 : decode cX12_keepValue 95 = .ok (.getfield 125, 3) := by decide +kernel
theorem dX12_keepValue_98 : decode cX12_keepValue 98 = .ok (.bipush 40, 2) := by decide +kernel
theorem dX12_keepValue_100 : decode cX12_keepValue 100 = .ok (.aload_n 0, 1) := by decide +kernel
theorem dX12_keepValue_101 : decode cX12_keepValue 101 = .ok (.getfield 224, 3) := by decide +kernel
theorem dX12_keepValue_104 : decode cX12_keepValue 104 = .ok (.imul, 1) := by decide +kernel
theorem dX12_keepValue_105 : decode cX12_keepValue 105 = .ok (.iload_n 2, 1) := by decide +kernel
theorem dX12_keepValue_106 : decode cX12_keepValue 106 = .ok (.iadd, 1) := by decide +kernel
theorem dX12_keepValue_107 : decode cX12_keepValue 107 = .ok (.aload_n 0, 1) := by decide +kernel
theorem dX12_keepValue_108 : decode cX12_keepValue 108 = .ok (.getfield 89, 3) := by decide +kernel
theorem dX12_keepValue_111 : decode cX12_keepValue 111 = .ok (.iload_n 2, 1) := by decide +kernel
theorem dX12_keepValue_112 : decode cX12_keepValue 112 = .ok (.iaload, 1) := by decide +kernel
theorem dX12_keepValue_113 : decode cX12_keepValue 113 = .ok (.iastore, 1) := by decide +kernel
theorem dX12_keepValue_114 : decode cX12_keepValue 114 = .ok (.iinc 2 1, 3) := by decide +kernel
theorem dX12_keepValue_117 : decode cX12_keepValue 117 = .ok (.goto (-33), 3) := by decide +kernel
theorem dX12_keepValue_120 : decode cX12_keepValue 120 = .ok (.aload_n 0, 1) := by decide +kernel
theorem dX12_keepValue_121 : decode cX12_keepValue 121 = .ok (.dup, 1) := by decide +kernel
theorem dX12_keepValue_122 : decode cX12_keepValue 122 = .ok (.getfield 224, 3) := by decide +kernel
theorem dX12_keepValue_125 : decode cX12_keepValue 125 = .ok (.iconst 1, 1) := by decide +kernel
theorem dX12_keepValue_126 : decode cX12_keepValue 126 = .ok (.iadd, 1) := by decide +kernel
theorem dX12_keepValue_127 : decode cX12_keepValue 127 = .ok (.putfield 224, 3) := by decide +kernel
theorem dX12_keepValue_130 : decode cX12_keepValue 130 = .ok (.return_, 1) := by decide +kernel
theorem dX12_lays_0 : decode cX12_lays 0 = .ok (.aload_n 0, 1) := by decide +kernel
theorem dX12_lays_1 : decode cX12_lays 1 = .ok (.getfield 344, 3) := by decide +kernel
theorem dX12_lays_4 : decode cX12_lays 4 = .ok (.istore_n 2, 1) := by decide +kernel
theorem dX12_lays_5 : decode cX12_lays 5 = .ok (.aload_n 0, 1) := by decide +kernel
theorem dX12_lays_6 : decode cX12_lays 6 = .ok (.getfield 134, 3) := by decide +kernel
theorem dX12_lays_9 : decode cX12_lays 9 = .ok (.iload_n 2, 1) := by decide +kernel
theorem dX12_lays_10 : decode cX12_lays 10 = .ok (.aload_n 0, 1) := by decide +kernel
theorem dX12_lays_11 : decode cX12_lays 11 = .ok (.getfield 83, 3) := by decide +kernel
theorem dX12_lays_14 : decode cX12_lays 14 = .ok (.iconst 0, 1) := by decide +kernel
theorem dX12_lays_15 : decode cX12_lays 15 = .ok (.iaload, 1) := by decide +kernel
theorem dX12_lays_16 : decode cX12_lays 16 = .ok (.iload_n 1, 1) := by decide +kernel
theorem dX12_lays_17 : decode cX12_lays 17 = .ok (.iconst (-1), 1) := by decide +kernel
theorem dX12_lays_18 : decode cX12_lays 18 = .ok (.if_icmp .ne 7, 3) := by decide +kernel
theorem dX12_lays_21 : decode cX12_lays 21 = .ok (.iconst 0, 1) := by decide +kernel
theorem dX12_lays_22 : decode cX12_lays 22 = .ok (.goto 4, 3) := by decide +kernel
theorem dX12_lays_25 : decode cX12_lays 25 = .ok (.iconst 1, 1) := by decide +kernel
theorem dX12_lays_26 : decode cX12_lays 26 = .ok (.iadd, 1) := by decide +kernel
theorem dX12_lays_27 : decode cX12_lays 27 = .ok (.iastore, 1) := by decide +kernel
theorem dX12_lays_28 : decode cX12_lays 28 = .ok (.iconst 0, 1) := by decide +kernel
theorem dX12_lays_29 : decode cX12_lays 29 = .ok (.istore_n 3, 1) := by decide +kernel
theorem dX12_lays_30 : decode cX12_lays 30 = .ok (.iload_n 3, 1) := by decide +kernel
theorem dX12_lays_31 : decode cX12_lays 31 = .ok (.aload_n 0, 1) := by decide +kernel
theorem dX12_lays_32 : decode cX12_lays 32 = .ok (.getfield 83, 3) := by decide +kernel
theorem dX12_lays_35 : decode cX12_lays 35 = .ok (.iconst 0, 1) := by decide +kernel
theorem dX12_lays_36 : decode cX12_lays 36 = .ok (.iaload, 1) := by decide +kernel
theorem dX12_lays_37 : decode cX12_lays 37 = .ok (.if_icmp .ge 26, 3) := by decide +kernel
theorem dX12_lays_40 : decode cX12_lays 40 = .ok (.aload_n 0, 1) := by decide +kernel
theorem dX12_lays_41 : decode cX12_lays 41 = .ok (.getfield 138, 3) := by decide +kernel
theorem dX12_lays_44 : decode cX12_lays 44 = .ok (.bipush 41, 2) := by decide +kernel
theorem dX12_lays_46 : decode cX12_lays 46 = .ok (.iload_n 2, 1) := by decide +kernel
theorem dX12_lays_47 : decode cX12_lays 47 = .ok (.imul, 1) := by decide +kernel
theorem dX12_lays_48 : decode cX12_lays 48 = .ok (.iload_n 3, 1) := by decide +kernel
theorem dX12_lays_49 : decode cX12_lays 49 = .ok (.iadd, 1) := by decide +kernel
theorem dX12_lays_50 : decode cX12_lays 50 = .ok (.aload_n 0, 1) := by decide +kernel
theorem dX12_lays_51 : decode cX12_lays 51 = .ok (.getfield 89, 3) := by decide +kernel
theorem dX12_lays_54 : decode cX12_lays 54 = .ok (.iload_n 3, 1) := by decide +kernel
theorem dX12_lays_55 : decode cX12_lays 55 = .ok (.iaload, 1) := by decide +kernel
theorem dX12_lays_56 : decode cX12_lays 56 = .ok (.iastore, 1) := by decide +kernel
theorem dX12_lays_57 : decode cX12_lays 57 = .ok (.iinc 3 1, 3) := by decide +kernel
theorem dX12_lays_60 : decode cX12_lays 60 = .ok (.goto (-30), 3) := by decide +kernel
theorem dX12_lays_63 : decode cX12_lays 63 = .ok (.iload_n 1, 1) := by decide +kernel
theorem dX12_lays_64 : decode cX12_lays 64 = .ok (.iconst (-1), 1) := by decide +kernel
theorem dX12_lays_65 : decode cX12_lays 65 = .ok (.if_icmp .eq 20, 3) := by decide +kernel
theorem dX12_lays_68 : decode cX12_lays 68 = .ok (.aload_n 0, 1) := by decide +kernel
theorem dX12_lays_69 : decode cX12_lays 69 = .ok (.getfield 138, 3) := by decide +kernel
theorem dX12_lays_72 : decode cX12_lays 72 = .ok (.bipush 41, 2) := by decide +kernel
theorem dX12_lays_74 : decode cX12_lays 74 = .ok (.iload_n 2, 1) := by decide +kernel
theorem dX12_lays_75 : decode cX12_lays 75 = .ok (.imul, 1) := by decide +kernel
theorem dX12_lays_76 : decode cX12_lays 76 = .ok (.aload_n 0, 1) := by decide +kernel
theorem dX12_lays_77 : decode cX12_lays 77 = .ok (.getfield 83, 3) := by decide +kernel
theorem dX12_lays_80 : decode cX12_lays 80 = .ok (.iconst 0, 1) := by decide +kernel
theorem dX12_lays_81 : decode cX12_lays 81 = .ok (.iaload, 1) := by decide +kernel
theorem dX12_lays_82 : decode cX12_lays 82 = .ok (.iadd, 1) := by decide +kernel
theorem dX12_lays_83 : decode cX12_lays 83 = .ok (.iload_n 1, 1) := by decide +kernel
theorem dX12_lays_84 : decode cX12_lays 84 = .ok (.iastore, 1) := by decide +kernel
theorem dX12_lays_85 : decode cX12_lays 85 = .ok (.aload_n 0, 1) := by decide +kernel
theorem dX12_lays_86 : decode cX12_lays 86 = .ok (.getfield 131, 3) := by decide +kernel
theorem dX12_lays_89 : decode cX12_lays 89 = .ok (.aload_n 0, 1) := by decide +kernel
theorem dX12_lays_90 : decode cX12_lays 90 = .ok (.getfield 347, 3) := by decide +kernel
theorem dX12_lays_93 : decode cX12_lays 93 = .ok (.iload_n 2, 1) := by decide +kernel
theorem dX12_lays_94 : decode cX12_lays 94 = .ok (.iastore, 1) := by decide +kernel
theorem dX12_lays_95 : decode cX12_lays 95 = .ok (.aload_n 0, 1) := by decide +kernel
theorem dX12_lays_96 : decode cX12_lays 96 = .ok (.dup, 1) := by decide +kernel
theorem dX12_lays_97 : decode cX12_lays 97 = .ok (.getfield 344, 3) := by decide +kernel
theorem dX12_lays_100 : decode cX12_lays 100 = .ok (.iconst 1, 1) := by decide +kernel
theorem dX12_lays_101 : decode cX12_lays 101 = .ok (.iadd, 1) := by decide +kernel
theorem dX12_lays_102 : decode cX12_lays 102 = .ok (.putfield 344, 3) := by decide +kernel
theorem dX12_lays_105 : decode cX12_lays 105 = .ok (.aload_n 0, 1) := by decide +kernel
theorem dX12_lays_106 : decode cX12_lays 106 = .ok (.dup, 1) := by decide +kernel
theorem dX12_lays_107 : decode cX12_lays 107 = .ok (.getfield 347, 3) := by decide +kernel
theorem dX12_lays_110 : decode cX12_lays 110 = .ok (.iconst 1, 1) := by decide +kernel
theorem dX12_lays_111 : decode cX12_lays 111 = .ok (.iadd, 1) := by decide +kernel
theorem dX12_lays_112 : decode cX12_lays 112 = .ok (.putfield 347, 3) := by decide +kernel
theorem dX12_lays_115 : decode cX12_lays 115 = .ok (.return_, 1) := by decide +kernel
theorem dX12_takes_0 : decode cX12_takes 0 = .ok (.aload_n 0, 1) := by decide +kernel
theorem dX12_takes_1 : decode cX12_takes 1 = .ok (.getfield 131, 3) := by decide +kernel
theorem dX12_takes_4 : decode cX12_takes 4 = .ok (.iload_n 1, 1) := by decide +kernel
theorem dX12_takes_5 : decode cX12_takes 5 = .ok (.iaload, 1) := by decide +kernel
theorem dX12_takes_6 : decode cX12_takes 6 = .ok (.istore_n 2, 1) := by decide +kernel
theorem dX12_takes_7 : decode cX12_takes 7 = .ok (.aload_n 0, 1) := by decide +kernel
theorem dX12_takes_8 : decode cX12_takes 8 = .ok (.dup, 1) := by decide +kernel
theorem dX12_takes_9 : decode cX12_takes 9 = .ok (.getfield 347, 3) := by decide +kernel
theorem dX12_takes_12 : decode cX12_takes 12 = .ok (.iconst 1, 1) := by decide +kernel
theorem dX12_takes_13 : decode cX12_takes 13 = .ok (.isub, 1) := by decide +kernel
theorem dX12_takes_14 : decode cX12_takes 14 = .ok (.putfield 347, 3) := by decide +kernel
theorem dX12_takes_17 : decode cX12_takes 17 = .ok (.iload_n 1, 1) := by decide +kernel
theorem dX12_takes_18 : decode cX12_takes 18 = .ok (.istore_n 3, 1) := by decide +kernel
theorem dX12_takes_19 : decode cX12_takes 19 = .ok (.iload_n 3, 1) := by decide +kernel
theorem dX12_takes_20 : decode cX12_takes 20 = .ok (.aload_n 0, 1) := by decide +kernel
theorem dX12_takes_21 : decode cX12_takes 21 = .ok (.getfield 347, 3) := by decide +kernel
theorem dX12_takes_24 : decode cX12_takes 24 = .ok (.if_icmp .ge 23, 3) := by decide +kernel
theorem dX12_takes_27 : decode cX12_takes 27 = .ok (.aload_n 0, 1) := by decide +kernel
theorem dX12_takes_28 : decode cX12_takes 28 = .ok (.getfield 131, 3) := by decide +kernel
theorem dX12_takes_31 : decode cX12_takes 31 = .ok (.iload_n 3, 1) := by decide +kernel
theorem dX12_takes_32 : decode cX12_takes 32 = .ok (.aload_n 0, 1) := by decide +kernel
theorem dX12_takes_33 : decode cX12_takes 33 = .ok (.getfield 131, 3) := by decide +kernel
theorem dX12_takes_36 : decode cX12_takes 36 = .ok (.iload_n 3, 1) := by decide +kernel
theorem dX12_takes_37 : decode cX12_takes 37 = .ok (.iconst 1, 1) := by decide +kernel
theorem dX12_takes_38 : decode cX12_takes 38 = .ok (.iadd, 1) := by decide +kernel
theorem dX12_takes_39 : decode cX12_takes 39 = .ok (.iaload, 1) := by decide +kernel
theorem dX12_takes_40 : decode cX12_takes 40 = .ok (.iastore, 1) := by decide +kernel
theorem dX12_takes_41 : decode cX12_takes 41 = .ok (.iinc 3 1, 3) := by decide +kernel
theorem dX12_takes_44 : decode cX12_takes 44 = .ok (.goto (-25), 3) := by decide +kernel
theorem dX12_takes_47 : decode cX12_takes 47 = .ok (.aload_n 0, 1) := by decide +kernel
theorem dX12_takes_48 : decode cX12_takes 48 = .ok (.getfield 83, 3) := by decide +kernel
theorem dX12_takes_51 : decode cX12_takes 51 = .ok (.iconst 0, 1) := by decide +kernel
theorem dX12_takes_52 : decode cX12_takes 52 = .ok (.aload_n 0, 1) := by decide +kernel
theorem dX12_takes_53 : decode cX12_takes 53 = .ok (.getfield 134, 3) := by decide +kernel
theorem dX12_takes_56 : decode cX12_takes 56 = .ok (.iload_n 2, 1) := by decide +kernel
theorem dX12_takes_57 : decode cX12_takes 57 = .ok (.iaload, 1) := by decide +kernel
theorem dX12_takes_58 : decode cX12_takes 58 = .ok (.iastore, 1) := by decide +kernel
theorem dX12_takes_59 : decode cX12_takes 59 = .ok (.iconst 0, 1) := by decide +kernel
theorem dX12_takes_60 : decode cX12_takes 60 = .ok (.istore_n 3, 1) := by decide +kernel
theorem dX12_takes_61 : decode cX12_takes 61 = .ok (.iload_n 3, 1) := by decide +kernel
theorem dX12_takes_62 : decode cX12_takes 62 = .ok (.aload_n 0, 1) := by decide +kernel
theorem dX12_takes_63 : decode cX12_takes 63 = .ok (.getfield 83, 3) := by decide +kernel
theorem dX12_takes_66 : decode cX12_takes 66 = .ok (.iconst 0, 1) := by decide +kernel
theorem dX12_takes_67 : decode cX12_takes 67 = .ok (.iaload, 1) := by decide +kernel
theorem dX12_takes_68 : decode cX12_takes 68 = .ok (.if_icmp .ge 26, 3) := by decide +kernel
theorem dX12_takes_71 : decode cX12_takes 71 = .ok (.aload_n 0, 1) := by decide +kernel
theorem dX12_takes_72 : decode cX12_takes 72 = .ok (.getfield 89, 3) := by decide +kernel
theorem dX12_takes_75 : decode cX12_takes 75 = .ok (.iload_n 3, 1) := by decide +kernel
theorem dX12_takes_76 : decode cX12_takes 76 = .ok (.aload_n 0, 1) := by decide +kernel
theorem dX12_takes_77 : decode cX12_takes 77 = .ok (.getfield 138, 3) := by decide +kernel
theorem dX12_takes_80 : decode cX12_takes 80 = .ok (.bipush 41, 2) := by decide +kernel
theorem dX12_takes_82 : decode cX12_takes 82 = .ok (.iload_n 2, 1) := by decide +kernel
theorem dX12_takes_83 : decode cX12_takes 83 = .ok (.imul, 1) := by decide +kernel
theorem dX12_takes_84 : decode cX12_takes 84 = .ok (.iload_n 3, 1) := by decide +kernel
theorem dX12_takes_85 : decode cX12_takes 85 = .ok (.iadd, 1) := by decide +kernel
theorem dX12_takes_86 : decode cX12_takes 86 = .ok (.iaload, 1) := by decide +kernel
theorem dX12_takes_87 : decode cX12_takes 87 = .ok (.iastore, 1) := by decide +kernel
theorem dX12_takes_88 : decode cX12_takes 88 = .ok (.iinc 3 1, 3) := by decide +kernel
theorem dX12_takes_91 : decode cX12_takes 91 = .ok (.goto (-30), 3) := by decide +kernel
theorem dX12_takes_94 : decode cX12_takes 94 = .ok (.return_, 1) := by decide +kernel
theorem dX12_search_0 : decode cX12_search 0 = .ok (.aload_n 0, 1) := by decide +kernel
theorem dX12_search_1 : decode cX12_search 1 = .ok (.iload_n 1, 1) := by decide +kernel
theorem dX12_search_2 : decode cX12_search 2 = .ok (.iconst 0, 1) := by decide +kernel
theorem dX12_search_3 : decode cX12_search 3 = .ok (.iconst 2, 1) := by decide +kernel
theorem dX12_search_4 : decode cX12_search 4 = .ok (.invokestatic 154, 3) := by decide +kernel
theorem dX12_search_7 : decode cX12_search 7 = .ok (.ifCond .ne 7, 3) := by decide +kernel
theorem dX12_search_10 : decode cX12_search 10 = .ok (.iconst 1, 1) := by decide +kernel
theorem dX12_search_11 : decode cX12_search 11 = .ok (.goto 15, 3) := by decide +kernel
theorem dX12_search_14 : decode cX12_search 14 = .ok (.aload_n 0, 1) := by decide +kernel
theorem dX12_search_15 : decode cX12_search 15 = .ok (.getfield 220, 3) := by decide +kernel
theorem dX12_search_18 : decode cX12_search 18 = .ok (.ifCond .ne 7, 3) := by decide +kernel
theorem dX12_search_21 : decode cX12_search 21 = .ok (.iconst 2, 1) := by decide +kernel
theorem dX12_search_22 : decode cX12_search 22 = .ok (.goto 4, 3) := by decide +kernel
theorem dX12_search_25 : decode cX12_search 25 = .ok (.iconst 0, 1) := by decide +kernel
theorem dX12_search_26 : decode cX12_search 26 = .ok (.putfield 147, 3) := by decide +kernel
theorem dX12_search_29 : decode cX12_search 29 = .ok (.aload_n 0, 1) := by decide +kernel
theorem dX12_search_30 : decode cX12_search 30 = .ok (.getfield 147, 3) := by decide +kernel
theorem dX12_search_33 : decode cX12_search 33 = .ok (.ifCond .le 5, 3) := by decide +kernel
theorem dX12_search_36 : decode cX12_search 36 = .ok (.iconst 0, 1) := by decide +kernel
theorem dX12_search_37 : decode cX12_search 37 = .ok (.ireturn, 1) := by decide +kernel
theorem dX12_search_38 : decode cX12_search 38 = .ok (.iconst 0, 1) := by decide +kernel
theorem dX12_search_39 : decode cX12_search 39 = .ok (.istore_n 3, 1) := by decide +kernel
theorem dX12_search_40 : decode cX12_search 40 = .ok (.iload_n 3, 1) := by decide +kernel
theorem dX12_search_41 : decode cX12_search 41 = .ok (.bipush 6, 2) := by decide +kernel
theorem dX12_search_43 : decode cX12_search 43 = .ok (.if_icmp .ge 16, 3) := by decide +kernel
theorem dX12_search_46 : decode cX12_search 46 = .ok (.aload_n 0, 1) := by decide +kernel
theorem dX12_search_47 : decode cX12_search 47 = .ok (.getfield 128, 3) := by decide +kernel
theorem dX12_search_50 : decode cX12_search 50 = .ok (.iload_n 3, 1) := by decide +kernel
theorem dX12_search_51 : decode cX12_search 51 = .ok (.iconst 0, 1) := by decide +kernel
theorem dX12_search_52 : decode cX12_search 52 = .ok (.iastore, 1) := by decide +kernel
theorem dX12_search_53 : decode cX12_search 53 = .ok (.iinc 3 1, 3) := by decide +kernel
theorem dX12_search_56 : decode cX12_search 56 = .ok (.goto (-16), 3) := by decide +kernel
theorem dX12_search_59 : decode cX12_search 59 = .ok (.aload_n 0, 1) := by decide +kernel
theorem dX12_search_60 : decode cX12_search 60 = .ok (.iconst 0, 1) := by decide +kernel
theorem dX12_search_61 : decode cX12_search 61 = .ok (.putfield 224, 3) := by decide +kernel
theorem dX12_search_64 : decode cX12_search 64 = .ok (.aload_n 0, 1) := by decide +kernel
theorem dX12_search_65 : decode cX12_search 65 = .ok (.iconst 0, 1) := by decide +kernel
theorem dX12_search_66 : decode cX12_search 66 = .ok (.putfield 347, 3) := by decide +kernel
theorem dX12_search_69 : decode cX12_search 69 = .ok (.aload_n 0, 1) := by decide +kernel
theorem dX12_search_70 : decode cX12_search 70 = .ok (.iconst 0, 1) := by decide +kernel
theorem dX12_search_71 : decode cX12_search 71 = .ok (.putfield 344, 3) := by decide +kernel
theorem dX12_search_74 : decode cX12_search 74 = .ok (.aload_n 0, 1) := by decide +kernel
theorem dX12_search_75 : decode cX12_search 75 = .ok (.getfield 83, 3) := by decide +kernel
theorem dX12_search_78 : decode cX12_search 78 = .ok (.iconst 0, 1) := by decide +kernel
theorem dX12_search_79 : decode cX12_search 79 = .ok (.iconst 0, 1) := by decide +kernel
theorem dX12_search_80 : decode cX12_search 80 = .ok (.iastore, 1) := by decide +kernel
theorem dX12_search_81 : decode cX12_search 81 = .ok (.aload_n 0, 1) := by decide +kernel
theorem dX12_search_82 : decode cX12_search 82 = .ok (.iconst (-1), 1) := by decide +kernel
theorem dX12_search_83 : decode cX12_search 83 = .ok (.invokevirtual 350, 3) := by decide +kernel
theorem dX12_search_86 : decode cX12_search 86 = .ok (.iload_n 2, 1) := by decide +kernel
theorem dX12_search_87 : decode cX12_search 87 = .ok (.istore_n 3, 1) := by decide +kernel
theorem dX12_search_88 : decode cX12_search 88 = .ok (.aload_n 0, 1) := by decide +kernel
theorem dX12_search_89 : decode cX12_search 89 = .ok (.getfield 347, 3) := by decide +kernel
theorem dX12_search_92 : decode cX12_search 92 = .ok (.ifCond .le 168, 3) := by decide +kernel
theorem dX12_search_95 : decode cX12_search 95 = .ok (.aload_n 0, 1) := by decide +kernel
theorem dX12_search_96 : decode cX12_search 96 = .ok (.getfield 128, 3) := by decide +kernel
theorem dX12_search_99 : decode cX12_search 99 = .ok (.iconst 4, 1) := by decide +kernel
theorem dX12_search_100 : decode cX12_search 100 = .ok (.iaload, 1) := by decide +kernel
theorem dX12_search_101 : decode cX12_search 101 = .ok (.sipush 200, 3) := by decide +kernel
theorem dX12_search_104 : decode cX12_search 104 = .ok (.if_icmp .ge 156, 3) := by decide +kernel
theorem dX12_search_107 : decode cX12_search 107 = .ok (.iload_n 3, 1) := by decide +kernel
theorem dX12_search_108 : decode cX12_search 108 = .ok (.ldc_w 353, 3) := by decide +kernel
theorem dX12_search_111 : decode cX12_search 111 = .ok (.imul, 1) := by decide +kernel
theorem dX12_search_112 : decode cX12_search 112 = .ok (.sipush 12345, 3) := by decide +kernel
theorem dX12_search_115 : decode cX12_search 115 = .ok (.iadd, 1) := by decide +kernel
theorem dX12_search_116 : decode cX12_search 116 = .ok (.istore_n 3, 1) := by decide +kernel
theorem dX12_search_117 : decode cX12_search 117 = .ok (.iload_n 3, 1) := by decide +kernel
theorem dX12_search_118 : decode cX12_search 118 = .ok (.bipush 16, 2) := by decide +kernel
theorem dX12_search_120 : decode cX12_search 120 = .ok (.iushr, 1) := by decide +kernel
theorem dX12_search_121 : decode cX12_search 121 = .ok (.aload_n 0, 1) := by decide +kernel
theorem dX12_search_122 : decode cX12_search 122 = .ok (.getfield 347, 3) := by decide +kernel
theorem dX12_search_125 : decode cX12_search 125 = .ok (.irem, 1) := by decide +kernel
theorem dX12_search_126 : decode cX12_search 126 = .ok (.istore 4, 2) := by decide +kernel
theorem dX12_search_128 : decode cX12_search 128 = .ok (.aload_n 0, 1) := by decide +kernel
theorem dX12_search_129 : decode cX12_search 129 = .ok (.iload_n 1, 1) := by decide +kernel
theorem dX12_search_130 : decode cX12_search 130 = .ok (.ifCond .ne 12, 3) := by decide +kernel
theorem dX12_search_133 : decode cX12_search 133 = .ok (.aload_n 0, 1) := by decide +kernel
theorem dX12_search_134 : decode cX12_search 134 = .ok (.getfield 347, 3) := by decide +kernel
theorem dX12_search_137 : decode cX12_search 137 = .ok (.iconst 1, 1) := by decide +kernel
theorem dX12_search_138 : decode cX12_search 138 = .ok (.isub, 1) := by decide +kernel
theorem dX12_search_139 : decode cX12_search 139 = .ok (.goto 14, 3) := by decide +kernel
theorem dX12_search_142 : decode cX12_search 142 = .ok (.iload_n 1, 1) := by decide +kernel
theorem dX12_search_143 : decode cX12_search 143 = .ok (.iconst 1, 1) := by decide +kernel
theorem dX12_search_144 : decode cX12_search 144 = .ok (.if_icmp .ne 7, 3) := by decide +kernel
theorem dX12_search_147 : decode cX12_search 147 = .ok (.iconst 0, 1) := by decide +kernel
theorem dX12_search_148 : decode cX12_search 148 = .ok (.goto 5, 3) := by decide +kernel
theorem dX12_search_151 : decode cX12_search 151 = .ok (.iload 4, 2) := by decide +kernel
theorem dX12_search_153 : decode cX12_search 153 = .ok (.invokevirtual 354, 3) := by decide +kernel
theorem dX12_search_156 : decode cX12_search 156 = .ok (.aload_n 0, 1) := by decide +kernel
theorem dX12_search_157 : decode cX12_search 157 = .ok (.invokevirtual 357, 3) := by decide +kernel
theorem dX12_search_160 : decode cX12_search 160 = .ok (.aload_n 0, 1) := by decide +kernel
theorem dX12_search_161 : decode cX12_search 161 = .ok (.getfield 128, 3) := by decide +kernel
theorem dX12_search_164 : decode cX12_search 164 = .ok (.iconst 4, 1) := by decide +kernel
theorem dX12_search_165 : decode cX12_search 165 = .ok (.dup2, 1) := by decide +kernel
theorem dX12_search_166 : decode cX12_search 166 = .ok (.iaload, 1) := by decide +kernel
theorem dX12_search_167 : decode cX12_search 167 = .ok (.iconst 1, 1) := by decide +kernel
theorem dX12_search_168 : decode cX12_search 168 = .ok (.iadd, 1) := by decide +kernel
theorem dX12_search_169 : decode cX12_search 169 = .ok (.iastore, 1) := by decide +kernel
theorem dX12_search_170 : decode cX12_search 170 = .ok (.aload_n 0, 1) := by decide +kernel
theorem dX12_search_171 : decode cX12_search 171 = .ok (.getfield 245, 3) := by decide +kernel
theorem dX12_search_174 : decode cX12_search 174 = .ok (.iconst 5, 1) := by decide +kernel
theorem dX12_search_175 : decode cX12_search 175 = .ok (.if_icmp .ne 46, 3) := by decide +kernel
theorem dX12_search_178 : decode cX12_search 178 = .ok (.iconst 0, 1) := by decide +kernel
theorem dX12_search_179 : decode cX12_search 179 = .ok (.istore 5, 2) := by decide +kernel
theorem dX12_search_181 : decode cX12_search 181 = .ok (.iload 5, 2) := by decide +kernel
theorem dX12_search_183 : decode cX12_search 183 = .ok (.aload_n 0, 1) := by decide +kernel
theorem dX12_search_184 : decode cX12_search 184 = .ok (.getfield 248, 3) := by decide +kernel
theorem dX12_search_187 : decode cX12_search 187 = .ok (.if_icmp .ge 31, 3) := by decide +kernel
theorem dX12_search_190 : decode cX12_search 190 = .ok (.aload_n 0, 1) := by decide +kernel
theorem dX12_search_191 : decode cX12_search 191 = .ok (.iload_n 1, 1) := by decide +kernel
theorem dX12_search_192 : decode cX12_search 192 = .ok (.ifCond .ne 15, 3) := by decide +kernel
theorem dX12_search_195 : decode cX12_search 195 = .ok (.aload_n 0, 1) := by decide +kernel
theorem dX12_search_196 : decode cX12_search 196 = .ok (.getfield 248, 3) := by decide +kernel
theorem dX12_search_199 : decode cX12_search 199 = .ok (.iconst 1, 1) := by decide +kernel
theorem dX12_search_200 : decode cX12_search 200 = .ok (.isub, 1) := by decide +kernel
theorem dX12_search_201 : decode cX12_search 201 = .ok (.iload 5, 2) := by decide +kernel
theorem dX12_search_203 : decode cX12_search 203 = .ok (.isub, 1) := by decide +kernel
theorem dX12_search_204 : decode cX12_search 204 = .ok (.goto 5, 3) := by decide +kernel
theorem dX12_search_207 : decode cX12_search 207 = .ok (.iload 5, 2) := by decide +kernel
theorem dX12_search_209 : decode cX12_search 209 = .ok (.invokevirtual 350, 3) := by decide +kernel
theorem dX12_search_212 : decode cX12_search 212 = .ok (.iinc 5 1, 3) := by decide +kernel
theorem dX12_search_215 : decode cX12_search 215 = .ok (.goto (-34), 3) := by decide +kernel
theorem dX12_search_218 : decode cX12_search 218 = .ok (.goto 39, 3) := by decide +kernel
theorem dX12_search_221 : decode cX12_search 221 = .ok (.aload_n 0, 1) := by decide +kernel
theorem dX12_search_222 : decode cX12_search 222 = .ok (.getfield 128, 3) := by decide +kernel
theorem dX12_search_225 : decode cX12_search 225 = .ok (.aload_n 0, 1) := by decide +kernel
theorem dX12_search_226 : decode cX12_search 226 = .ok (.getfield 245, 3) := by decide +kernel
theorem dX12_search_229 : decode cX12_search 229 = .ok (.iconst 1, 1) := by decide +kernel
theorem dX12_search_230 : decode cX12_search 230 = .ok (.isub, 1) := by decide +kernel
theorem dX12_search_231 : decode cX12_search 231 = .ok (.dup2, 1) := by decide +kernel
theorem dX12_search_232 : decode cX12_search 232 = .ok (.iaload, 1) := by decide +kernel
theorem dX12_search_233 : decode cX12_search 233 = .ok (.iconst 1, 1) := by decide +kernel
theorem dX12_search_234 : decode cX12_search 234 = .ok (.iadd, 1) := by decide +kernel
theorem dX12_search_235 : decode cX12_search 235 = .ok (.iastore, 1) := by decide +kernel
theorem dX12_search_236 : decode cX12_search 236 = .ok (.aload_n 0, 1) := by decide +kernel
theorem dX12_search_237 : decode cX12_search 237 = .ok (.getfield 245, 3) := by decide +kernel
theorem dX12_search_240 : decode cX12_search 240 = .ok (.iconst 1, 1) := by decide +kernel
theorem dX12_search_241 : decode cX12_search 241 = .ok (.if_icmp .ne 16, 3) := by decide +kernel
theorem dX12_search_244 : decode cX12_search 244 = .ok (.aload_n 0, 1) := by decide +kernel
theorem dX12_search_245 : decode cX12_search 245 = .ok (.getfield 224, 3) := by decide +kernel
theorem dX12_search_248 : decode cX12_search 248 = .ok (.bipush 10, 2) := by decide +kernel
theorem dX12_search_250 : decode cX12_search 250 = .ok (.if_icmp .ge 7, 3) := by decide +kernel
theorem dX12_search_253 : decode cX12_search 253 = .ok (.aload_n 0, 1) := by decide +kernel
theorem dX12_search_254 : decode cX12_search 254 = .ok (.invokevirtual 360, 3) := by decide +kernel
theorem dX12_search_257 : decode cX12_search 257 = .ok (.goto (-169), 3) := by decide +kernel
theorem dX12_search_260 : decode cX12_search 260 = .ok (.aload_n 0, 1) := by decide +kernel
theorem dX12_search_261 : decode cX12_search 261 = .ok (.getfield 128, 3) := by decide +kernel
theorem dX12_search_264 : decode cX12_search 264 = .ok (.iconst 5, 1) := by decide +kernel
theorem dX12_search_265 : decode cX12_search 265 = .ok (.aload_n 0, 1) := by decide +kernel
theorem dX12_search_266 : decode cX12_search 266 = .ok (.getfield 347, 3) := by decide +kernel
theorem dX12_search_269 : decode cX12_search 269 = .ok (.ifCond .ne 7, 3) := by decide +kernel
theorem dX12_search_272 : decode cX12_search 272 = .ok (.iconst 1, 1) := by decide +kernel
theorem dX12_search_273 : decode cX12_search 273 = .ok (.goto 4, 3) := by decide +kernel
theorem dX12_search_276 : decode cX12_search 276 = .ok (.iconst 0, 1) := by decide +kernel
theorem dX12_search_277 : decode cX12_search 277 = .ok (.iastore, 1) := by decide +kernel
theorem dX12_search_278 : decode cX12_search 278 = .ok (.aload_n 0, 1) := by decide +kernel
theorem dX12_search_279 : decode cX12_search 279 = .ok (.getfield 128, 3) := by decide +kernel
theorem dX12_search_282 : decode cX12_search 282 = .ok (.iconst 0, 1) := by decide +kernel
theorem dX12_search_283 : decode cX12_search 283 = .ok (.iaload, 1) := by decide +kernel
theorem dX12_search_284 : decode cX12_search 284 = .ok (.ireturn, 1) := by decide +kernel
theorem dX12_count_0 : decode cX12_count 0 = .ok (.aload_n 0, 1) := by decide +kernel
theorem dX12_count_1 : decode cX12_count 1 = .ok (.iload_n 1, 1) := by decide +kernel
theorem dX12_count_2 : decode cX12_count 2 = .ok (.iconst 0, 1) := by decide +kernel
theorem dX12_count_3 : decode cX12_count 3 = .ok (.iconst 5, 1) := by decide +kernel
theorem dX12_count_4 : decode cX12_count 4 = .ok (.invokestatic 154, 3) := by decide +kernel
theorem dX12_count_7 : decode cX12_count 7 = .ok (.ifCond .eq 7, 3) := by decide +kernel
theorem dX12_count_10 : decode cX12_count 10 = .ok (.iconst 0, 1) := by decide +kernel
theorem dX12_count_11 : decode cX12_count 11 = .ok (.goto 4, 3) := by decide +kernel
theorem dX12_count_14 : decode cX12_count 14 = .ok (.iconst 1, 1) := by decide +kernel
theorem dX12_count_15 : decode cX12_count 15 = .ok (.putfield 147, 3) := by decide +kernel
theorem dX12_count_18 : decode cX12_count 18 = .ok (.aload_n 0, 1) := by decide +kernel
theorem dX12_count_19 : decode cX12_count 19 = .ok (.getfield 147, 3) := by decide +kernel
theorem dX12_count_22 : decode cX12_count 22 = .ok (.ifCond .ne 12, 3) := by decide +kernel
theorem dX12_count_25 : decode cX12_count 25 = .ok (.aload_n 0, 1) := by decide +kernel
theorem dX12_count_26 : decode cX12_count 26 = .ok (.getfield 128, 3) := by decide +kernel
theorem dX12_count_29 : decode cX12_count 29 = .ok (.iload_n 1, 1) := by decide +kernel
theorem dX12_count_30 : decode cX12_count 30 = .ok (.iaload, 1) := by decide +kernel
theorem dX12_count_31 : decode cX12_count 31 = .ok (.goto 4, 3) := by decide +kernel
theorem dX12_count_34 : decode cX12_count 34 = .ok (.iconst 0, 1) := by decide +kernel
theorem dX12_count_35 : decode cX12_count 35 = .ok (.ireturn, 1) := by decide +kernel
theorem dX12_isValue_0 : decode cX12_isValue 0 = .ok (.iload_n 1, 1) := by decide +kernel
theorem dX12_isValue_1 : decode cX12_isValue 1 = .ok (.iconst 0, 1) := by decide +kernel
theorem dX12_isValue_2 : decode cX12_isValue 2 = .ok (.aload_n 0, 1) := by decide +kernel
theorem dX12_isValue_3 : decode cX12_isValue 3 = .ok (.getfield 224, 3) := by decide +kernel
theorem dX12_isValue_6 : decode cX12_isValue 6 = .ok (.iconst 1, 1) := by decide +kernel
theorem dX12_isValue_7 : decode cX12_isValue 7 = .ok (.isub, 1) := by decide +kernel
theorem dX12_isValue_8 : decode cX12_isValue 8 = .ok (.invokestatic 154, 3) := by decide +kernel
theorem dX12_isValue_11 : decode cX12_isValue 11 = .ok (.ireturn, 1) := by decide +kernel
theorem dX12_told_0 : decode cX12_told 0 = .ok (.iload_n 2, 1) := by decide +kernel
theorem dX12_told_1 : decode cX12_told 1 = .ok (.aload_n 0, 1) := by decide +kernel
theorem dX12_told_2 : decode cX12_told 2 = .ok (.getfield 113, 3) := by decide +kernel
theorem dX12_told_5 : decode cX12_told 5 = .ok (.iload_n 1, 1) := by decide +kernel
theorem dX12_told_6 : decode cX12_told 6 = .ok (.iaload, 1) := by decide +kernel
theorem dX12_told_7 : decode cX12_told 7 = .ok (.if_icmp .ge 17, 3) := by decide +kernel
theorem dX12_told_10 : decode cX12_told 10 = .ok (.aload_n 0, 1) := by decide +kernel
theorem dX12_told_11 : decode cX12_told 11 = .ok (.getfield 116, 3) := by decide +kernel
theorem dX12_told_14 : decode cX12_told 14 = .ok (.bipush 40, 2) := by decide +kernel
theorem dX12_told_16 : decode cX12_told 16 = .ok (.iload_n 1, 1) := by decide +kernel
theorem dX12_told_17 : decode cX12_told 17 = .ok (.imul, 1) := by decide +kernel
theorem dX12_told_18 : decode cX12_told 18 = .ok (.iload_n 2, 1) := by decide +kernel
theorem dX12_told_19 : decode cX12_told 19 = .ok (.iadd, 1) := by decide +kernel
theorem dX12_told_20 : decode cX12_told 20 = .ok (.iaload, 1) := by decide +kernel
theorem dX12_told_21 : decode cX12_told 21 = .ok (.goto 4, 3) := by decide +kernel
theorem dX12_told_24 : decode cX12_told 24 = .ok (.iconst (-1), 1) := by decide +kernel
theorem dX12_told_25 : decode cX12_told 25 = .ok (.ireturn, 1) := by decide +kernel
theorem dX12_part_0 : decode cX12_part 0 = .ok (.aload_n 0, 1) := by decide +kernel
theorem dX12_part_1 : decode cX12_part 1 = .ok (.aload_n 0, 1) := by decide +kernel
theorem dX12_part_2 : decode cX12_part 2 = .ok (.iload_n 1, 1) := by decide +kernel
theorem dX12_part_3 : decode cX12_part 3 = .ok (.invokevirtual 363, 3) := by decide +kernel
theorem dX12_part_6 : decode cX12_part 6 = .ok (.ifCond .eq 11, 3) := by decide +kernel
theorem dX12_part_9 : decode cX12_part 9 = .ok (.iload_n 2, 1) := by decide +kernel
theorem dX12_part_10 : decode cX12_part 10 = .ok (.ifCond .lt 7, 3) := by decide +kernel
theorem dX12_part_13 : decode cX12_part 13 = .ok (.iconst 0, 1) := by decide +kernel
theorem dX12_part_14 : decode cX12_part 14 = .ok (.goto 4, 3) := by decide +kernel
theorem dX12_part_17 : decode cX12_part 17 = .ok (.iconst 1, 1) := by decide +kernel
theorem dX12_part_18 : decode cX12_part 18 = .ok (.putfield 147, 3) := by decide +kernel
theorem dX12_part_21 : decode cX12_part 21 = .ok (.aload_n 0, 1) := by decide +kernel
theorem dX12_part_22 : decode cX12_part 22 = .ok (.getfield 147, 3) := by decide +kernel
theorem dX12_part_25 : decode cX12_part 25 = .ok (.ifCond .ne 15, 3) := by decide +kernel
theorem dX12_part_28 : decode cX12_part 28 = .ok (.aload_n 0, 1) := by decide +kernel
theorem dX12_part_29 : decode cX12_part 29 = .ok (.bipush 7, 2) := by decide +kernel
theorem dX12_part_31 : decode cX12_part 31 = .ok (.iload_n 1, 1) := by decide +kernel
theorem dX12_part_32 : decode cX12_part 32 = .ok (.imul, 1) := by decide +kernel
theorem dX12_part_33 : decode cX12_part 33 = .ok (.iload_n 2, 1) := by decide +kernel
theorem dX12_part_34 : decode cX12_part 34 = .ok (.invokevirtual 366, 3) := by decide +kernel
theorem dX12_part_37 : decode cX12_part 37 = .ok (.goto 4, 3) := by decide +kernel
theorem dX12_part_40 : decode cX12_part 40 = .ok (.iconst 0, 1) := by decide +kernel
theorem dX12_part_41 : decode cX12_part 41 = .ok (.ireturn, 1) := by decide +kernel
theorem dX12_bound_0 : decode cX12_bound 0 = .ok (.aload_n 0, 1) := by decide +kernel
theorem dX12_bound_1 : decode cX12_bound 1 = .ok (.aload_n 0, 1) := by decide +kernel
theorem dX12_bound_2 : decode cX12_bound 2 = .ok (.iload_n 1, 1) := by decide +kernel
theorem dX12_bound_3 : decode cX12_bound 3 = .ok (.invokevirtual 363, 3) := by decide +kernel
theorem dX12_bound_6 : decode cX12_bound 6 = .ok (.ifCond .eq 20, 3) := by decide +kernel
theorem dX12_bound_9 : decode cX12_bound 9 = .ok (.iload_n 2, 1) := by decide +kernel
theorem dX12_bound_10 : decode cX12_bound 10 = .ok (.iconst 0, 1) := by decide +kernel
theorem dX12_bound_11 : decode cX12_bound 11 = .ok (.iconst 5, 1) := by decide +kernel
theorem dX12_bound_12 : decode cX12_bound 12 = .ok (.invokestatic 154, 3) := by decide +kernel
theorem dX12_bound_15 : decode cX12_bound 15 = .ok (.ifCond .eq 11, 3) := by decide +kernel
theorem dX12_bound_18 : decode cX12_bound 18 = .ok (.iload_n 3, 1) := by decide +kernel
theorem dX12_bound_19 : decode cX12_bound 19 = .ok (.ifCond .lt 7, 3) := by decide +kernel
theorem dX12_bound_22 : decode cX12_bound 22 = .ok (.iconst 0, 1) := by decide +kernel
theorem dX12_bound_23 : decode cX12_bound 23 = .ok (.goto 4, 3) := by decide +kernel
theorem dX12_bound_26 : decode cX12_bound 26 = .ok (.iconst 1, 1) := by decide +kernel
theorem dX12_bound_27 : decode cX12_bound 27 = .ok (.putfield 147, 3) := by decide +kernel
theorem dX12_bound_30 : decode cX12_bound 30 = .ok (.aload_n 0, 1) := by decide +kernel
theorem dX12_bound_31 : decode cX12_bound 31 = .ok (.getfield 147, 3) := by decide +kernel
theorem dX12_bound_34 : decode cX12_bound 34 = .ok (.ifCond .ne 19, 3) := by decide +kernel
theorem dX12_bound_37 : decode cX12_bound 37 = .ok (.aload_n 0, 1) := by decide +kernel
theorem dX12_bound_38 : decode cX12_bound 38 = .ok (.bipush 7, 2) := by decide +kernel
theorem dX12_bound_40 : decode cX12_bound 40 = .ok (.iload_n 1, 1) := by decide +kernel
theorem dX12_bound_41 : decode cX12_bound 41 = .ok (.imul, 1) := by decide +kernel
theorem dX12_bound_42 : decode cX12_bound 42 = .ok (.iconst 1, 1) := by decide +kernel
theorem dX12_bound_43 : decode cX12_bound 43 = .ok (.iadd, 1) := by decide +kernel
theorem dX12_bound_44 : decode cX12_bound 44 = .ok (.iload_n 2, 1) := by decide +kernel
theorem dX12_bound_45 : decode cX12_bound 45 = .ok (.iadd, 1) := by decide +kernel
theorem dX12_bound_46 : decode cX12_bound 46 = .ok (.iload_n 3, 1) := by decide +kernel
theorem dX12_bound_47 : decode cX12_bound 47 = .ok (.invokevirtual 366, 3) := by decide +kernel
theorem dX12_bound_50 : decode cX12_bound 50 = .ok (.goto 4, 3) := by decide +kernel
theorem dX12_bound_53 : decode cX12_bound 53 = .ok (.iconst 0, 1) := by decide +kernel
theorem dX12_bound_54 : decode cX12_bound 54 = .ok (.ireturn, 1) := by decide +kernel
theorem dX12_steps_0 : decode cX12_steps 0 = .ok (.aload_n 0, 1) := by decide +kernel
theorem dX12_steps_1 : decode cX12_steps 1 = .ok (.aload_n 0, 1) := by decide +kernel
theorem dX12_steps_2 : decode cX12_steps 2 = .ok (.iload_n 1, 1) := by decide +kernel
theorem dX12_steps_3 : decode cX12_steps 3 = .ok (.invokevirtual 363, 3) := by decide +kernel
theorem dX12_steps_6 : decode cX12_steps 6 = .ok (.ifCond .eq 7, 3) := by decide +kernel
theorem dX12_steps_9 : decode cX12_steps 9 = .ok (.iconst 0, 1) := by decide +kernel
theorem dX12_steps_10 : decode cX12_steps 10 = .ok (.goto 4, 3) := by decide +kernel
theorem dX12_steps_13 : decode cX12_steps 13 = .ok (.iconst 1, 1) := by decide +kernel
theorem dX12_steps_14 : decode cX12_steps 14 = .ok (.putfield 147, 3) := by decide +kernel
theorem dX12_steps_17 : decode cX12_steps 17 = .ok (.aload_n 0, 1) := by decide +kernel
theorem dX12_steps_18 : decode cX12_steps 18 = .ok (.getfield 147, 3) := by decide +kernel
theorem dX12_steps_21 : decode cX12_steps 21 = .ok (.ifCond .ne 12, 3) := by decide +kernel
theorem dX12_steps_24 : decode cX12_steps 24 = .ok (.aload_n 0, 1) := by decide +kernel
theorem dX12_steps_25 : decode cX12_steps 25 = .ok (.getfield 119, 3) := by decide +kernel
theorem dX12_steps_28 : decode cX12_steps 28 = .ok (.iload_n 1, 1) := by decide +kernel
theorem dX12_steps_29 : decode cX12_steps 29 = .ok (.iaload, 1) := by decide +kernel
theorem dX12_steps_30 : decode cX12_steps 30 = .ok (.goto 4, 3) := by decide +kernel
theorem dX12_steps_33 : decode cX12_steps 33 = .ok (.iconst 0, 1) := by decide +kernel
theorem dX12_steps_34 : decode cX12_steps 34 = .ok (.ireturn, 1) := by decide +kernel
theorem dX12_fate_0 : decode cX12_fate 0 = .ok (.aload_n 0, 1) := by decide +kernel
theorem dX12_fate_1 : decode cX12_fate 1 = .ok (.aload_n 0, 1) := by decide +kernel
theorem dX12_fate_2 : decode cX12_fate 2 = .ok (.iload_n 1, 1) := by decide +kernel
theorem dX12_fate_3 : decode cX12_fate 3 = .ok (.invokevirtual 363, 3) := by decide +kernel
theorem dX12_fate_6 : decode cX12_fate 6 = .ok (.ifCond .eq 11, 3) := by decide +kernel
theorem dX12_fate_9 : decode cX12_fate 9 = .ok (.iload_n 2, 1) := by decide +kernel
theorem dX12_fate_10 : decode cX12_fate 10 = .ok (.ifCond .lt 7, 3) := by decide +kernel
theorem dX12_fate_13 : decode cX12_fate 13 = .ok (.iconst 0, 1) := by decide +kernel
theorem dX12_fate_14 : decode cX12_fate 14 = .ok (.goto 4, 3) := by decide +kernel
theorem dX12_fate_17 : decode cX12_fate 17 = .ok (.iconst 1, 1) := by decide +kernel
theorem dX12_fate_18 : decode cX12_fate 18 = .ok (.putfield 147, 3) := by decide +kernel
theorem dX12_fate_21 : decode cX12_fate 21 = .ok (.aload_n 0, 1) := by decide +kernel
theorem dX12_fate_22 : decode cX12_fate 22 = .ok (.getfield 147, 3) := by decide +kernel
theorem dX12_fate_25 : decode cX12_fate 25 = .ok (.ifCond .le 7, 3) := by decide +kernel
theorem dX12_fate_28 : decode cX12_fate 28 = .ok (.iconst 0, 1) := by decide +kernel
theorem dX12_fate_29 : decode cX12_fate 29 = .ok (.goto 28, 3) := by decide +kernel
theorem dX12_fate_32 : decode cX12_fate 32 = .ok (.iload_n 2, 1) := by decide +kernel
theorem dX12_fate_33 : decode cX12_fate 33 = .ok (.aload_n 0, 1) := by decide +kernel
theorem dX12_fate_34 : decode cX12_fate 34 = .ok (.getfield 122, 3) := by decide +kernel
theorem dX12_fate_37 : decode cX12_fate 37 = .ok (.iload_n 1, 1) := by decide +kernel
theorem dX12_fate_38 : decode cX12_fate 38 = .ok (.iaload, 1) := by decide +kernel
theorem dX12_fate_39 : decode cX12_fate 39 = .ok (.if_icmp .ge 17, 3) := by decide +kernel
theorem dX12_fate_42 : decode cX12_fate 42 = .ok (.aload_n 0, 1) := by decide +kernel
theorem dX12_fate_43 : decode cX12_fate 43 = .ok (.getfield 125, 3) := by decide +kernel
theorem dX12_fate_46 : decode cX12_fate 46 = .ok (.bipush 40, 2) := by decide +kernel
theorem dX12_fate_48 : decode cX12_fate 48 = .ok (.iload_n 1, 1) := by decide +kernel
theorem dX12_fate_49 : decode cX12_fate 49 = .ok (.imul, 1) := by decide +kernel
theorem dX12_fate_50 : decode cX12_fate 50 = .ok (.iload_n 2, 1) := by decide +kernel
theorem dX12_fate_51 : decode cX12_fate 51 = .ok (.iadd, 1) := by decide +kernel
theorem dX12_fate_52 : decode cX12_fate 52 = .ok (.iaload, 1) := by decide +kernel
theorem dX12_fate_53 : decode cX12_fate 53 = .ok (.goto 4, 3) := by decide +kernel
theorem dX12_fate_56 : decode cX12_fate 56 = .ok (.iconst (-1), 1) := by decide +kernel
theorem dX12_fate_57 : decode cX12_fate 57 = .ok (.ireturn, 1) := by decide +kernel
theorem dX12_within_0 : decode cX12_within 0 = .ok (.aload_n 0, 1) := by decide +kernel
theorem dX12_within_1 : decode cX12_within 1 = .ok (.iload_n 1, 1) := by decide +kernel
theorem dX12_within_2 : decode cX12_within 2 = .ok (.iconst 0, 1) := by decide +kernel
theorem dX12_within_3 : decode cX12_within 3 = .ok (.bipush 10, 2) := by decide +kernel
theorem dX12_within_5 : decode cX12_within 5 = .ok (.invokestatic 154, 3) := by decide +kernel
theorem dX12_within_8 : decode cX12_within 8 = .ok (.ifCond .ne 7, 3) := by decide +kernel
theorem dX12_within_11 : decode cX12_within 11 = .ok (.iconst 1, 1) := by decide +kernel
theorem dX12_within_12 : decode cX12_within 12 = .ok (.goto 15, 3) := by decide +kernel
theorem dX12_within_15 : decode cX12_within 15 = .ok (.aload_n 0, 1) := by decide +kernel
theorem dX12_within_16 : decode cX12_within 16 = .ok (.getfield 220, 3) := by decide +kernel
theorem dX12_within_19 : decode cX12_within 19 = .ok (.ifCond .ne 7, 3) := by decide +kernel
theorem dX12_within_22 : decode cX12_within 22 = .ok (.iconst 2, 1) := by decide +kernel
theorem dX12_within_23 : decode cX12_within 23 = .ok (.goto 4, 3) := by decide +kernel
theorem dX12_within_26 : decode cX12_within 26 = .ok (.iconst 0, 1) := by decide +kernel
theorem dX12_within_27 : decode cX12_within 27 = .ok (.putfield 147, 3) := by decide +kernel
theorem dX12_within_30 : decode cX12_within 30 = .ok (.aload_n 0, 1) := by decide +kernel
theorem dX12_within_31 : decode cX12_within 31 = .ok (.getfield 147, 3) := by decide +kernel
theorem dX12_within_34 : decode cX12_within 34 = .ok (.ifCond .le 5, 3) := by decide +kernel
theorem dX12_within_37 : decode cX12_within 37 = .ok (.iconst 0, 1) := by decide +kernel
theorem dX12_within_38 : decode cX12_within 38 = .ok (.ireturn, 1) := by decide +kernel
theorem dX12_within_39 : decode cX12_within 39 = .ok (.iconst 0, 1) := by decide +kernel
theorem dX12_within_40 : decode cX12_within 40 = .ok (.istore_n 2, 1) := by decide +kernel
theorem dX12_within_41 : decode cX12_within 41 = .ok (.iconst 0, 1) := by decide +kernel
theorem dX12_within_42 : decode cX12_within 42 = .ok (.istore_n 3, 1) := by decide +kernel
theorem dX12_within_43 : decode cX12_within 43 = .ok (.iconst 0, 1) := by decide +kernel
theorem dX12_within_44 : decode cX12_within 44 = .ok (.istore 4, 2) := by decide +kernel
theorem dX12_within_46 : decode cX12_within 46 = .ok (.iconst 1, 1) := by decide +kernel
theorem dX12_within_47 : decode cX12_within 47 = .ok (.istore 5, 2) := by decide +kernel
theorem dX12_within_49 : decode cX12_within 49 = .ok (.iload 5, 2) := by decide +kernel
theorem dX12_within_51 : decode cX12_within 51 = .ok (.ifCond .eq 149, 3) := by decide +kernel
theorem dX12_within_54 : decode cX12_within 54 = .ok (.aload_n 0, 1) := by decide +kernel
theorem dX12_within_55 : decode cX12_within 55 = .ok (.getfield 83, 3) := by decide +kernel
theorem dX12_within_58 : decode cX12_within 58 = .ok (.iconst 0, 1) := by decide +kernel
theorem dX12_within_59 : decode cX12_within 59 = .ok (.iload 4, 2) := by decide +kernel
theorem dX12_within_61 : decode cX12_within 61 = .ok (.iastore, 1) := by decide +kernel
theorem dX12_within_62 : decode cX12_within 62 = .ok (.aload_n 0, 1) := by decide +kernel
theorem dX12_within_63 : decode cX12_within 63 = .ok (.invokevirtual 357, 3) := by decide +kernel
theorem dX12_within_66 : decode cX12_within 66 = .ok (.iinc 2 1, 3) := by decide +kernel
theorem dX12_within_69 : decode cX12_within 69 = .ok (.iload_n 2, 1) := by decide +kernel
theorem dX12_within_70 : decode cX12_within 70 = .ok (.sipush 600, 3) := by decide +kernel
theorem dX12_within_73 : decode cX12_within 73 = .ok (.if_icmp .ne 5, 3) := by decide +kernel
theorem dX12_within_76 : decode cX12_within 76 = .ok (.iconst (-1), 1) := by decide +kernel
theorem dX12_within_77 : decode cX12_within 77 = .ok (.ireturn, 1) := by decide +kernel
theorem dX12_within_78 : decode cX12_within 78 = .ok (.iload_n 3, 1) := by decide +kernel
theorem dX12_within_79 : decode cX12_within 79 = .ok (.aload_n 0, 1) := by decide +kernel
theorem dX12_within_80 : decode cX12_within 80 = .ok (.getfield 245, 3) := by decide +kernel
theorem dX12_within_83 : decode cX12_within 83 = .ok (.iconst 1, 1) := by decide +kernel
theorem dX12_within_84 : decode cX12_within 84 = .ok (.if_icmp .ne 7, 3) := by decide +kernel
theorem dX12_within_87 : decode cX12_within 87 = .ok (.iconst 1, 1) := by decide +kernel
theorem dX12_within_88 : decode cX12_within 88 = .ok (.goto 4, 3) := by decide +kernel
theorem dX12_within_91 : decode cX12_within 91 = .ok (.iconst 0, 1) := by decide +kernel
theorem dX12_within_92 : decode cX12_within 92 = .ok (.iadd, 1) := by decide +kernel
theorem dX12_within_93 : decode cX12_within 93 = .ok (.istore_n 3, 1) := by decide +kernel
theorem dX12_within_94 : decode cX12_within 94 = .ok (.aload_n 0, 1) := by decide +kernel
theorem dX12_within_95 : decode cX12_within 95 = .ok (.getfield 245, 3) := by decide +kernel
theorem dX12_within_98 : decode cX12_within 98 = .ok (.iconst 5, 1) := by decide +kernel
theorem dX12_within_99 : decode cX12_within 99 = .ok (.if_icmp .ne 34, 3) := by decide +kernel
theorem dX12_within_102 : decode cX12_within 102 = .ok (.iload 4, 2) := by decide +kernel
theorem dX12_within_104 : decode cX12_within 104 = .ok (.iload_n 1, 1) := by decide +kernel
theorem dX12_within_105 : decode cX12_within 105 = .ok (.if_icmp .ge 28, 3) := by decide +kernel
theorem dX12_within_108 : decode cX12_within 108 = .ok (.aload_n 0, 1) := by decide +kernel
theorem dX12_within_109 : decode cX12_within 109 = .ok (.getfield 144, 3) := by decide +kernel
theorem dX12_within_112 : decode cX12_within 112 = .ok (.iload 4, 2) := by decide +kernel
theorem dX12_within_114 : decode cX12_within 114 = .ok (.aload_n 0, 1) := by decide +kernel
theorem dX12_within_115 : decode cX12_within 115 = .ok (.getfield 248, 3) := by decide +kernel
theorem dX12_within_118 : decode cX12_within 118 = .ok (.iastore, 1) := by decide +kernel
theorem dX12_within_119 : decode cX12_within 119 = .ok (.aload_n 0, 1) := by decide +kernel
theorem dX12_within_120 : decode cX12_within 120 = .ok (.getfield 89, 3) := by decide +kernel
theorem dX12_within_123 : decode cX12_within 123 = .ok (.iload 4, 2) := by decide +kernel
theorem dX12_within_125 : decode cX12_within 125 = .ok (.iconst 0, 1) := by decide +kernel
theorem dX12_within_126 : decode cX12_within 126 = .ok (.iastore, 1) := by decide +kernel
theorem dX12_within_127 : decode cX12_within 127 = .ok (.iinc 4 1, 3) := by decide +kernel
theorem dX12_within_130 : decode cX12_within 130 = .ok (.goto (-81), 3) := by decide +kernel
theorem dX12_within_133 : decode cX12_within 133 = .ok (.iload 4, 2) := by decide +kernel
theorem dX12_within_135 : decode cX12_within 135 = .ok (.ifCond .le 32, 3) := by decide +kernel
theorem dX12_within_138 : decode cX12_within 138 = .ok (.aload_n 0, 1) := by decide +kernel
theorem dX12_within_139 : decode cX12_within 139 = .ok (.getfield 89, 3) := by decide +kernel
theorem dX12_within_142 : decode cX12_within 142 = .ok (.iload 4, 2) := by decide +kernel
theorem dX12_within_144 : decode cX12_within 144 = .ok (.iconst 1, 1) := by decide +kernel
theorem dX12_within_145 : decode cX12_within 145 = .ok (.isub, 1) := by decide +kernel
theorem dX12_within_146 : decode cX12_within 146 = .ok (.iaload, 1) := by decide +kernel
theorem dX12_within_147 : decode cX12_within 147 = .ok (.iconst 1, 1) := by decide +kernel
theorem dX12_within_148 : decode cX12_within 148 = .ok (.iadd, 1) := by decide +kernel
theorem dX12_within_149 : decode cX12_within 149 = .ok (.aload_n 0, 1) := by decide +kernel
theorem dX12_within_150 : decode cX12_within 150 = .ok (.getfield 144, 3) := by decide +kernel
theorem dX12_within_153 : decode cX12_within 153 = .ok (.iload 4, 2) := by decide +kernel
theorem dX12_within_155 : decode cX12_within 155 = .ok (.iconst 1, 1) := by decide +kernel
theorem dX12_within_156 : decode cX12_within 156 = .ok (.isub, 1) := by decide +kernel
theorem dX12_within_157 : decode cX12_within 157 = .ok (.iaload, 1) := by decide +kernel
theorem dX12_within_158 : decode cX12_within 158 = .ok (.if_icmp .ne 9, 3) := by decide +kernel
theorem dX12_within_161 : decode cX12_within 161 = .ok (.iinc 4 (-1), 3) := by decide +kernel
theorem dX12_within_164 : decode cX12_within 164 = .ok (.goto (-31), 3) := by decide +kernel
theorem dX12_within_167 : decode cX12_within 167 = .ok (.iload 4, 2) := by decide +kernel
theorem dX12_within_169 : decode cX12_within 169 = .ok (.ifCond .le 7, 3) := by decide +kernel
theorem dX12_within_172 : decode cX12_within 172 = .ok (.iconst 1, 1) := by decide +kernel
theorem dX12_within_173 : decode cX12_within 173 = .ok (.goto 4, 3) := by decide +kernel
theorem dX12_within_176 : decode cX12_within 176 = .ok (.iconst 0, 1) := by decide +kernel
theorem dX12_within_177 : decode cX12_within 177 = .ok (.istore 5, 2) := by decide +kernel
theorem dX12_within_179 : decode cX12_within 179 = .ok (.iload 5, 2) := by decide +kernel
theorem dX12_within_181 : decode cX12_within 181 = .ok (.ifCond .eq (-132), 3) := by decide +kernel
theorem dX12_within_184 : decode cX12_within 184 = .ok (.aload_n 0, 1) := by decide +kernel
theorem dX12_within_185 : decode cX12_within 185 = .ok (.getfield 89, 3) := by decide +kernel
theorem dX12_within_188 : decode cX12_within 188 = .ok (.iload 4, 2) := by decide +kernel
theorem dX12_within_190 : decode cX12_within 190 = .ok (.iconst 1, 1) := by decide +kernel
theorem dX12_within_191 : decode cX12_within 191 = .ok (.isub, 1) := by decide +kernel
theorem dX12_within_192 : decode cX12_within 192 = .ok (.dup2, 1) := by decide +kernel
theorem dX12_within_193 : decode cX12_within 193 = .ok (.iaload, 1) := by decide +kernel
theorem dX12_within_194 : decode cX12_within 194 = .ok (.iconst 1, 1) := by decide +kernel
theorem dX12_within_195 : decode cX12_within 195 = .ok (.iadd, 1) := by decide +kernel
theorem dX12_within_196 : decode cX12_within 196 = .ok (.iastore, 1) := by decide +kernel
theorem dX12_within_197 : decode cX12_within 197 = .ok (.goto (-148), 3) := by decide +kernel
theorem dX12_within_200 : decode cX12_within 200 = .ok (.iload_n 3, 1) := by decide +kernel
theorem dX12_within_201 : decode cX12_within 201 = .ok (.ireturn, 1) := by decide +kernel

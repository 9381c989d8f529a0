theorem dX0_init_0 : decode cX0_init 0 = .ok (.aload_n 0, 1) := by decide +kernel
theorem dX0_init_1 : decode cX0_init 1 = .ok (.invokespecial 3, 3) := by decide +kernel
theorem dX0_init_4 : decode cX0_init 4 = .ok (.aload_n 0, 1) := by decide +kernel
theorem dX0_init_5 : decode cX0_init 5 = .ok (.aload_n 1, 1) := by decide +kernel
theorem dX0_init_6 : decode cX0_init 6 = .ok (.iload_n 2, 1) := by decide +kernel
theorem dX0_init_7 : decode cX0_init 7 = .ok (.invokevirtual 9, 3) := by decide +kernel
theorem dX0_init_10 : decode cX0_init 10 = .ok (.putfield 15, 3) := by decide +kernel
theorem dX0_init_13 : decode cX0_init 13 = .ok (.aload_n 0, 1) := by decide +kernel
theorem dX0_init_14 : decode cX0_init 14 = .ok (.aload_n 0, 1) := by decide +kernel
theorem dX0_init_15 : decode cX0_init 15 = .ok (.getfield 15, 3) := by decide +kernel
theorem dX0_init_18 : decode cX0_init 18 = .ok (.newarray .int, 2) := by decide +kernel
theorem dX0_init_20 : decode cX0_init 20 = .ok (.putfield 21, 3) := by decide +kernel
theorem dX0_init_23 : decode cX0_init 23 = .ok (.aload_n 0, 1) := by decide +kernel
theorem dX0_init_24 : decode cX0_init 24 = .ok (.aload_n 0, 1) := by decide +kernel
theorem dX0_init_25 : decode cX0_init 25 = .ok (.getfield 15, 3) := by decide +kernel
theorem dX0_init_28 : decode cX0_init 28 = .ok (.newarray .int, 2) := by decide +kernel
theorem dX0_init_30 : decode cX0_init 30 = .ok (.putfield 25, 3) := by decide +kernel
theorem dX0_init_33 : decode cX0_init 33 = .ok (.aload_n 0, 1) := by decide +kernel
theorem dX0_init_34 : decode cX0_init 34 = .ok (.aload_n 0, 1) := by decide +kernel
theorem dX0_init_35 : decode cX0_init 35 = .ok (.getfield 15, 3) := by decide +kernel
theorem dX0_init_38 : decode cX0_init 38 = .ok (.newarray .int, 2) := by decide +kernel
theorem dX0_init_40 : decode cX0_init 40 = .ok (.putfield 28, 3) := by decide +kernel
theorem dX0_init_43 : decode cX0_init 43 = .ok (.aload_n 0, 1) := by decide +kernel
theorem dX0_init_44 : decode cX0_init 44 = .ok (.aload_n 0, 1) := by decide +kernel
theorem dX0_init_45 : decode cX0_init 45 = .ok (.getfield 15, 3) := by decide +kernel
theorem dX0_init_48 : decode cX0_init 48 = .ok (.newarray .int, 2) := by decide +kernel
theorem dX0_init_50 : decode cX0_init 50 = .ok (.putfield 31, 3) := by decide +kernel
theorem dX0_init_53 : decode cX0_init 53 = .ok (.aload_n 0, 1) := by decide +kernel
theorem dX0_init_54 : decode cX0_init 54 = .ok (.aload_n 0, 1) := by decide +kernel
theorem dX0_init_55 : decode cX0_init 55 = .ok (.getfield 15, 3) := by decide +kernel
theorem dX0_init_58 : decode cX0_init 58 = .ok (.newarray .int, 2) := by decide +kernel
theorem dX0_init_60 : decode cX0_init 60 = .ok (.putfield 34, 3) := by decide +kernel
theorem dX0_init_63 : decode cX0_init 63 = .ok (.aload_n 0, 1) := by decide +kernel
theorem dX0_init_64 : decode cX0_init 64 = .ok (.aload_n 0, 1) := by decide +kernel
theorem dX0_init_65 : decode cX0_init 65 = .ok (.getfield 15, 3) := by decide +kernel
theorem dX0_init_68 : decode cX0_init 68 = .ok (.newarray .int, 2) := by decide +kernel
theorem dX0_init_70 : decode cX0_init 70 = .ok (.putfield 37, 3) := by decide +kernel
theorem dX0_init_73 : decode cX0_init 73 = .ok (.aload_n 0, 1) := by decide +kernel
theorem dX0_init_74 : decode cX0_init 74 = .ok (.getfield 15, 3) := by decide +kernel
theorem dX0_init_77 : decode cX0_init 77 = .ok (.newarray .int, 2) := by decide +kernel
theorem dX0_init_79 : decode cX0_init 79 = .ok (.astore_n 3, 1) := by decide +kernel
theorem dX0_init_80 : decode cX0_init 80 = .ok (.aload_n 0, 1) := by decide +kernel
theorem dX0_init_81 : decode cX0_init 81 = .ok (.getfield 15, 3) := by decide +kernel
theorem dX0_init_84 : decode cX0_init 84 = .ok (.ifCond .le 12, 3) := by decide +kernel
theorem dX0_init_87 : decode cX0_init 87 = .ok (.aload_n 3, 1) := by decide +kernel
theorem dX0_init_88 : decode cX0_init 88 = .ok (.aload_n 0, 1) := by decide +kernel
theorem dX0_init_89 : decode cX0_init 89 = .ok (.getfield 15, 3) := by decide +kernel
theorem dX0_init_92 : decode cX0_init 92 = .ok (.iconst 1, 1) := by decide +kernel
theorem dX0_init_93 : decode cX0_init 93 = .ok (.isub, 1) := by decide +kernel
theorem dX0_init_94 : decode cX0_init 94 = .ok (.iload_n 2, 1) := by decide +kernel
theorem dX0_init_95 : decode cX0_init 95 = .ok (.iastore, 1) := by decide +kernel
theorem dX0_init_96 : decode cX0_init 96 = .ok (.aload_n 0, 1) := by decide +kernel
theorem dX0_init_97 : decode cX0_init 97 = .ok (.getfield 15, 3) := by decide +kernel
theorem dX0_init_100 : decode cX0_init 100 = .ok (.iconst 1, 1) := by decide +kernel
theorem dX0_init_101 : decode cX0_init 101 = .ok (.isub, 1) := by decide +kernel
theorem dX0_init_102 : decode cX0_init 102 = .ok (.istore 4, 2) := by decide +kernel
theorem dX0_init_104 : decode cX0_init 104 = .ok (.iload 4, 2) := by decide +kernel
theorem dX0_init_106 : decode cX0_init 106 = .ok (.ifCond .lt 240, 3) := by decide +kernel
theorem dX0_init_109 : decode cX0_init 109 = .ok (.aload_n 3, 1) := by decide +kernel
theorem dX0_init_110 : decode cX0_init 110 = .ok (.iload 4, 2) := by decide +kernel
theorem dX0_init_112 : decode cX0_init 112 = .ok (.iaload, 1) := by decide +kernel
theorem dX0_init_113 : decode cX0_init 113 = .ok (.istore 5, 2) := by decide +kernel
theorem dX0_init_115 : decode cX0_init 115 = .ok (.aload_n 0, 1) := by decide +kernel
theorem dX0_init_116 : decode cX0_init 116 = .ok (.getfield 21, 3) := by decide +kernel
theorem dX0_init_119 : decode cX0_init 119 = .ok (.iload 4, 2) := by decide +kernel
theorem dX0_init_121 : decode cX0_init 121 = .ok (.aload_n 1, 1) := by decide +kernel
theorem dX0_init_122 : decode cX0_init 122 = .ok (.getfield 40, 3) := by decide +kernel
theorem dX0_init_125 : decode cX0_init 125 = .ok (.iload 5, 2) := by decide +kernel
theorem dX0_init_127 : decode cX0_init 127 = .ok (.iaload, 1) := by decide +kernel
theorem dX0_init_128 : decode cX0_init 128 = .ok (.iastore, 1) := by decide +kernel
theorem dX0_init_129 : decode cX0_init 129 = .ok (.aload_n 0, 1) := by decide +kernel
theorem dX0_init_130 : decode cX0_init 130 = .ok (.getfield 25, 3) := by decide +kernel
theorem dX0_init_133 : decode cX0_init 133 = .ok (.iload 4, 2) := by decide +kernel
theorem dX0_init_135 : decode cX0_init 135 = .ok (.aload_n 1, 1) := by decide +kernel
theorem dX0_init_136 : decode cX0_init 136 = .ok (.getfield 41, 3) := by decide +kernel
theorem dX0_init_139 : decode cX0_init 139 = .ok (.iload 5, 2) := by decide +kernel
theorem dX0_init_141 : decode cX0_init 141 = .ok (.iaload, 1) := by decide +kernel
theorem dX0_init_142 : decode cX0_init 142 = .ok (.iastore, 1) := by decide +kernel
theorem dX0_init_143 : decode cX0_init 143 = .ok (.aload_n 0, 1) := by decide +kernel
theorem dX0_init_144 : decode cX0_init 144 = .ok (.getfield 34, 3) := by decide +kernel
theorem dX0_init_147 : decode cX0_init 147 = .ok (.iload 4, 2) := by decide +kernel
theorem dX0_init_149 : decode cX0_init 149 = .ok (.iload 4, 2) := by decide +kernel
theorem dX0_init_151 : decode cX0_init 151 = .ok (.iconst 1, 1) := by decide +kernel
theorem dX0_init_152 : decode cX0_init 152 = .ok (.iadd, 1) := by decide +kernel
theorem dX0_init_153 : decode cX0_init 153 = .ok (.aload_n 1, 1) := by decide +kernel
theorem dX0_init_154 : decode cX0_init 154 = .ok (.getfield 42, 3) := by decide +kernel
theorem dX0_init_157 : decode cX0_init 157 = .ok (.iload 5, 2) := by decide +kernel
theorem dX0_init_159 : decode cX0_init 159 = .ok (.iaload, 1) := by decide +kernel
theorem dX0_init_160 : decode cX0_init 160 = .ok (.isub, 1) := by decide +kernel
theorem dX0_init_161 : decode cX0_init 161 = .ok (.iastore, 1) := by decide +kernel
theorem dX0_init_162 : decode cX0_init 162 = .ok (.aload_n 0, 1) := by decide +kernel
theorem dX0_init_163 : decode cX0_init 163 = .ok (.getfield 21, 3) := by decide +kernel
theorem dX0_init_166 : decode cX0_init 166 = .ok (.iload 4, 2) := by decide +kernel
theorem dX0_init_168 : decode cX0_init 168 = .ok (.iaload, 1) := by decide +kernel
theorem dX0_init_169 : decode cX0_init 169 = .ok (.bipush 6, 2) := by decide +kernel
theorem dX0_init_171 : decode cX0_init 171 = .ok (.if_icmp .ne 15, 3) := by decide +kernel
theorem dX0_init_174 : decode cX0_init 174 = .ok (.aload_n 0, 1) := by decide +kernel
theorem dX0_init_175 : decode cX0_init 175 = .ok (.getfield 37, 3) := by decide +kernel
theorem dX0_init_178 : decode cX0_init 178 = .ok (.iload 4, 2) := by decide +kernel
theorem dX0_init_180 : decode cX0_init 180 = .ok (.iaload, 1) := by decide +kernel
theorem dX0_init_181 : decode cX0_init 181 = .ok (.iconst 1, 1) := by decide +kernel
theorem dX0_init_182 : decode cX0_init 182 = .ok (.iadd, 1) := by decide +kernel
theorem dX0_init_183 : decode cX0_init 183 = .ok (.goto 10, 3) := by decide +kernel
theorem dX0_init_186 : decode cX0_init 186 = .ok (.aload_n 0, 1) := by decide +kernel
theorem dX0_init_187 : decode cX0_init 187 = .ok (.getfield 37, 3) := by decide +kernel
theorem dX0_init_190 : decode cX0_init 190 = .ok (.iload 4, 2) := by decide +kernel
theorem dX0_init_192 : decode cX0_init 192 = .ok (.iaload, 1) := by decide +kernel
theorem dX0_init_193 : decode cX0_init 193 = .ok (.istore 6, 2) := by decide +kernel
theorem dX0_init_195 : decode cX0_init 195 = .ok (.aload_n 1, 1) := by decide +kernel
theorem dX0_init_196 : decode cX0_init 196 = .ok (.aload_n 1, 1) := by decide +kernel
theorem dX0_init_197 : decode cX0_init 197 = .ok (.getfield 45, 3) := by decide +kernel
theorem dX0_init_200 : decode cX0_init 200 = .ok (.iload 5, 2) := by decide +kernel
theorem dX0_init_202 : decode cX0_init 202 = .ok (.iaload, 1) := by decide +kernel
theorem dX0_init_203 : decode cX0_init 203 = .ok (.invokevirtual 9, 3) := by decide +kernel
theorem dX0_init_206 : decode cX0_init 206 = .ok (.istore 7, 2) := by decide +kernel
theorem dX0_init_208 : decode cX0_init 208 = .ok (.aload_n 0, 1) := by decide +kernel
theorem dX0_init_209 : decode cX0_init 209 = .ok (.getfield 31, 3) := by decide +kernel
theorem dX0_init_212 : decode cX0_init 212 = .ok (.iload 4, 2) := by decide +kernel
theorem dX0_init_214 : decode cX0_init 214 = .ok (.iload 7, 2) := by decide +kernel
theorem dX0_init_216 : decode cX0_init 216 = .ok (.ifCond .le 10, 3) := by decide +kernel
theorem dX0_init_219 : decode cX0_init 219 = .ok (.iload 4, 2) := by decide +kernel
theorem dX0_init_221 : decode cX0_init 221 = .ok (.iconst 1, 1) := by decide +kernel
theorem dX0_init_222 : decode cX0_init 222 = .ok (.isub, 1) := by decide +kernel
theorem dX0_init_223 : decode cX0_init 223 = .ok (.goto 4, 3) := by decide +kernel
theorem dX0_init_226 : decode cX0_init 226 = .ok (.iconst (-1), 1) := by decide +kernel
theorem dX0_init_227 : decode cX0_init 227 = .ok (.iastore, 1) := by decide +kernel
theorem dX0_init_228 : decode cX0_init 228 = .ok (.aload_n 0, 1) := by decide +kernel
theorem dX0_init_229 : decode cX0_init 229 = .ok (.getfield 28, 3) := by decide +kernel
theorem dX0_init_232 : decode cX0_init 232 = .ok (.iload 4, 2) := by decide +kernel
theorem dX0_init_234 : decode cX0_init 234 = .ok (.aload_n 1, 1) := by decide +kernel
theorem dX0_init_235 : decode cX0_init 235 = .ok (.aload_n 1, 1) := by decide +kernel
theorem dX0_init_236 : decode cX0_init 236 = .ok (.getfield 46, 3) := by decide +kernel
theorem dX0_init_239 : decode cX0_init 239 = .ok (.iload 5, 2) := by decide +kernel
theorem dX0_init_241 : decode cX0_init 241 = .ok (.iaload, 1) := by decide +kernel
theorem dX0_init_242 : decode cX0_init 242 = .ok (.invokevirtual 9, 3) := by decide +kernel
theorem dX0_init_245 : decode cX0_init 245 = .ok (.ifCond .le 13, 3) := by decide +kernel
theorem dX0_init_248 : decode cX0_init 248 = .ok (.iload 4, 2) := by decide +kernel
theorem dX0_init_250 : decode cX0_init 250 = .ok (.iconst 1, 1) := by decide +kernel
theorem dX0_init_251 : decode cX0_init 251 = .ok (.isub, 1) := by decide +kernel
theorem dX0_init_252 : decode cX0_init 252 = .ok (.iload 7, 2) := by decide +kernel
theorem dX0_init_254 : decode cX0_init 254 = .ok (.isub, 1) := by decide +kernel
theorem dX0_init_255 : decode cX0_init 255 = .ok (.goto 4, 3) := by decide +kernel
theorem dX0_init_258 : decode cX0_init 258 = .ok (.iconst (-1), 1) := by decide +kernel
theorem dX0_init_259 : decode cX0_init 259 = .ok (.iastore, 1) := by decide +kernel
theorem dX0_init_260 : decode cX0_init 260 = .ok (.aload_n 0, 1) := by decide +kernel
theorem dX0_init_261 : decode cX0_init 261 = .ok (.getfield 31, 3) := by decide +kernel
theorem dX0_init_264 : decode cX0_init 264 = .ok (.iload 4, 2) := by decide +kernel
theorem dX0_init_266 : decode cX0_init 266 = .ok (.iaload, 1) := by decide +kernel
theorem dX0_init_267 : decode cX0_init 267 = .ok (.ifCond .lt 33, 3) := by decide +kernel
theorem dX0_init_270 : decode cX0_init 270 = .ok (.aload_n 3, 1) := by decide +kernel
theorem dX0_init_271 : decode cX0_init 271 = .ok (.aload_n 0, 1) := by decide +kernel
theorem dX0_init_272 : decode cX0_init 272 = .ok (.getfield 31, 3) := by decide +kernel
theorem dX0_init_275 : decode cX0_init 275 = .ok (.iload 4, 2) := by decide +kernel
theorem dX0_init_277 : decode cX0_init 277 = .ok (.iaload, 1) := by decide +kernel
theorem dX0_init_278 : decode cX0_init 278 = .ok (.aload_n 1, 1) := by decide +kernel
theorem dX0_init_279 : decode cX0_init 279 = .ok (.getfield 45, 3) := by decide +kernel
theorem dX0_init_282 : decode cX0_init 282 = .ok (.iload 5, 2) := by decide +kernel
theorem dX0_init_284 : decode cX0_init 284 = .ok (.iaload, 1) := by decide +kernel
theorem dX0_init_285 : decode cX0_init 285 = .ok (.iastore, 1) := by decide +kernel
theorem dX0_init_286 : decode cX0_init 286 = .ok (.aload_n 0, 1) := by decide +kernel
theorem dX0_init_287 : decode cX0_init 287 = .ok (.getfield 37, 3) := by decide +kernel
theorem dX0_init_290 : decode cX0_init 290 = .ok (.aload_n 0, 1) := by decide +kernel
theorem dX0_init_291 : decode cX0_init 291 = .ok (.getfield 31, 3) := by decide +kernel
theorem dX0_init_294 : decode cX0_init 294 = .ok (.iload 4, 2) := by decide +kernel
theorem dX0_init_296 : decode cX0_init 296 = .ok (.iaload, 1) := by decide +kernel
theorem dX0_init_297 : decode cX0_init 297 = .ok (.iload 6, 2) := by decide +kernel
theorem dX0_init_299 : decode cX0_init 299 = .ok (.iastore, 1) := by decide +kernel
theorem dX0_init_300 : decode cX0_init 300 = .ok (.aload_n 0, 1) := by decide +kernel
theorem dX0_init_301 : decode cX0_init 301 = .ok (.getfield 28, 3) := by decide +kernel
theorem dX0_init_304 : decode cX0_init 304 = .ok (.iload 4, 2) := by decide +kernel
theorem dX0_init_306 : decode cX0_init 306 = .ok (.iaload, 1) := by decide +kernel
theorem dX0_init_307 : decode cX0_init 307 = .ok (.ifCond .lt 33, 3) := by decide +kernel
theorem dX0_init_310 : decode cX0_init 310 = .ok (.aload_n 3, 1) := by decide +kernel
theorem dX0_init_311 : decode cX0_init 311 = .ok (.aload_n 0, 1) := by decide +kernel
theorem dX0_init_312 : decode cX0_init 312 = .ok (.getfield 28, 3) := by decide +kernel
theorem dX0_init_315 : decode cX0_init 315 = .ok (.iload 4, 2) := by decide +kernel
theorem dX0_init_317 : decode cX0_init 317 = .ok (.iaload, 1) := by decide +kernel
theorem dX0_init_318 : decode cX0_init 318 = .ok (.aload_n 1, 1) := by decide +kernel
theorem dX0_init_319 : decode cX0_init 319 = .ok (.getfield 46, 3) := by decide +kernel
theorem dX0_init_322 : decode cX0_init 322 = .ok (.iload 5, 2) := by decide +kernel
theorem dX0_init_324 : decode cX0_init 324 = .ok (.iaload, 1) := by decide +kernel
theorem dX0_init_325 : decode cX0_init 325 = .ok (.iastore, 1) := by decide +kernel
theorem dX0_init_326 : decode cX0_init 326 = .ok (.aload_n 0, 1) := by decide +kernel
theorem dX0_init_327 : decode cX0_init 327 = .ok (.getfield 37, 3) := by decide +kernel
theorem dX0_init_330 : decode cX0_init 330 = .ok (.aload_n 0, 1) := by decide +kernel
theorem dX0_init_331 : decode cX0_init 331 = .ok (.getfield 28, 3) := by decide +kernel
theorem dX0_init_334 : decode cX0_init 334 = .ok (.iload 4, 2) := by decide +kernel
theorem dX0_init_336 : decode cX0_init 336 = .ok (.iaload, 1) := by decide +kernel
theorem dX0_init_337 : decode cX0_init 337 = .ok (.iload 6, 2) := by decide +kernel
theorem dX0_init_339 : decode cX0_init 339 = .ok (.iastore, 1) := by decide +kernel
theorem dX0_init_340 : decode cX0_init 340 = .ok (.iinc 4 (-1), 3) := by decide +kernel
theorem dX0_init_343 : decode cX0_init 343 = .ok (.goto (-239), 3) := by decide +kernel
theorem dX0_init_346 : decode cX0_init 346 = .ok (.return_, 1) := by decide +kernel
theorem dX0_meets_0 : decode cX0_meets 0 = .ok (.aload_n 0, 1) := by decide +kernel
theorem dX0_meets_1 : decode cX0_meets 1 = .ok (.getfield 15, 3) := by decide +kernel
theorem dX0_meets_4 : decode cX0_meets 4 = .ok (.iconst 1, 1) := by decide +kernel
theorem dX0_meets_5 : decode cX0_meets 5 = .ok (.isub, 1) := by decide +kernel
theorem dX0_meets_6 : decode cX0_meets 6 = .ok (.istore_n 2, 1) := by decide +kernel
theorem dX0_meets_7 : decode cX0_meets 7 = .ok (.aload_n 1, 1) := by decide +kernel
theorem dX0_meets_8 : decode cX0_meets 8 = .ok (.getfield 15, 3) := by decide +kernel
theorem dX0_meets_11 : decode cX0_meets 11 = .ok (.iconst 1, 1) := by decide +kernel
theorem dX0_meets_12 : decode cX0_meets 12 = .ok (.isub, 1) := by decide +kernel
theorem dX0_meets_13 : decode cX0_meets 13 = .ok (.istore_n 3, 1) := by decide +kernel
theorem dX0_meets_14 : decode cX0_meets 14 = .ok (.iconst 0, 1) := by decide +kernel
theorem dX0_meets_15 : decode cX0_meets 15 = .ok (.istore 4, 2) := by decide +kernel
theorem dX0_meets_17 : decode cX0_meets 17 = .ok (.iload 4, 2) := by decide +kernel
theorem dX0_meets_19 : decode cX0_meets 19 = .ok (.bipush 12, 2) := by decide +kernel
theorem dX0_meets_21 : decode cX0_meets 21 = .ok (.if_icmp .ge 79, 3) := by decide +kernel
theorem dX0_meets_24 : decode cX0_meets 24 = .ok (.iload_n 2, 1) := by decide +kernel
theorem dX0_meets_25 : decode cX0_meets 25 = .ok (.ifCond .lt 75, 3) := by decide +kernel
theorem dX0_meets_28 : decode cX0_meets 28 = .ok (.iload_n 3, 1) := by decide +kernel
theorem dX0_meets_29 : decode cX0_meets 29 = .ok (.ifCond .lt 71, 3) := by decide +kernel
theorem dX0_meets_32 : decode cX0_meets 32 = .ok (.aload_n 0, 1) := by decide +kernel
theorem dX0_meets_33 : decode cX0_meets 33 = .ok (.getfield 21, 3) := by decide +kernel
theorem dX0_meets_36 : decode cX0_meets 36 = .ok (.iload_n 2, 1) := by decide +kernel
theorem dX0_meets_37 : decode cX0_meets 37 = .ok (.iaload, 1) := by decide +kernel
theorem dX0_meets_38 : decode cX0_meets 38 = .ok (.ifCond .eq 12, 3) := by decide +kernel
theorem dX0_meets_41 : decode cX0_meets 41 = .ok (.aload_n 1, 1) := by decide +kernel
theorem dX0_meets_42 : decode cX0_meets 42 = .ok (.getfield 21, 3) := by decide +kernel
theorem dX0_meets_45 : decode cX0_meets 45 = .ok (.iload_n 3, 1) := by decide +kernel
theorem dX0_meets_46 : decode cX0_meets 46 = .ok (.iaload, 1) := by decide +kernel
theorem dX0_meets_47 : decode cX0_meets 47 = .ok (.ifCond .ne 24, 3) := by decide +kernel
theorem dX0_meets_50 : decode cX0_meets 50 = .ok (.aload_n 0, 1) := by decide +kernel
theorem dX0_meets_51 : decode cX0_meets 51 = .ok (.getfield 34, 3) := by decide +kernel
theorem dX0_meets_54 : decode cX0_meets 54 = .ok (.iload_n 2, 1) := by decide +kernel
theorem dX0_meets_55 : decode cX0_meets 55 = .ok (.iaload, 1) := by decide +kernel
theorem dX0_meets_56 : decode cX0_meets 56 = .ok (.iconst 1, 1) := by decide +kernel
theorem dX0_meets_57 : decode cX0_meets 57 = .ok (.isub, 1) := by decide +kernel
theorem dX0_meets_58 : decode cX0_meets 58 = .ok (.istore_n 2, 1) := by decide +kernel
theorem dX0_meets_59 : decode cX0_meets 59 = .ok (.aload_n 1, 1) := by decide +kernel
theorem dX0_meets_60 : decode cX0_meets 60 = .ok (.getfield 34, 3) := by decide +kernel
theorem dX0_meets_63 : decode cX0_meets 63 = .ok (.iload_n 3, 1) := by decide +kernel
theorem dX0_meets_64 : decode cX0_meets 64 = .ok (.iaload, 1) := by decide +kernel
theorem dX0_meets_65 : decode cX0_meets 65 = .ok (.iconst 1, 1) := by decide +kernel
theorem dX0_meets_66 : decode cX0_meets 66 = .ok (.isub, 1) := by decide +kernel
theorem dX0_meets_67 : decode cX0_meets 67 = .ok (.istore_n 3, 1) := by decide +kernel
theorem dX0_meets_68 : decode cX0_meets 68 = .ok (.goto 26, 3) := by decide +kernel
theorem dX0_meets_71 : decode cX0_meets 71 = .ok (.aload_n 0, 1) := by decide +kernel
theorem dX0_meets_72 : decode cX0_meets 72 = .ok (.getfield 25, 3) := by decide +kernel
theorem dX0_meets_75 : decode cX0_meets 75 = .ok (.iload_n 2, 1) := by decide +kernel
theorem dX0_meets_76 : decode cX0_meets 76 = .ok (.iaload, 1) := by decide +kernel
theorem dX0_meets_77 : decode cX0_meets 77 = .ok (.aload_n 1, 1) := by decide +kernel
theorem dX0_meets_78 : decode cX0_meets 78 = .ok (.getfield 25, 3) := by decide +kernel
theorem dX0_meets_81 : decode cX0_meets 81 = .ok (.iload_n 3, 1) := by decide +kernel
theorem dX0_meets_82 : decode cX0_meets 82 = .ok (.iaload, 1) := by decide +kernel
theorem dX0_meets_83 : decode cX0_meets 83 = .ok (.if_icmp .eq 5, 3) := by decide +kernel
theorem dX0_meets_86 : decode cX0_meets 86 = .ok (.iconst 0, 1) := by decide +kernel
theorem dX0_meets_87 : decode cX0_meets 87 = .ok (.ireturn, 1) := by decide +kernel
theorem dX0_meets_88 : decode cX0_meets 88 = .ok (.iinc 2 (-1), 3) := by decide +kernel
theorem dX0_meets_91 : decode cX0_meets 91 = .ok (.iinc 3 (-1), 3) := by decide +kernel
theorem dX0_meets_94 : decode cX0_meets 94 = .ok (.iinc 4 1, 3) := by decide +kernel
theorem dX0_meets_97 : decode cX0_meets 97 = .ok (.goto (-80), 3) := by decide +kernel
theorem dX0_meets_100 : decode cX0_meets 100 = .ok (.iconst 1, 1) := by decide +kernel
theorem dX0_meets_101 : decode cX0_meets 101 = .ok (.ireturn, 1) := by decide +kernel
theorem dX0_isMany_0 : decode cX0_isMany 0 = .ok (.iconst 0, 1) := by decide +kernel
theorem dX0_isMany_1 : decode cX0_isMany 1 = .ok (.istore_n 3, 1) := by decide +kernel
theorem dX0_isMany_2 : decode cX0_isMany 2 = .ok (.iload_n 3, 1) := by decide +kernel
theorem dX0_isMany_3 : decode cX0_isMany 3 = .ok (.aload_n 0, 1) := by decide +kernel
theorem dX0_isMany_4 : decode cX0_isMany 4 = .ok (.getfield 15, 3) := by decide +kernel
theorem dX0_isMany_7 : decode cX0_isMany 7 = .ok (.if_icmp .ge 75, 3) := by decide +kernel
theorem dX0_isMany_10 : decode cX0_isMany 10 = .ok (.aload_n 0, 1) := by decide +kernel
theorem dX0_isMany_11 : decode cX0_isMany 11 = .ok (.getfield 37, 3) := by decide +kernel
theorem dX0_isMany_14 : decode cX0_isMany 14 = .ok (.iload_n 3, 1) := by decide +kernel
theorem dX0_isMany_15 : decode cX0_isMany 15 = .ok (.iaload, 1) := by decide +kernel
theorem dX0_isMany_16 : decode cX0_isMany 16 = .ok (.ifCond .ne 60, 3) := by decide +kernel
theorem dX0_isMany_19 : decode cX0_isMany 19 = .ok (.aload_n 0, 1) := by decide +kernel
theorem dX0_isMany_20 : decode cX0_isMany 20 = .ok (.getfield 21, 3) := by decide +kernel
theorem dX0_isMany_23 : decode cX0_isMany 23 = .ok (.iload_n 3, 1) := by decide +kernel
theorem dX0_isMany_24 : decode cX0_isMany 24 = .ok (.iaload, 1) := by decide +kernel
theorem dX0_isMany_25 : decode cX0_isMany 25 = .ok (.iconst 3, 1) := by decide +kernel
theorem dX0_isMany_26 : decode cX0_isMany 26 = .ok (.if_icmp .eq 48, 3) := by decide +kernel
theorem dX0_isMany_29 : decode cX0_isMany 29 = .ok (.aload_n 0, 1) := by decide +kernel
theorem dX0_isMany_30 : decode cX0_isMany 30 = .ok (.getfield 21, 3) := by decide +kernel
theorem dX0_isMany_33 : decode cX0_isMany 33 = .ok (.iload_n 3, 1) := by decide +kernel
theorem dX0_isMany_34 : decode cX0_isMany 34 = .ok (.iaload, 1) := by decide +kernel
theorem dX0_isMany_35 : decode cX0_isMany 35 = .ok (.ifCond .ne 16, 3) := by decide +kernel
theorem dX0_isMany_38 : decode cX0_isMany 38 = .ok (.iload_n 1, 1) := by decide +kernel
theorem dX0_isMany_39 : decode cX0_isMany 39 = .ok (.aload_n 0, 1) := by decide +kernel
theorem dX0_isMany_40 : decode cX0_isMany 40 = .ok (.getfield 25, 3) := by decide +kernel
theorem dX0_isMany_43 : decode cX0_isMany 43 = .ok (.iload_n 3, 1) := by decide +kernel
theorem dX0_isMany_44 : decode cX0_isMany 44 = .ok (.iaload, 1) := by decide +kernel
theorem dX0_isMany_45 : decode cX0_isMany 45 = .ok (.ishr, 1) := by decide +kernel
theorem dX0_isMany_46 : decode cX0_isMany 46 = .ok (.iconst 1, 1) := by decide +kernel
theorem dX0_isMany_47 : decode cX0_isMany 47 = .ok (.iand, 1) := by decide +kernel
theorem dX0_isMany_48 : decode cX0_isMany 48 = .ok (.ifCond .eq 26, 3) := by decide +kernel
theorem dX0_isMany_51 : decode cX0_isMany 51 = .ok (.aload_n 0, 1) := by decide +kernel
theorem dX0_isMany_52 : decode cX0_isMany 52 = .ok (.getfield 21, 3) := by decide +kernel
theorem dX0_isMany_55 : decode cX0_isMany 55 = .ok (.iload_n 3, 1) := by decide +kernel
theorem dX0_isMany_56 : decode cX0_isMany 56 = .ok (.iaload, 1) := by decide +kernel
theorem dX0_isMany_57 : decode cX0_isMany 57 = .ok (.iconst 2, 1) := by decide +kernel
theorem dX0_isMany_58 : decode cX0_isMany 58 = .ok (.if_icmp .ne 18, 3) := by decide +kernel
theorem dX0_isMany_61 : decode cX0_isMany 61 = .ok (.iload_n 2, 1) := by decide +kernel
theorem dX0_isMany_62 : decode cX0_isMany 62 = .ok (.aload_n 0, 1) := by decide +kernel
theorem dX0_isMany_63 : decode cX0_isMany 63 = .ok (.getfield 25, 3) := by decide +kernel
theorem dX0_isMany_66 : decode cX0_isMany 66 = .ok (.iload_n 3, 1) := by decide +kernel
theorem dX0_isMany_67 : decode cX0_isMany 67 = .ok (.iaload, 1) := by decide +kernel
theorem dX0_isMany_68 : decode cX0_isMany 68 = .ok (.ishr, 1) := by decide +kernel
theorem dX0_isMany_69 : decode cX0_isMany 69 = .ok (.iconst 1, 1) := by decide +kernel
theorem dX0_isMany_70 : decode cX0_isMany 70 = .ok (.iand, 1) := by decide +kernel
theorem dX0_isMany_71 : decode cX0_isMany 71 = .ok (.ifCond .eq 5, 3) := by decide +kernel
theorem dX0_isMany_74 : decode cX0_isMany 74 = .ok (.iconst 1, 1) := by decide +kernel
theorem dX0_isMany_75 : decode cX0_isMany 75 = .ok (.ireturn, 1) := by decide +kernel
theorem dX0_isMany_76 : decode cX0_isMany 76 = .ok (.iinc 3 1, 3) := by decide +kernel
theorem dX0_isMany_79 : decode cX0_isMany 79 = .ok (.goto (-77), 3) := by decide +kernel
theorem dX0_isMany_82 : decode cX0_isMany 82 = .ok (.iconst 0, 1) := by decide +kernel
theorem dX0_isMany_83 : decode cX0_isMany 83 = .ok (.ireturn, 1) := by decide +kernel
theorem dX1_init_0 : decode cX1_init 0 = .ok (.aload_n 0, 1) := by decide +kernel
theorem dX1_init_1 : decode cX1_init 1 = .ok (.invokespecial 3, 3) := by decide +kernel
theorem dX1_init_4 : decode cX1_init 4 = .ok (.aload_n 0, 1) := by decide +kernel
theorem dX1_init_5 : decode cX1_init 5 = .ok (.bipush 40, 2) := by decide +kernel
theorem dX1_init_7 : decode cX1_init 7 = .ok (.newarray .int, 2) := by decide +kernel
theorem dX1_init_9 : decode cX1_init 9 = .ok (.putfield 9, 3) := by decide +kernel
theorem dX1_init_12 : decode cX1_init 12 = .ok (.aload_n 0, 1) := by decide +kernel
theorem dX1_init_13 : decode cX1_init 13 = .ok (.bipush 6, 2) := by decide +kernel
theorem dX1_init_15 : decode cX1_init 15 = .ok (.bipush 40, 2) := by decide +kernel
theorem dX1_init_17 : decode cX1_init 17 = .ok (.multianewarray 15 2, 4) := by decide +kernel
theorem dX1_init_21 : decode cX1_init 21 = .ok (.putfield 17, 3) := by decide +kernel
theorem dX1_init_24 : decode cX1_init 24 = .ok (.aload_n 0, 1) := by decide +kernel
theorem dX1_init_25 : decode cX1_init 25 = .ok (.bipush 40, 2) := by decide +kernel
theorem dX1_init_27 : decode cX1_init 27 = .ok (.newarray .int, 2) := by decide +kernel
theorem dX1_init_29 : decode cX1_init 29 = .ok (.putfield 20, 3) := by decide +kernel
theorem dX1_init_32 : decode cX1_init 32 = .ok (.aload_n 0, 1) := by decide +kernel
theorem dX1_init_33 : decode cX1_init 33 = .ok (.iconst 0, 1) := by decide +kernel
theorem dX1_init_34 : decode cX1_init 34 = .ok (.putfield 23, 3) := by decide +kernel
theorem dX1_init_37 : decode cX1_init 37 = .ok (.aload_n 0, 1) := by decide +kernel
theorem dX1_init_38 : decode cX1_init 38 = .ok (.bipush 40, 2) := by decide +kernel
theorem dX1_init_40 : decode cX1_init 40 = .ok (.newarray .int, 2) := by decide +kernel
theorem dX1_init_42 : decode cX1_init 42 = .ok (.putfield 27, 3) := by decide +kernel
theorem dX1_init_45 : decode cX1_init 45 = .ok (.aload_n 0, 1) := by decide +kernel
theorem dX1_init_46 : decode cX1_init 46 = .ok (.bipush 42, 2) := by decide +kernel
theorem dX1_init_48 : decode cX1_init 48 = .ok (.newarray .int, 2) := by decide +kernel
theorem dX1_init_50 : decode cX1_init 50 = .ok (.putfield 30, 3) := by decide +kernel
theorem dX1_init_53 : decode cX1_init 53 = .ok (.return_, 1) := by decide +kernel
theorem dX1_keep_0 : decode cX1_keep 0 = .ok (.aload_n 0, 1) := by decide +kernel
theorem dX1_keep_1 : decode cX1_keep 1 = .ok (.aload_n 1, 1) := by decide +kernel
theorem dX1_keep_2 : decode cX1_keep 2 = .ok (.getfield 33, 3) := by decide +kernel
theorem dX1_keep_5 : decode cX1_keep 5 = .ok (.putfield 23, 3) := by decide +kernel
theorem dX1_keep_8 : decode cX1_keep 8 = .ok (.aload_n 0, 1) := by decide +kernel
theorem dX1_keep_9 : decode cX1_keep 9 = .ok (.aload_n 1, 1) := by decide +kernel
theorem dX1_keep_10 : decode cX1_keep 10 = .ok (.getfield 36, 3) := by decide +kernel
theorem dX1_keep_13 : decode cX1_keep 13 = .ok (.iload_n 2, 1) := by decide +kernel
theorem dX1_keep_14 : decode cX1_keep 14 = .ok (.aload_n 0, 1) := by decide +kernel
theorem dX1_keep_15 : decode cX1_keep 15 = .ok (.getfield 9, 3) := by decide +kernel
theorem dX1_keep_18 : decode cX1_keep 18 = .ok (.invokevirtual 40, 3) := by decide +kernel
theorem dX1_keep_21 : decode cX1_keep 21 = .ok (.aload_n 1, 1) := by decide +kernel
theorem dX1_keep_22 : decode cX1_keep 22 = .ok (.getfield 44, 3) := by decide +kernel
theorem dX1_keep_25 : decode cX1_keep 25 = .ok (.iconst 0, 1) := by decide +kernel
theorem dX1_keep_26 : decode cX1_keep 26 = .ok (.aaload, 1) := by decide +kernel
theorem dX1_keep_27 : decode cX1_keep 27 = .ok (.getfield 48, 3) := by decide +kernel
theorem dX1_keep_30 : decode cX1_keep 30 = .ok (.astore_n 3, 1) := by decide +kernel
theorem dX1_keep_31 : decode cX1_keep 31 = .ok (.iconst 0, 1) := by decide +kernel
theorem dX1_keep_32 : decode cX1_keep 32 = .ok (.istore 4, 2) := by decide +kernel
theorem dX1_keep_34 : decode cX1_keep 34 = .ok (.iload 4, 2) := by decide +kernel
theorem dX1_keep_36 : decode cX1_keep 36 = .ok (.bipush 6, 2) := by decide +kernel
theorem dX1_keep_38 : decode cX1_keep 38 = .ok (.if_icmp .ge 28, 3) := by decide +kernel
theorem dX1_keep_41 : decode cX1_keep 41 = .ok (.aload_n 0, 1) := by decide +kernel
theorem dX1_keep_42 : decode cX1_keep 42 = .ok (.aload_n 1, 1) := by decide +kernel
theorem dX1_keep_43 : decode cX1_keep 43 = .ok (.getfield 36, 3) := by decide +kernel
theorem dX1_keep_46 : decode cX1_keep 46 = .ok (.aload_n 3, 1) := by decide +kernel
theorem dX1_keep_47 : decode cX1_keep 47 = .ok (.iload 4, 2) := by decide +kernel
theorem dX1_keep_49 : decode cX1_keep 49 = .ok (.iaload, 1) := by decide +kernel
theorem dX1_keep_50 : decode cX1_keep 50 = .ok (.aload_n 0, 1) := by decide +kernel
theorem dX1_keep_51 : decode cX1_keep 51 = .ok (.getfield 17, 3) := by decide +kernel
theorem dX1_keep_54 : decode cX1_keep 54 = .ok (.iload 4, 2) := by decide +kernel
theorem dX1_keep_56 : decode cX1_keep 56 = .ok (.aaload, 1) := by decide +kernel
theorem dX1_keep_57 : decode cX1_keep 57 = .ok (.invokevirtual 40, 3) := by decide +kernel
theorem dX1_keep_60 : decode cX1_keep 60 = .ok (.iinc 4 1, 3) := by decide +kernel
theorem dX1_keep_63 : decode cX1_keep 63 = .ok (.goto (-29), 3) := by decide +kernel
theorem dX1_keep_66 : decode cX1_keep 66 = .ok (.aload_n 1, 1) := by decide +kernel
theorem dX1_keep_67 : decode cX1_keep 67 = .ok (.getfield 53, 3) := by decide +kernel
theorem dX1_keep_70 : decode cX1_keep 70 = .ok (.astore 4, 2) := by decide +kernel
theorem dX1_keep_72 : decode cX1_keep 72 = .ok (.iconst 0, 1) := by decide +kernel
theorem dX1_keep_73 : decode cX1_keep 73 = .ok (.istore 5, 2) := by decide +kernel
theorem dX1_keep_75 : decode cX1_keep 75 = .ok (.iload 5, 2) := by decide +kernel
theorem dX1_keep_77 : decode cX1_keep 77 = .ok (.bipush 40, 2) := by decide +kernel
theorem dX1_keep_79 : decode cX1_keep 79 = .ok (.if_icmp .ge 38, 3) := by decide +kernel
theorem dX1_keep_82 : decode cX1_keep 82 = .ok (.aload_n 0, 1) := by decide +kernel
theorem dX1_keep_83 : decode cX1_keep 83 = .ok (.getfield 20, 3) := by decide +kernel
theorem dX1_keep_86 : decode cX1_keep 86 = .ok (.iload 5, 2) := by decide +kernel
theorem dX1_keep_88 : decode cX1_keep 88 = .ok (.iload 5, 2) := by decide +kernel
theorem dX1_keep_90 : decode cX1_keep 90 = .ok (.aload 4, 2) := by decide +kernel
theorem dX1_keep_92 : decode cX1_keep 92 = .ok (.getfield 57, 3) := by decide +kernel
theorem dX1_keep_95 : decode cX1_keep 95 = .ok (.if_icmp .ge 14, 3) := by decide +kernel
theorem dX1_keep_98 : decode cX1_keep 98 = .ok (.aload 4, 2) := by decide +kernel
theorem dX1_keep_100 : decode cX1_keep 100 = .ok (.getfield 62, 3) := by decide +kernel
theorem dX1_keep_103 : decode cX1_keep 103 = .ok (.iload 5, 2) := by decide +kernel
theorem dX1_keep_105 : decode cX1_keep 105 = .ok (.iaload, 1) := by decide +kernel
theorem dX1_keep_106 : decode cX1_keep 106 = .ok (.goto 4, 3) := by decide +kernel
theorem dX1_keep_109 : decode cX1_keep 109 = .ok (.iconst (-1), 1) := by decide +kernel
theorem dX1_keep_110 : decode cX1_keep 110 = .ok (.iastore, 1) := by decide +kernel
theorem dX1_keep_111 : decode cX1_keep 111 = .ok (.iinc 5 1, 3) := by decide +kernel
theorem dX1_keep_114 : decode cX1_keep 114 = .ok (.goto (-39), 3) := by decide +kernel
theorem dX1_keep_117 : decode cX1_keep 117 = .ok (.return_, 1) := by decide +kernel
theorem dX1_tellRow_0 : decode cX1_tellRow 0 = .ok (.iconst 0, 1) := by decide +kernel
theorem dX1_tellRow_1 : decode cX1_tellRow 1 = .ok (.istore 4, 2) := by decide +kernel
theorem dX1_tellRow_3 : decode cX1_tellRow 3 = .ok (.iload_n 2, 1) := by decide +kernel
theorem dX1_tellRow_4 : decode cX1_tellRow 4 = .ok (.ifCond .lt 13, 3) := by decide +kernel
theorem dX1_tellRow_7 : decode cX1_tellRow 7 = .ok (.aload_n 0, 1) := by decide +kernel
theorem dX1_tellRow_8 : decode cX1_tellRow 8 = .ok (.getfield 30, 3) := by decide +kernel
theorem dX1_tellRow_11 : decode cX1_tellRow 11 = .ok (.iconst 0, 1) := by decide +kernel
theorem dX1_tellRow_12 : decode cX1_tellRow 12 = .ok (.iload_n 2, 1) := by decide +kernel
theorem dX1_tellRow_13 : decode cX1_tellRow 13 = .ok (.iastore, 1) := by decide +kernel
theorem dX1_tellRow_14 : decode cX1_tellRow 14 = .ok (.iconst 1, 1) := by decide +kernel
theorem dX1_tellRow_15 : decode cX1_tellRow 15 = .ok (.istore 4, 2) := by decide +kernel
theorem dX1_tellRow_17 : decode cX1_tellRow 17 = .ok (.iconst 0, 1) := by decide +kernel
theorem dX1_tellRow_18 : decode cX1_tellRow 18 = .ok (.istore 5, 2) := by decide +kernel
theorem dX1_tellRow_20 : decode cX1_tellRow 20 = .ok (.iconst 0, 1) := by decide +kernel
theorem dX1_tellRow_21 : decode cX1_tellRow 21 = .ok (.istore 6, 2) := by decide +kernel
theorem dX1_tellRow_23 : decode cX1_tellRow 23 = .ok (.iload 6, 2) := by decide +kernel
theorem dX1_tellRow_25 : decode cX1_tellRow 25 = .ok (.bipush 40, 2) := by decide +kernel
theorem dX1_tellRow_27 : decode cX1_tellRow 27 = .ok (.if_icmp .ge 112, 3) := by decide +kernel
theorem dX1_tellRow_30 : decode cX1_tellRow 30 = .ok (.iload 4, 2) := by decide +kernel
theorem dX1_tellRow_32 : decode cX1_tellRow 32 = .ok (.ifCond .ne 11, 3) := by decide +kernel
theorem dX1_tellRow_35 : decode cX1_tellRow 35 = .ok (.aload_n 3, 1) := by decide +kernel
theorem dX1_tellRow_36 : decode cX1_tellRow 36 = .ok (.iload 6, 2) := by decide +kernel
theorem dX1_tellRow_38 : decode cX1_tellRow 38 = .ok (.iconst (-1), 1) := by decide +kernel
theorem dX1_tellRow_39 : decode cX1_tellRow 39 = .ok (.iastore, 1) := by decide +kernel
theorem dX1_tellRow_40 : decode cX1_tellRow 40 = .ok (.goto 93, 3) := by decide +kernel
theorem dX1_tellRow_43 : decode cX1_tellRow 43 = .ok (.iinc 4 (-1), 3) := by decide +kernel
theorem dX1_tellRow_46 : decode cX1_tellRow 46 = .ok (.aload_n 1, 1) := by decide +kernel
theorem dX1_tellRow_47 : decode cX1_tellRow 47 = .ok (.aload_n 0, 1) := by decide +kernel
theorem dX1_tellRow_48 : decode cX1_tellRow 48 = .ok (.getfield 30, 3) := by decide +kernel
theorem dX1_tellRow_51 : decode cX1_tellRow 51 = .ok (.iload 4, 2) := by decide +kernel
theorem dX1_tellRow_53 : decode cX1_tellRow 53 = .ok (.iaload, 1) := by decide +kernel
theorem dX1_tellRow_54 : decode cX1_tellRow 54 = .ok (.invokevirtual 63, 3) := by decide +kernel
theorem dX1_tellRow_57 : decode cX1_tellRow 57 = .ok (.istore 7, 2) := by decide +kernel
theorem dX1_tellRow_59 : decode cX1_tellRow 59 = .ok (.aload_n 1, 1) := by decide +kernel
theorem dX1_tellRow_60 : decode cX1_tellRow 60 = .ok (.getfield 69, 3) := by decide +kernel
theorem dX1_tellRow_63 : decode cX1_tellRow 63 = .ok (.iload 7, 2) := by decide +kernel
theorem dX1_tellRow_65 : decode cX1_tellRow 65 = .ok (.iaload, 1) := by decide +kernel
theorem dX1_tellRow_66 : decode cX1_tellRow 66 = .ok (.bipush 7, 2) := by decide +kernel
theorem dX1_tellRow_68 : decode cX1_tellRow 68 = .ok (.if_icmp .ne 43, 3) := by decide +kernel
theorem dX1_tellRow_71 : decode cX1_tellRow 71 = .ok (.aload_n 0, 1) := by decide +kernel
theorem dX1_tellRow_72 : decode cX1_tellRow 72 = .ok (.iload 7, 2) := by decide +kernel
theorem dX1_tellRow_74 : decode cX1_tellRow 74 = .ok (.iload 5, 2) := by decide +kernel
theorem dX1_tellRow_76 : decode cX1_tellRow 76 = .ok (.invokevirtual 72, 3) := by decide +kernel
theorem dX1_tellRow_79 : decode cX1_tellRow 79 = .ok (.istore 8, 2) := by decide +kernel
theorem dX1_tellRow_81 : decode cX1_tellRow 81 = .ok (.iload 8, 2) := by decide +kernel
theorem dX1_tellRow_83 : decode cX1_tellRow 83 = .ok (.iload 5, 2) := by decide +kernel
theorem dX1_tellRow_85 : decode cX1_tellRow 85 = .ok (.if_icmp .ne 10, 3) := by decide +kernel
theorem dX1_tellRow_88 : decode cX1_tellRow 88 = .ok (.iload 8, 2) := by decide +kernel
theorem dX1_tellRow_90 : decode cX1_tellRow 90 = .ok (.iconst 1, 1) := by decide +kernel
theorem dX1_tellRow_91 : decode cX1_tellRow 91 = .ok (.iadd, 1) := by decide +kernel
theorem dX1_tellRow_92 : decode cX1_tellRow 92 = .ok (.goto 5, 3) := by decide +kernel
theorem dX1_tellRow_95 : decode cX1_tellRow 95 = .ok (.iload 5, 2) := by decide +kernel
theorem dX1_tellRow_97 : decode cX1_tellRow 97 = .ok (.istore 5, 2) := by decide +kernel
theorem dX1_tellRow_99 : decode cX1_tellRow 99 = .ok (.aload_n 3, 1) := by decide +kernel
theorem dX1_tellRow_100 : decode cX1_tellRow 100 = .ok (.iload 6, 2) := by decide +kernel
theorem dX1_tellRow_102 : decode cX1_tellRow 102 = .ok (.bipush 10, 2) := by decide +kernel
theorem dX1_tellRow_104 : decode cX1_tellRow 104 = .ok (.iload 8, 2) := by decide +kernel
theorem dX1_tellRow_106 : decode cX1_tellRow 106 = .ok (.iadd, 1) := by decide +kernel
theorem dX1_tellRow_107 : decode cX1_tellRow 107 = .ok (.iastore, 1) := by decide +kernel
theorem dX1_tellRow_108 : decode cX1_tellRow 108 = .ok (.goto 25, 3) := by decide +kernel
theorem dX1_tellRow_111 : decode cX1_tellRow 111 = .ok (.aload_n 3, 1) := by decide +kernel
theorem dX1_tellRow_112 : decode cX1_tellRow 112 = .ok (.iload 6, 2) := by decide +kernel
theorem dX1_tellRow_114 : decode cX1_tellRow 114 = .ok (.aload_n 1, 1) := by decide +kernel
theorem dX1_tellRow_115 : decode cX1_tellRow 115 = .ok (.getfield 76, 3) := by decide +kernel
theorem dX1_tellRow_118 : decode cX1_tellRow 118 = .ok (.iload 7, 2) := by decide +kernel
theorem dX1_tellRow_120 : decode cX1_tellRow 120 = .ok (.iaload, 1) := by decide +kernel
theorem dX1_tellRow_121 : decode cX1_tellRow 121 = .ok (.iastore, 1) := by decide +kernel
theorem dX1_tellRow_122 : decode cX1_tellRow 122 = .ok (.aload_n 0, 1) := by decide +kernel
theorem dX1_tellRow_123 : decode cX1_tellRow 123 = .ok (.aload_n 1, 1) := by decide +kernel
theorem dX1_tellRow_124 : decode cX1_tellRow 124 = .ok (.iload 7, 2) := by decide +kernel
theorem dX1_tellRow_126 : decode cX1_tellRow 126 = .ok (.iload 4, 2) := by decide +kernel
theorem dX1_tellRow_128 : decode cX1_tellRow 128 = .ok (.invokevirtual 79, 3) := by decide +kernel
theorem dX1_tellRow_131 : decode cX1_tellRow 131 = .ok (.istore 4, 2) := by decide +kernel
theorem dX1_tellRow_133 : decode cX1_tellRow 133 = .ok (.iinc 6 1, 3) := by decide +kernel
theorem dX1_tellRow_136 : decode cX1_tellRow 136 = .ok (.goto (-113), 3) := by decide +kernel
theorem dX1_tellRow_139 : decode cX1_tellRow 139 = .ok (.return_, 1) := by decide +kernel
theorem dX1_numberOfOpen_0 : decode cX1_numberOfOpen 0 = .ok (.iconst 0, 1) := by decide +kernel
theorem dX1_numberOfOpen_1 : decode cX1_numberOfOpen 1 = .ok (.istore_n 3, 1) := by decide +kernel
theorem dX1_numberOfOpen_2 : decode cX1_numberOfOpen 2 = .ok (.iload_n 3, 1) := by decide +kernel
theorem dX1_numberOfOpen_3 : decode cX1_numberOfOpen 3 = .ok (.iload_n 2, 1) := by decide +kernel
theorem dX1_numberOfOpen_4 : decode cX1_numberOfOpen 4 = .ok (.if_icmp .ge 21, 3) := by decide +kernel
theorem dX1_numberOfOpen_7 : decode cX1_numberOfOpen 7 = .ok (.aload_n 0, 1) := by decide +kernel
theorem dX1_numberOfOpen_8 : decode cX1_numberOfOpen 8 = .ok (.getfield 27, 3) := by decide +kernel
theorem dX1_numberOfOpen_11 : decode cX1_numberOfOpen 11 = .ok (.iload_n 3, 1) := by decide +kernel
theorem dX1_numberOfOpen_12 : decode cX1_numberOfOpen 12 = .ok (.iaload, 1) := by decide +kernel
theorem dX1_numberOfOpen_13 : decode cX1_numberOfOpen 13 = .ok (.iload_n 1, 1) := by decide +kernel
theorem dX1_numberOfOpen_14 : decode cX1_numberOfOpen 14 = .ok (.if_icmp .ne 5, 3) := by decide +kernel
theorem dX1_numberOfOpen_17 : decode cX1_numberOfOpen 17 = .ok (.iload_n 3, 1) := by decide +kernel
theorem dX1_numberOfOpen_18 : decode cX1_numberOfOpen 18 = .ok (.ireturn, 1) := by decide +kernel
theorem dX1_numberOfOpen_19 : decode cX1_numberOfOpen 19 = .ok (.iinc 3 1, 3) := by decide +kernel
theorem dX1_numberOfOpen_22 : decode cX1_numberOfOpen 22 = .ok (.goto (-20), 3) := by decide +kernel
theorem dX1_numberOfOpen_25 : decode cX1_numberOfOpen 25 = .ok (.aload_n 0, 1) := by decide +kernel
theorem dX1_numberOfOpen_26 : decode cX1_numberOfOpen 26 = .ok (.getfield 27, 3) := by decide +kernel
theorem dX1_numberOfOpen_29 : decode cX1_numberOfOpen 29 = .ok (.iload_n 2, 1) := by decide +kernel
theorem dX1_numberOfOpen_30 : decode cX1_numberOfOpen 30 = .ok (.iload_n 1, 1) := by decide +kernel
theorem dX1_numberOfOpen_31 : decode cX1_numberOfOpen 31 = .ok (.iastore, 1) := by decide +kernel
theorem dX1_numberOfOpen_32 : decode cX1_numberOfOpen 32 = .ok (.iload_n 2, 1) := by decide +kernel
theorem dX1_numberOfOpen_33 : decode cX1_numberOfOpen 33 = .ok (.ireturn, 1) := by decide +kernel
theorem dX1_lookAhead_0 : decode cX1_lookAhead 0 = .ok (.iload_n 3, 1) := by decide +kernel
theorem dX1_lookAhead_1 : decode cX1_lookAhead 1 = .ok (.istore 4, 2) := by decide +kernel
theorem dX1_lookAhead_3 : decode cX1_lookAhead 3 = .ok (.aload_n 1, 1) := by decide +kernel
theorem dX1_lookAhead_4 : decode cX1_lookAhead 4 = .ok (.getfield 69, 3) := by decide +kernel
theorem dX1_lookAhead_7 : decode cX1_lookAhead 7 = .ok (.iload_n 2, 1) := by decide +kernel
theorem dX1_lookAhead_8 : decode cX1_lookAhead 8 = .ok (.iaload, 1) := by decide +kernel
theorem dX1_lookAhead_9 : decode cX1_lookAhead 9 = .ok (.iconst 1, 1) := by decide +kernel
theorem dX1_lookAhead_10 : decode cX1_lookAhead 10 = .ok (.if_icmp .ne 15, 3) := by decide +kernel
theorem dX1_lookAhead_13 : decode cX1_lookAhead 13 = .ok (.aload_n 1, 1) := by decide +kernel
theorem dX1_lookAhead_14 : decode cX1_lookAhead 14 = .ok (.getfield 76, 3) := by decide +kernel
theorem dX1_lookAhead_17 : decode cX1_lookAhead 17 = .ok (.iload_n 2, 1) := by decide +kernel
theorem dX1_lookAhead_18 : decode cX1_lookAhead 18 = .ok (.iaload, 1) := by decide +kernel
theorem dX1_lookAhead_19 : decode cX1_lookAhead 19 = .ok (.invokestatic 83, 3) := by decide +kernel
theorem dX1_lookAhead_22 : decode cX1_lookAhead 22 = .ok (.goto 4, 3) := by decide +kernel
theorem dX1_lookAhead_25 : decode cX1_lookAhead 25 = .ok (.iconst 0, 1) := by decide +kernel
theorem dX1_lookAhead_26 : decode cX1_lookAhead 26 = .ok (.istore 5, 2) := by decide +kernel
theorem dX1_lookAhead_28 : decode cX1_lookAhead 28 = .ok (.iload 5, 2) := by decide +kernel
theorem dX1_lookAhead_30 : decode cX1_lookAhead 30 = .ok (.iconst 1, 1) := by decide +kernel
theorem dX1_lookAhead_31 : decode cX1_lookAhead 31 = .ok (.if_icmp .le 19, 3) := by decide +kernel
theorem dX1_lookAhead_34 : decode cX1_lookAhead 34 = .ok (.aload_n 0, 1) := by decide +kernel
theorem dX1_lookAhead_35 : decode cX1_lookAhead 35 = .ok (.getfield 30, 3) := by decide +kernel
theorem dX1_lookAhead_38 : decode cX1_lookAhead 38 = .ok (.iload 4, 2) := by decide +kernel
theorem dX1_lookAhead_40 : decode cX1_lookAhead 40 = .ok (.aload_n 1, 1) := by decide +kernel
theorem dX1_lookAhead_41 : decode cX1_lookAhead 41 = .ok (.getfield 86, 3) := by decide +kernel
theorem dX1_lookAhead_44 : decode cX1_lookAhead 44 = .ok (.iload_n 2, 1) := by decide +kernel
theorem dX1_lookAhead_45 : decode cX1_lookAhead 45 = .ok (.iaload, 1) := by decide +kernel
theorem dX1_lookAhead_46 : decode cX1_lookAhead 46 = .ok (.iastore, 1) := by decide +kernel
theorem dX1_lookAhead_47 : decode cX1_lookAhead 47 = .ok (.iinc 4 1, 3) := by decide +kernel
theorem dX1_lookAhead_50 : decode cX1_lookAhead 50 = .ok (.iload 5, 2) := by decide +kernel
theorem dX1_lookAhead_52 : decode cX1_lookAhead 52 = .ok (.ifCond .le 19, 3) := by decide +kernel
theorem dX1_lookAhead_55 : decode cX1_lookAhead 55 = .ok (.aload_n 0, 1) := by decide +kernel
theorem dX1_lookAhead_56 : decode cX1_lookAhead 56 = .ok (.getfield 30, 3) := by decide +kernel
theorem dX1_lookAhead_59 : decode cX1_lookAhead 59 = .ok (.iload 4, 2) := by decide +kernel
theorem dX1_lookAhead_61 : decode cX1_lookAhead 61 = .ok (.aload_n 1, 1) := by decide +kernel
theorem dX1_lookAhead_62 : decode cX1_lookAhead 62 = .ok (.getfield 89, 3) := by decide +kernel
theorem dX1_lookAhead_65 : decode cX1_lookAhead 65 = .ok (.iload_n 2, 1) := by decide +kernel
theorem dX1_lookAhead_66 : decode cX1_lookAhead 66 = .ok (.iaload, 1) := by decide +kernel
theorem dX1_lookAhead_67 : decode cX1_lookAhead 67 = .ok (.iastore, 1) := by decide +kernel
theorem dX1_lookAhead_68 : decode cX1_lookAhead 68 = .ok (.iinc 4 1, 3) := by decide +kernel
theorem dX1_lookAhead_71 : decode cX1_lookAhead 71 = .ok (.iload 4, 2) := by decide +kernel
theorem dX1_lookAhead_73 : decode cX1_lookAhead 73 = .ok (.ireturn, 1) := by decide +kernel
theorem dX2_init_0 : decode cX2_init 0 = .ok (.aload_n 0, 1) := by decide +kernel
theorem dX2_init_1 : decode cX2_init 1 = .ok (.invokespecial 3, 3) := by decide +kernel
theorem dX2_init_4 : decode cX2_init 4 = .ok (.aload_n 0, 1) := by decide +kernel
theorem dX2_init_5 : decode cX2_init 5 = .ok (.bipush 40, 2) := by decide +kernel
theorem dX2_init_7 : decode cX2_init 7 = .ok (.newarray .int, 2) := by decide +kernel
theorem dX2_init_9 : decode cX2_init 9 = .ok (.putfield 9, 3) := by decide +kernel
theorem dX2_init_12 : decode cX2_init 12 = .ok (.aload_n 0, 1) := by decide +kernel
theorem dX2_init_13 : decode cX2_init 13 = .ok (.bipush 40, 2) := by decide +kernel
theorem dX2_init_15 : decode cX2_init 15 = .ok (.newarray .int, 2) := by decide +kernel
theorem dX2_init_17 : decode cX2_init 17 = .ok (.putfield 15, 3) := by decide +kernel
theorem dX2_init_20 : decode cX2_init 20 = .ok (.aload_n 0, 1) := by decide +kernel
theorem dX2_init_21 : decode cX2_init 21 = .ok (.iconst 0, 1) := by decide +kernel
theorem dX2_init_22 : decode cX2_init 22 = .ok (.putfield 18, 3) := by decide +kernel
theorem dX2_init_25 : decode cX2_init 25 = .ok (.aload_n 0, 1) := by decide +kernel
theorem dX2_init_26 : decode cX2_init 26 = .ok (.iconst 0, 1) := by decide +kernel
theorem dX2_init_27 : decode cX2_init 27 = .ok (.putfield 22, 3) := by decide +kernel
theorem dX2_init_30 : decode cX2_init 30 = .ok (.aload_n 0, 1) := by decide +kernel
theorem dX2_init_31 : decode cX2_init 31 = .ok (.iconst 0, 1) := by decide +kernel
theorem dX2_init_32 : decode cX2_init 32 = .ok (.putfield 25, 3) := by decide +kernel
theorem dX2_init_35 : decode cX2_init 35 = .ok (.aload_n 0, 1) := by decide +kernel
theorem dX2_init_36 : decode cX2_init 36 = .ok (.iconst (-1), 1) := by decide +kernel
theorem dX2_init_37 : decode cX2_init 37 = .ok (.putfield 28, 3) := by decide +kernel
theorem dX2_init_40 : decode cX2_init 40 = .ok (.aload_n 0, 1) := by decide +kernel
theorem dX2_init_41 : decode cX2_init 41 = .ok (.iconst 0, 1) := by decide +kernel
theorem dX2_init_42 : decode cX2_init 42 = .ok (.putfield 31, 3) := by decide +kernel
theorem dX2_init_45 : decode cX2_init 45 = .ok (.aload_n 0, 1) := by decide +kernel
theorem dX2_init_46 : decode cX2_init 46 = .ok (.iconst 0, 1) := by decide +kernel
theorem dX2_init_47 : decode cX2_init 47 = .ok (.putfield 34, 3) := by decide +kernel
theorem dX2_init_50 : decode cX2_init 50 = .ok (.return_, 1) := by decide +kernel
theorem dX2_advance_0 : decode cX2_advance 0 = .ok (.aload_n 0, 1) := by decide +kernel
theorem dX2_advance_1 : decode cX2_advance 1 = .ok (.getfield 22, 3) := by decide +kernel
theorem dX2_advance_4 : decode cX2_advance 4 = .ok (.iconst 1, 1) := by decide +kernel
theorem dX2_advance_5 : decode cX2_advance 5 = .ok (.isub, 1) := by decide +kernel
theorem dX2_advance_6 : decode cX2_advance 6 = .ok (.istore_n 1, 1) := by decide +kernel
theorem dX2_advance_7 : decode cX2_advance 7 = .ok (.iload_n 1, 1) := by decide +kernel
theorem dX2_advance_8 : decode cX2_advance 8 = .ok (.ifCond .lt 45, 3) := by decide +kernel
theorem dX2_advance_11 : decode cX2_advance 11 = .ok (.aload_n 0, 1) := by decide +kernel
theorem dX2_advance_12 : decode cX2_advance 12 = .ok (.getfield 9, 3) := by decide +kernel
theorem dX2_advance_15 : decode cX2_advance 15 = .ok (.iload_n 1, 1) := by decide +kernel
theorem dX2_advance_16 : decode cX2_advance 16 = .ok (.iaload, 1) := by decide +kernel
theorem dX2_advance_17 : decode cX2_advance 17 = .ok (.iconst 1, 1) := by decide +kernel
theorem dX2_advance_18 : decode cX2_advance 18 = .ok (.iadd, 1) := by decide +kernel
theorem dX2_advance_19 : decode cX2_advance 19 = .ok (.aload_n 0, 1) := by decide +kernel
theorem dX2_advance_20 : decode cX2_advance 20 = .ok (.getfield 15, 3) := by decide +kernel
theorem dX2_advance_23 : decode cX2_advance 23 = .ok (.iload_n 1, 1) := by decide +kernel
theorem dX2_advance_24 : decode cX2_advance 24 = .ok (.iaload, 1) := by decide +kernel
theorem dX2_advance_25 : decode cX2_advance 25 = .ok (.if_icmp .ge 22, 3) := by decide +kernel
theorem dX2_advance_28 : decode cX2_advance 28 = .ok (.aload_n 0, 1) := by decide +kernel
theorem dX2_advance_29 : decode cX2_advance 29 = .ok (.getfield 9, 3) := by decide +kernel
theorem dX2_advance_32 : decode cX2_advance 32 = .ok (.iload_n 1, 1) := by decide +kernel
theorem dX2_advance_33 : decode cX2_advance 33 = .ok (.dup2, 1) := by decide +kernel
theorem dX2_advance_34 : decode cX2_advance 34 = .ok (.iaload, 1) := by decide +kernel
theorem dX2_advance_35 : decode cX2_advance 35 = .ok (.iconst 1, 1) := by decide +kernel
theorem dX2_advance_36 : decode cX2_advance 36 = .ok (.iadd, 1) := by decide +kernel
theorem dX2_advance_37 : decode cX2_advance 37 = .ok (.iastore, 1) := by decide +kernel
theorem dX2_advance_38 : decode cX2_advance 38 = .ok (.aload_n 0, 1) := by decide +kernel
theorem dX2_advance_39 : decode cX2_advance 39 = .ok (.iload_n 1, 1) := by decide +kernel
theorem dX2_advance_40 : decode cX2_advance 40 = .ok (.iconst 1, 1) := by decide +kernel
theorem dX2_advance_41 : decode cX2_advance 41 = .ok (.iadd, 1) := by decide +kernel
theorem dX2_advance_42 : decode cX2_advance 42 = .ok (.putfield 18, 3) := by decide +kernel
theorem dX2_advance_45 : decode cX2_advance 45 = .ok (.iconst 1, 1) := by decide +kernel
theorem dX2_advance_46 : decode cX2_advance 46 = .ok (.ireturn, 1) := by decide +kernel
theorem dX2_advance_47 : decode cX2_advance 47 = .ok (.iinc 1 (-1), 3) := by decide +kernel
theorem dX2_advance_50 : decode cX2_advance 50 = .ok (.goto (-43), 3) := by decide +kernel
theorem dX2_advance_53 : decode cX2_advance 53 = .ok (.iconst 0, 1) := by decide +kernel
theorem dX2_advance_54 : decode cX2_advance 54 = .ok (.ireturn, 1) := by decide +kernel
theorem dX2_deepen_0 : decode cX2_deepen 0 = .ok (.aload_n 0, 1) := by decide +kernel
theorem dX2_deepen_1 : decode cX2_deepen 1 = .ok (.getfield 18, 3) := by decide +kernel
theorem dX2_deepen_4 : decode cX2_deepen 4 = .ok (.bipush 40, 2) := by decide +kernel
theorem dX2_deepen_6 : decode cX2_deepen 6 = .ok (.if_icmp .ge 23, 3) := by decide +kernel
theorem dX2_deepen_9 : decode cX2_deepen 9 = .ok (.aload_n 0, 1) := by decide +kernel
theorem dX2_deepen_10 : decode cX2_deepen 10 = .ok (.getfield 9, 3) := by decide +kernel
theorem dX2_deepen_13 : decode cX2_deepen 13 = .ok (.aload_n 0, 1) := by decide +kernel
theorem dX2_deepen_14 : decode cX2_deepen 14 = .ok (.getfield 18, 3) := by decide +kernel
theorem dX2_deepen_17 : decode cX2_deepen 17 = .ok (.iconst 0, 1) := by decide +kernel
theorem dX2_deepen_18 : decode cX2_deepen 18 = .ok (.iastore, 1) := by decide +kernel
theorem dX2_deepen_19 : decode cX2_deepen 19 = .ok (.aload_n 0, 1) := by decide +kernel
theorem dX2_deepen_20 : decode cX2_deepen 20 = .ok (.dup, 1) := by decide +kernel
theorem dX2_deepen_21 : decode cX2_deepen 21 = .ok (.getfield 18, 3) := by decide +kernel
theorem dX2_deepen_24 : decode cX2_deepen 24 = .ok (.iconst 1, 1) := by decide +kernel
theorem dX2_deepen_25 : decode cX2_deepen 25 = .ok (.iadd, 1) := by decide +kernel
theorem dX2_deepen_26 : decode cX2_deepen 26 = .ok (.putfield 18, 3) := by decide +kernel
theorem dX2_deepen_29 : decode cX2_deepen 29 = .ok (.return_, 1) := by decide +kernel
theorem dX3_init_0 : decode cX3_init 0 = .ok (.aload_n 0, 1) := by decide +kernel
theorem dX3_init_1 : decode cX3_init 1 = .ok (.invokespecial 3, 3) := by decide +kernel
theorem dX3_init_4 : decode cX3_init 4 = .ok (.aload_n 0, 1) := by decide +kernel
theorem dX3_init_5 : decode cX3_init 5 = .ok (.new 9, 3) := by decide +kernel
theorem dX3_init_8 : decode cX3_init 8 = .ok (.dup, 1) := by decide +kernel
theorem dX3_init_9 : decode cX3_init 9 = .ok (.invokespecial 11, 3) := by decide +kernel
theorem dX3_init_12 : decode cX3_init 12 = .ok (.putfield 12, 3) := by decide +kernel
theorem dX3_init_15 : decode cX3_init 15 = .ok (.aload_n 0, 1) := by decide +kernel
theorem dX3_init_16 : decode cX3_init 16 = .ok (.new 18, 3) := by decide +kernel
theorem dX3_init_19 : decode cX3_init 19 = .ok (.dup, 1) := by decide +kernel
theorem dX3_init_20 : decode cX3_init 20 = .ok (.invokespecial 20, 3) := by decide +kernel
theorem dX3_init_23 : decode cX3_init 23 = .ok (.putfield 21, 3) := by decide +kernel
theorem dX3_init_26 : decode cX3_init 26 = .ok (.aload_n 0, 1) := by decide +kernel
theorem dX3_init_27 : decode cX3_init 27 = .ok (.bipush 102, 2) := by decide +kernel
theorem dX3_init_29 : decode cX3_init 29 = .ok (.anewarray 25, 3) := by decide +kernel
theorem dX3_init_32 : decode cX3_init 32 = .ok (.putfield 27, 3) := by decide +kernel
theorem dX3_init_35 : decode cX3_init 35 = .ok (.aload_n 0, 1) := by decide +kernel
theorem dX3_init_36 : decode cX3_init 36 = .ok (.bipush 102, 2) := by decide +kernel
theorem dX3_init_38 : decode cX3_init 38 = .ok (.anewarray 31, 3) := by decide +kernel
theorem dX3_init_41 : decode cX3_init 41 = .ok (.putfield 33, 3) := by decide +kernel
theorem dX3_init_44 : decode cX3_init 44 = .ok (.aload_n 0, 1) := by decide +kernel
theorem dX3_init_45 : decode cX3_init 45 = .ok (.bipush 12, 2) := by decide +kernel
theorem dX3_init_47 : decode cX3_init 47 = .ok (.newarray .int, 2) := by decide +kernel
theorem dX3_init_49 : decode cX3_init 49 = .ok (.putfield 37, 3) := by decide +kernel
theorem dX3_init_52 : decode cX3_init 52 = .ok (.aload_n 0, 1) := by decide +kernel
theorem dX3_init_53 : decode cX3_init 53 = .ok (.iconst 0, 1) := by decide +kernel
theorem dX3_init_54 : decode cX3_init 54 = .ok (.putfield 41, 3) := by decide +kernel
theorem dX3_init_57 : decode cX3_init 57 = .ok (.aload_n 0, 1) := by decide +kernel
theorem dX3_init_58 : decode cX3_init 58 = .ok (.iconst 0, 1) := by decide +kernel
theorem dX3_init_59 : decode cX3_init 59 = .ok (.putfield 45, 3) := by decide +kernel
theorem dX3_init_62 : decode cX3_init 62 = .ok (.aload_n 0, 1) := by decide +kernel
theorem dX3_init_63 : decode cX3_init 63 = .ok (.iconst 0, 1) := by decide +kernel
theorem dX3_init_64 : decode cX3_init 64 = .ok (.putfield 48, 3) := by decide +kernel
theorem dX3_init_67 : decode cX3_init 67 = .ok (.aload_n 0, 1) := by decide +kernel
theorem dX3_init_68 : decode cX3_init 68 = .ok (.iconst 0, 1) := by decide +kernel
theorem dX3_init_69 : decode cX3_init 69 = .ok (.putfield 51, 3) := by decide +kernel
theorem dX3_init_72 : decode cX3_init 72 = .ok (.aload_n 0, 1) := by decide +kernel
theorem dX3_init_73 : decode cX3_init 73 = .ok (.iconst 0, 1) := by decide +kernel
theorem dX3_init_74 : decode cX3_init 74 = .ok (.putfield 54, 3) := by decide +kernel
theorem dX3_init_77 : decode cX3_init 77 = .ok (.aload_n 0, 1) := by decide +kernel
theorem dX3_init_78 : decode cX3_init 78 = .ok (.iconst 5, 1) := by decide +kernel
theorem dX3_init_79 : decode cX3_init 79 = .ok (.putfield 57, 3) := by decide +kernel
theorem dX3_init_82 : decode cX3_init 82 = .ok (.aload_n 0, 1) := by decide +kernel
theorem dX3_init_83 : decode cX3_init 83 = .ok (.iconst 0, 1) := by decide +kernel
theorem dX3_init_84 : decode cX3_init 84 = .ok (.putfield 60, 3) := by decide +kernel
theorem dX3_init_87 : decode cX3_init 87 = .ok (.aload_n 0, 1) := by decide +kernel
theorem dX3_init_88 : decode cX3_init 88 = .ok (.aload_n 1, 1) := by decide +kernel
theorem dX3_init_89 : decode cX3_init 89 = .ok (.putfield 63, 3) := by decide +kernel
theorem dX3_init_92 : decode cX3_init 92 = .ok (.iconst 0, 1) := by decide +kernel
theorem dX3_init_93 : decode cX3_init 93 = .ok (.istore_n 2, 1) := by decide +kernel
theorem dX3_init_94 : decode cX3_init 94 = .ok (.iload_n 2, 1) := by decide +kernel
theorem dX3_init_95 : decode cX3_init 95 = .ok (.bipush 102, 2) := by decide +kernel
theorem dX3_init_97 : decode cX3_init 97 = .ok (.if_icmp .ge 22, 3) := by decide +kernel
theorem dX3_init_100 : decode cX3_init 100 = .ok (.aload_n 0, 1) := by decide +kernel
theorem dX3_init_101 : decode cX3_init 101 = .ok (.getfield 27, 3) := by decide +kernel
theorem dX3_init_104 : decode cX3_init 104 = .ok (.iload_n 2, 1) := by decide +kernel
theorem dX3_init_105 : decode cX3_init 105 = .ok (.new 25, 3) := by decide +kernel
theorem dX3_init_108 : decode cX3_init 108 = .ok (.dup, 1) := by decide +kernel
theorem dX3_init_109 : decode cX3_init 109 = .ok (.invokespecial 67, 3) := by decide +kernel
theorem dX3_init_112 : decode cX3_init 112 = .ok (.aastore, 1) := by decide +kernel
theorem dX3_init_113 : decode cX3_init 113 = .ok (.iinc 2 1, 3) := by decide +kernel
theorem dX3_init_116 : decode cX3_init 116 = .ok (.goto (-22), 3) := by decide +kernel
theorem dX3_init_119 : decode cX3_init 119 = .ok (.iconst 0, 1) := by decide +kernel
theorem dX3_init_120 : decode cX3_init 120 = .ok (.istore_n 2, 1) := by decide +kernel
theorem dX3_init_121 : decode cX3_init 121 = .ok (.iload_n 2, 1) := by decide +kernel
theorem dX3_init_122 : decode cX3_init 122 = .ok (.bipush 102, 2) := by decide +kernel
theorem dX3_init_124 : decode cX3_init 124 = .ok (.if_icmp .ge 22, 3) := by decide +kernel
theorem dX3_init_127 : decode cX3_init 127 = .ok (.aload_n 0, 1) := by decide +kernel
theorem dX3_init_128 : decode cX3_init 128 = .ok (.getfield 33, 3) := by decide +kernel
theorem dX3_init_131 : decode cX3_init 131 = .ok (.iload_n 2, 1) := by decide +kernel
theorem dX3_init_132 : decode cX3_init 132 = .ok (.new 31, 3) := by decide +kernel
theorem dX3_init_135 : decode cX3_init 135 = .ok (.dup, 1) := by decide +kernel
theorem dX3_init_136 : decode cX3_init 136 = .ok (.invokespecial 68, 3) := by decide +kernel
theorem dX3_init_139 : decode cX3_init 139 = .ok (.aastore, 1) := by decide +kernel
theorem dX3_init_140 : decode cX3_init 140 = .ok (.iinc 2 1, 3) := by decide +kernel
theorem dX3_init_143 : decode cX3_init 143 = .ok (.goto (-22), 3) := by decide +kernel
theorem dX3_init_146 : decode cX3_init 146 = .ok (.aload_n 0, 1) := by decide +kernel
theorem dX3_init_147 : decode cX3_init 147 = .ok (.aload_n 0, 1) := by decide +kernel
theorem dX3_init_148 : decode cX3_init 148 = .ok (.getfield 33, 3) := by decide +kernel
theorem dX3_init_151 : decode cX3_init 151 = .ok (.iconst 0, 1) := by decide +kernel
theorem dX3_init_152 : decode cX3_init 152 = .ok (.aaload, 1) := by decide +kernel
theorem dX3_init_153 : decode cX3_init 153 = .ok (.putfield 69, 3) := by decide +kernel
theorem dX3_init_156 : decode cX3_init 156 = .ok (.return_, 1) := by decide +kernel
theorem dX3_makeRun_0 : decode cX3_makeRun 0 = .ok (.aload_n 0, 1) := by decide +kernel
theorem dX3_makeRun_1 : decode cX3_makeRun 1 = .ok (.invokevirtual 73, 3) := by decide +kernel
theorem dX3_makeRun_4 : decode cX3_makeRun 4 = .ok (.aload_n 0, 1) := by decide +kernel
theorem dX3_makeRun_5 : decode cX3_makeRun 5 = .ok (.aconst_null, 1) := by decide +kernel
theorem dX3_makeRun_6 : decode cX3_makeRun 6 = .ok (.aconst_null, 1) := by decide +kernel
theorem dX3_makeRun_7 : decode cX3_makeRun 7 = .ok (.aload_n 1, 1) := by decide +kernel
theorem dX3_makeRun_8 : decode cX3_makeRun 8 = .ok (.invokevirtual 76, 3) := by decide +kernel
theorem dX3_makeRun_11 : decode cX3_makeRun 11 = .ok (.istore_n 2, 1) := by decide +kernel
theorem dX3_makeRun_12 : decode cX3_makeRun 12 = .ok (.aload_n 0, 1) := by decide +kernel
theorem dX3_makeRun_13 : decode cX3_makeRun 13 = .ok (.iload_n 2, 1) := by decide +kernel
theorem dX3_makeRun_14 : decode cX3_makeRun 14 = .ok (.iconst 0, 1) := by decide +kernel
theorem dX3_makeRun_15 : decode cX3_makeRun 15 = .ok (.invokevirtual 80, 3) := by decide +kernel
theorem dX3_makeRun_18 : decode cX3_makeRun 18 = .ok (.aload_n 0, 1) := by decide +kernel
theorem dX3_makeRun_19 : decode cX3_makeRun 19 = .ok (.aload_n 0, 1) := by decide +kernel
theorem dX3_makeRun_20 : decode cX3_makeRun 20 = .ok (.aload_n 1, 1) := by decide +kernel
theorem dX3_makeRun_21 : decode cX3_makeRun 21 = .ok (.aload_n 1, 1) := by decide +kernel
theorem dX3_makeRun_22 : decode cX3_makeRun 22 = .ok (.getfield 84, 3) := by decide +kernel
theorem dX3_makeRun_25 : decode cX3_makeRun 25 = .ok (.iconst 1, 1) := by decide +kernel
theorem dX3_makeRun_26 : decode cX3_makeRun 26 = .ok (.isub, 1) := by decide +kernel
theorem dX3_makeRun_27 : decode cX3_makeRun 27 = .ok (.iload_n 2, 1) := by decide +kernel
theorem dX3_makeRun_28 : decode cX3_makeRun 28 = .ok (.iconst 0, 1) := by decide +kernel
theorem dX3_makeRun_29 : decode cX3_makeRun 29 = .ok (.invokevirtual 89, 3) := by decide +kernel
theorem dX3_makeRun_32 : decode cX3_makeRun 32 = .ok (.putfield 41, 3) := by decide +kernel
theorem dX3_makeRun_35 : decode cX3_makeRun 35 = .ok (.aload_n 0, 1) := by decide +kernel
theorem dX3_makeRun_36 : decode cX3_makeRun 36 = .ok (.getfield 21, 3) := by decide +kernel
theorem dX3_makeRun_39 : decode cX3_makeRun 39 = .ok (.iconst 1, 1) := by decide +kernel
theorem dX3_makeRun_40 : decode cX3_makeRun 40 = .ok (.aload_n 0, 1) := by decide +kernel
theorem dX3_makeRun_41 : decode cX3_makeRun 41 = .ok (.getfield 41, 3) := by decide +kernel
theorem dX3_makeRun_44 : decode cX3_makeRun 44 = .ok (.invokevirtual 93, 3) := by decide +kernel
theorem dX3_makeRun_47 : decode cX3_makeRun 47 = .ok (.iconst 0, 1) := by decide +kernel
theorem dX3_makeRun_48 : decode cX3_makeRun 48 = .ok (.istore_n 3, 1) := by decide +kernel
theorem dX3_makeRun_49 : decode cX3_makeRun 49 = .ok (.iload_n 3, 1) := by decide +kernel
theorem dX3_makeRun_50 : decode cX3_makeRun 50 = .ok (.ldc 96, 2) := by decide +kernel
theorem dX3_makeRun_52 : decode cX3_makeRun 52 = .ok (.if_icmp .ge 73, 3) := by decide +kernel
theorem dX3_makeRun_55 : decode cX3_makeRun 55 = .ok (.aload_n 0, 1) := by decide +kernel
theorem dX3_makeRun_56 : decode cX3_makeRun 56 = .ok (.getfield 57, 3) := by decide +kernel
theorem dX3_makeRun_59 : decode cX3_makeRun 59 = .ok (.iconst 5, 1) := by decide +kernel
theorem dX3_makeRun_60 : decode cX3_makeRun 60 = .ok (.if_icmp .ne 65, 3) := by decide +kernel
theorem dX3_makeRun_63 : decode cX3_makeRun 63 = .ok (.aload_n 0, 1) := by decide +kernel
theorem dX3_makeRun_64 : decode cX3_makeRun 64 = .ok (.getfield 21, 3) := by decide +kernel
theorem dX3_makeRun_67 : decode cX3_makeRun 67 = .ok (.getfield 97, 3) := by decide +kernel
theorem dX3_makeRun_70 : decode cX3_makeRun 70 = .ok (.ifCond .ne 11, 3) := by decide +kernel
theorem dX3_makeRun_73 : decode cX3_makeRun 73 = .ok (.aload_n 0, 1) := by decide +kernel
theorem dX3_makeRun_74 : decode cX3_makeRun 74 = .ok (.iconst 0, 1) := by decide +kernel
theorem dX3_makeRun_75 : decode cX3_makeRun 75 = .ok (.putfield 57, 3) := by decide +kernel
theorem dX3_makeRun_78 : decode cX3_makeRun 78 = .ok (.goto 41, 3) := by decide +kernel
theorem dX3_makeRun_81 : decode cX3_makeRun 81 = .ok (.aload_n 0, 1) := by decide +kernel
theorem dX3_makeRun_82 : decode cX3_makeRun 82 = .ok (.getfield 21, 3) := by decide +kernel
theorem dX3_makeRun_85 : decode cX3_makeRun 85 = .ok (.getfield 97, 3) := by decide +kernel
theorem dX3_makeRun_88 : decode cX3_makeRun 88 = .ok (.sipush 4980, 3) := by decide +kernel
theorem dX3_makeRun_91 : decode cX3_makeRun 91 = .ok (.if_icmp .gt 16, 3) := by decide +kernel
theorem dX3_makeRun_94 : decode cX3_makeRun 94 = .ok (.aload_n 0, 1) := by decide +kernel
theorem dX3_makeRun_95 : decode cX3_makeRun 95 = .ok (.getfield 12, 3) := by decide +kernel
theorem dX3_makeRun_98 : decode cX3_makeRun 98 = .ok (.getfield 98, 3) := by decide +kernel
theorem dX3_makeRun_101 : decode cX3_makeRun 101 = .ok (.sipush 3480, 3) := by decide +kernel
theorem dX3_makeRun_104 : decode cX3_makeRun 104 = .ok (.if_icmp .le 11, 3) := by decide +kernel
theorem dX3_makeRun_107 : decode cX3_makeRun 107 = .ok (.aload_n 0, 1) := by decide +kernel
theorem dX3_makeRun_108 : decode cX3_makeRun 108 = .ok (.iconst 3, 1) := by decide +kernel
theorem dX3_makeRun_109 : decode cX3_makeRun 109 = .ok (.putfield 57, 3) := by decide +kernel
theorem dX3_makeRun_112 : decode cX3_makeRun 112 = .ok (.goto 7, 3) := by decide +kernel
theorem dX3_makeRun_115 : decode cX3_makeRun 115 = .ok (.aload_n 0, 1) := by decide +kernel
theorem dX3_makeRun_116 : decode cX3_makeRun 116 = .ok (.invokevirtual 99, 3) := by decide +kernel
theorem dX3_makeRun_119 : decode cX3_makeRun 119 = .ok (.iinc 3 1, 3) := by decide +kernel
theorem dX3_makeRun_122 : decode cX3_makeRun 122 = .ok (.goto (-73), 3) := by decide +kernel
theorem dX3_makeRun_125 : decode cX3_makeRun 125 = .ok (.aload_n 0, 1) := by decide +kernel
theorem dX3_makeRun_126 : decode cX3_makeRun 126 = .ok (.getfield 57, 3) := by decide +kernel
theorem dX3_makeRun_129 : decode cX3_makeRun 129 = .ok (.iconst 5, 1) := by decide +kernel
theorem dX3_makeRun_130 : decode cX3_makeRun 130 = .ok (.if_icmp .ne 8, 3) := by decide +kernel
theorem dX3_makeRun_133 : decode cX3_makeRun 133 = .ok (.aload_n 0, 1) := by decide +kernel
theorem dX3_makeRun_134 : decode cX3_makeRun 134 = .ok (.iconst 3, 1) := by decide +kernel
theorem dX3_makeRun_135 : decode cX3_makeRun 135 = .ok (.putfield 57, 3) := by decide +kernel
theorem dX3_makeRun_138 : decode cX3_makeRun 138 = .ok (.aload_n 0, 1) := by decide +kernel
theorem dX3_makeRun_139 : decode cX3_makeRun 139 = .ok (.getfield 57, 3) := by decide +kernel
theorem dX3_makeRun_142 : decode cX3_makeRun 142 = .ok (.ireturn, 1) := by decide +kernel
theorem dX3_clear_0 : decode cX3_clear 0 = .ok (.aload_n 0, 1) := by decide +kernel
theorem dX3_clear_1 : decode cX3_clear 1 = .ok (.getfield 12, 3) := by decide +kernel
theorem dX3_clear_4 : decode cX3_clear 4 = .ok (.iconst 0, 1) := by decide +kernel
theorem dX3_clear_5 : decode cX3_clear 5 = .ok (.putfield 98, 3) := by decide +kernel
theorem dX3_clear_8 : decode cX3_clear 8 = .ok (.aload_n 0, 1) := by decide +kernel
theorem dX3_clear_9 : decode cX3_clear 9 = .ok (.getfield 12, 3) := by decide +kernel
theorem dX3_clear_12 : decode cX3_clear 12 = .ok (.iconst 0, 1) := by decide +kernel
theorem dX3_clear_13 : decode cX3_clear 13 = .ok (.putfield 102, 3) := by decide +kernel
theorem dX3_clear_16 : decode cX3_clear 16 = .ok (.aload_n 0, 1) := by decide +kernel
theorem dX3_clear_17 : decode cX3_clear 17 = .ok (.getfield 21, 3) := by decide +kernel
theorem dX3_clear_20 : decode cX3_clear 20 = .ok (.iconst 0, 1) := by decide +kernel
theorem dX3_clear_21 : decode cX3_clear 21 = .ok (.putfield 97, 3) := by decide +kernel
theorem dX3_clear_24 : decode cX3_clear 24 = .ok (.aload_n 0, 1) := by decide +kernel
theorem dX3_clear_25 : decode cX3_clear 25 = .ok (.iconst 0, 1) := by decide +kernel
theorem dX3_clear_26 : decode cX3_clear 26 = .ok (.putfield 45, 3) := by decide +kernel
theorem dX3_clear_29 : decode cX3_clear 29 = .ok (.aload_n 0, 1) := by decide +kernel
theorem dX3_clear_30 : decode cX3_clear 30 = .ok (.iconst 0, 1) := by decide +kernel
theorem dX3_clear_31 : decode cX3_clear 31 = .ok (.putfield 48, 3) := by decide +kernel
theorem dX3_clear_34 : decode cX3_clear 34 = .ok (.aload_n 0, 1) := by decide +kernel
theorem dX3_clear_35 : decode cX3_clear 35 = .ok (.iconst 1, 1) := by decide +kernel
theorem dX3_clear_36 : decode cX3_clear 36 = .ok (.putfield 51, 3) := by decide +kernel
theorem dX3_clear_39 : decode cX3_clear 39 = .ok (.aload_n 0, 1) := by decide +kernel
theorem dX3_clear_40 : decode cX3_clear 40 = .ok (.iconst 0, 1) := by decide +kernel
theorem dX3_clear_41 : decode cX3_clear 41 = .ok (.putfield 54, 3) := by decide +kernel
theorem dX3_clear_44 : decode cX3_clear 44 = .ok (.aload_n 0, 1) := by decide +kernel
theorem dX3_clear_45 : decode cX3_clear 45 = .ok (.iconst 5, 1) := by decide +kernel
theorem dX3_clear_46 : decode cX3_clear 46 = .ok (.putfield 57, 3) := by decide +kernel
theorem dX3_clear_49 : decode cX3_clear 49 = .ok (.aload_n 0, 1) := by decide +kernel
theorem dX3_clear_50 : decode cX3_clear 50 = .ok (.iconst 0, 1) := by decide +kernel
theorem dX3_clear_51 : decode cX3_clear 51 = .ok (.putfield 60, 3) := by decide +kernel
theorem dX3_clear_54 : decode cX3_clear 54 = .ok (.aload_n 0, 1) := by decide +kernel
theorem dX3_clear_55 : decode cX3_clear 55 = .ok (.getfield 69, 3) := by decide +kernel
theorem dX3_clear_58 : decode cX3_clear 58 = .ok (.iconst 0, 1) := by decide +kernel
theorem dX3_clear_59 : decode cX3_clear 59 = .ok (.putfield 105, 3) := by decide +kernel
theorem dX3_clear_62 : decode cX3_clear 62 = .ok (.aload_n 0, 1) := by decide +kernel
theorem dX3_clear_63 : decode cX3_clear 63 = .ok (.getfield 69, 3) := by decide +kernel
theorem dX3_clear_66 : decode cX3_clear 66 = .ok (.iconst 1, 1) := by decide +kernel
theorem dX3_clear_67 : decode cX3_clear 67 = .ok (.putfield 108, 3) := by decide +kernel
theorem dX3_clear_70 : decode cX3_clear 70 = .ok (.return_, 1) := by decide +kernel
theorem dX3_doNext_0 : decode cX3_doNext 0 = .ok (.aload_n 0, 1) := by decide +kernel
theorem dX3_doNext_1 : decode cX3_doNext 1 = .ok (.getfield 21, 3) := by decide +kernel
theorem dX3_doNext_4 : decode cX3_doNext 4 = .ok (.getfield 97, 3) := by decide +kernel
theorem dX3_doNext_7 : decode cX3_doNext 7 = .ok (.iconst 1, 1) := by decide +kernel
theorem dX3_doNext_8 : decode cX3_doNext 8 = .ok (.isub, 1) := by decide +kernel
theorem dX3_doNext_9 : decode cX3_doNext 9 = .ok (.istore_n 1, 1) := by decide +kernel
theorem dX3_doNext_10 : decode cX3_doNext 10 = .ok (.aload_n 0, 1) := by decide +kernel
theorem dX3_doNext_11 : decode cX3_doNext 11 = .ok (.getfield 21, 3) := by decide +kernel
theorem dX3_doNext_14 : decode cX3_doNext 14 = .ok (.iload_n 1, 1) := by decide +kernel
theorem dX3_doNext_15 : decode cX3_doNext 15 = .ok (.putfield 97, 3) := by decide +kernel
theorem dX3_doNext_18 : decode cX3_doNext 18 = .ok (.aload_n 0, 1) := by decide +kernel
theorem dX3_doNext_19 : decode cX3_doNext 19 = .ok (.getfield 21, 3) := by decide +kernel
theorem dX3_doNext_22 : decode cX3_doNext 22 = .ok (.getfield 111, 3) := by decide +kernel
theorem dX3_doNext_25 : decode cX3_doNext 25 = .ok (.iload_n 1, 1) := by decide +kernel
theorem dX3_doNext_26 : decode cX3_doNext 26 = .ok (.iaload, 1) := by decide +kernel
theorem dX3_doNext_27 : decode cX3_doNext 27 = .ok (.istore_n 2, 1) := by decide +kernel
theorem dX3_doNext_28 : decode cX3_doNext 28 = .ok (.aload_n 0, 1) := by decide +kernel
theorem dX3_doNext_29 : decode cX3_doNext 29 = .ok (.getfield 21, 3) := by decide +kernel
theorem dX3_doNext_32 : decode cX3_doNext 32 = .ok (.getfield 114, 3) := by decide +kernel
theorem dX3_doNext_35 : decode cX3_doNext 35 = .ok (.iload_n 1, 1) := by decide +kernel
theorem dX3_doNext_36 : decode cX3_doNext 36 = .ok (.iaload, 1) := by decide +kernel
theorem dX3_doNext_37 : decode cX3_doNext 37 = .ok (.istore_n 3, 1) := by decide +kernel
theorem dX3_doNext_38 : decode cX3_doNext 38 = .ok (.aload_n 0, 1) := by decide +kernel
theorem dX3_doNext_39 : decode cX3_doNext 39 = .ok (.getfield 21, 3) := by decide +kernel
theorem dX3_doNext_42 : decode cX3_doNext 42 = .ok (.getfield 117, 3) := by decide +kernel
theorem dX3_doNext_45 : decode cX3_doNext 45 = .ok (.iload_n 1, 1) := by decide +kernel
theorem dX3_doNext_46 : decode cX3_doNext 46 = .ok (.iaload, 1) := by decide +kernel
theorem dX3_doNext_47 : decode cX3_doNext 47 = .ok (.istore 4, 2) := by decide +kernel
theorem dX3_doNext_49 : decode cX3_doNext 49 = .ok (.aload_n 0, 1) := by decide +kernel
theorem dX3_doNext_50 : decode cX3_doNext 50 = .ok (.getfield 21, 3) := by decide +kernel
theorem dX3_doNext_53 : decode cX3_doNext 53 = .ok (.getfield 120, 3) := by decide +kernel
theorem dX3_doNext_56 : decode cX3_doNext 56 = .ok (.iload_n 1, 1) := by decide +kernel
theorem dX3_doNext_57 : decode cX3_doNext 57 = .ok (.iaload, 1) := by decide +kernel
theorem dX3_doNext_58 : decode cX3_doNext 58 = .ok (.tableswitch 205 0 8 #[50, 65, 80, 91, 99, 134, 148, 173, 189], 50) := by decide +kernel
theorem dX3_doNext_108 : decode cX3_doNext 108 = .ok (.aload_n 0, 1) := by decide +kernel
theorem dX3_doNext_109 : decode cX3_doNext 109 = .ok (.aload_n 0, 1) := by decide +kernel
theorem dX3_doNext_110 : decode cX3_doNext 110 = .ok (.getfield 12, 3) := by decide +kernel
theorem dX3_doNext_113 : decode cX3_doNext 113 = .ok (.iload_n 2, 1) := by decide +kernel
theorem dX3_doNext_114 : decode cX3_doNext 114 = .ok (.invokevirtual 123, 3) := by decide +kernel
theorem dX3_doNext_117 : decode cX3_doNext 117 = .ok (.invokevirtual 127, 3) := by decide +kernel
theorem dX3_doNext_120 : decode cX3_doNext 120 = .ok (.goto 147, 3) := by decide +kernel
theorem dX3_doNext_123 : decode cX3_doNext 123 = .ok (.aload_n 0, 1) := by decide +kernel
theorem dX3_doNext_124 : decode cX3_doNext 124 = .ok (.aload_n 0, 1) := by decide +kernel
theorem dX3_doNext_125 : decode cX3_doNext 125 = .ok (.getfield 12, 3) := by decide +kernel
theorem dX3_doNext_128 : decode cX3_doNext 128 = .ok (.iload_n 2, 1) := by decide +kernel
theorem dX3_doNext_129 : decode cX3_doNext 129 = .ok (.invokevirtual 123, 3) := by decide +kernel
theorem dX3_doNext_132 : decode cX3_doNext 132 = .ok (.invokevirtual 131, 3) := by decide +kernel
theorem dX3_doNext_135 : decode cX3_doNext 135 = .ok (.goto 132, 3) := by decide +kernel
theorem dX3_doNext_138 : decode cX3_doNext 138 = .ok (.aload_n 0, 1) := by decide +kernel
theorem dX3_doNext_139 : decode cX3_doNext 139 = .ok (.iload_n 2, 1) := by decide +kernel
theorem dX3_doNext_140 : decode cX3_doNext 140 = .ok (.iload_n 3, 1) := by decide +kernel
theorem dX3_doNext_141 : decode cX3_doNext 141 = .ok (.iload 4, 2) := by decide +kernel
theorem dX3_doNext_143 : decode cX3_doNext 143 = .ok (.invokevirtual 134, 3) := by decide +kernel
theorem dX3_doNext_146 : decode cX3_doNext 146 = .ok (.goto 121, 3) := by decide +kernel
theorem dX3_doNext_149 : decode cX3_doNext 149 = .ok (.aload_n 0, 1) := by decide +kernel
theorem dX3_doNext_150 : decode cX3_doNext 150 = .ok (.iload_n 2, 1) := by decide +kernel
theorem dX3_doNext_151 : decode cX3_doNext 151 = .ok (.invokevirtual 138, 3) := by decide +kernel
theorem dX3_doNext_154 : decode cX3_doNext 154 = .ok (.goto 113, 3) := by decide +kernel
theorem dX3_doNext_157 : decode cX3_doNext 157 = .ok (.aload_n 0, 1) := by decide +kernel
theorem dX3_doNext_158 : decode cX3_doNext 158 = .ok (.aload_n 0, 1) := by decide +kernel
theorem dX3_doNext_159 : decode cX3_doNext 159 = .ok (.getfield 12, 3) := by decide +kernel
theorem dX3_doNext_162 : decode cX3_doNext 162 = .ok (.iload_n 2, 1) := by decide +kernel
theorem dX3_doNext_163 : decode cX3_doNext 163 = .ok (.invokevirtual 123, 3) := by decide +kernel
theorem dX3_doNext_166 : decode cX3_doNext 166 = .ok (.aload_n 0, 1) := by decide +kernel
theorem dX3_doNext_167 : decode cX3_doNext 167 = .ok (.getfield 12, 3) := by decide +kernel
theorem dX3_doNext_170 : decode cX3_doNext 170 = .ok (.iload_n 3, 1) := by decide +kernel
theorem dX3_doNext_171 : decode cX3_doNext 171 = .ok (.invokevirtual 123, 3) := by decide +kernel
theorem dX3_doNext_174 : decode cX3_doNext 174 = .ok (.aload_n 0, 1) := by decide +kernel
theorem dX3_doNext_175 : decode cX3_doNext 175 = .ok (.getfield 12, 3) := by decide +kernel
theorem dX3_doNext_178 : decode cX3_doNext 178 = .ok (.getfield 141, 3) := by decide +kernel
theorem dX3_doNext_181 : decode cX3_doNext 181 = .ok (.iload 4, 2) := by decide +kernel
theorem dX3_doNext_183 : decode cX3_doNext 183 = .ok (.iaload, 1) := by decide +kernel
theorem dX3_doNext_184 : decode cX3_doNext 184 = .ok (.iload 4, 2) := by decide +kernel
theorem dX3_doNext_186 : decode cX3_doNext 186 = .ok (.invokevirtual 144, 3) := by decide +kernel
theorem dX3_doNext_189 : decode cX3_doNext 189 = .ok (.goto 78, 3) := by decide +kernel
theorem dX3_doNext_192 : decode cX3_doNext 192 = .ok (.aload_n 0, 1) := by decide +kernel
theorem dX3_doNext_193 : decode cX3_doNext 193 = .ok (.getfield 12, 3) := by decide +kernel
theorem dX3_doNext_196 : decode cX3_doNext 196 = .ok (.iload_n 2, 1) := by decide +kernel
theorem dX3_doNext_197 : decode cX3_doNext 197 = .ok (.iconst 1, 1) := by decide +kernel
theorem dX3_doNext_198 : decode cX3_doNext 198 = .ok (.iconst (-1), 1) := by decide +kernel
theorem dX3_doNext_199 : decode cX3_doNext 199 = .ok (.iconst (-1), 1) := by decide +kernel
theorem dX3_doNext_200 : decode cX3_doNext 200 = .ok (.invokevirtual 148, 3) := by decide +kernel
theorem dX3_doNext_203 : decode cX3_doNext 203 = .ok (.goto 64, 3) := by decide +kernel
theorem dX3_doNext_206 : decode cX3_doNext 206 = .ok (.aload_n 0, 1) := by decide +kernel
theorem dX3_doNext_207 : decode cX3_doNext 207 = .ok (.aload_n 0, 1) := by decide +kernel
theorem dX3_doNext_208 : decode cX3_doNext 208 = .ok (.getfield 12, 3) := by decide +kernel
theorem dX3_doNext_211 : decode cX3_doNext 211 = .ok (.iload_n 2, 1) := by decide +kernel
theorem dX3_doNext_212 : decode cX3_doNext 212 = .ok (.invokevirtual 123, 3) := by decide +kernel
theorem dX3_doNext_215 : decode cX3_doNext 215 = .ok (.aload_n 0, 1) := by decide +kernel
theorem dX3_doNext_216 : decode cX3_doNext 216 = .ok (.getfield 12, 3) := by decide +kernel
theorem dX3_doNext_219 : decode cX3_doNext 219 = .ok (.iload_n 3, 1) := by decide +kernel
theorem dX3_doNext_220 : decode cX3_doNext 220 = .ok (.invokevirtual 123, 3) := by decide +kernel
theorem dX3_doNext_223 : decode cX3_doNext 223 = .ok (.iload 4, 2) := by decide +kernel
theorem dX3_doNext_225 : decode cX3_doNext 225 = .ok (.invokevirtual 151, 3) := by decide +kernel
theorem dX3_doNext_228 : decode cX3_doNext 228 = .ok (.goto 39, 3) := by decide +kernel
theorem dX3_doNext_231 : decode cX3_doNext 231 = .ok (.aload_n 0, 1) := by decide +kernel
theorem dX3_doNext_232 : decode cX3_doNext 232 = .ok (.aload_n 0, 1) := by decide +kernel
theorem dX3_doNext_233 : decode cX3_doNext 233 = .ok (.getfield 12, 3) := by decide +kernel
theorem dX3_doNext_236 : decode cX3_doNext 236 = .ok (.getfield 141, 3) := by decide +kernel
theorem dX3_doNext_239 : decode cX3_doNext 239 = .ok (.iload_n 2, 1) := by decide +kernel
theorem dX3_doNext_240 : decode cX3_doNext 240 = .ok (.iaload, 1) := by decide +kernel
theorem dX3_doNext_241 : decode cX3_doNext 241 = .ok (.invokevirtual 154, 3) := by decide +kernel
theorem dX3_doNext_244 : decode cX3_doNext 244 = .ok (.goto 23, 3) := by decide +kernel
theorem dX3_doNext_247 : decode cX3_doNext 247 = .ok (.aload_n 0, 1) := by decide +kernel
theorem dX3_doNext_248 : decode cX3_doNext 248 = .ok (.aload_n 0, 1) := by decide +kernel
theorem dX3_doNext_249 : decode cX3_doNext 249 = .ok (.getfield 33, 3) := by decide +kernel
theorem dX3_doNext_252 : decode cX3_doNext 252 = .ok (.aload_n 0, 1) := by decide +kernel
theorem dX3_doNext_253 : decode cX3_doNext 253 = .ok (.getfield 48, 3) := by decide +kernel
theorem dX3_doNext_256 : decode cX3_doNext 256 = .ok (.aaload, 1) := by decide +kernel
theorem dX3_doNext_257 : decode cX3_doNext 257 = .ok (.invokevirtual 157, 3) := by decide +kernel
theorem dX3_doNext_260 : decode cX3_doNext 260 = .ok (.goto 7, 3) := by decide +kernel
theorem dX3_doNext_263 : decode cX3_doNext 263 = .ok (.aload_n 0, 1) := by decide +kernel
theorem dX3_doNext_264 : decode cX3_doNext 264 = .ok (.invokevirtual 161, 3) := by decide +kernel
theorem dX3_doNext_267 : decode cX3_doNext 267 = .ok (.return_, 1) := by decide +kernel
theorem dX3_doStep_0 : decode cX3_doStep 0 = .ok (.aload_n 0, 1) := by decide +kernel
theorem dX3_doStep_1 : decode cX3_doStep 1 = .ok (.getfield 54, 3) := by decide +kernel
theorem dX3_doStep_4 : decode cX3_doStep 4 = .ok (.bipush 100, 2) := by decide +kernel
theorem dX3_doStep_6 : decode cX3_doStep 6 = .ok (.if_icmp .lt 10, 3) := by decide +kernel
theorem dX3_doStep_9 : decode cX3_doStep 9 = .ok (.aload_n 0, 1) := by decide +kernel
theorem dX3_doStep_10 : decode cX3_doStep 10 = .ok (.iconst 3, 1) := by decide +kernel
theorem dX3_doStep_11 : decode cX3_doStep 11 = .ok (.putfield 57, 3) := by decide +kernel
theorem dX3_doStep_14 : decode cX3_doStep 14 = .ok (.iconst 0, 1) := by decide +kernel
theorem dX3_doStep_15 : decode cX3_doStep 15 = .ok (.ireturn, 1) := by decide +kernel
theorem dX3_doStep_16 : decode cX3_doStep 16 = .ok (.aload_n 0, 1) := by decide +kernel
theorem dX3_doStep_17 : decode cX3_doStep 17 = .ok (.dup, 1) := by decide +kernel
theorem dX3_doStep_18 : decode cX3_doStep 18 = .ok (.getfield 54, 3) := by decide +kernel
theorem dX3_doStep_21 : decode cX3_doStep 21 = .ok (.iconst 1, 1) := by decide +kernel
theorem dX3_doStep_22 : decode cX3_doStep 22 = .ok (.iadd, 1) := by decide +kernel
theorem dX3_doStep_23 : decode cX3_doStep 23 = .ok (.putfield 54, 3) := by decide +kernel
theorem dX3_doStep_26 : decode cX3_doStep 26 = .ok (.iconst 1, 1) := by decide +kernel
theorem dX3_doStep_27 : decode cX3_doStep 27 = .ok (.ireturn, 1) := by decide +kernel
theorem dX3_decide_0 : decode cX3_decide 0 = .ok (.aload_n 0, 1) := by decide +kernel
theorem dX3_decide_1 : decode cX3_decide 1 = .ok (.getfield 33, 3) := by decide +kernel
theorem dX3_decide_4 : decode cX3_decide 4 = .ok (.iload_n 1, 1) := by decide +kernel
theorem dX3_decide_5 : decode cX3_decide 5 = .ok (.aaload, 1) := by decide +kernel
theorem dX3_decide_6 : decode cX3_decide 6 = .ok (.astore_n 3, 1) := by decide +kernel
theorem dX3_decide_7 : decode cX3_decide 7 = .ok (.aload_n 3, 1) := by decide +kernel
theorem dX3_decide_8 : decode cX3_decide 8 = .ok (.getfield 105, 3) := by decide +kernel
theorem dX3_decide_11 : decode cX3_decide 11 = .ok (.istore 4, 2) := by decide +kernel
theorem dX3_decide_13 : decode cX3_decide 13 = .ok (.iload 4, 2) := by decide +kernel
theorem dX3_decide_15 : decode cX3_decide 15 = .ok (.bipush 40, 2) := by decide +kernel
theorem dX3_decide_17 : decode cX3_decide 17 = .ok (.if_icmp .lt 10, 3) := by decide +kernel
theorem dX3_decide_20 : decode cX3_decide 20 = .ok (.aload_n 0, 1) := by decide +kernel
theorem dX3_decide_21 : decode cX3_decide 21 = .ok (.iconst 3, 1) := by decide +kernel
theorem dX3_decide_22 : decode cX3_decide 22 = .ok (.putfield 57, 3) := by decide +kernel
theorem dX3_decide_25 : decode cX3_decide 25 = .ok (.iconst (-1), 1) := by decide +kernel
theorem dX3_decide_26 : decode cX3_decide 26 = .ok (.ireturn, 1) := by decide +kernel
theorem dX3_decide_27 : decode cX3_decide 27 = .ok (.iload 4, 2) := by decide +kernel
theorem dX3_decide_29 : decode cX3_decide 29 = .ok (.aload_n 3, 1) := by decide +kernel
theorem dX3_decide_30 : decode cX3_decide 30 = .ok (.getfield 164, 3) := by decide +kernel
theorem dX3_decide_33 : decode cX3_decide 33 = .ok (.if_icmp .lt 27, 3) := by decide +kernel
theorem dX3_decide_36 : decode cX3_decide 36 = .ok (.iload_n 1, 1) := by decide +kernel
theorem dX3_decide_37 : decode cX3_decide 37 = .ok (.ifCond .ne 15, 3) := by decide +kernel
theorem dX3_decide_40 : decode cX3_decide 40 = .ok (.aload_n 0, 1) := by decide +kernel
theorem dX3_decide_41 : decode cX3_decide 41 = .ok (.iconst 4, 1) := by decide +kernel
theorem dX3_decide_42 : decode cX3_decide 42 = .ok (.putfield 57, 3) := by decide +kernel
theorem dX3_decide_45 : decode cX3_decide 45 = .ok (.aload_n 0, 1) := by decide +kernel
theorem dX3_decide_46 : decode cX3_decide 46 = .ok (.iload_n 2, 1) := by decide +kernel
theorem dX3_decide_47 : decode cX3_decide 47 = .ok (.putfield 60, 3) := by decide +kernel
theorem dX3_decide_50 : decode cX3_decide 50 = .ok (.iconst (-1), 1) := by decide +kernel
theorem dX3_decide_51 : decode cX3_decide 51 = .ok (.ireturn, 1) := by decide +kernel
theorem dX3_decide_52 : decode cX3_decide 52 = .ok (.aload_n 3, 1) := by decide +kernel
theorem dX3_decide_53 : decode cX3_decide 53 = .ok (.getfield 167, 3) := by decide +kernel
theorem dX3_decide_56 : decode cX3_decide 56 = .ok (.iload 4, 2) := by decide +kernel
theorem dX3_decide_58 : decode cX3_decide 58 = .ok (.iconst 0, 1) := by decide +kernel
theorem dX3_decide_59 : decode cX3_decide 59 = .ok (.iastore, 1) := by decide +kernel
theorem dX3_decide_60 : decode cX3_decide 60 = .ok (.aload_n 3, 1) := by decide +kernel
theorem dX3_decide_61 : decode cX3_decide 61 = .ok (.getfield 170, 3) := by decide +kernel
theorem dX3_decide_64 : decode cX3_decide 64 = .ok (.iload 4, 2) := by decide +kernel
theorem dX3_decide_66 : decode cX3_decide 66 = .ok (.iload_n 2, 1) := by decide +kernel
theorem dX3_decide_67 : decode cX3_decide 67 = .ok (.iastore, 1) := by decide +kernel
theorem dX3_decide_68 : decode cX3_decide 68 = .ok (.aload_n 3, 1) := by decide +kernel
theorem dX3_decide_69 : decode cX3_decide 69 = .ok (.iload 4, 2) := by decide +kernel
theorem dX3_decide_71 : decode cX3_decide 71 = .ok (.iconst 1, 1) := by decide +kernel
theorem dX3_decide_72 : decode cX3_decide 72 = .ok (.iadd, 1) := by decide +kernel
theorem dX3_decide_73 : decode cX3_decide 73 = .ok (.putfield 105, 3) := by decide +kernel
theorem dX3_decide_76 : decode cX3_decide 76 = .ok (.aload_n 3, 1) := by decide +kernel
theorem dX3_decide_77 : decode cX3_decide 77 = .ok (.getfield 167, 3) := by decide +kernel
theorem dX3_decide_80 : decode cX3_decide 80 = .ok (.iload 4, 2) := by decide +kernel
theorem dX3_decide_82 : decode cX3_decide 82 = .ok (.iaload, 1) := by decide +kernel
theorem dX3_decide_83 : decode cX3_decide 83 = .ok (.ireturn, 1) := by decide +kernel
theorem dX3_fail_0 : decode cX3_fail 0 = .ok (.iload_n 1, 1) := by decide +kernel
theorem dX3_fail_1 : decode cX3_fail 1 = .ok (.ifCond .ne 9, 3) := by decide +kernel
theorem dX3_fail_4 : decode cX3_fail 4 = .ok (.aload_n 0, 1) := by decide +kernel
theorem dX3_fail_5 : decode cX3_fail 5 = .ok (.iconst 1, 1) := by decide +kernel
theorem dX3_fail_6 : decode cX3_fail 6 = .ok (.putfield 57, 3) := by decide +kernel
theorem dX3_fail_9 : decode cX3_fail 9 = .ok (.return_, 1) := by decide +kernel
theorem dX3_fail_10 : decode cX3_fail 10 = .ok (.aload_n 0, 1) := by decide +kernel
theorem dX3_fail_11 : decode cX3_fail 11 = .ok (.getfield 33, 3) := by decide +kernel
theorem dX3_fail_14 : decode cX3_fail 14 = .ok (.iload_n 1, 1) := by decide +kernel
theorem dX3_fail_15 : decode cX3_fail 15 = .ok (.aaload, 1) := by decide +kernel
theorem dX3_fail_16 : decode cX3_fail 16 = .ok (.astore_n 2, 1) := by decide +kernel
theorem dX3_fail_17 : decode cX3_fail 17 = .ok (.aload_n 0, 1) := by decide +kernel
theorem dX3_fail_18 : decode cX3_fail 18 = .ok (.getfield 21, 3) := by decide +kernel
theorem dX3_fail_21 : decode cX3_fail 21 = .ok (.aload_n 2, 1) := by decide +kernel
theorem dX3_fail_22 : decode cX3_fail 22 = .ok (.getfield 173, 3) := by decide +kernel
theorem dX3_fail_25 : decode cX3_fail 25 = .ok (.putfield 97, 3) := by decide +kernel
theorem dX3_fail_28 : decode cX3_fail 28 = .ok (.aload_n 0, 1) := by decide +kernel
theorem dX3_fail_29 : decode cX3_fail 29 = .ok (.iload_n 1, 1) := by decide +kernel
theorem dX3_fail_30 : decode cX3_fail 30 = .ok (.putfield 48, 3) := by decide +kernel
theorem dX3_fail_33 : decode cX3_fail 33 = .ok (.aload_n 2, 1) := by decide +kernel
theorem dX3_fail_34 : decode cX3_fail 34 = .ok (.invokevirtual 176, 3) := by decide +kernel
theorem dX3_fail_37 : decode cX3_fail 37 = .ok (.ifCond .ne 27, 3) := by decide +kernel
theorem dX3_fail_40 : decode cX3_fail 40 = .ok (.aload_n 0, 1) := by decide +kernel
theorem dX3_fail_41 : decode cX3_fail 41 = .ok (.getfield 12, 3) := by decide +kernel
theorem dX3_fail_44 : decode cX3_fail 44 = .ok (.aload_n 2, 1) := by decide +kernel
theorem dX3_fail_45 : decode cX3_fail 45 = .ok (.getfield 180, 3) := by decide +kernel
theorem dX3_fail_48 : decode cX3_fail 48 = .ok (.iconst 0, 1) := by decide +kernel
theorem dX3_fail_49 : decode cX3_fail 49 = .ok (.iconst (-1), 1) := by decide +kernel
theorem dX3_fail_50 : decode cX3_fail 50 = .ok (.iconst (-1), 1) := by decide +kernel
theorem dX3_fail_51 : decode cX3_fail 51 = .ok (.invokevirtual 148, 3) := by decide +kernel
theorem dX3_fail_54 : decode cX3_fail 54 = .ok (.aload_n 0, 1) := by decide +kernel
theorem dX3_fail_55 : decode cX3_fail 55 = .ok (.iload_n 1, 1) := by decide +kernel
theorem dX3_fail_56 : decode cX3_fail 56 = .ok (.iconst 1, 1) := by decide +kernel
theorem dX3_fail_57 : decode cX3_fail 57 = .ok (.isub, 1) := by decide +kernel
theorem dX3_fail_58 : decode cX3_fail 58 = .ok (.putfield 48, 3) := by decide +kernel
theorem dX3_fail_61 : decode cX3_fail 61 = .ok (.goto 32, 3) := by decide +kernel
theorem dX3_fail_64 : decode cX3_fail 64 = .ok (.aload_n 2, 1) := by decide +kernel
theorem dX3_fail_65 : decode cX3_fail 65 = .ok (.getfield 183, 3) := by decide +kernel
theorem dX3_fail_68 : decode cX3_fail 68 = .ok (.bipush 20, 2) := by decide +kernel
theorem dX3_fail_70 : decode cX3_fail 70 = .ok (.if_icmp .lt 11, 3) := by decide +kernel
theorem dX3_fail_73 : decode cX3_fail 73 = .ok (.aload_n 0, 1) := by decide +kernel
theorem dX3_fail_74 : decode cX3_fail 74 = .ok (.iconst 3, 1) := by decide +kernel
theorem dX3_fail_75 : decode cX3_fail 75 = .ok (.putfield 57, 3) := by decide +kernel
theorem dX3_fail_78 : decode cX3_fail 78 = .ok (.goto 15, 3) := by decide +kernel
theorem dX3_fail_81 : decode cX3_fail 81 = .ok (.aload_n 0, 1) := by decide +kernel
theorem dX3_fail_82 : decode cX3_fail 82 = .ok (.getfield 21, 3) := by decide +kernel
theorem dX3_fail_85 : decode cX3_fail 85 = .ok (.bipush 8, 2) := by decide +kernel
theorem dX3_fail_87 : decode cX3_fail 87 = .ok (.iconst (-1), 1) := by decide +kernel
theorem dX3_fail_88 : decode cX3_fail 88 = .ok (.iconst (-1), 1) := by decide +kernel
theorem dX3_fail_89 : decode cX3_fail 89 = .ok (.iconst (-1), 1) := by decide +kernel
theorem dX3_fail_90 : decode cX3_fail 90 = .ok (.invokevirtual 186, 3) := by decide +kernel
theorem dX3_fail_93 : decode cX3_fail 93 = .ok (.return_, 1) := by decide +kernel
theorem dX3_openScope_0 : decode cX3_openScope 0 = .ok (.aload_n 0, 1) := by decide +kernel
theorem dX3_openScope_1 : decode cX3_openScope 1 = .ok (.getfield 45, 3) := by decide +kernel
theorem dX3_openScope_4 : decode cX3_openScope 4 = .ok (.bipush 102, 2) := by decide +kernel
theorem dX3_openScope_6 : decode cX3_openScope 6 = .ok (.if_icmp .ge 10, 3) := by decide +kernel
theorem dX3_openScope_9 : decode cX3_openScope 9 = .ok (.aload_n 0, 1) := by decide +kernel
theorem dX3_openScope_10 : decode cX3_openScope 10 = .ok (.getfield 45, 3) := by decide +kernel
theorem dX3_openScope_13 : decode cX3_openScope 13 = .ok (.goto 5, 3) := by decide +kernel
theorem dX3_openScope_16 : decode cX3_openScope 16 = .ok (.bipush 101, 2) := by decide +kernel
theorem dX3_openScope_18 : decode cX3_openScope 18 = .ok (.istore 4, 2) := by decide +kernel
theorem dX3_openScope_20 : decode cX3_openScope 20 = .ok (.aload_n 0, 1) := by decide +kernel
theorem dX3_openScope_21 : decode cX3_openScope 21 = .ok (.getfield 27, 3) := by decide +kernel
theorem dX3_openScope_24 : decode cX3_openScope 24 = .ok (.iload 4, 2) := by decide +kernel
theorem dX3_openScope_26 : decode cX3_openScope 26 = .ok (.aaload, 1) := by decide +kernel
theorem dX3_openScope_27 : decode cX3_openScope 27 = .ok (.aload_n 1, 1) := by decide +kernel
theorem dX3_openScope_28 : decode cX3_openScope 28 = .ok (.aload_n 2, 1) := by decide +kernel
theorem dX3_openScope_29 : decode cX3_openScope 29 = .ok (.aload_n 3, 1) := by decide +kernel
theorem dX3_openScope_30 : decode cX3_openScope 30 = .ok (.invokevirtual 188, 3) := by decide +kernel
theorem dX3_openScope_33 : decode cX3_openScope 33 = .ok (.aload_n 0, 1) := by decide +kernel
theorem dX3_openScope_34 : decode cX3_openScope 34 = .ok (.iload 4, 2) := by decide +kernel
theorem dX3_openScope_36 : decode cX3_openScope 36 = .ok (.iconst 1, 1) := by decide +kernel
theorem dX3_openScope_37 : decode cX3_openScope 37 = .ok (.iadd, 1) := by decide +kernel
theorem dX3_openScope_38 : decode cX3_openScope 38 = .ok (.putfield 45, 3) := by decide +kernel
theorem dX3_openScope_41 : decode cX3_openScope 41 = .ok (.iload 4, 2) := by decide +kernel
theorem dX3_openScope_43 : decode cX3_openScope 43 = .ok (.ireturn, 1) := by decide +kernel
theorem dX3_openNames_0 : decode cX3_openNames 0 = .ok (.aload_n 0, 1) := by decide +kernel
theorem dX3_openNames_1 : decode cX3_openNames 1 = .ok (.getfield 27, 3) := by decide +kernel
theorem dX3_openNames_4 : decode cX3_openNames 4 = .ok (.iload_n 1, 1) := by decide +kernel
theorem dX3_openNames_5 : decode cX3_openNames 5 = .ok (.aaload, 1) := by decide +kernel
theorem dX3_openNames_6 : decode cX3_openNames 6 = .ok (.getfield 192, 3) := by decide +kernel
theorem dX3_openNames_9 : decode cX3_openNames 9 = .ok (.astore_n 3, 1) := by decide +kernel
theorem dX3_openNames_10 : decode cX3_openNames 10 = .ok (.aload_n 0, 1) := by decide +kernel
theorem dX3_openNames_11 : decode cX3_openNames 11 = .ok (.getfield 27, 3) := by decide +kernel
theorem dX3_openNames_14 : decode cX3_openNames 14 = .ok (.iload_n 1, 1) := by decide +kernel
theorem dX3_openNames_15 : decode cX3_openNames 15 = .ok (.aaload, 1) := by decide +kernel
theorem dX3_openNames_16 : decode cX3_openNames 16 = .ok (.getfield 195, 3) := by decide +kernel
theorem dX3_openNames_19 : decode cX3_openNames 19 = .ok (.astore 4, 2) := by decide +kernel
theorem dX3_openNames_21 : decode cX3_openNames 21 = .ok (.iconst 0, 1) := by decide +kernel
theorem dX3_openNames_22 : decode cX3_openNames 22 = .ok (.istore 5, 2) := by decide +kernel
theorem dX3_openNames_24 : decode cX3_openNames 24 = .ok (.iload 5, 2) := by decide +kernel
theorem dX3_openNames_26 : decode cX3_openNames 26 = .ok (.aload 4, 2) := by decide +kernel
theorem dX3_openNames_28 : decode cX3_openNames 28 = .ok (.getfield 84, 3) := by decide +kernel
theorem dX3_openNames_31 : decode cX3_openNames 31 = .ok (.if_icmp .ge 52, 3) := by decide +kernel
theorem dX3_openNames_34 : decode cX3_openNames 34 = .ok (.aload 4, 2) := by decide +kernel
theorem dX3_openNames_36 : decode cX3_openNames 36 = .ok (.getfield 199, 3) := by decide +kernel
theorem dX3_openNames_39 : decode cX3_openNames 39 = .ok (.iload 5, 2) := by decide +kernel
theorem dX3_openNames_41 : decode cX3_openNames 41 = .ok (.iaload, 1) := by decide +kernel
theorem dX3_openNames_42 : decode cX3_openNames 42 = .ok (.ifCond .ne 35, 3) := by decide +kernel
theorem dX3_openNames_45 : decode cX3_openNames 45 = .ok (.aload_n 3, 1) := by decide +kernel
theorem dX3_openNames_46 : decode cX3_openNames 46 = .ok (.aload 4, 2) := by decide +kernel
theorem dX3_openNames_48 : decode cX3_openNames 48 = .ok (.getfield 202, 3) := by decide +kernel
theorem dX3_openNames_51 : decode cX3_openNames 51 = .ok (.iload 5, 2) := by decide +kernel
theorem dX3_openNames_53 : decode cX3_openNames 53 = .ok (.iaload, 1) := by decide +kernel
theorem dX3_openNames_54 : decode cX3_openNames 54 = .ok (.iaload, 1) := by decide +kernel
theorem dX3_openNames_55 : decode cX3_openNames 55 = .ok (.iconst (-1), 1) := by decide +kernel
theorem dX3_openNames_56 : decode cX3_openNames 56 = .ok (.if_icmp .ne 21, 3) := by decide +kernel
theorem dX3_openNames_59 : decode cX3_openNames 59 = .ok (.aload_n 3, 1) := by decide +kernel
theorem dX3_openNames_60 : decode cX3_openNames 60 = .ok (.aload 4, 2) := by decide +kernel
theorem dX3_openNames_62 : decode cX3_openNames 62 = .ok (.getfield 202, 3) := by decide +kernel
theorem dX3_openNames_65 : decode cX3_openNames 65 = .ok (.iload 5, 2) := by decide +kernel
theorem dX3_openNames_67 : decode cX3_openNames 67 = .ok (.iaload, 1) := by decide +kernel
theorem dX3_openNames_68 : decode cX3_openNames 68 = .ok (.aload_n 0, 1) := by decide +kernel
theorem dX3_openNames_69 : decode cX3_openNames 69 = .ok (.getfield 12, 3) := by decide +kernel
theorem dX3_openNames_72 : decode cX3_openNames 72 = .ok (.iload_n 2, 1) := by decide +kernel
theorem dX3_openNames_73 : decode cX3_openNames 73 = .ok (.invokevirtual 205, 3) := by decide +kernel
theorem dX3_openNames_76 : decode cX3_openNames 76 = .ok (.iastore, 1) := by decide +kernel
theorem dX3_openNames_77 : decode cX3_openNames 77 = .ok (.iinc 5 1, 3) := by decide +kernel
theorem dX3_openNames_80 : decode cX3_openNames 80 = .ok (.goto (-56), 3) := by decide +kernel
theorem dX3_openNames_83 : decode cX3_openNames 83 = .ok (.return_, 1) := by decide +kernel
theorem dX3_makeThings_0 : decode cX3_makeThings 0 = .ok (.aload_n 1, 1) := by decide +kernel
theorem dX3_makeThings_1 : decode cX3_makeThings 1 = .ok (.getfield 208, 3) := by decide +kernel
theorem dX3_makeThings_4 : decode cX3_makeThings 4 = .ok (.iload_n 2, 1) := by decide +kernel
theorem dX3_makeThings_5 : decode cX3_makeThings 5 = .ok (.iaload, 1) := by decide +kernel
theorem dX3_makeThings_6 : decode cX3_makeThings 6 = .ok (.istore 5, 2) := by decide +kernel
theorem dX3_makeThings_8 : decode cX3_makeThings 8 = .ok (.aload_n 1, 1) := by decide +kernel
theorem dX3_makeThings_9 : decode cX3_makeThings 9 = .ok (.getfield 211, 3) := by decide +kernel
theorem dX3_makeThings_12 : decode cX3_makeThings 12 = .ok (.iload_n 2, 1) := by decide +kernel
theorem dX3_makeThings_13 : decode cX3_makeThings 13 = .ok (.iaload, 1) := by decide +kernel
theorem dX3_makeThings_14 : decode cX3_makeThings 14 = .ok (.istore 6, 2) := by decide +kernel
theorem dX3_makeThings_16 : decode cX3_makeThings 16 = .ok (.iload 6, 2) := by decide +kernel
theorem dX3_makeThings_18 : decode cX3_makeThings 18 = .ok (.iload_n 2, 1) := by decide +kernel
theorem dX3_makeThings_19 : decode cX3_makeThings 19 = .ok (.if_icmp .gt 38, 3) := by decide +kernel
theorem dX3_makeThings_22 : decode cX3_makeThings 22 = .ok (.aload_n 1, 1) := by decide +kernel
theorem dX3_makeThings_23 : decode cX3_makeThings 23 = .ok (.getfield 208, 3) := by decide +kernel
theorem dX3_makeThings_26 : decode cX3_makeThings 26 = .ok (.iload 6, 2) := by decide +kernel
theorem dX3_makeThings_28 : decode cX3_makeThings 28 = .ok (.iaload, 1) := by decide +kernel
theorem dX3_makeThings_29 : decode cX3_makeThings 29 = .ok (.iload 5, 2) := by decide +kernel
theorem dX3_makeThings_31 : decode cX3_makeThings 31 = .ok (.if_icmp .ne 20, 3) := by decide +kernel
theorem dX3_makeThings_34 : decode cX3_makeThings 34 = .ok (.aload_n 0, 1) := by decide +kernel
theorem dX3_makeThings_35 : decode cX3_makeThings 35 = .ok (.getfield 37, 3) := by decide +kernel
theorem dX3_makeThings_38 : decode cX3_makeThings 38 = .ok (.iload 6, 2) := by decide +kernel
theorem dX3_makeThings_40 : decode cX3_makeThings 40 = .ok (.aload_n 0, 1) := by decide +kernel
theorem dX3_makeThings_41 : decode cX3_makeThings 41 = .ok (.aload_n 1, 1) := by decide +kernel
theorem dX3_makeThings_42 : decode cX3_makeThings 42 = .ok (.iload 6, 2) := by decide +kernel
theorem dX3_makeThings_44 : decode cX3_makeThings 44 = .ok (.iload_n 3, 1) := by decide +kernel
theorem dX3_makeThings_45 : decode cX3_makeThings 45 = .ok (.iload 4, 2) := by decide +kernel
theorem dX3_makeThings_47 : decode cX3_makeThings 47 = .ok (.invokevirtual 212, 3) := by decide +kernel
theorem dX3_makeThings_50 : decode cX3_makeThings 50 = .ok (.iastore, 1) := by decide +kernel
theorem dX3_makeThings_51 : decode cX3_makeThings 51 = .ok (.iinc 6 1, 3) := by decide +kernel
theorem dX3_makeThings_54 : decode cX3_makeThings 54 = .ok (.goto (-38), 3) := by decide +kernel
theorem dX3_makeThings_57 : decode cX3_makeThings 57 = .ok (.aload_n 0, 1) := by decide +kernel
theorem dX3_makeThings_58 : decode cX3_makeThings 58 = .ok (.getfield 37, 3) := by decide +kernel
theorem dX3_makeThings_61 : decode cX3_makeThings 61 = .ok (.iload_n 2, 1) := by decide +kernel
theorem dX3_makeThings_62 : decode cX3_makeThings 62 = .ok (.iaload, 1) := by decide +kernel
theorem dX3_makeThings_63 : decode cX3_makeThings 63 = .ok (.ireturn, 1) := by decide +kernel
theorem dX3_makeThing_0 : decode cX3_makeThing 0 = .ok (.aload_n 1, 1) := by decide +kernel
theorem dX3_makeThing_1 : decode cX3_makeThing 1 = .ok (.getfield 199, 3) := by decide +kernel
theorem dX3_makeThing_4 : decode cX3_makeThing 4 = .ok (.iload_n 2, 1) := by decide +kernel
theorem dX3_makeThing_5 : decode cX3_makeThing 5 = .ok (.iaload, 1) := by decide +kernel
theorem dX3_makeThing_6 : decode cX3_makeThing 6 = .ok (.istore 5, 2) := by decide +kernel
theorem dX3_makeThing_8 : decode cX3_makeThing 8 = .ok (.iload 5, 2) := by decide +kernel
theorem dX3_makeThing_10 : decode cX3_makeThing 10 = .ok (.ifCond .ne 20, 3) := by decide +kernel
theorem dX3_makeThing_13 : decode cX3_makeThing 13 = .ok (.aload_n 0, 1) := by decide +kernel
theorem dX3_makeThing_14 : decode cX3_makeThing 14 = .ok (.getfield 27, 3) := by decide +kernel
theorem dX3_makeThing_17 : decode cX3_makeThing 17 = .ok (.iload_n 3, 1) := by decide +kernel
theorem dX3_makeThing_18 : decode cX3_makeThing 18 = .ok (.aaload, 1) := by decide +kernel
theorem dX3_makeThing_19 : decode cX3_makeThing 19 = .ok (.getfield 192, 3) := by decide +kernel
theorem dX3_makeThing_22 : decode cX3_makeThing 22 = .ok (.aload_n 1, 1) := by decide +kernel
theorem dX3_makeThing_23 : decode cX3_makeThing 23 = .ok (.getfield 202, 3) := by decide +kernel
theorem dX3_makeThing_26 : decode cX3_makeThing 26 = .ok (.iload_n 2, 1) := by decide +kernel
theorem dX3_makeThing_27 : decode cX3_makeThing 27 = .ok (.iaload, 1) := by decide +kernel
theorem dX3_makeThing_28 : decode cX3_makeThing 28 = .ok (.iaload, 1) := by decide +kernel
theorem dX3_makeThing_29 : decode cX3_makeThing 29 = .ok (.ireturn, 1) := by decide +kernel
theorem dX3_makeThing_30 : decode cX3_makeThing 30 = .ok (.iload 5, 2) := by decide +kernel
theorem dX3_makeThing_32 : decode cX3_makeThing 32 = .ok (.bipush 6, 2) := by decide +kernel
theorem dX3_makeThing_34 : decode cX3_makeThing 34 = .ok (.if_icmp .ne 24, 3) := by decide +kernel
theorem dX3_makeThing_37 : decode cX3_makeThing 37 = .ok (.aload_n 0, 1) := by decide +kernel
theorem dX3_makeThing_38 : decode cX3_makeThing 38 = .ok (.getfield 12, 3) := by decide +kernel
theorem dX3_makeThing_41 : decode cX3_makeThing 41 = .ok (.bipush 6, 2) := by decide +kernel
theorem dX3_makeThing_43 : decode cX3_makeThing 43 = .ok (.aload_n 1, 1) := by decide +kernel
theorem dX3_makeThing_44 : decode cX3_makeThing 44 = .ok (.getfield 215, 3) := by decide +kernel
theorem dX3_makeThing_47 : decode cX3_makeThing 47 = .ok (.iload_n 2, 1) := by decide +kernel
theorem dX3_makeThing_48 : decode cX3_makeThing 48 = .ok (.iaload, 1) := by decide +kernel
theorem dX3_makeThing_49 : decode cX3_makeThing 49 = .ok (.iconst (-1), 1) := by decide +kernel
theorem dX3_makeThing_50 : decode cX3_makeThing 50 = .ok (.iconst (-1), 1) := by decide +kernel
theorem dX3_makeThing_51 : decode cX3_makeThing 51 = .ok (.iload_n 3, 1) := by decide +kernel
theorem dX3_makeThing_52 : decode cX3_makeThing 52 = .ok (.iload 4, 2) := by decide +kernel
theorem dX3_makeThing_54 : decode cX3_makeThing 54 = .ok (.invokevirtual 218, 3) := by decide +kernel
theorem dX3_makeThing_57 : decode cX3_makeThing 57 = .ok (.ireturn, 1) := by decide +kernel
theorem dX3_makeThing_58 : decode cX3_makeThing 58 = .ok (.aload_n 1, 1) := by decide +kernel
theorem dX3_makeThing_59 : decode cX3_makeThing 59 = .ok (.getfield 215, 3) := by decide +kernel
theorem dX3_makeThing_62 : decode cX3_makeThing 62 = .ok (.iload_n 2, 1) := by decide +kernel
theorem dX3_makeThing_63 : decode cX3_makeThing 63 = .ok (.iaload, 1) := by decide +kernel
theorem dX3_makeThing_64 : decode cX3_makeThing 64 = .ok (.ifCond .lt 17, 3) := by decide +kernel
theorem dX3_makeThing_67 : decode cX3_makeThing 67 = .ok (.aload_n 0, 1) := by decide +kernel
theorem dX3_makeThing_68 : decode cX3_makeThing 68 = .ok (.getfield 37, 3) := by decide +kernel
theorem dX3_makeThing_71 : decode cX3_makeThing 71 = .ok (.aload_n 1, 1) := by decide +kernel
theorem dX3_makeThing_72 : decode cX3_makeThing 72 = .ok (.getfield 215, 3) := by decide +kernel
theorem dX3_makeThing_75 : decode cX3_makeThing 75 = .ok (.iload_n 2, 1) := by decide +kernel
theorem dX3_makeThing_76 : decode cX3_makeThing 76 = .ok (.iaload, 1) := by decide +kernel
theorem dX3_makeThing_77 : decode cX3_makeThing 77 = .ok (.iaload, 1) := by decide +kernel
theorem dX3_makeThing_78 : decode cX3_makeThing 78 = .ok (.goto 4, 3) := by decide +kernel
theorem dX3_makeThing_81 : decode cX3_makeThing 81 = .ok (.iconst (-1), 1) := by decide +kernel
theorem dX3_makeThing_82 : decode cX3_makeThing 82 = .ok (.istore 6, 2) := by decide +kernel
theorem dX3_makeThing_84 : decode cX3_makeThing 84 = .ok (.aload_n 1, 1) := by decide +kernel
theorem dX3_makeThing_85 : decode cX3_makeThing 85 = .ok (.getfield 222, 3) := by decide +kernel
theorem dX3_makeThing_88 : decode cX3_makeThing 88 = .ok (.iload_n 2, 1) := by decide +kernel
theorem dX3_makeThing_89 : decode cX3_makeThing 89 = .ok (.iaload, 1) := by decide +kernel
theorem dX3_makeThing_90 : decode cX3_makeThing 90 = .ok (.ifCond .lt 17, 3) := by decide +kernel
theorem dX3_makeThing_93 : decode cX3_makeThing 93 = .ok (.aload_n 0, 1) := by decide +kernel
theorem dX3_makeThing_94 : decode cX3_makeThing 94 = .ok (.getfield 37, 3) := by decide +kernel
theorem dX3_makeThing_97 : decode cX3_makeThing 97 = .ok (.aload_n 1, 1) := by decide +kernel
theorem dX3_makeThing_98 : decode cX3_makeThing 98 = .ok (.getfield 222, 3) := by decide +kernel
theorem dX3_makeThing_101 : decode cX3_makeThing 101 = .ok (.iload_n 2, 1) := by decide +kernel
theorem dX3_makeThing_102 : decode cX3_makeThing 102 = .ok (.iaload, 1) := by decide +kernel
theorem dX3_makeThing_103 : decode cX3_makeThing 103 = .ok (.iaload, 1) := by decide +kernel
theorem dX3_makeThing_104 : decode cX3_makeThing 104 = .ok (.goto 4, 3) := by decide +kernel
theorem dX3_makeThing_107 : decode cX3_makeThing 107 = .ok (.iconst (-1), 1) := by decide +kernel
theorem dX3_makeThing_108 : decode cX3_makeThing 108 = .ok (.istore 7, 2) := by decide +kernel
theorem dX3_makeThing_110 : decode cX3_makeThing 110 = .ok (.aload_n 0, 1) := by decide +kernel
theorem dX3_makeThing_111 : decode cX3_makeThing 111 = .ok (.getfield 12, 3) := by decide +kernel
theorem dX3_makeThing_114 : decode cX3_makeThing 114 = .ok (.iload 5, 2) := by decide +kernel
theorem dX3_makeThing_116 : decode cX3_makeThing 116 = .ok (.aload_n 1, 1) := by decide +kernel
theorem dX3_makeThing_117 : decode cX3_makeThing 117 = .ok (.getfield 202, 3) := by decide +kernel
theorem dX3_makeThing_120 : decode cX3_makeThing 120 = .ok (.iload_n 2, 1) := by decide +kernel
theorem dX3_makeThing_121 : decode cX3_makeThing 121 = .ok (.iaload, 1) := by decide +kernel
theorem dX3_makeThing_122 : decode cX3_makeThing 122 = .ok (.iload 6, 2) := by decide +kernel
theorem dX3_makeThing_124 : decode cX3_makeThing 124 = .ok (.iload 7, 2) := by decide +kernel
theorem dX3_makeThing_126 : decode cX3_makeThing 126 = .ok (.iload_n 3, 1) := by decide +kernel
theorem dX3_makeThing_127 : decode cX3_makeThing 127 = .ok (.iload 4, 2) := by decide +kernel
theorem dX3_makeThing_129 : decode cX3_makeThing 129 = .ok (.invokevirtual 218, 3) := by decide +kernel
theorem dX3_makeThing_132 : decode cX3_makeThing 132 = .ok (.ireturn, 1) := by decide +kernel
theorem dX3_force_0 : decode cX3_force 0 = .ok (.aload_n 0, 1) := by decide +kernel
theorem dX3_force_1 : decode cX3_force 1 = .ok (.getfield 12, 3) := by decide +kernel
theorem dX3_force_4 : decode cX3_force 4 = .ok (.getfield 225, 3) := by decide +kernel
theorem dX3_force_7 : decode cX3_force 7 = .ok (.iload_n 1, 1) := by decide +kernel
theorem dX3_force_8 : decode cX3_force 8 = .ok (.iaload, 1) := by decide +kernel
theorem dX3_force_9 : decode cX3_force 9 = .ok (.istore_n 2, 1) := by decide +kernel
theorem dX3_force_10 : decode cX3_force 10 = .ok (.aload_n 0, 1) := by decide +kernel
theorem dX3_force_11 : decode cX3_force 11 = .ok (.getfield 12, 3) := by decide +kernel
theorem dX3_force_14 : decode cX3_force 14 = .ok (.getfield 226, 3) := by decide +kernel
theorem dX3_force_17 : decode cX3_force 17 = .ok (.iload_n 1, 1) := by decide +kernel
theorem dX3_force_18 : decode cX3_force 18 = .ok (.iaload, 1) := by decide +kernel
theorem dX3_force_19 : decode cX3_force 19 = .ok (.istore_n 3, 1) := by decide +kernel
theorem dX3_force_20 : decode cX3_force 20 = .ok (.aload_n 0, 1) := by decide +kernel
theorem dX3_force_21 : decode cX3_force 21 = .ok (.getfield 12, 3) := by decide +kernel
theorem dX3_force_24 : decode cX3_force 24 = .ok (.getfield 227, 3) := by decide +kernel
theorem dX3_force_27 : decode cX3_force 27 = .ok (.iload_n 1, 1) := by decide +kernel
theorem dX3_force_28 : decode cX3_force 28 = .ok (.iaload, 1) := by decide +kernel
theorem dX3_force_29 : decode cX3_force 29 = .ok (.tableswitch 143 2 6 #[35, 43, 51, 92, 135], 35) := by decide +kernel
theorem dX3_force_64 : decode cX3_force 64 = .ok (.aload_n 0, 1) := by decide +kernel
theorem dX3_force_65 : decode cX3_force 65 = .ok (.iload_n 1, 1) := by decide +kernel
theorem dX3_force_66 : decode cX3_force 66 = .ok (.invokevirtual 228, 3) := by decide +kernel
theorem dX3_force_69 : decode cX3_force 69 = .ok (.goto 103, 3) := by decide +kernel
theorem dX3_force_72 : decode cX3_force 72 = .ok (.aload_n 0, 1) := by decide +kernel
theorem dX3_force_73 : decode cX3_force 73 = .ok (.iload_n 1, 1) := by decide +kernel
theorem dX3_force_74 : decode cX3_force 74 = .ok (.invokevirtual 231, 3) := by decide +kernel
theorem dX3_force_77 : decode cX3_force 77 = .ok (.goto 95, 3) := by decide +kernel
theorem dX3_force_80 : decode cX3_force 80 = .ok (.aload_n 0, 1) := by decide +kernel
theorem dX3_force_81 : decode cX3_force 81 = .ok (.getfield 21, 3) := by decide +kernel
theorem dX3_force_84 : decode cX3_force 84 = .ok (.iconst 5, 1) := by decide +kernel
theorem dX3_force_85 : decode cX3_force 85 = .ok (.iload_n 1, 1) := by decide +kernel
theorem dX3_force_86 : decode cX3_force 86 = .ok (.invokevirtual 93, 3) := by decide +kernel
theorem dX3_force_89 : decode cX3_force 89 = .ok (.aload_n 0, 1) := by decide +kernel
theorem dX3_force_90 : decode cX3_force 90 = .ok (.getfield 21, 3) := by decide +kernel
theorem dX3_force_93 : decode cX3_force 93 = .ok (.iconst 4, 1) := by decide +kernel
theorem dX3_force_94 : decode cX3_force 94 = .ok (.iload_n 2, 1) := by decide +kernel
theorem dX3_force_95 : decode cX3_force 95 = .ok (.iload_n 3, 1) := by decide +kernel
theorem dX3_force_96 : decode cX3_force 96 = .ok (.iload_n 1, 1) := by decide +kernel
theorem dX3_force_97 : decode cX3_force 97 = .ok (.invokevirtual 186, 3) := by decide +kernel
theorem dX3_force_100 : decode cX3_force 100 = .ok (.aload_n 0, 1) := by decide +kernel
theorem dX3_force_101 : decode cX3_force 101 = .ok (.getfield 21, 3) := by decide +kernel
theorem dX3_force_104 : decode cX3_force 104 = .ok (.iconst 1, 1) := by decide +kernel
theorem dX3_force_105 : decode cX3_force 105 = .ok (.iload_n 3, 1) := by decide +kernel
theorem dX3_force_106 : decode cX3_force 106 = .ok (.invokevirtual 93, 3) := by decide +kernel
theorem dX3_force_109 : decode cX3_force 109 = .ok (.aload_n 0, 1) := by decide +kernel
theorem dX3_force_110 : decode cX3_force 110 = .ok (.getfield 21, 3) := by decide +kernel
theorem dX3_force_113 : decode cX3_force 113 = .ok (.iconst 1, 1) := by decide +kernel
theorem dX3_force_114 : decode cX3_force 114 = .ok (.iload_n 2, 1) := by decide +kernel
theorem dX3_force_115 : decode cX3_force 115 = .ok (.invokevirtual 93, 3) := by decide +kernel
theorem dX3_force_118 : decode cX3_force 118 = .ok (.goto 54, 3) := by decide +kernel
theorem dX3_force_121 : decode cX3_force 121 = .ok (.aload_n 0, 1) := by decide +kernel
theorem dX3_force_122 : decode cX3_force 122 = .ok (.getfield 21, 3) := by decide +kernel
theorem dX3_force_125 : decode cX3_force 125 = .ok (.bipush 7, 2) := by decide +kernel
theorem dX3_force_127 : decode cX3_force 127 = .ok (.iload_n 1, 1) := by decide +kernel
theorem dX3_force_128 : decode cX3_force 128 = .ok (.invokevirtual 93, 3) := by decide +kernel
theorem dX3_force_131 : decode cX3_force 131 = .ok (.aload_n 0, 1) := by decide +kernel
theorem dX3_force_132 : decode cX3_force 132 = .ok (.getfield 21, 3) := by decide +kernel
theorem dX3_force_135 : decode cX3_force 135 = .ok (.bipush 6, 2) := by decide +kernel
theorem dX3_force_137 : decode cX3_force 137 = .ok (.iload_n 2, 1) := by decide +kernel
theorem dX3_force_138 : decode cX3_force 138 = .ok (.iload_n 3, 1) := by decide +kernel
theorem dX3_force_139 : decode cX3_force 139 = .ok (.iload_n 1, 1) := by decide +kernel
theorem dX3_force_140 : decode cX3_force 140 = .ok (.invokevirtual 186, 3) := by decide +kernel
theorem dX3_force_143 : decode cX3_force 143 = .ok (.aload_n 0, 1) := by decide +kernel
theorem dX3_force_144 : decode cX3_force 144 = .ok (.getfield 21, 3) := by decide +kernel
theorem dX3_force_147 : decode cX3_force 147 = .ok (.iconst 1, 1) := by decide +kernel
theorem dX3_force_148 : decode cX3_force 148 = .ok (.iload_n 3, 1) := by decide +kernel
theorem dX3_force_149 : decode cX3_force 149 = .ok (.invokevirtual 93, 3) := by decide +kernel
theorem dX3_force_152 : decode cX3_force 152 = .ok (.aload_n 0, 1) := by decide +kernel
theorem dX3_force_153 : decode cX3_force 153 = .ok (.getfield 21, 3) := by decide +kernel
theorem dX3_force_156 : decode cX3_force 156 = .ok (.iconst 1, 1) := by decide +kernel
theorem dX3_force_157 : decode cX3_force 157 = .ok (.iload_n 2, 1) := by decide +kernel
theorem dX3_force_158 : decode cX3_force 158 = .ok (.invokevirtual 93, 3) := by decide +kernel
theorem dX3_force_161 : decode cX3_force 161 = .ok (.goto 11, 3) := by decide +kernel
theorem dX3_force_164 : decode cX3_force 164 = .ok (.aload_n 0, 1) := by decide +kernel
theorem dX3_force_165 : decode cX3_force 165 = .ok (.iload_n 1, 1) := by decide +kernel
theorem dX3_force_166 : decode cX3_force 166 = .ok (.invokevirtual 234, 3) := by decide +kernel
theorem dX3_force_169 : decode cX3_force 169 = .ok (.goto 3, 3) := by decide +kernel
theorem dX3_force_172 : decode cX3_force 172 = .ok (.return_, 1) := by decide +kernel
theorem dX3_isForced_0 : decode cX3_isForced 0 = .ok (.aload_n 0, 1) := by decide +kernel
theorem dX3_isForced_1 : decode cX3_isForced 1 = .ok (.getfield 12, 3) := by decide +kernel
theorem dX3_isForced_4 : decode cX3_isForced 4 = .ok (.getfield 227, 3) := by decide +kernel
theorem dX3_isForced_7 : decode cX3_isForced 7 = .ok (.iload_n 1, 1) := by decide +kernel
theorem dX3_isForced_8 : decode cX3_isForced 8 = .ok (.iaload, 1) := by decide +kernel
theorem dX3_isForced_9 : decode cX3_isForced 9 = .ok (.bipush 7, 2) := by decide +kernel
theorem dX3_isForced_11 : decode cX3_isForced 11 = .ok (.if_icmp .eq 16, 3) := by decide +kernel
theorem dX3_isForced_14 : decode cX3_isForced 14 = .ok (.aload_n 0, 1) := by decide +kernel
theorem dX3_isForced_15 : decode cX3_isForced 15 = .ok (.getfield 12, 3) := by decide +kernel
theorem dX3_isForced_18 : decode cX3_isForced 18 = .ok (.getfield 227, 3) := by decide +kernel
theorem dX3_isForced_21 : decode cX3_isForced 21 = .ok (.iload_n 1, 1) := by decide +kernel
theorem dX3_isForced_22 : decode cX3_isForced 22 = .ok (.iaload, 1) := by decide +kernel
theorem dX3_isForced_23 : decode cX3_isForced 23 = .ok (.iconst 1, 1) := by decide +kernel
theorem dX3_isForced_24 : decode cX3_isForced 24 = .ok (.if_icmp .ne 7, 3) := by decide +kernel
theorem dX3_isForced_27 : decode cX3_isForced 27 = .ok (.iconst 1, 1) := by decide +kernel
theorem dX3_isForced_28 : decode cX3_isForced 28 = .ok (.goto 4, 3) := by decide +kernel
theorem dX3_isForced_31 : decode cX3_isForced 31 = .ok (.iconst 0, 1) := by decide +kernel
theorem dX3_isForced_32 : decode cX3_isForced 32 = .ok (.ireturn, 1) := by decide +kernel
theorem dX3_makeWhole_0 : decode cX3_makeWhole 0 = .ok (.aload_n 0, 1) := by decide +kernel
theorem dX3_makeWhole_1 : decode cX3_makeWhole 1 = .ok (.iload_n 1, 1) := by decide +kernel
theorem dX3_makeWhole_2 : decode cX3_makeWhole 2 = .ok (.invokevirtual 237, 3) := by decide +kernel
theorem dX3_makeWhole_5 : decode cX3_makeWhole 5 = .ok (.ifCond .ne 24, 3) := by decide +kernel
theorem dX3_makeWhole_8 : decode cX3_makeWhole 8 = .ok (.aload_n 0, 1) := by decide +kernel
theorem dX3_makeWhole_9 : decode cX3_makeWhole 9 = .ok (.getfield 21, 3) := by decide +kernel
theorem dX3_makeWhole_12 : decode cX3_makeWhole 12 = .ok (.iconst 1, 1) := by decide +kernel
theorem dX3_makeWhole_13 : decode cX3_makeWhole 13 = .ok (.iload_n 1, 1) := by decide +kernel
theorem dX3_makeWhole_14 : decode cX3_makeWhole 14 = .ok (.invokevirtual 93, 3) := by decide +kernel
theorem dX3_makeWhole_17 : decode cX3_makeWhole 17 = .ok (.aload_n 0, 1) := by decide +kernel
theorem dX3_makeWhole_18 : decode cX3_makeWhole 18 = .ok (.getfield 21, 3) := by decide +kernel
theorem dX3_makeWhole_21 : decode cX3_makeWhole 21 = .ok (.iconst 0, 1) := by decide +kernel
theorem dX3_makeWhole_22 : decode cX3_makeWhole 22 = .ok (.iload_n 1, 1) := by decide +kernel
theorem dX3_makeWhole_23 : decode cX3_makeWhole 23 = .ok (.invokevirtual 93, 3) := by decide +kernel
theorem dX3_makeWhole_26 : decode cX3_makeWhole 26 = .ok (.goto 66, 3) := by decide +kernel
theorem dX3_makeWhole_29 : decode cX3_makeWhole 29 = .ok (.aload_n 0, 1) := by decide +kernel
theorem dX3_makeWhole_30 : decode cX3_makeWhole 30 = .ok (.getfield 12, 3) := by decide +kernel
theorem dX3_makeWhole_33 : decode cX3_makeWhole 33 = .ok (.getfield 227, 3) := by decide +kernel
theorem dX3_makeWhole_36 : decode cX3_makeWhole 36 = .ok (.iload_n 1, 1) := by decide +kernel
theorem dX3_makeWhole_37 : decode cX3_makeWhole 37 = .ok (.iaload, 1) := by decide +kernel
theorem dX3_makeWhole_38 : decode cX3_makeWhole 38 = .ok (.iconst 1, 1) := by decide +kernel
theorem dX3_makeWhole_39 : decode cX3_makeWhole 39 = .ok (.if_icmp .ne 53, 3) := by decide +kernel
theorem dX3_makeWhole_42 : decode cX3_makeWhole 42 = .ok (.aload_n 0, 1) := by decide +kernel
theorem dX3_makeWhole_43 : decode cX3_makeWhole 43 = .ok (.getfield 12, 3) := by decide +kernel
theorem dX3_makeWhole_46 : decode cX3_makeWhole 46 = .ok (.getfield 241, 3) := by decide +kernel
theorem dX3_makeWhole_49 : decode cX3_makeWhole 49 = .ok (.iload_n 1, 1) := by decide +kernel
theorem dX3_makeWhole_50 : decode cX3_makeWhole 50 = .ok (.iaload, 1) := by decide +kernel
theorem dX3_makeWhole_51 : decode cX3_makeWhole 51 = .ok (.aload_n 0, 1) := by decide +kernel
theorem dX3_makeWhole_52 : decode cX3_makeWhole 52 = .ok (.getfield 33, 3) := by decide +kernel
theorem dX3_makeWhole_55 : decode cX3_makeWhole 55 = .ok (.aload_n 0, 1) := by decide +kernel
theorem dX3_makeWhole_56 : decode cX3_makeWhole 56 = .ok (.getfield 48, 3) := by decide +kernel
theorem dX3_makeWhole_59 : decode cX3_makeWhole 59 = .ok (.aaload, 1) := by decide +kernel
theorem dX3_makeWhole_60 : decode cX3_makeWhole 60 = .ok (.getfield 108, 3) := by decide +kernel
theorem dX3_makeWhole_63 : decode cX3_makeWhole 63 = .ok (.if_icmp .eq 29, 3) := by decide +kernel
theorem dX3_makeWhole_66 : decode cX3_makeWhole 66 = .ok (.aload_n 0, 1) := by decide +kernel
theorem dX3_makeWhole_67 : decode cX3_makeWhole 67 = .ok (.getfield 12, 3) := by decide +kernel
theorem dX3_makeWhole_70 : decode cX3_makeWhole 70 = .ok (.getfield 241, 3) := by decide +kernel
theorem dX3_makeWhole_73 : decode cX3_makeWhole 73 = .ok (.iload_n 1, 1) := by decide +kernel
theorem dX3_makeWhole_74 : decode cX3_makeWhole 74 = .ok (.aload_n 0, 1) := by decide +kernel
theorem dX3_makeWhole_75 : decode cX3_makeWhole 75 = .ok (.getfield 33, 3) := by decide +kernel
theorem dX3_makeWhole_78 : decode cX3_makeWhole 78 = .ok (.aload_n 0, 1) := by decide +kernel
theorem dX3_makeWhole_79 : decode cX3_makeWhole 79 = .ok (.getfield 48, 3) := by decide +kernel
theorem dX3_makeWhole_82 : decode cX3_makeWhole 82 = .ok (.aaload, 1) := by decide +kernel
theorem dX3_makeWhole_83 : decode cX3_makeWhole 83 = .ok (.getfield 108, 3) := by decide +kernel
theorem dX3_makeWhole_86 : decode cX3_makeWhole 86 = .ok (.iastore, 1) := by decide +kernel
theorem dX3_makeWhole_87 : decode cX3_makeWhole 87 = .ok (.aload_n 0, 1) := by decide +kernel
theorem dX3_makeWhole_88 : decode cX3_makeWhole 88 = .ok (.iload_n 1, 1) := by decide +kernel
theorem dX3_makeWhole_89 : decode cX3_makeWhole 89 = .ok (.invokevirtual 244, 3) := by decide +kernel
theorem dX3_makeWhole_92 : decode cX3_makeWhole 92 = .ok (.return_, 1) := by decide +kernel
theorem dX3_pushParts_0 : decode cX3_pushParts 0 = .ok (.aload_n 0, 1) := by decide +kernel
theorem dX3_pushParts_1 : decode cX3_pushParts 1 = .ok (.getfield 12, 3) := by decide +kernel
theorem dX3_pushParts_4 : decode cX3_pushParts 4 = .ok (.getfield 247, 3) := by decide +kernel
theorem dX3_pushParts_7 : decode cX3_pushParts 7 = .ok (.iload_n 1, 1) := by decide +kernel
theorem dX3_pushParts_8 : decode cX3_pushParts 8 = .ok (.iaload, 1) := by decide +kernel
theorem dX3_pushParts_9 : decode cX3_pushParts 9 = .ok (.invokestatic 248, 3) := by decide +kernel
theorem dX3_pushParts_12 : decode cX3_pushParts 12 = .ok (.istore_n 2, 1) := by decide +kernel
theorem dX3_pushParts_13 : decode cX3_pushParts 13 = .ok (.iload_n 2, 1) := by decide +kernel
theorem dX3_pushParts_14 : decode cX3_pushParts 14 = .ok (.iconst 1, 1) := by decide +kernel
theorem dX3_pushParts_15 : decode cX3_pushParts 15 = .ok (.if_icmp .le 20, 3) := by decide +kernel
theorem dX3_pushParts_18 : decode cX3_pushParts 18 = .ok (.aload_n 0, 1) := by decide +kernel
theorem dX3_pushParts_19 : decode cX3_pushParts 19 = .ok (.getfield 21, 3) := by decide +kernel
theorem dX3_pushParts_22 : decode cX3_pushParts 22 = .ok (.iconst 1, 1) := by decide +kernel
theorem dX3_pushParts_23 : decode cX3_pushParts 23 = .ok (.aload_n 0, 1) := by decide +kernel
theorem dX3_pushParts_24 : decode cX3_pushParts 24 = .ok (.getfield 12, 3) := by decide +kernel
theorem dX3_pushParts_27 : decode cX3_pushParts 27 = .ok (.getfield 226, 3) := by decide +kernel
theorem dX3_pushParts_30 : decode cX3_pushParts 30 = .ok (.iload_n 1, 1) := by decide +kernel
theorem dX3_pushParts_31 : decode cX3_pushParts 31 = .ok (.iaload, 1) := by decide +kernel
theorem dX3_pushParts_32 : decode cX3_pushParts 32 = .ok (.invokevirtual 93, 3) := by decide +kernel
theorem dX3_pushParts_35 : decode cX3_pushParts 35 = .ok (.iload_n 2, 1) := by decide +kernel
theorem dX3_pushParts_36 : decode cX3_pushParts 36 = .ok (.ifCond .le 20, 3) := by decide +kernel
theorem dX3_pushParts_39 : decode cX3_pushParts 39 = .ok (.aload_n 0, 1) := by decide +kernel
theorem dX3_pushParts_40 : decode cX3_pushParts 40 = .ok (.getfield 21, 3) := by decide +kernel
theorem dX3_pushParts_43 : decode cX3_pushParts 43 = .ok (.iconst 1, 1) := by decide +kernel
theorem dX3_pushParts_44 : decode cX3_pushParts 44 = .ok (.aload_n 0, 1) := by decide +kernel
theorem dX3_pushParts_45 : decode cX3_pushParts 45 = .ok (.getfield 12, 3) := by decide +kernel
theorem dX3_pushParts_48 : decode cX3_pushParts 48 = .ok (.getfield 225, 3) := by decide +kernel
theorem dX3_pushParts_51 : decode cX3_pushParts 51 = .ok (.iload_n 1, 1) := by decide +kernel
theorem dX3_pushParts_52 : decode cX3_pushParts 52 = .ok (.iaload, 1) := by decide +kernel
theorem dX3_pushParts_53 : decode cX3_pushParts 53 = .ok (.invokevirtual 93, 3) := by decide +kernel
theorem dX3_pushParts_56 : decode cX3_pushParts 56 = .ok (.return_, 1) := by decide +kernel
theorem dX3_choose_0 : decode cX3_choose 0 = .ok (.aload_n 0, 1) := by decide +kernel
theorem dX3_choose_1 : decode cX3_choose 1 = .ok (.aload_n 0, 1) := by decide +kernel
theorem dX3_choose_2 : decode cX3_choose 2 = .ok (.getfield 12, 3) := by decide +kernel
theorem dX3_choose_5 : decode cX3_choose 5 = .ok (.getfield 141, 3) := by decide +kernel
theorem dX3_choose_8 : decode cX3_choose 8 = .ok (.iload_n 1, 1) := by decide +kernel
theorem dX3_choose_9 : decode cX3_choose 9 = .ok (.iaload, 1) := by decide +kernel
theorem dX3_choose_10 : decode cX3_choose 10 = .ok (.iconst 2, 1) := by decide +kernel
theorem dX3_choose_11 : decode cX3_choose 11 = .ok (.invokevirtual 251, 3) := by decide +kernel
theorem dX3_choose_14 : decode cX3_choose 14 = .ok (.istore_n 2, 1) := by decide +kernel
theorem dX3_choose_15 : decode cX3_choose 15 = .ok (.iload_n 2, 1) := by decide +kernel
theorem dX3_choose_16 : decode cX3_choose 16 = .ok (.iconst (-1), 1) := by decide +kernel
theorem dX3_choose_17 : decode cX3_choose 17 = .ok (.if_icmp .eq 45, 3) := by decide +kernel
theorem dX3_choose_20 : decode cX3_choose 20 = .ok (.aload_n 0, 1) := by decide +kernel
theorem dX3_choose_21 : decode cX3_choose 21 = .ok (.getfield 12, 3) := by decide +kernel
theorem dX3_choose_24 : decode cX3_choose 24 = .ok (.iload_n 1, 1) := by decide +kernel
theorem dX3_choose_25 : decode cX3_choose 25 = .ok (.iload_n 2, 1) := by decide +kernel
theorem dX3_choose_26 : decode cX3_choose 26 = .ok (.ifCond .ne 15, 3) := by decide +kernel
theorem dX3_choose_29 : decode cX3_choose 29 = .ok (.aload_n 0, 1) := by decide +kernel
theorem dX3_choose_30 : decode cX3_choose 30 = .ok (.getfield 12, 3) := by decide +kernel
theorem dX3_choose_33 : decode cX3_choose 33 = .ok (.getfield 225, 3) := by decide +kernel
theorem dX3_choose_36 : decode cX3_choose 36 = .ok (.iload_n 1, 1) := by decide +kernel
theorem dX3_choose_37 : decode cX3_choose 37 = .ok (.iaload, 1) := by decide +kernel
theorem dX3_choose_38 : decode cX3_choose 38 = .ok (.goto 12, 3) := by decide +kernel
theorem dX3_choose_41 : decode cX3_choose 41 = .ok (.aload_n 0, 1) := by decide +kernel
theorem dX3_choose_42 : decode cX3_choose 42 = .ok (.getfield 12, 3) := by decide +kernel
theorem dX3_choose_45 : decode cX3_choose 45 = .ok (.getfield 226, 3) := by decide +kernel
theorem dX3_choose_48 : decode cX3_choose 48 = .ok (.iload_n 1, 1) := by decide +kernel
theorem dX3_choose_49 : decode cX3_choose 49 = .ok (.iaload, 1) := by decide +kernel
theorem dX3_choose_50 : decode cX3_choose 50 = .ok (.invokevirtual 255, 3) := by decide +kernel
theorem dX3_choose_53 : decode cX3_choose 53 = .ok (.aload_n 0, 1) := by decide +kernel
theorem dX3_choose_54 : decode cX3_choose 54 = .ok (.getfield 21, 3) := by decide +kernel
theorem dX3_choose_57 : decode cX3_choose 57 = .ok (.iconst 0, 1) := by decide +kernel
theorem dX3_choose_58 : decode cX3_choose 58 = .ok (.iload_n 1, 1) := by decide +kernel
theorem dX3_choose_59 : decode cX3_choose 59 = .ok (.invokevirtual 93, 3) := by decide +kernel
theorem dX3_choose_62 : decode cX3_choose 62 = .ok (.return_, 1) := by decide +kernel
theorem dX3_startCall_0 : decode cX3_startCall 0 = .ok (.aload_n 0, 1) := by decide +kernel
theorem dX3_startCall_1 : decode cX3_startCall 1 = .ok (.getfield 12, 3) := by decide +kernel
theorem dX3_startCall_4 : decode cX3_startCall 4 = .ok (.getfield 141, 3) := by decide +kernel
theorem dX3_startCall_7 : decode cX3_startCall 7 = .ok (.iload_n 1, 1) := by decide +kernel
theorem dX3_startCall_8 : decode cX3_startCall 8 = .ok (.iaload, 1) := by decide +kernel
theorem dX3_startCall_9 : decode cX3_startCall 9 = .ok (.istore_n 2, 1) := by decide +kernel
theorem dX3_startCall_10 : decode cX3_startCall 10 = .ok (.aload_n 0, 1) := by decide +kernel
theorem dX3_startCall_11 : decode cX3_startCall 11 = .ok (.getfield 12, 3) := by decide +kernel
theorem dX3_startCall_14 : decode cX3_startCall 14 = .ok (.getfield 247, 3) := by decide +kernel
theorem dX3_startCall_17 : decode cX3_startCall 17 = .ok (.iload_n 1, 1) := by decide +kernel
theorem dX3_startCall_18 : decode cX3_startCall 18 = .ok (.iaload, 1) := by decide +kernel
theorem dX3_startCall_19 : decode cX3_startCall 19 = .ok (.istore_n 3, 1) := by decide +kernel
theorem dX3_startCall_20 : decode cX3_startCall 20 = .ok (.aload_n 0, 1) := by decide +kernel
theorem dX3_startCall_21 : decode cX3_startCall 21 = .ok (.getfield 63, 3) := by decide +kernel
theorem dX3_startCall_24 : decode cX3_startCall 24 = .ok (.iload_n 3, 1) := by decide +kernel
theorem dX3_startCall_25 : decode cX3_startCall 25 = .ok (.invokevirtual 258, 3) := by decide +kernel
theorem dX3_startCall_28 : decode cX3_startCall 28 = .ok (.istore 4, 2) := by decide +kernel
theorem dX3_startCall_30 : decode cX3_startCall 30 = .ok (.iload 4, 2) := by decide +kernel
theorem dX3_startCall_32 : decode cX3_startCall 32 = .ok (.ifCond .ne 9, 3) := by decide +kernel
theorem dX3_startCall_35 : decode cX3_startCall 35 = .ok (.aload_n 0, 1) := by decide +kernel
theorem dX3_startCall_36 : decode cX3_startCall 36 = .ok (.iload_n 2, 1) := by decide +kernel
theorem dX3_startCall_37 : decode cX3_startCall 37 = .ok (.invokevirtual 154, 3) := by decide +kernel
theorem dX3_startCall_40 : decode cX3_startCall 40 = .ok (.return_, 1) := by decide +kernel
theorem dX3_startCall_41 : decode cX3_startCall 41 = .ok (.iload 4, 2) := by decide +kernel
theorem dX3_startCall_43 : decode cX3_startCall 43 = .ok (.iconst 1, 1) := by decide +kernel
theorem dX3_startCall_44 : decode cX3_startCall 44 = .ok (.if_icmp .le 13, 3) := by decide +kernel
theorem dX3_startCall_47 : decode cX3_startCall 47 = .ok (.aload_n 0, 1) := by decide +kernel
theorem dX3_startCall_48 : decode cX3_startCall 48 = .ok (.iload_n 2, 1) := by decide +kernel
theorem dX3_startCall_49 : decode cX3_startCall 49 = .ok (.iload 4, 2) := by decide +kernel
theorem dX3_startCall_51 : decode cX3_startCall 51 = .ok (.invokevirtual 251, 3) := by decide +kernel
theorem dX3_startCall_54 : decode cX3_startCall 54 = .ok (.goto 4, 3) := by decide +kernel
theorem dX3_startCall_57 : decode cX3_startCall 57 = .ok (.iconst 0, 1) := by decide +kernel
theorem dX3_startCall_58 : decode cX3_startCall 58 = .ok (.istore 5, 2) := by decide +kernel
theorem dX3_startCall_60 : decode cX3_startCall 60 = .ok (.iload 5, 2) := by decide +kernel
theorem dX3_startCall_62 : decode cX3_startCall 62 = .ok (.iconst (-1), 1) := by decide +kernel
theorem dX3_startCall_63 : decode cX3_startCall 63 = .ok (.if_icmp .ne 7, 3) := by decide +kernel
theorem dX3_startCall_66 : decode cX3_startCall 66 = .ok (.aconst_null, 1) := by decide +kernel
theorem dX3_startCall_67 : decode cX3_startCall 67 = .ok (.goto 13, 3) := by decide +kernel
theorem dX3_startCall_70 : decode cX3_startCall 70 = .ok (.aload_n 0, 1) := by decide +kernel
theorem dX3_startCall_71 : decode cX3_startCall 71 = .ok (.getfield 63, 3) := by decide +kernel
theorem dX3_startCall_74 : decode cX3_startCall 74 = .ok (.iload_n 3, 1) := by decide +kernel
theorem dX3_startCall_75 : decode cX3_startCall 75 = .ok (.iload 5, 2) := by decide +kernel
theorem dX3_startCall_77 : decode cX3_startCall 77 = .ok (.invokevirtual 263, 3) := by decide +kernel
theorem dX3_startCall_80 : decode cX3_startCall 80 = .ok (.astore 6, 2) := by decide +kernel
theorem dX3_startCall_82 : decode cX3_startCall 82 = .ok (.aload 6, 2) := by decide +kernel
theorem dX3_startCall_84 : decode cX3_startCall 84 = .ok (.ifnull 10, 3) := by decide +kernel
theorem dX3_startCall_87 : decode cX3_startCall 87 = .ok (.aload_n 0, 1) := by decide +kernel
theorem dX3_startCall_88 : decode cX3_startCall 88 = .ok (.invokevirtual 267, 3) := by decide +kernel
theorem dX3_startCall_91 : decode cX3_startCall 91 = .ok (.ifCond .ne 4, 3) := by decide +kernel
theorem dX3_startCall_94 : decode cX3_startCall 94 = .ok (.return_, 1) := by decide +kernel
theorem dX3_startCall_95 : decode cX3_startCall 95 = .ok (.aload_n 0, 1) := by decide +kernel
theorem dX3_startCall_96 : decode cX3_startCall 96 = .ok (.getfield 12, 3) := by decide +kernel
theorem dX3_startCall_99 : decode cX3_startCall 99 = .ok (.getfield 270, 3) := by decide +kernel
theorem dX3_startCall_102 : decode cX3_startCall 102 = .ok (.iload_n 1, 1) := by decide +kernel
theorem dX3_startCall_103 : decode cX3_startCall 103 = .ok (.aload_n 0, 1) := by decide +kernel
theorem dX3_startCall_104 : decode cX3_startCall 104 = .ok (.aload 6, 2) := by decide +kernel
theorem dX3_startCall_106 : decode cX3_startCall 106 = .ok (.getfield 272, 3) := by decide +kernel
theorem dX3_startCall_109 : decode cX3_startCall 109 = .ok (.aload 6, 2) := by decide +kernel
theorem dX3_startCall_111 : decode cX3_startCall 111 = .ok (.getfield 277, 3) := by decide +kernel
theorem dX3_startCall_114 : decode cX3_startCall 114 = .ok (.aload 6, 2) := by decide +kernel
theorem dX3_startCall_116 : decode cX3_startCall 116 = .ok (.getfield 280, 3) := by decide +kernel
theorem dX3_startCall_119 : decode cX3_startCall 119 = .ok (.invokevirtual 76, 3) := by decide +kernel
theorem dX3_startCall_122 : decode cX3_startCall 122 = .ok (.iastore, 1) := by decide +kernel
theorem dX3_startCall_123 : decode cX3_startCall 123 = .ok (.aload_n 0, 1) := by decide +kernel
theorem dX3_startCall_124 : decode cX3_startCall 124 = .ok (.getfield 21, 3) := by decide +kernel
theorem dX3_startCall_127 : decode cX3_startCall 127 = .ok (.iconst 3, 1) := by decide +kernel
theorem dX3_startCall_128 : decode cX3_startCall 128 = .ok (.iload_n 1, 1) := by decide +kernel
theorem dX3_startCall_129 : decode cX3_startCall 129 = .ok (.invokevirtual 93, 3) := by decide +kernel
theorem dX3_startCall_132 : decode cX3_startCall 132 = .ok (.aload 6, 2) := by decide +kernel
theorem dX3_startCall_134 : decode cX3_startCall 134 = .ok (.getfield 277, 3) := by decide +kernel
theorem dX3_startCall_137 : decode cX3_startCall 137 = .ok (.ifnull 34, 3) := by decide +kernel
theorem dX3_startCall_140 : decode cX3_startCall 140 = .ok (.aload_n 0, 1) := by decide +kernel
theorem dX3_startCall_141 : decode cX3_startCall 141 = .ok (.getfield 21, 3) := by decide +kernel
theorem dX3_startCall_144 : decode cX3_startCall 144 = .ok (.iconst 2, 1) := by decide +kernel
theorem dX3_startCall_145 : decode cX3_startCall 145 = .ok (.bipush 12, 2) := by decide +kernel
theorem dX3_startCall_147 : decode cX3_startCall 147 = .ok (.aload 6, 2) := by decide +kernel
theorem dX3_startCall_149 : decode cX3_startCall 149 = .ok (.getfield 277, 3) := by decide +kernel
theorem dX3_startCall_152 : decode cX3_startCall 152 = .ok (.getfield 84, 3) := by decide +kernel
theorem dX3_startCall_155 : decode cX3_startCall 155 = .ok (.iadd, 1) := by decide +kernel
theorem dX3_startCall_156 : decode cX3_startCall 156 = .ok (.iconst 1, 1) := by decide +kernel
theorem dX3_startCall_157 : decode cX3_startCall 157 = .ok (.isub, 1) := by decide +kernel
theorem dX3_startCall_158 : decode cX3_startCall 158 = .ok (.aload_n 0, 1) := by decide +kernel
theorem dX3_startCall_159 : decode cX3_startCall 159 = .ok (.getfield 12, 3) := by decide +kernel
theorem dX3_startCall_162 : decode cX3_startCall 162 = .ok (.getfield 226, 3) := by decide +kernel
theorem dX3_startCall_165 : decode cX3_startCall 165 = .ok (.iload_n 1, 1) := by decide +kernel
theorem dX3_startCall_166 : decode cX3_startCall 166 = .ok (.iaload, 1) := by decide +kernel
theorem dX3_startCall_167 : decode cX3_startCall 167 = .ok (.iload_n 1, 1) := by decide +kernel
theorem dX3_startCall_168 : decode cX3_startCall 168 = .ok (.invokevirtual 186, 3) := by decide +kernel
theorem dX3_startCall_171 : decode cX3_startCall 171 = .ok (.aload 6, 2) := by decide +kernel
theorem dX3_startCall_173 : decode cX3_startCall 173 = .ok (.getfield 272, 3) := by decide +kernel
theorem dX3_startCall_176 : decode cX3_startCall 176 = .ok (.ifnull 31, 3) := by decide +kernel
theorem dX3_startCall_179 : decode cX3_startCall 179 = .ok (.aload_n 0, 1) := by decide +kernel
theorem dX3_startCall_180 : decode cX3_startCall 180 = .ok (.getfield 21, 3) := by decide +kernel
theorem dX3_startCall_183 : decode cX3_startCall 183 = .ok (.iconst 2, 1) := by decide +kernel
theorem dX3_startCall_184 : decode cX3_startCall 184 = .ok (.aload 6, 2) := by decide +kernel
theorem dX3_startCall_186 : decode cX3_startCall 186 = .ok (.getfield 272, 3) := by decide +kernel
theorem dX3_startCall_189 : decode cX3_startCall 189 = .ok (.getfield 84, 3) := by decide +kernel
theorem dX3_startCall_192 : decode cX3_startCall 192 = .ok (.iconst 1, 1) := by decide +kernel
theorem dX3_startCall_193 : decode cX3_startCall 193 = .ok (.isub, 1) := by decide +kernel
theorem dX3_startCall_194 : decode cX3_startCall 194 = .ok (.aload_n 0, 1) := by decide +kernel
theorem dX3_startCall_195 : decode cX3_startCall 195 = .ok (.getfield 12, 3) := by decide +kernel
theorem dX3_startCall_198 : decode cX3_startCall 198 = .ok (.getfield 225, 3) := by decide +kernel
theorem dX3_startCall_201 : decode cX3_startCall 201 = .ok (.iload_n 1, 1) := by decide +kernel
theorem dX3_startCall_202 : decode cX3_startCall 202 = .ok (.iaload, 1) := by decide +kernel
theorem dX3_startCall_203 : decode cX3_startCall 203 = .ok (.iload_n 1, 1) := by decide +kernel
theorem dX3_startCall_204 : decode cX3_startCall 204 = .ok (.invokevirtual 186, 3) := by decide +kernel
theorem dX3_startCall_207 : decode cX3_startCall 207 = .ok (.return_, 1) := by decide +kernel
theorem dX3_match_0 : decode cX3_match 0 = .ok (.aload_n 0, 1) := by decide +kernel
theorem dX3_match_1 : decode cX3_match 1 = .ok (.getfield 27, 3) := by decide +kernel
theorem dX3_match_4 : decode cX3_match 4 = .ok (.aload_n 0, 1) := by decide +kernel
theorem dX3_match_5 : decode cX3_match 5 = .ok (.getfield 12, 3) := by decide +kernel
theorem dX3_match_8 : decode cX3_match 8 = .ok (.getfield 270, 3) := by decide +kernel
theorem dX3_match_11 : decode cX3_match 11 = .ok (.iload_n 3, 1) := by decide +kernel
theorem dX3_match_12 : decode cX3_match 12 = .ok (.iaload, 1) := by decide +kernel
theorem dX3_match_13 : decode cX3_match 13 = .ok (.aaload, 1) := by decide +kernel
theorem dX3_match_14 : decode cX3_match 14 = .ok (.astore 4, 2) := by decide +kernel
theorem dX3_match_16 : decode cX3_match 16 = .ok (.iload_n 1, 1) := by decide +kernel
theorem dX3_match_17 : decode cX3_match 17 = .ok (.bipush 12, 2) := by decide +kernel
theorem dX3_match_19 : decode cX3_match 19 = .ok (.if_icmp .ge 7, 3) := by decide +kernel
theorem dX3_match_22 : decode cX3_match 22 = .ok (.iconst 1, 1) := by decide +kernel
theorem dX3_match_23 : decode cX3_match 23 = .ok (.goto 4, 3) := by decide +kernel
theorem dX3_match_26 : decode cX3_match 26 = .ok (.iconst 0, 1) := by decide +kernel
theorem dX3_match_27 : decode cX3_match 27 = .ok (.istore 5, 2) := by decide +kernel
theorem dX3_match_29 : decode cX3_match 29 = .ok (.iload 5, 2) := by decide +kernel
theorem dX3_match_31 : decode cX3_match 31 = .ok (.ifCond .eq 11, 3) := by decide +kernel
theorem dX3_match_34 : decode cX3_match 34 = .ok (.aload 4, 2) := by decide +kernel
theorem dX3_match_36 : decode cX3_match 36 = .ok (.getfield 283, 3) := by decide +kernel
theorem dX3_match_39 : decode cX3_match 39 = .ok (.goto 8, 3) := by decide +kernel
theorem dX3_match_42 : decode cX3_match 42 = .ok (.aload 4, 2) := by decide +kernel
theorem dX3_match_44 : decode cX3_match 44 = .ok (.getfield 284, 3) := by decide +kernel
theorem dX3_match_47 : decode cX3_match 47 = .ok (.astore 6, 2) := by decide +kernel
theorem dX3_match_49 : decode cX3_match 49 = .ok (.iload 5, 2) := by decide +kernel
theorem dX3_match_51 : decode cX3_match 51 = .ok (.ifCond .eq 7, 3) := by decide +kernel
theorem dX3_match_54 : decode cX3_match 54 = .ok (.iload_n 1, 1) := by decide +kernel
theorem dX3_match_55 : decode cX3_match 55 = .ok (.goto 7, 3) := by decide +kernel
theorem dX3_match_58 : decode cX3_match 58 = .ok (.iload_n 1, 1) := by decide +kernel
theorem dX3_match_59 : decode cX3_match 59 = .ok (.bipush 12, 2) := by decide +kernel
theorem dX3_match_61 : decode cX3_match 61 = .ok (.isub, 1) := by decide +kernel
theorem dX3_match_62 : decode cX3_match 62 = .ok (.istore 7, 2) := by decide +kernel
theorem dX3_match_64 : decode cX3_match 64 = .ok (.aload 6, 2) := by decide +kernel
theorem dX3_match_66 : decode cX3_match 66 = .ok (.ifnull 18, 3) := by decide +kernel
theorem dX3_match_69 : decode cX3_match 69 = .ok (.iload 7, 2) := by decide +kernel
theorem dX3_match_71 : decode cX3_match 71 = .ok (.ifCond .lt 13, 3) := by decide +kernel
theorem dX3_match_74 : decode cX3_match 74 = .ok (.iload 7, 2) := by decide +kernel
theorem dX3_match_76 : decode cX3_match 76 = .ok (.aload 6, 2) := by decide +kernel
theorem dX3_match_78 : decode cX3_match 78 = .ok (.getfield 84, 3) := by decide +kernel
theorem dX3_match_81 : decode cX3_match 81 = .ok (.if_icmp .lt 4, 3) := by decide +kernel
theorem dX3_match_84 : decode cX3_match 84 = .ok (.return_, 1) := by decide +kernel
theorem dX3_match_85 : decode cX3_match 85 = .ok (.aload 6, 2) := by decide +kernel
theorem dX3_match_87 : decode cX3_match 87 = .ok (.getfield 199, 3) := by decide +kernel
theorem dX3_match_90 : decode cX3_match 90 = .ok (.iload 7, 2) := by decide +kernel
theorem dX3_match_92 : decode cX3_match 92 = .ok (.iaload, 1) := by decide +kernel
theorem dX3_match_93 : decode cX3_match 93 = .ok (.ifCond .ne 19, 3) := by decide +kernel
theorem dX3_match_96 : decode cX3_match 96 = .ok (.aload 4, 2) := by decide +kernel
theorem dX3_match_98 : decode cX3_match 98 = .ok (.getfield 192, 3) := by decide +kernel
theorem dX3_match_101 : decode cX3_match 101 = .ok (.aload 6, 2) := by decide +kernel
theorem dX3_match_103 : decode cX3_match 103 = .ok (.getfield 202, 3) := by decide +kernel
theorem dX3_match_106 : decode cX3_match 106 = .ok (.iload 7, 2) := by decide +kernel
theorem dX3_match_108 : decode cX3_match 108 = .ok (.iaload, 1) := by decide +kernel
theorem dX3_match_109 : decode cX3_match 109 = .ok (.iload_n 2, 1) := by decide +kernel
theorem dX3_match_110 : decode cX3_match 110 = .ok (.iastore, 1) := by decide +kernel
theorem dX3_match_111 : decode cX3_match 111 = .ok (.return_, 1) := by decide +kernel
theorem dX3_match_112 : decode cX3_match 112 = .ok (.aload_n 0, 1) := by decide +kernel
theorem dX3_match_113 : decode cX3_match 113 = .ok (.getfield 12, 3) := by decide +kernel
theorem dX3_match_116 : decode cX3_match 116 = .ok (.iload_n 2, 1) := by decide +kernel
theorem dX3_match_117 : decode cX3_match 117 = .ok (.invokevirtual 123, 3) := by decide +kernel
theorem dX3_match_120 : decode cX3_match 120 = .ok (.istore 8, 2) := by decide +kernel
theorem dX3_match_122 : decode cX3_match 122 = .ok (.aload_n 0, 1) := by decide +kernel
theorem dX3_match_123 : decode cX3_match 123 = .ok (.iload 8, 2) := by decide +kernel
theorem dX3_match_125 : decode cX3_match 125 = .ok (.invokevirtual 237, 3) := by decide +kernel
theorem dX3_match_128 : decode cX3_match 128 = .ok (.ifCond .ne 27, 3) := by decide +kernel
theorem dX3_match_131 : decode cX3_match 131 = .ok (.aload_n 0, 1) := by decide +kernel
theorem dX3_match_132 : decode cX3_match 132 = .ok (.getfield 21, 3) := by decide +kernel
theorem dX3_match_135 : decode cX3_match 135 = .ok (.iconst 2, 1) := by decide +kernel
theorem dX3_match_136 : decode cX3_match 136 = .ok (.iload_n 1, 1) := by decide +kernel
theorem dX3_match_137 : decode cX3_match 137 = .ok (.iload_n 2, 1) := by decide +kernel
theorem dX3_match_138 : decode cX3_match 138 = .ok (.iload_n 3, 1) := by decide +kernel
theorem dX3_match_139 : decode cX3_match 139 = .ok (.invokevirtual 186, 3) := by decide +kernel
theorem dX3_match_142 : decode cX3_match 142 = .ok (.aload_n 0, 1) := by decide +kernel
theorem dX3_match_143 : decode cX3_match 143 = .ok (.getfield 21, 3) := by decide +kernel
theorem dX3_match_146 : decode cX3_match 146 = .ok (.iconst 0, 1) := by decide +kernel
theorem dX3_match_147 : decode cX3_match 147 = .ok (.iload 8, 2) := by decide +kernel
theorem dX3_match_149 : decode cX3_match 149 = .ok (.invokevirtual 93, 3) := by decide +kernel
theorem dX3_match_152 : decode cX3_match 152 = .ok (.goto 36, 3) := by decide +kernel
theorem dX3_match_155 : decode cX3_match 155 = .ok (.aload_n 0, 1) := by decide +kernel
theorem dX3_match_156 : decode cX3_match 156 = .ok (.iload 8, 2) := by decide +kernel
theorem dX3_match_158 : decode cX3_match 158 = .ok (.aload 6, 2) := by decide +kernel
theorem dX3_match_160 : decode cX3_match 160 = .ok (.getfield 202, 3) := by decide +kernel
theorem dX3_match_163 : decode cX3_match 163 = .ok (.iload 7, 2) := by decide +kernel
theorem dX3_match_165 : decode cX3_match 165 = .ok (.iaload, 1) := by decide +kernel
theorem dX3_match_166 : decode cX3_match 166 = .ok (.iload_n 3, 1) := by decide +kernel
theorem dX3_match_167 : decode cX3_match 167 = .ok (.invokevirtual 285, 3) := by decide +kernel
theorem dX3_match_170 : decode cX3_match 170 = .ok (.ifCond .eq 18, 3) := by decide +kernel
theorem dX3_match_173 : decode cX3_match 173 = .ok (.aload_n 0, 1) := by decide +kernel
theorem dX3_match_174 : decode cX3_match 174 = .ok (.aload 6, 2) := by decide +kernel
theorem dX3_match_176 : decode cX3_match 176 = .ok (.iload 7, 2) := by decide +kernel
theorem dX3_match_178 : decode cX3_match 178 = .ok (.iload_n 1, 1) := by decide +kernel
theorem dX3_match_179 : decode cX3_match 179 = .ok (.iload 7, 2) := by decide +kernel
theorem dX3_match_181 : decode cX3_match 181 = .ok (.isub, 1) := by decide +kernel
theorem dX3_match_182 : decode cX3_match 182 = .ok (.iload 8, 2) := by decide +kernel
theorem dX3_match_184 : decode cX3_match 184 = .ok (.iload_n 3, 1) := by decide +kernel
theorem dX3_match_185 : decode cX3_match 185 = .ok (.invokevirtual 289, 3) := by decide +kernel
theorem dX3_match_188 : decode cX3_match 188 = .ok (.return_, 1) := by decide +kernel
theorem dX3_isKind_0 : decode cX3_isKind 0 = .ok (.aload_n 0, 1) := by decide +kernel
theorem dX3_isKind_1 : decode cX3_isKind 1 = .ok (.getfield 12, 3) := by decide +kernel
theorem dX3_isKind_4 : decode cX3_isKind 4 = .ok (.getfield 141, 3) := by decide +kernel
theorem dX3_isKind_7 : decode cX3_isKind 7 = .ok (.iload_n 3, 1) := by decide +kernel
theorem dX3_isKind_8 : decode cX3_isKind 8 = .ok (.iaload, 1) := by decide +kernel
theorem dX3_isKind_9 : decode cX3_isKind 9 = .ok (.istore 4, 2) := by decide +kernel
theorem dX3_isKind_11 : decode cX3_isKind 11 = .ok (.aload_n 0, 1) := by decide +kernel
theorem dX3_isKind_12 : decode cX3_isKind 12 = .ok (.getfield 12, 3) := by decide +kernel
theorem dX3_isKind_15 : decode cX3_isKind 15 = .ok (.getfield 227, 3) := by decide +kernel
theorem dX3_isKind_18 : decode cX3_isKind 18 = .ok (.iload_n 1, 1) := by decide +kernel
theorem dX3_isKind_19 : decode cX3_isKind 19 = .ok (.iaload, 1) := by decide +kernel
theorem dX3_isKind_20 : decode cX3_isKind 20 = .ok (.iconst 1, 1) := by decide +kernel
theorem dX3_isKind_21 : decode cX3_isKind 21 = .ok (.if_icmp .ne 26, 3) := by decide +kernel
theorem dX3_isKind_24 : decode cX3_isKind 24 = .ok (.aload_n 0, 1) := by decide +kernel
theorem dX3_isKind_25 : decode cX3_isKind 25 = .ok (.getfield 12, 3) := by decide +kernel
theorem dX3_isKind_28 : decode cX3_isKind 28 = .ok (.getfield 247, 3) := by decide +kernel
theorem dX3_isKind_31 : decode cX3_isKind 31 = .ok (.iload_n 1, 1) := by decide +kernel
theorem dX3_isKind_32 : decode cX3_isKind 32 = .ok (.iaload, 1) := by decide +kernel
theorem dX3_isKind_33 : decode cX3_isKind 33 = .ok (.iload_n 2, 1) := by decide +kernel
theorem dX3_isKind_34 : decode cX3_isKind 34 = .ok (.if_icmp .ne 5, 3) := by decide +kernel
theorem dX3_isKind_37 : decode cX3_isKind 37 = .ok (.iconst 1, 1) := by decide +kernel
theorem dX3_isKind_38 : decode cX3_isKind 38 = .ok (.ireturn, 1) := by decide +kernel
theorem dX3_isKind_39 : decode cX3_isKind 39 = .ok (.aload_n 0, 1) := by decide +kernel
theorem dX3_isKind_40 : decode cX3_isKind 40 = .ok (.iload 4, 2) := by decide +kernel
theorem dX3_isKind_42 : decode cX3_isKind 42 = .ok (.invokevirtual 154, 3) := by decide +kernel
theorem dX3_isKind_45 : decode cX3_isKind 45 = .ok (.iconst 0, 1) := by decide +kernel
theorem dX3_isKind_46 : decode cX3_isKind 46 = .ok (.ireturn, 1) := by decide +kernel
theorem dX3_isKind_47 : decode cX3_isKind 47 = .ok (.aload_n 0, 1) := by decide +kernel
theorem dX3_isKind_48 : decode cX3_isKind 48 = .ok (.getfield 63, 3) := by decide +kernel
theorem dX3_isKind_51 : decode cX3_isKind 51 = .ok (.getfield 293, 3) := by decide +kernel
theorem dX3_isKind_54 : decode cX3_isKind 54 = .ok (.aload_n 0, 1) := by decide +kernel
theorem dX3_isKind_55 : decode cX3_isKind 55 = .ok (.getfield 12, 3) := by decide +kernel
theorem dX3_isKind_58 : decode cX3_isKind 58 = .ok (.getfield 247, 3) := by decide +kernel
theorem dX3_isKind_61 : decode cX3_isKind 61 = .ok (.iload_n 3, 1) := by decide +kernel
theorem dX3_isKind_62 : decode cX3_isKind 62 = .ok (.iaload, 1) := by decide +kernel
theorem dX3_isKind_63 : decode cX3_isKind 63 = .ok (.baload, 1) := by decide +kernel
theorem dX3_isKind_64 : decode cX3_isKind 64 = .ok (.ifCond .ne 17, 3) := by decide +kernel
theorem dX3_isKind_67 : decode cX3_isKind 67 = .ok (.aload_n 0, 1) := by decide +kernel
theorem dX3_isKind_68 : decode cX3_isKind 68 = .ok (.getfield 12, 3) := by decide +kernel
theorem dX3_isKind_71 : decode cX3_isKind 71 = .ok (.getfield 141, 3) := by decide +kernel
theorem dX3_isKind_74 : decode cX3_isKind 74 = .ok (.iload_n 1, 1) := by decide +kernel
theorem dX3_isKind_75 : decode cX3_isKind 75 = .ok (.iaload, 1) := by decide +kernel
theorem dX3_isKind_76 : decode cX3_isKind 76 = .ok (.iload 4, 2) := by decide +kernel
theorem dX3_isKind_78 : decode cX3_isKind 78 = .ok (.if_icmp .eq 10, 3) := by decide +kernel
theorem dX3_isKind_81 : decode cX3_isKind 81 = .ok (.aload_n 0, 1) := by decide +kernel
theorem dX3_isKind_82 : decode cX3_isKind 82 = .ok (.iconst 2, 1) := by decide +kernel
theorem dX3_isKind_83 : decode cX3_isKind 83 = .ok (.putfield 57, 3) := by decide +kernel
theorem dX3_isKind_86 : decode cX3_isKind 86 = .ok (.iconst 0, 1) := by decide +kernel
theorem dX3_isKind_87 : decode cX3_isKind 87 = .ok (.ireturn, 1) := by decide +kernel
theorem dX3_isKind_88 : decode cX3_isKind 88 = .ok (.iload_n 2, 1) := by decide +kernel
theorem dX3_isKind_89 : decode cX3_isKind 89 = .ok (.invokestatic 248, 3) := by decide +kernel
theorem dX3_isKind_92 : decode cX3_isKind 92 = .ok (.istore 5, 2) := by decide +kernel
theorem dX3_isKind_94 : decode cX3_isKind 94 = .ok (.iload 5, 2) := by decide +kernel
theorem dX3_isKind_96 : decode cX3_isKind 96 = .ok (.ifCond .le 15, 3) := by decide +kernel
theorem dX3_isKind_99 : decode cX3_isKind 99 = .ok (.aload_n 0, 1) := by decide +kernel
theorem dX3_isKind_100 : decode cX3_isKind 100 = .ok (.getfield 12, 3) := by decide +kernel
theorem dX3_isKind_103 : decode cX3_isKind 103 = .ok (.iload 4, 2) := by decide +kernel
theorem dX3_isKind_105 : decode cX3_isKind 105 = .ok (.invokevirtual 205, 3) := by decide +kernel
theorem dX3_isKind_108 : decode cX3_isKind 108 = .ok (.goto 4, 3) := by decide +kernel
theorem dX3_isKind_111 : decode cX3_isKind 111 = .ok (.iconst (-1), 1) := by decide +kernel
theorem dX3_isKind_112 : decode cX3_isKind 112 = .ok (.istore 6, 2) := by decide +kernel
theorem dX3_isKind_114 : decode cX3_isKind 114 = .ok (.iload 5, 2) := by decide +kernel
theorem dX3_isKind_116 : decode cX3_isKind 116 = .ok (.iconst 1, 1) := by decide +kernel
theorem dX3_isKind_117 : decode cX3_isKind 117 = .ok (.if_icmp .le 15, 3) := by decide +kernel
theorem dX3_isKind_120 : decode cX3_isKind 120 = .ok (.aload_n 0, 1) := by decide +kernel
theorem dX3_isKind_121 : decode cX3_isKind 121 = .ok (.getfield 12, 3) := by decide +kernel
theorem dX3_isKind_124 : decode cX3_isKind 124 = .ok (.iload 4, 2) := by decide +kernel
theorem dX3_isKind_126 : decode cX3_isKind 126 = .ok (.invokevirtual 205, 3) := by decide +kernel
theorem dX3_isKind_129 : decode cX3_isKind 129 = .ok (.goto 4, 3) := by decide +kernel
theorem dX3_isKind_132 : decode cX3_isKind 132 = .ok (.iconst (-1), 1) := by decide +kernel
theorem dX3_isKind_133 : decode cX3_isKind 133 = .ok (.istore 7, 2) := by decide +kernel
theorem dX3_isKind_135 : decode cX3_isKind 135 = .ok (.aload_n 0, 1) := by decide +kernel
theorem dX3_isKind_136 : decode cX3_isKind 136 = .ok (.getfield 12, 3) := by decide +kernel
theorem dX3_isKind_139 : decode cX3_isKind 139 = .ok (.iload_n 1, 1) := by decide +kernel
theorem dX3_isKind_140 : decode cX3_isKind 140 = .ok (.iload_n 2, 1) := by decide +kernel
theorem dX3_isKind_141 : decode cX3_isKind 141 = .ok (.iload 6, 2) := by decide +kernel
theorem dX3_isKind_143 : decode cX3_isKind 143 = .ok (.iload 7, 2) := by decide +kernel
theorem dX3_isKind_145 : decode cX3_isKind 145 = .ok (.invokevirtual 148, 3) := by decide +kernel
theorem dX3_isKind_148 : decode cX3_isKind 148 = .ok (.iconst 1, 1) := by decide +kernel
theorem dX3_isKind_149 : decode cX3_isKind 149 = .ok (.ireturn, 1) := by decide +kernel
theorem dX3_matchParts_0 : decode cX3_matchParts 0 = .ok (.aload_n 1, 1) := by decide +kernel
theorem dX3_matchParts_1 : decode cX3_matchParts 1 = .ok (.getfield 222, 3) := by decide +kernel
theorem dX3_matchParts_4 : decode cX3_matchParts 4 = .ok (.iload_n 2, 1) := by decide +kernel
theorem dX3_matchParts_5 : decode cX3_matchParts 5 = .ok (.iaload, 1) := by decide +kernel
theorem dX3_matchParts_6 : decode cX3_matchParts 6 = .ok (.ifCond .lt 31, 3) := by decide +kernel
theorem dX3_matchParts_9 : decode cX3_matchParts 9 = .ok (.aload_n 0, 1) := by decide +kernel
theorem dX3_matchParts_10 : decode cX3_matchParts 10 = .ok (.getfield 21, 3) := by decide +kernel
theorem dX3_matchParts_13 : decode cX3_matchParts 13 = .ok (.iconst 2, 1) := by decide +kernel
theorem dX3_matchParts_14 : decode cX3_matchParts 14 = .ok (.iload_n 3, 1) := by decide +kernel
theorem dX3_matchParts_15 : decode cX3_matchParts 15 = .ok (.aload_n 1, 1) := by decide +kernel
theorem dX3_matchParts_16 : decode cX3_matchParts 16 = .ok (.getfield 222, 3) := by decide +kernel
theorem dX3_matchParts_19 : decode cX3_matchParts 19 = .ok (.iload_n 2, 1) := by decide +kernel
theorem dX3_matchParts_20 : decode cX3_matchParts 20 = .ok (.iaload, 1) := by decide +kernel
theorem dX3_matchParts_21 : decode cX3_matchParts 21 = .ok (.iadd, 1) := by decide +kernel
theorem dX3_matchParts_22 : decode cX3_matchParts 22 = .ok (.aload_n 0, 1) := by decide +kernel
theorem dX3_matchParts_23 : decode cX3_matchParts 23 = .ok (.getfield 12, 3) := by decide +kernel
theorem dX3_matchParts_26 : decode cX3_matchParts 26 = .ok (.getfield 226, 3) := by decide +kernel
theorem dX3_matchParts_29 : decode cX3_matchParts 29 = .ok (.iload 4, 2) := by decide +kernel
theorem dX3_matchParts_31 : decode cX3_matchParts 31 = .ok (.iaload, 1) := by decide +kernel
theorem dX3_matchParts_32 : decode cX3_matchParts 32 = .ok (.iload 5, 2) := by decide +kernel
theorem dX3_matchParts_34 : decode cX3_matchParts 34 = .ok (.invokevirtual 186, 3) := by decide +kernel
theorem dX3_matchParts_37 : decode cX3_matchParts 37 = .ok (.aload_n 1, 1) := by decide +kernel
theorem dX3_matchParts_38 : decode cX3_matchParts 38 = .ok (.getfield 215, 3) := by decide +kernel
theorem dX3_matchParts_41 : decode cX3_matchParts 41 = .ok (.iload_n 2, 1) := by decide +kernel
theorem dX3_matchParts_42 : decode cX3_matchParts 42 = .ok (.iaload, 1) := by decide +kernel
theorem dX3_matchParts_43 : decode cX3_matchParts 43 = .ok (.ifCond .lt 31, 3) := by decide +kernel
theorem dX3_matchParts_46 : decode cX3_matchParts 46 = .ok (.aload_n 0, 1) := by decide +kernel
theorem dX3_matchParts_47 : decode cX3_matchParts 47 = .ok (.getfield 21, 3) := by decide +kernel
theorem dX3_matchParts_50 : decode cX3_matchParts 50 = .ok (.iconst 2, 1) := by decide +kernel
theorem dX3_matchParts_51 : decode cX3_matchParts 51 = .ok (.iload_n 3, 1) := by decide +kernel
theorem dX3_matchParts_52 : decode cX3_matchParts 52 = .ok (.aload_n 1, 1) := by decide +kernel
theorem dX3_matchParts_53 : decode cX3_matchParts 53 = .ok (.getfield 215, 3) := by decide +kernel
theorem dX3_matchParts_56 : decode cX3_matchParts 56 = .ok (.iload_n 2, 1) := by decide +kernel
theorem dX3_matchParts_57 : decode cX3_matchParts 57 = .ok (.iaload, 1) := by decide +kernel
theorem dX3_matchParts_58 : decode cX3_matchParts 58 = .ok (.iadd, 1) := by decide +kernel
theorem dX3_matchParts_59 : decode cX3_matchParts 59 = .ok (.aload_n 0, 1) := by decide +kernel
theorem dX3_matchParts_60 : decode cX3_matchParts 60 = .ok (.getfield 12, 3) := by decide +kernel
theorem dX3_matchParts_63 : decode cX3_matchParts 63 = .ok (.getfield 225, 3) := by decide +kernel
theorem dX3_matchParts_66 : decode cX3_matchParts 66 = .ok (.iload 4, 2) := by decide +kernel
theorem dX3_matchParts_68 : decode cX3_matchParts 68 = .ok (.iaload, 1) := by decide +kernel
theorem dX3_matchParts_69 : decode cX3_matchParts 69 = .ok (.iload 5, 2) := by decide +kernel
theorem dX3_matchParts_71 : decode cX3_matchParts 71 = .ok (.invokevirtual 186, 3) := by decide +kernel
theorem dX3_matchParts_74 : decode cX3_matchParts 74 = .ok (.return_, 1) := by decide +kernel
theorem dX3_applyRule_0 : decode cX3_applyRule 0 = .ok (.aload_n 0, 1) := by decide +kernel
theorem dX3_applyRule_1 : decode cX3_applyRule 1 = .ok (.getfield 12, 3) := by decide +kernel
theorem dX3_applyRule_4 : decode cX3_applyRule 4 = .ok (.getfield 270, 3) := by decide +kernel
theorem dX3_applyRule_7 : decode cX3_applyRule 7 = .ok (.iload_n 1, 1) := by decide +kernel
theorem dX3_applyRule_8 : decode cX3_applyRule 8 = .ok (.iaload, 1) := by decide +kernel
theorem dX3_applyRule_9 : decode cX3_applyRule 9 = .ok (.istore_n 2, 1) := by decide +kernel
theorem dX3_applyRule_10 : decode cX3_applyRule 10 = .ok (.aload_n 0, 1) := by decide +kernel
theorem dX3_applyRule_11 : decode cX3_applyRule 11 = .ok (.getfield 12, 3) := by decide +kernel
theorem dX3_applyRule_14 : decode cX3_applyRule 14 = .ok (.getfield 141, 3) := by decide +kernel
theorem dX3_applyRule_17 : decode cX3_applyRule 17 = .ok (.iload_n 1, 1) := by decide +kernel
theorem dX3_applyRule_18 : decode cX3_applyRule 18 = .ok (.iaload, 1) := by decide +kernel
theorem dX3_applyRule_19 : decode cX3_applyRule 19 = .ok (.istore_n 3, 1) := by decide +kernel
theorem dX3_applyRule_20 : decode cX3_applyRule 20 = .ok (.aload_n 0, 1) := by decide +kernel
theorem dX3_applyRule_21 : decode cX3_applyRule 21 = .ok (.getfield 27, 3) := by decide +kernel
theorem dX3_applyRule_24 : decode cX3_applyRule 24 = .ok (.iload_n 2, 1) := by decide +kernel
theorem dX3_applyRule_25 : decode cX3_applyRule 25 = .ok (.aaload, 1) := by decide +kernel
theorem dX3_applyRule_26 : decode cX3_applyRule 26 = .ok (.getfield 195, 3) := by decide +kernel
theorem dX3_applyRule_29 : decode cX3_applyRule 29 = .ok (.astore 4, 2) := by decide +kernel
theorem dX3_applyRule_31 : decode cX3_applyRule 31 = .ok (.aload_n 0, 1) := by decide +kernel
theorem dX3_applyRule_32 : decode cX3_applyRule 32 = .ok (.iload_n 2, 1) := by decide +kernel
theorem dX3_applyRule_33 : decode cX3_applyRule 33 = .ok (.iload_n 3, 1) := by decide +kernel
theorem dX3_applyRule_34 : decode cX3_applyRule 34 = .ok (.invokevirtual 80, 3) := by decide +kernel
theorem dX3_applyRule_37 : decode cX3_applyRule 37 = .ok (.aload_n 0, 1) := by decide +kernel
theorem dX3_applyRule_38 : decode cX3_applyRule 38 = .ok (.getfield 12, 3) := by decide +kernel
theorem dX3_applyRule_41 : decode cX3_applyRule 41 = .ok (.iload_n 1, 1) := by decide +kernel
theorem dX3_applyRule_42 : decode cX3_applyRule 42 = .ok (.aload_n 0, 1) := by decide +kernel
theorem dX3_applyRule_43 : decode cX3_applyRule 43 = .ok (.aload 4, 2) := by decide +kernel
theorem dX3_applyRule_45 : decode cX3_applyRule 45 = .ok (.aload 4, 2) := by decide +kernel
theorem dX3_applyRule_47 : decode cX3_applyRule 47 = .ok (.getfield 84, 3) := by decide +kernel
theorem dX3_applyRule_50 : decode cX3_applyRule 50 = .ok (.iconst 1, 1) := by decide +kernel
theorem dX3_applyRule_51 : decode cX3_applyRule 51 = .ok (.isub, 1) := by decide +kernel
theorem dX3_applyRule_52 : decode cX3_applyRule 52 = .ok (.iload_n 2, 1) := by decide +kernel
theorem dX3_applyRule_53 : decode cX3_applyRule 53 = .ok (.iload_n 3, 1) := by decide +kernel
theorem dX3_applyRule_54 : decode cX3_applyRule 54 = .ok (.invokevirtual 89, 3) := by decide +kernel
theorem dX3_applyRule_57 : decode cX3_applyRule 57 = .ok (.invokevirtual 255, 3) := by decide +kernel
theorem dX3_applyRule_60 : decode cX3_applyRule 60 = .ok (.aload_n 0, 1) := by decide +kernel
theorem dX3_applyRule_61 : decode cX3_applyRule 61 = .ok (.getfield 21, 3) := by decide +kernel
theorem dX3_applyRule_64 : decode cX3_applyRule 64 = .ok (.iconst 0, 1) := by decide +kernel
theorem dX3_applyRule_65 : decode cX3_applyRule 65 = .ok (.iload_n 1, 1) := by decide +kernel
theorem dX3_applyRule_66 : decode cX3_applyRule 66 = .ok (.invokevirtual 93, 3) := by decide +kernel
theorem dX3_applyRule_69 : decode cX3_applyRule 69 = .ok (.return_, 1) := by decide +kernel
theorem dX3_unite_0 : decode cX3_unite 0 = .ok (.iload_n 1, 1) := by decide +kernel
theorem dX3_unite_1 : decode cX3_unite 1 = .ok (.iload_n 2, 1) := by decide +kernel
theorem dX3_unite_2 : decode cX3_unite 2 = .ok (.if_icmp .eq 10, 3) := by decide +kernel
theorem dX3_unite_5 : decode cX3_unite 5 = .ok (.aload_n 0, 1) := by decide +kernel
theorem dX3_unite_6 : decode cX3_unite 6 = .ok (.invokevirtual 267, 3) := by decide +kernel
theorem dX3_unite_9 : decode cX3_unite 9 = .ok (.ifCond .ne 4, 3) := by decide +kernel
theorem dX3_unite_12 : decode cX3_unite 12 = .ok (.return_, 1) := by decide +kernel
theorem dX3_unite_13 : decode cX3_unite 13 = .ok (.aload_n 0, 1) := by decide +kernel
theorem dX3_unite_14 : decode cX3_unite 14 = .ok (.getfield 12, 3) := by decide +kernel
theorem dX3_unite_17 : decode cX3_unite 17 = .ok (.getfield 227, 3) := by decide +kernel
theorem dX3_unite_20 : decode cX3_unite 20 = .ok (.iload_n 1, 1) := by decide +kernel
theorem dX3_unite_21 : decode cX3_unite 21 = .ok (.iaload, 1) := by decide +kernel
theorem dX3_unite_22 : decode cX3_unite 22 = .ok (.bipush 7, 2) := by decide +kernel
theorem dX3_unite_24 : decode cX3_unite 24 = .ok (.if_icmp .ne 13, 3) := by decide +kernel
theorem dX3_unite_27 : decode cX3_unite 27 = .ok (.aload_n 0, 1) := by decide +kernel
theorem dX3_unite_28 : decode cX3_unite 28 = .ok (.iload_n 1, 1) := by decide +kernel
theorem dX3_unite_29 : decode cX3_unite 29 = .ok (.iload_n 2, 1) := by decide +kernel
theorem dX3_unite_30 : decode cX3_unite 30 = .ok (.iload_n 3, 1) := by decide +kernel
theorem dX3_unite_31 : decode cX3_unite 31 = .ok (.invokevirtual 297, 3) := by decide +kernel
theorem dX3_unite_34 : decode cX3_unite 34 = .ok (.goto 65, 3) := by decide +kernel
theorem dX3_unite_37 : decode cX3_unite 37 = .ok (.aload_n 0, 1) := by decide +kernel
theorem dX3_unite_38 : decode cX3_unite 38 = .ok (.getfield 12, 3) := by decide +kernel
theorem dX3_unite_41 : decode cX3_unite 41 = .ok (.getfield 227, 3) := by decide +kernel
theorem dX3_unite_44 : decode cX3_unite 44 = .ok (.iload_n 2, 1) := by decide +kernel
theorem dX3_unite_45 : decode cX3_unite 45 = .ok (.iaload, 1) := by decide +kernel
theorem dX3_unite_46 : decode cX3_unite 46 = .ok (.bipush 7, 2) := by decide +kernel
theorem dX3_unite_48 : decode cX3_unite 48 = .ok (.if_icmp .ne 13, 3) := by decide +kernel
theorem dX3_unite_51 : decode cX3_unite 51 = .ok (.aload_n 0, 1) := by decide +kernel
theorem dX3_unite_52 : decode cX3_unite 52 = .ok (.iload_n 2, 1) := by decide +kernel
theorem dX3_unite_53 : decode cX3_unite 53 = .ok (.iload_n 1, 1) := by decide +kernel
theorem dX3_unite_54 : decode cX3_unite 54 = .ok (.iload_n 3, 1) := by decide +kernel
theorem dX3_unite_55 : decode cX3_unite 55 = .ok (.invokevirtual 297, 3) := by decide +kernel
theorem dX3_unite_58 : decode cX3_unite 58 = .ok (.goto 41, 3) := by decide +kernel
theorem dX3_unite_61 : decode cX3_unite 61 = .ok (.aload_n 0, 1) := by decide +kernel
theorem dX3_unite_62 : decode cX3_unite 62 = .ok (.getfield 12, 3) := by decide +kernel
theorem dX3_unite_65 : decode cX3_unite 65 = .ok (.getfield 247, 3) := by decide +kernel
theorem dX3_unite_68 : decode cX3_unite 68 = .ok (.iload_n 1, 1) := by decide +kernel
theorem dX3_unite_69 : decode cX3_unite 69 = .ok (.iaload, 1) := by decide +kernel
theorem dX3_unite_70 : decode cX3_unite 70 = .ok (.aload_n 0, 1) := by decide +kernel
theorem dX3_unite_71 : decode cX3_unite 71 = .ok (.getfield 12, 3) := by decide +kernel
theorem dX3_unite_74 : decode cX3_unite 74 = .ok (.getfield 247, 3) := by decide +kernel
theorem dX3_unite_77 : decode cX3_unite 77 = .ok (.iload_n 2, 1) := by decide +kernel
theorem dX3_unite_78 : decode cX3_unite 78 = .ok (.iaload, 1) := by decide +kernel
theorem dX3_unite_79 : decode cX3_unite 79 = .ok (.if_icmp .eq 11, 3) := by decide +kernel
theorem dX3_unite_82 : decode cX3_unite 82 = .ok (.aload_n 0, 1) := by decide +kernel
theorem dX3_unite_83 : decode cX3_unite 83 = .ok (.iload_n 3, 1) := by decide +kernel
theorem dX3_unite_84 : decode cX3_unite 84 = .ok (.invokevirtual 154, 3) := by decide +kernel
theorem dX3_unite_87 : decode cX3_unite 87 = .ok (.goto 12, 3) := by decide +kernel
theorem dX3_unite_90 : decode cX3_unite 90 = .ok (.aload_n 0, 1) := by decide +kernel
theorem dX3_unite_91 : decode cX3_unite 91 = .ok (.iconst 4, 1) := by decide +kernel
theorem dX3_unite_92 : decode cX3_unite 92 = .ok (.iload_n 1, 1) := by decide +kernel
theorem dX3_unite_93 : decode cX3_unite 93 = .ok (.iload_n 2, 1) := by decide +kernel
theorem dX3_unite_94 : decode cX3_unite 94 = .ok (.iload 4, 2) := by decide +kernel
theorem dX3_unite_96 : decode cX3_unite 96 = .ok (.invokevirtual 300, 3) := by decide +kernel
theorem dX3_unite_99 : decode cX3_unite 99 = .ok (.return_, 1) := by decide +kernel
theorem dX3_bind_0 : decode cX3_bind 0 = .ok (.aload_n 0, 1) := by decide +kernel
theorem dX3_bind_1 : decode cX3_bind 1 = .ok (.getfield 12, 3) := by decide +kernel
theorem dX3_bind_4 : decode cX3_bind 4 = .ok (.iload_n 1, 1) := by decide +kernel
theorem dX3_bind_5 : decode cX3_bind 5 = .ok (.iload_n 2, 1) := by decide +kernel
theorem dX3_bind_6 : decode cX3_bind 6 = .ok (.invokevirtual 303, 3) := by decide +kernel
theorem dX3_bind_9 : decode cX3_bind 9 = .ok (.ifCond .eq 11, 3) := by decide +kernel
theorem dX3_bind_12 : decode cX3_bind 12 = .ok (.aload_n 0, 1) := by decide +kernel
theorem dX3_bind_13 : decode cX3_bind 13 = .ok (.iload_n 3, 1) := by decide +kernel
theorem dX3_bind_14 : decode cX3_bind 14 = .ok (.invokevirtual 154, 3) := by decide +kernel
theorem dX3_bind_17 : decode cX3_bind 17 = .ok (.goto 72, 3) := by decide +kernel
theorem dX3_bind_20 : decode cX3_bind 20 = .ok (.aload_n 0, 1) := by decide +kernel
theorem dX3_bind_21 : decode cX3_bind 21 = .ok (.getfield 12, 3) := by decide +kernel
theorem dX3_bind_24 : decode cX3_bind 24 = .ok (.getfield 141, 3) := by decide +kernel
theorem dX3_bind_27 : decode cX3_bind 27 = .ok (.iload_n 1, 1) := by decide +kernel
theorem dX3_bind_28 : decode cX3_bind 28 = .ok (.iaload, 1) := by decide +kernel
theorem dX3_bind_29 : decode cX3_bind 29 = .ok (.iload_n 3, 1) := by decide +kernel
theorem dX3_bind_30 : decode cX3_bind 30 = .ok (.if_icmp .ne 15, 3) := by decide +kernel
theorem dX3_bind_33 : decode cX3_bind 33 = .ok (.aload_n 0, 1) := by decide +kernel
theorem dX3_bind_34 : decode cX3_bind 34 = .ok (.getfield 12, 3) := by decide +kernel
theorem dX3_bind_37 : decode cX3_bind 37 = .ok (.iload_n 1, 1) := by decide +kernel
theorem dX3_bind_38 : decode cX3_bind 38 = .ok (.iload_n 2, 1) := by decide +kernel
theorem dX3_bind_39 : decode cX3_bind 39 = .ok (.invokevirtual 255, 3) := by decide +kernel
theorem dX3_bind_42 : decode cX3_bind 42 = .ok (.goto 47, 3) := by decide +kernel
theorem dX3_bind_45 : decode cX3_bind 45 = .ok (.aload_n 0, 1) := by decide +kernel
theorem dX3_bind_46 : decode cX3_bind 46 = .ok (.getfield 12, 3) := by decide +kernel
theorem dX3_bind_49 : decode cX3_bind 49 = .ok (.getfield 227, 3) := by decide +kernel
theorem dX3_bind_52 : decode cX3_bind 52 = .ok (.iload_n 2, 1) := by decide +kernel
theorem dX3_bind_53 : decode cX3_bind 53 = .ok (.iaload, 1) := by decide +kernel
theorem dX3_bind_54 : decode cX3_bind 54 = .ok (.bipush 7, 2) := by decide +kernel
theorem dX3_bind_56 : decode cX3_bind 56 = .ok (.if_icmp .ne 28, 3) := by decide +kernel
theorem dX3_bind_59 : decode cX3_bind 59 = .ok (.aload_n 0, 1) := by decide +kernel
theorem dX3_bind_60 : decode cX3_bind 60 = .ok (.getfield 12, 3) := by decide +kernel
theorem dX3_bind_63 : decode cX3_bind 63 = .ok (.getfield 141, 3) := by decide +kernel
theorem dX3_bind_66 : decode cX3_bind 66 = .ok (.iload_n 2, 1) := by decide +kernel
theorem dX3_bind_67 : decode cX3_bind 67 = .ok (.iaload, 1) := by decide +kernel
theorem dX3_bind_68 : decode cX3_bind 68 = .ok (.iload_n 3, 1) := by decide +kernel
theorem dX3_bind_69 : decode cX3_bind 69 = .ok (.if_icmp .ne 15, 3) := by decide +kernel
theorem dX3_bind_72 : decode cX3_bind 72 = .ok (.aload_n 0, 1) := by decide +kernel
theorem dX3_bind_73 : decode cX3_bind 73 = .ok (.getfield 12, 3) := by decide +kernel
theorem dX3_bind_76 : decode cX3_bind 76 = .ok (.iload_n 2, 1) := by decide +kernel
theorem dX3_bind_77 : decode cX3_bind 77 = .ok (.iload_n 1, 1) := by decide +kernel
theorem dX3_bind_78 : decode cX3_bind 78 = .ok (.invokevirtual 255, 3) := by decide +kernel
theorem dX3_bind_81 : decode cX3_bind 81 = .ok (.goto 8, 3) := by decide +kernel
theorem dX3_bind_84 : decode cX3_bind 84 = .ok (.aload_n 0, 1) := by decide +kernel
theorem dX3_bind_85 : decode cX3_bind 85 = .ok (.iconst 2, 1) := by decide +kernel
theorem dX3_bind_86 : decode cX3_bind 86 = .ok (.putfield 57, 3) := by decide +kernel
theorem dX3_bind_89 : decode cX3_bind 89 = .ok (.return_, 1) := by decide +kernel
theorem dX3_pushPairs_0 : decode cX3_pushPairs 0 = .ok (.aload_n 0, 1) := by decide +kernel
theorem dX3_pushPairs_1 : decode cX3_pushPairs 1 = .ok (.getfield 12, 3) := by decide +kernel
theorem dX3_pushPairs_4 : decode cX3_pushPairs 4 = .ok (.getfield 247, 3) := by decide +kernel
theorem dX3_pushPairs_7 : decode cX3_pushPairs 7 = .ok (.iload_n 2, 1) := by decide +kernel
theorem dX3_pushPairs_8 : decode cX3_pushPairs 8 = .ok (.iaload, 1) := by decide +kernel
theorem dX3_pushPairs_9 : decode cX3_pushPairs 9 = .ok (.invokestatic 248, 3) := by decide +kernel
theorem dX3_pushPairs_12 : decode cX3_pushPairs 12 = .ok (.istore 5, 2) := by decide +kernel
theorem dX3_pushPairs_14 : decode cX3_pushPairs 14 = .ok (.iload 5, 2) := by decide +kernel
theorem dX3_pushPairs_16 : decode cX3_pushPairs 16 = .ok (.iconst 1, 1) := by decide +kernel
theorem dX3_pushPairs_17 : decode cX3_pushPairs 17 = .ok (.if_icmp .le 31, 3) := by decide +kernel
theorem dX3_pushPairs_20 : decode cX3_pushPairs 20 = .ok (.aload_n 0, 1) := by decide +kernel
theorem dX3_pushPairs_21 : decode cX3_pushPairs 21 = .ok (.getfield 21, 3) := by decide +kernel
theorem dX3_pushPairs_24 : decode cX3_pushPairs 24 = .ok (.iload_n 1, 1) := by decide +kernel
theorem dX3_pushPairs_25 : decode cX3_pushPairs 25 = .ok (.aload_n 0, 1) := by decide +kernel
theorem dX3_pushPairs_26 : decode cX3_pushPairs 26 = .ok (.getfield 12, 3) := by decide +kernel
theorem dX3_pushPairs_29 : decode cX3_pushPairs 29 = .ok (.getfield 226, 3) := by decide +kernel
theorem dX3_pushPairs_32 : decode cX3_pushPairs 32 = .ok (.iload_n 2, 1) := by decide +kernel
theorem dX3_pushPairs_33 : decode cX3_pushPairs 33 = .ok (.iaload, 1) := by decide +kernel
theorem dX3_pushPairs_34 : decode cX3_pushPairs 34 = .ok (.aload_n 0, 1) := by decide +kernel
theorem dX3_pushPairs_35 : decode cX3_pushPairs 35 = .ok (.getfield 12, 3) := by decide +kernel
theorem dX3_pushPairs_38 : decode cX3_pushPairs 38 = .ok (.getfield 226, 3) := by decide +kernel
theorem dX3_pushPairs_41 : decode cX3_pushPairs 41 = .ok (.iload_n 3, 1) := by decide +kernel
theorem dX3_pushPairs_42 : decode cX3_pushPairs 42 = .ok (.iaload, 1) := by decide +kernel
theorem dX3_pushPairs_43 : decode cX3_pushPairs 43 = .ok (.iload 4, 2) := by decide +kernel
theorem dX3_pushPairs_45 : decode cX3_pushPairs 45 = .ok (.invokevirtual 186, 3) := by decide +kernel
theorem dX3_pushPairs_48 : decode cX3_pushPairs 48 = .ok (.iload 5, 2) := by decide +kernel
theorem dX3_pushPairs_50 : decode cX3_pushPairs 50 = .ok (.ifCond .le 31, 3) := by decide +kernel
theorem dX3_pushPairs_53 : decode cX3_pushPairs 53 = .ok (.aload_n 0, 1) := by decide +kernel
theorem dX3_pushPairs_54 : decode cX3_pushPairs 54 = .ok (.getfield 21, 3) := by decide +kernel
theorem dX3_pushPairs_57 : decode cX3_pushPairs 57 = .ok (.iload_n 1, 1) := by decide +kernel
theorem dX3_pushPairs_58 : decode cX3_pushPairs 58 = .ok (.aload_n 0, 1) := by decide +kernel
theorem dX3_pushPairs_59 : decode cX3_pushPairs 59 = .ok (.getfield 12, 3) := by decide +kernel
theorem dX3_pushPairs_62 : decode cX3_pushPairs 62 = .ok (.getfield 225, 3) := by decide +kernel
theorem dX3_pushPairs_65 : decode cX3_pushPairs 65 = .ok (.iload_n 2, 1) := by decide +kernel
theorem dX3_pushPairs_66 : decode cX3_pushPairs 66 = .ok (.iaload, 1) := by decide +kernel
theorem dX3_pushPairs_67 : decode cX3_pushPairs 67 = .ok (.aload_n 0, 1) := by decide +kernel
theorem dX3_pushPairs_68 : decode cX3_pushPairs 68 = .ok (.getfield 12, 3) := by decide +kernel
theorem dX3_pushPairs_71 : decode cX3_pushPairs 71 = .ok (.getfield 225, 3) := by decide +kernel
theorem dX3_pushPairs_74 : decode cX3_pushPairs 74 = .ok (.iload_n 3, 1) := by decide +kernel
theorem dX3_pushPairs_75 : decode cX3_pushPairs 75 = .ok (.iaload, 1) := by decide +kernel
theorem dX3_pushPairs_76 : decode cX3_pushPairs 76 = .ok (.iload 4, 2) := by decide +kernel
theorem dX3_pushPairs_78 : decode cX3_pushPairs 78 = .ok (.invokevirtual 186, 3) := by decide +kernel
theorem dX3_pushPairs_81 : decode cX3_pushPairs 81 = .ok (.return_, 1) := by decide +kernel
theorem dX3_ask_0 : decode cX3_ask 0 = .ok (.iload_n 1, 1) := by decide +kernel
theorem dX3_ask_1 : decode cX3_ask 1 = .ok (.iload_n 2, 1) := by decide +kernel
theorem dX3_ask_2 : decode cX3_ask 2 = .ok (.if_icmp .ne 4, 3) := by decide +kernel
theorem dX3_ask_5 : decode cX3_ask 5 = .ok (.return_, 1) := by decide +kernel
theorem dX3_ask_6 : decode cX3_ask 6 = .ok (.aload_n 0, 1) := by decide +kernel
theorem dX3_ask_7 : decode cX3_ask 7 = .ok (.getfield 12, 3) := by decide +kernel
theorem dX3_ask_10 : decode cX3_ask 10 = .ok (.getfield 227, 3) := by decide +kernel
theorem dX3_ask_13 : decode cX3_ask 13 = .ok (.iload_n 1, 1) := by decide +kernel
theorem dX3_ask_14 : decode cX3_ask 14 = .ok (.iaload, 1) := by decide +kernel
theorem dX3_ask_15 : decode cX3_ask 15 = .ok (.bipush 7, 2) := by decide +kernel
theorem dX3_ask_17 : decode cX3_ask 17 = .ok (.if_icmp .eq 17, 3) := by decide +kernel
theorem dX3_ask_20 : decode cX3_ask 20 = .ok (.aload_n 0, 1) := by decide +kernel
theorem dX3_ask_21 : decode cX3_ask 21 = .ok (.getfield 12, 3) := by decide +kernel
theorem dX3_ask_24 : decode cX3_ask 24 = .ok (.getfield 227, 3) := by decide +kernel
theorem dX3_ask_27 : decode cX3_ask 27 = .ok (.iload_n 2, 1) := by decide +kernel
theorem dX3_ask_28 : decode cX3_ask 28 = .ok (.iaload, 1) := by decide +kernel
theorem dX3_ask_29 : decode cX3_ask 29 = .ok (.bipush 7, 2) := by decide +kernel
theorem dX3_ask_31 : decode cX3_ask 31 = .ok (.if_icmp .ne 9, 3) := by decide +kernel
theorem dX3_ask_34 : decode cX3_ask 34 = .ok (.aload_n 0, 1) := by decide +kernel
theorem dX3_ask_35 : decode cX3_ask 35 = .ok (.iconst 2, 1) := by decide +kernel
theorem dX3_ask_36 : decode cX3_ask 36 = .ok (.putfield 57, 3) := by decide +kernel
theorem dX3_ask_39 : decode cX3_ask 39 = .ok (.return_, 1) := by decide +kernel
theorem dX3_ask_40 : decode cX3_ask 40 = .ok (.aload_n 0, 1) := by decide +kernel
theorem dX3_ask_41 : decode cX3_ask 41 = .ok (.invokevirtual 267, 3) := by decide +kernel
theorem dX3_ask_44 : decode cX3_ask 44 = .ok (.ifCond .ne 4, 3) := by decide +kernel
theorem dX3_ask_47 : decode cX3_ask 47 = .ok (.return_, 1) := by decide +kernel
theorem dX3_ask_48 : decode cX3_ask 48 = .ok (.aload_n 0, 1) := by decide +kernel
theorem dX3_ask_49 : decode cX3_ask 49 = .ok (.getfield 12, 3) := by decide +kernel
theorem dX3_ask_52 : decode cX3_ask 52 = .ok (.getfield 247, 3) := by decide +kernel
theorem dX3_ask_55 : decode cX3_ask 55 = .ok (.iload_n 1, 1) := by decide +kernel
theorem dX3_ask_56 : decode cX3_ask 56 = .ok (.iaload, 1) := by decide +kernel
theorem dX3_ask_57 : decode cX3_ask 57 = .ok (.aload_n 0, 1) := by decide +kernel
theorem dX3_ask_58 : decode cX3_ask 58 = .ok (.getfield 12, 3) := by decide +kernel
theorem dX3_ask_61 : decode cX3_ask 61 = .ok (.getfield 247, 3) := by decide +kernel
theorem dX3_ask_64 : decode cX3_ask 64 = .ok (.iload_n 2, 1) := by decide +kernel
theorem dX3_ask_65 : decode cX3_ask 65 = .ok (.iaload, 1) := by decide +kernel
theorem dX3_ask_66 : decode cX3_ask 66 = .ok (.if_icmp .ne 15, 3) := by decide +kernel
theorem dX3_ask_69 : decode cX3_ask 69 = .ok (.aload_n 0, 1) := by decide +kernel
theorem dX3_ask_70 : decode cX3_ask 70 = .ok (.bipush 6, 2) := by decide +kernel
theorem dX3_ask_72 : decode cX3_ask 72 = .ok (.iload_n 1, 1) := by decide +kernel
theorem dX3_ask_73 : decode cX3_ask 73 = .ok (.iload_n 2, 1) := by decide +kernel
theorem dX3_ask_74 : decode cX3_ask 74 = .ok (.iload_n 3, 1) := by decide +kernel
theorem dX3_ask_75 : decode cX3_ask 75 = .ok (.invokevirtual 300, 3) := by decide +kernel
theorem dX3_ask_78 : decode cX3_ask 78 = .ok (.goto 18, 3) := by decide +kernel
theorem dX3_ask_81 : decode cX3_ask 81 = .ok (.aload_n 0, 1) := by decide +kernel
theorem dX3_ask_82 : decode cX3_ask 82 = .ok (.invokevirtual 307, 3) := by decide +kernel
theorem dX3_ask_85 : decode cX3_ask 85 = .ok (.aload_n 0, 1) := by decide +kernel
theorem dX3_ask_86 : decode cX3_ask 86 = .ok (.getfield 12, 3) := by decide +kernel
theorem dX3_ask_89 : decode cX3_ask 89 = .ok (.iload_n 3, 1) := by decide +kernel
theorem dX3_ask_90 : decode cX3_ask 90 = .ok (.iconst 1, 1) := by decide +kernel
theorem dX3_ask_91 : decode cX3_ask 91 = .ok (.iconst (-1), 1) := by decide +kernel
theorem dX3_ask_92 : decode cX3_ask 92 = .ok (.iconst (-1), 1) := by decide +kernel
theorem dX3_ask_93 : decode cX3_ask 93 = .ok (.invokevirtual 148, 3) := by decide +kernel
theorem dX3_ask_96 : decode cX3_ask 96 = .ok (.return_, 1) := by decide +kernel
theorem dX3_dropAsking_0 : decode cX3_dropAsking 0 = .ok (.aload_n 0, 1) := by decide +kernel
theorem dX3_dropAsking_1 : decode cX3_dropAsking 1 = .ok (.getfield 21, 3) := by decide +kernel
theorem dX3_dropAsking_4 : decode cX3_dropAsking 4 = .ok (.getfield 97, 3) := by decide +kernel
theorem dX3_dropAsking_7 : decode cX3_dropAsking 7 = .ok (.istore_n 1, 1) := by decide +kernel
theorem dX3_dropAsking_8 : decode cX3_dropAsking 8 = .ok (.iload_n 1, 1) := by decide +kernel
theorem dX3_dropAsking_9 : decode cX3_dropAsking 9 = .ok (.ifCond .le 25, 3) := by decide +kernel
theorem dX3_dropAsking_12 : decode cX3_dropAsking 12 = .ok (.aload_n 0, 1) := by decide +kernel
theorem dX3_dropAsking_13 : decode cX3_dropAsking 13 = .ok (.getfield 21, 3) := by decide +kernel
theorem dX3_dropAsking_16 : decode cX3_dropAsking 16 = .ok (.getfield 120, 3) := by decide +kernel
theorem dX3_dropAsking_19 : decode cX3_dropAsking 19 = .ok (.iload_n 1, 1) := by decide +kernel
theorem dX3_dropAsking_20 : decode cX3_dropAsking 20 = .ok (.iconst 1, 1) := by decide +kernel
theorem dX3_dropAsking_21 : decode cX3_dropAsking 21 = .ok (.isub, 1) := by decide +kernel
theorem dX3_dropAsking_22 : decode cX3_dropAsking 22 = .ok (.iaload, 1) := by decide +kernel
theorem dX3_dropAsking_23 : decode cX3_dropAsking 23 = .ok (.bipush 6, 2) := by decide +kernel
theorem dX3_dropAsking_25 : decode cX3_dropAsking 25 = .ok (.if_icmp .ne 9, 3) := by decide +kernel
theorem dX3_dropAsking_28 : decode cX3_dropAsking 28 = .ok (.iinc 1 (-1), 3) := by decide +kernel
theorem dX3_dropAsking_31 : decode cX3_dropAsking 31 = .ok (.goto (-23), 3) := by decide +kernel
theorem dX3_dropAsking_34 : decode cX3_dropAsking 34 = .ok (.iload_n 1, 1) := by decide +kernel
theorem dX3_dropAsking_35 : decode cX3_dropAsking 35 = .ok (.ifCond .le 22, 3) := by decide +kernel
theorem dX3_dropAsking_38 : decode cX3_dropAsking 38 = .ok (.aload_n 0, 1) := by decide +kernel
theorem dX3_dropAsking_39 : decode cX3_dropAsking 39 = .ok (.getfield 21, 3) := by decide +kernel
theorem dX3_dropAsking_42 : decode cX3_dropAsking 42 = .ok (.getfield 120, 3) := by decide +kernel
theorem dX3_dropAsking_45 : decode cX3_dropAsking 45 = .ok (.iload_n 1, 1) := by decide +kernel
theorem dX3_dropAsking_46 : decode cX3_dropAsking 46 = .ok (.iconst 1, 1) := by decide +kernel
theorem dX3_dropAsking_47 : decode cX3_dropAsking 47 = .ok (.isub, 1) := by decide +kernel
theorem dX3_dropAsking_48 : decode cX3_dropAsking 48 = .ok (.iaload, 1) := by decide +kernel
theorem dX3_dropAsking_49 : decode cX3_dropAsking 49 = .ok (.bipush 7, 2) := by decide +kernel
theorem dX3_dropAsking_51 : decode cX3_dropAsking 51 = .ok (.if_icmp .ne 6, 3) := by decide +kernel
theorem dX3_dropAsking_54 : decode cX3_dropAsking 54 = .ok (.iinc 1 (-1), 3) := by decide +kernel
theorem dX3_dropAsking_57 : decode cX3_dropAsking 57 = .ok (.aload_n 0, 1) := by decide +kernel
theorem dX3_dropAsking_58 : decode cX3_dropAsking 58 = .ok (.getfield 21, 3) := by decide +kernel
theorem dX3_dropAsking_61 : decode cX3_dropAsking 61 = .ok (.iload_n 1, 1) := by decide +kernel
theorem dX3_dropAsking_62 : decode cX3_dropAsking 62 = .ok (.putfield 97, 3) := by decide +kernel
theorem dX3_dropAsking_65 : decode cX3_dropAsking 65 = .ok (.return_, 1) := by decide +kernel
theorem dX3_startSome_0 : decode cX3_startSome 0 = .ok (.aload_n 0, 1) := by decide +kernel
theorem dX3_startSome_1 : decode cX3_startSome 1 = .ok (.getfield 48, 3) := by decide +kernel
theorem dX3_startSome_4 : decode cX3_startSome 4 = .ok (.iconst 1, 1) := by decide +kernel
theorem dX3_startSome_5 : decode cX3_startSome 5 = .ok (.iadd, 1) := by decide +kernel
theorem dX3_startSome_6 : decode cX3_startSome 6 = .ok (.bipush 102, 2) := by decide +kernel
theorem dX3_startSome_8 : decode cX3_startSome 8 = .ok (.if_icmp .lt 9, 3) := by decide +kernel
theorem dX3_startSome_11 : decode cX3_startSome 11 = .ok (.aload_n 0, 1) := by decide +kernel
theorem dX3_startSome_12 : decode cX3_startSome 12 = .ok (.iconst 3, 1) := by decide +kernel
theorem dX3_startSome_13 : decode cX3_startSome 13 = .ok (.putfield 57, 3) := by decide +kernel
theorem dX3_startSome_16 : decode cX3_startSome 16 = .ok (.return_, 1) := by decide +kernel
theorem dX3_startSome_17 : decode cX3_startSome 17 = .ok (.aload_n 0, 1) := by decide +kernel
theorem dX3_startSome_18 : decode cX3_startSome 18 = .ok (.dup, 1) := by decide +kernel
theorem dX3_startSome_19 : decode cX3_startSome 19 = .ok (.getfield 48, 3) := by decide +kernel
theorem dX3_startSome_22 : decode cX3_startSome 22 = .ok (.iconst 1, 1) := by decide +kernel
theorem dX3_startSome_23 : decode cX3_startSome 23 = .ok (.iadd, 1) := by decide +kernel
theorem dX3_startSome_24 : decode cX3_startSome 24 = .ok (.putfield 48, 3) := by decide +kernel
theorem dX3_startSome_27 : decode cX3_startSome 27 = .ok (.aload_n 0, 1) := by decide +kernel
theorem dX3_startSome_28 : decode cX3_startSome 28 = .ok (.getfield 33, 3) := by decide +kernel
theorem dX3_startSome_31 : decode cX3_startSome 31 = .ok (.aload_n 0, 1) := by decide +kernel
theorem dX3_startSome_32 : decode cX3_startSome 32 = .ok (.getfield 48, 3) := by decide +kernel
theorem dX3_startSome_35 : decode cX3_startSome 35 = .ok (.aaload, 1) := by decide +kernel
theorem dX3_startSome_36 : decode cX3_startSome 36 = .ok (.astore_n 2, 1) := by decide +kernel
theorem dX3_startSome_37 : decode cX3_startSome 37 = .ok (.aload_n 2, 1) := by decide +kernel
theorem dX3_startSome_38 : decode cX3_startSome 38 = .ok (.iload_n 1, 1) := by decide +kernel
theorem dX3_startSome_39 : decode cX3_startSome 39 = .ok (.putfield 180, 3) := by decide +kernel
theorem dX3_startSome_42 : decode cX3_startSome 42 = .ok (.aload_n 2, 1) := by decide +kernel
theorem dX3_startSome_43 : decode cX3_startSome 43 = .ok (.aload_n 0, 1) := by decide +kernel
theorem dX3_startSome_44 : decode cX3_startSome 44 = .ok (.getfield 21, 3) := by decide +kernel
theorem dX3_startSome_47 : decode cX3_startSome 47 = .ok (.getfield 97, 3) := by decide +kernel
theorem dX3_startSome_50 : decode cX3_startSome 50 = .ok (.putfield 173, 3) := by decide +kernel
theorem dX3_startSome_53 : decode cX3_startSome 53 = .ok (.aload_n 2, 1) := by decide +kernel
theorem dX3_startSome_54 : decode cX3_startSome 54 = .ok (.iconst 0, 1) := by decide +kernel
theorem dX3_startSome_55 : decode cX3_startSome 55 = .ok (.putfield 183, 3) := by decide +kernel
theorem dX3_startSome_58 : decode cX3_startSome 58 = .ok (.aload_n 2, 1) := by decide +kernel
theorem dX3_startSome_59 : decode cX3_startSome 59 = .ok (.iconst 0, 1) := by decide +kernel
theorem dX3_startSome_60 : decode cX3_startSome 60 = .ok (.putfield 164, 3) := by decide +kernel
theorem dX3_startSome_63 : decode cX3_startSome 63 = .ok (.aload_n 0, 1) := by decide +kernel
theorem dX3_startSome_64 : decode cX3_startSome 64 = .ok (.getfield 21, 3) := by decide +kernel
theorem dX3_startSome_67 : decode cX3_startSome 67 = .ok (.bipush 8, 2) := by decide +kernel
theorem dX3_startSome_69 : decode cX3_startSome 69 = .ok (.iload_n 1, 1) := by decide +kernel
theorem dX3_startSome_70 : decode cX3_startSome 70 = .ok (.invokevirtual 93, 3) := by decide +kernel
theorem dX3_startSome_73 : decode cX3_startSome 73 = .ok (.return_, 1) := by decide +kernel
theorem dX3_startRunWithin_0 : decode cX3_startRunWithin 0 = .ok (.aload_n 0, 1) := by decide +kernel
theorem dX3_startRunWithin_1 : decode cX3_startRunWithin 1 = .ok (.invokevirtual 267, 3) := by decide +kernel
theorem dX3_startRunWithin_4 : decode cX3_startRunWithin 4 = .ok (.ifCond .ne 4, 3) := by decide +kernel
theorem dX3_startRunWithin_7 : decode cX3_startRunWithin 7 = .ok (.return_, 1) := by decide +kernel
theorem dX3_startRunWithin_8 : decode cX3_startRunWithin 8 = .ok (.aload_n 0, 1) := by decide +kernel
theorem dX3_startRunWithin_9 : decode cX3_startRunWithin 9 = .ok (.dup, 1) := by decide +kernel
theorem dX3_startRunWithin_10 : decode cX3_startRunWithin 10 = .ok (.getfield 51, 3) := by decide +kernel
theorem dX3_startRunWithin_13 : decode cX3_startRunWithin 13 = .ok (.iconst 1, 1) := by decide +kernel
theorem dX3_startRunWithin_14 : decode cX3_startRunWithin 14 = .ok (.iadd, 1) := by decide +kernel
theorem dX3_startRunWithin_15 : decode cX3_startRunWithin 15 = .ok (.putfield 51, 3) := by decide +kernel
theorem dX3_startRunWithin_18 : decode cX3_startRunWithin 18 = .ok (.aload_n 1, 1) := by decide +kernel
theorem dX3_startRunWithin_19 : decode cX3_startRunWithin 19 = .ok (.aload_n 0, 1) := by decide +kernel
theorem dX3_startRunWithin_20 : decode cX3_startRunWithin 20 = .ok (.getfield 51, 3) := by decide +kernel
theorem dX3_startRunWithin_23 : decode cX3_startRunWithin 23 = .ok (.putfield 108, 3) := by decide +kernel
theorem dX3_startRunWithin_26 : decode cX3_startRunWithin 26 = .ok (.aload_n 1, 1) := by decide +kernel
theorem dX3_startRunWithin_27 : decode cX3_startRunWithin 27 = .ok (.dup, 1) := by decide +kernel
theorem dX3_startRunWithin_28 : decode cX3_startRunWithin 28 = .ok (.getfield 183, 3) := by decide +kernel
theorem dX3_startRunWithin_31 : decode cX3_startRunWithin 31 = .ok (.iconst 1, 1) := by decide +kernel
theorem dX3_startRunWithin_32 : decode cX3_startRunWithin 32 = .ok (.iadd, 1) := by decide +kernel
theorem dX3_startRunWithin_33 : decode cX3_startRunWithin 33 = .ok (.putfield 183, 3) := by decide +kernel
theorem dX3_startRunWithin_36 : decode cX3_startRunWithin 36 = .ok (.aload_n 1, 1) := by decide +kernel
theorem dX3_startRunWithin_37 : decode cX3_startRunWithin 37 = .ok (.iconst 0, 1) := by decide +kernel
theorem dX3_startRunWithin_38 : decode cX3_startRunWithin 38 = .ok (.putfield 105, 3) := by decide +kernel
theorem dX3_startRunWithin_41 : decode cX3_startRunWithin 41 = .ok (.aload_n 0, 1) := by decide +kernel
theorem dX3_startRunWithin_42 : decode cX3_startRunWithin 42 = .ok (.getfield 21, 3) := by decide +kernel
theorem dX3_startRunWithin_45 : decode cX3_startRunWithin 45 = .ok (.bipush 9, 2) := by decide +kernel
theorem dX3_startRunWithin_47 : decode cX3_startRunWithin 47 = .ok (.aload_n 1, 1) := by decide +kernel
theorem dX3_startRunWithin_48 : decode cX3_startRunWithin 48 = .ok (.getfield 180, 3) := by decide +kernel
theorem dX3_startRunWithin_51 : decode cX3_startRunWithin 51 = .ok (.invokevirtual 93, 3) := by decide +kernel
theorem dX3_startRunWithin_54 : decode cX3_startRunWithin 54 = .ok (.aload_n 0, 1) := by decide +kernel
theorem dX3_startRunWithin_55 : decode cX3_startRunWithin 55 = .ok (.getfield 12, 3) := by decide +kernel
theorem dX3_startRunWithin_58 : decode cX3_startRunWithin 58 = .ok (.getfield 270, 3) := by decide +kernel
theorem dX3_startRunWithin_61 : decode cX3_startRunWithin 61 = .ok (.aload_n 1, 1) := by decide +kernel
theorem dX3_startRunWithin_62 : decode cX3_startRunWithin 62 = .ok (.getfield 180, 3) := by decide +kernel
theorem dX3_startRunWithin_65 : decode cX3_startRunWithin 65 = .ok (.iaload, 1) := by decide +kernel
theorem dX3_startRunWithin_66 : decode cX3_startRunWithin 66 = .ok (.istore_n 2, 1) := by decide +kernel
theorem dX3_startRunWithin_67 : decode cX3_startRunWithin 67 = .ok (.aload_n 0, 1) := by decide +kernel
theorem dX3_startRunWithin_68 : decode cX3_startRunWithin 68 = .ok (.getfield 12, 3) := by decide +kernel
theorem dX3_startRunWithin_71 : decode cX3_startRunWithin 71 = .ok (.getfield 247, 3) := by decide +kernel
theorem dX3_startRunWithin_74 : decode cX3_startRunWithin 74 = .ok (.aload_n 1, 1) := by decide +kernel
theorem dX3_startRunWithin_75 : decode cX3_startRunWithin 75 = .ok (.getfield 180, 3) := by decide +kernel
theorem dX3_startRunWithin_78 : decode cX3_startRunWithin 78 = .ok (.iaload, 1) := by decide +kernel
theorem dX3_startRunWithin_79 : decode cX3_startRunWithin 79 = .ok (.istore_n 3, 1) := by decide +kernel
theorem dX3_startRunWithin_80 : decode cX3_startRunWithin 80 = .ok (.aload_n 0, 1) := by decide +kernel
theorem dX3_startRunWithin_81 : decode cX3_startRunWithin 81 = .ok (.getfield 21, 3) := by decide +kernel
theorem dX3_startRunWithin_84 : decode cX3_startRunWithin 84 = .ok (.iconst 1, 1) := by decide +kernel
theorem dX3_startRunWithin_85 : decode cX3_startRunWithin 85 = .ok (.aload_n 0, 1) := by decide +kernel
theorem dX3_startRunWithin_86 : decode cX3_startRunWithin 86 = .ok (.aload_n 0, 1) := by decide +kernel
theorem dX3_startRunWithin_87 : decode cX3_startRunWithin 87 = .ok (.getfield 27, 3) := by decide +kernel
theorem dX3_startRunWithin_90 : decode cX3_startRunWithin 90 = .ok (.iload_n 2, 1) := by decide +kernel
theorem dX3_startRunWithin_91 : decode cX3_startRunWithin 91 = .ok (.aaload, 1) := by decide +kernel
theorem dX3_startRunWithin_92 : decode cX3_startRunWithin 92 = .ok (.getfield 195, 3) := by decide +kernel
theorem dX3_startRunWithin_95 : decode cX3_startRunWithin 95 = .ok (.iload_n 3, 1) := by decide +kernel
theorem dX3_startRunWithin_96 : decode cX3_startRunWithin 96 = .ok (.iload_n 2, 1) := by decide +kernel
theorem dX3_startRunWithin_97 : decode cX3_startRunWithin 97 = .ok (.aload_n 0, 1) := by decide +kernel
theorem dX3_startRunWithin_98 : decode cX3_startRunWithin 98 = .ok (.getfield 48, 3) := by decide +kernel
theorem dX3_startRunWithin_101 : decode cX3_startRunWithin 101 = .ok (.invokevirtual 89, 3) := by decide +kernel
theorem dX3_startRunWithin_104 : decode cX3_startRunWithin 104 = .ok (.invokevirtual 93, 3) := by decide +kernel
theorem dX3_startRunWithin_107 : decode cX3_startRunWithin 107 = .ok (.return_, 1) := by decide +kernel
theorem dX3_endRunWithin_0 : decode cX3_endRunWithin 0 = .ok (.aload_n 0, 1) := by decide +kernel
theorem dX3_endRunWithin_1 : decode cX3_endRunWithin 1 = .ok (.getfield 12, 3) := by decide +kernel
theorem dX3_endRunWithin_4 : decode cX3_endRunWithin 4 = .ok (.aload_n 0, 1) := by decide +kernel
theorem dX3_endRunWithin_5 : decode cX3_endRunWithin 5 = .ok (.getfield 33, 3) := by decide +kernel
theorem dX3_endRunWithin_8 : decode cX3_endRunWithin 8 = .ok (.aload_n 0, 1) := by decide +kernel
theorem dX3_endRunWithin_9 : decode cX3_endRunWithin 9 = .ok (.getfield 48, 3) := by decide +kernel
theorem dX3_endRunWithin_12 : decode cX3_endRunWithin 12 = .ok (.aaload, 1) := by decide +kernel
theorem dX3_endRunWithin_13 : decode cX3_endRunWithin 13 = .ok (.getfield 180, 3) := by decide +kernel
theorem dX3_endRunWithin_16 : decode cX3_endRunWithin 16 = .ok (.iconst 1, 1) := by decide +kernel
theorem dX3_endRunWithin_17 : decode cX3_endRunWithin 17 = .ok (.iconst (-1), 1) := by decide +kernel
theorem dX3_endRunWithin_18 : decode cX3_endRunWithin 18 = .ok (.iconst (-1), 1) := by decide +kernel
theorem dX3_endRunWithin_19 : decode cX3_endRunWithin 19 = .ok (.invokevirtual 148, 3) := by decide +kernel
theorem dX3_endRunWithin_22 : decode cX3_endRunWithin 22 = .ok (.aload_n 0, 1) := by decide +kernel
theorem dX3_endRunWithin_23 : decode cX3_endRunWithin 23 = .ok (.dup, 1) := by decide +kernel
theorem dX3_endRunWithin_24 : decode cX3_endRunWithin 24 = .ok (.getfield 48, 3) := by decide +kernel
theorem dX3_endRunWithin_27 : decode cX3_endRunWithin 27 = .ok (.iconst 1, 1) := by decide +kernel
theorem dX3_endRunWithin_28 : decode cX3_endRunWithin 28 = .ok (.isub, 1) := by decide +kernel
theorem dX3_endRunWithin_29 : decode cX3_endRunWithin 29 = .ok (.putfield 48, 3) := by decide +kernel
theorem dX3_endRunWithin_32 : decode cX3_endRunWithin 32 = .ok (.return_, 1) := by decide +kernel
theorem dX4_init_0 : decode cX4_init 0 = .ok (.aload_n 0, 1) := by decide +kernel
theorem dX4_init_1 : decode cX4_init 1 = .ok (.invokespecial 3, 3) := by decide +kernel
theorem dX4_init_4 : decode cX4_init 4 = .ok (.aload_n 0, 1) := by decide +kernel
theorem dX4_init_5 : decode cX4_init 5 = .ok (.bipush 80, 2) := by decide +kernel
theorem dX4_init_7 : decode cX4_init 7 = .ok (.newarray .int, 2) := by decide +kernel
theorem dX4_init_9 : decode cX4_init 9 = .ok (.putfield 9, 3) := by decide +kernel
theorem dX4_init_12 : decode cX4_init 12 = .ok (.aload_n 0, 1) := by decide +kernel
theorem dX4_init_13 : decode cX4_init 13 = .ok (.bipush 80, 2) := by decide +kernel
theorem dX4_init_15 : decode cX4_init 15 = .ok (.newarray .int, 2) := by decide +kernel
theorem dX4_init_17 : decode cX4_init 17 = .ok (.putfield 15, 3) := by decide +kernel
theorem dX4_init_20 : decode cX4_init 20 = .ok (.aload_n 0, 1) := by decide +kernel
theorem dX4_init_21 : decode cX4_init 21 = .ok (.bipush 80, 2) := by decide +kernel
theorem dX4_init_23 : decode cX4_init 23 = .ok (.newarray .int, 2) := by decide +kernel
theorem dX4_init_25 : decode cX4_init 25 = .ok (.putfield 18, 3) := by decide +kernel
theorem dX4_init_28 : decode cX4_init 28 = .ok (.aload_n 0, 1) := by decide +kernel
theorem dX4_init_29 : decode cX4_init 29 = .ok (.bipush 80, 2) := by decide +kernel
theorem dX4_init_31 : decode cX4_init 31 = .ok (.newarray .int, 2) := by decide +kernel
theorem dX4_init_33 : decode cX4_init 33 = .ok (.putfield 21, 3) := by decide +kernel
theorem dX4_init_36 : decode cX4_init 36 = .ok (.aload_n 0, 1) := by decide +kernel
theorem dX4_init_37 : decode cX4_init 37 = .ok (.bipush 80, 2) := by decide +kernel
theorem dX4_init_39 : decode cX4_init 39 = .ok (.newarray .int, 2) := by decide +kernel
theorem dX4_init_41 : decode cX4_init 41 = .ok (.putfield 24, 3) := by decide +kernel
theorem dX4_init_44 : decode cX4_init 44 = .ok (.aload_n 0, 1) := by decide +kernel
theorem dX4_init_45 : decode cX4_init 45 = .ok (.iconst 0, 1) := by decide +kernel
theorem dX4_init_46 : decode cX4_init 46 = .ok (.putfield 27, 3) := by decide +kernel
theorem dX4_init_49 : decode cX4_init 49 = .ok (.return_, 1) := by decide +kernel
theorem dX4_has_0 : decode cX4_has 0 = .ok (.iload_n 1, 1) := by decide +kernel
theorem dX4_has_1 : decode cX4_has 1 = .ok (.ifCond .lt 15, 3) := by decide +kernel
theorem dX4_has_4 : decode cX4_has 4 = .ok (.iload_n 1, 1) := by decide +kernel
theorem dX4_has_5 : decode cX4_has 5 = .ok (.aload_n 0, 1) := by decide +kernel
theorem dX4_has_6 : decode cX4_has 6 = .ok (.getfield 27, 3) := by decide +kernel
theorem dX4_has_9 : decode cX4_has 9 = .ok (.if_icmp .ge 7, 3) := by decide +kernel
theorem dX4_has_12 : decode cX4_has 12 = .ok (.iconst 1, 1) := by decide +kernel
theorem dX4_has_13 : decode cX4_has 13 = .ok (.goto 4, 3) := by decide +kernel
theorem dX4_has_16 : decode cX4_has 16 = .ok (.iconst 0, 1) := by decide +kernel
theorem dX4_has_17 : decode cX4_has 17 = .ok (.ireturn, 1) := by decide +kernel
theorem dX4_sizeOf_0 : decode cX4_sizeOf 0 = .ok (.aload_n 0, 1) := by decide +kernel
theorem dX4_sizeOf_1 : decode cX4_sizeOf 1 = .ok (.iload_n 1, 1) := by decide +kernel
theorem dX4_sizeOf_2 : decode cX4_sizeOf 2 = .ok (.invokevirtual 31, 3) := by decide +kernel
theorem dX4_sizeOf_5 : decode cX4_sizeOf 5 = .ok (.ifCond .eq 12, 3) := by decide +kernel
theorem dX4_sizeOf_8 : decode cX4_sizeOf 8 = .ok (.aload_n 0, 1) := by decide +kernel
theorem dX4_sizeOf_9 : decode cX4_sizeOf 9 = .ok (.getfield 24, 3) := by decide +kernel
theorem dX4_sizeOf_12 : decode cX4_sizeOf 12 = .ok (.iload_n 1, 1) := by decide +kernel
theorem dX4_sizeOf_13 : decode cX4_sizeOf 13 = .ok (.iaload, 1) := by decide +kernel
theorem dX4_sizeOf_14 : decode cX4_sizeOf 14 = .ok (.goto 4, 3) := by decide +kernel
theorem dX4_sizeOf_17 : decode cX4_sizeOf 17 = .ok (.iconst 0, 1) := by decide +kernel
theorem dX4_sizeOf_18 : decode cX4_sizeOf 18 = .ok (.ireturn, 1) := by decide +kernel
theorem dX4_hasRoom_0 : decode cX4_hasRoom 0 = .ok (.aload_n 0, 1) := by decide +kernel
theorem dX4_hasRoom_1 : decode cX4_hasRoom 1 = .ok (.getfield 27, 3) := by decide +kernel
theorem dX4_hasRoom_4 : decode cX4_hasRoom 4 = .ok (.bipush 80, 2) := by decide +kernel
theorem dX4_hasRoom_6 : decode cX4_hasRoom 6 = .ok (.if_icmp .ge 25, 3) := by decide +kernel
theorem dX4_hasRoom_9 : decode cX4_hasRoom 9 = .ok (.iconst 1, 1) := by decide +kernel
theorem dX4_hasRoom_10 : decode cX4_hasRoom 10 = .ok (.aload_n 0, 1) := by decide +kernel
theorem dX4_hasRoom_11 : decode cX4_hasRoom 11 = .ok (.iload_n 1, 1) := by decide +kernel
theorem dX4_hasRoom_12 : decode cX4_hasRoom 12 = .ok (.invokevirtual 35, 3) := by decide +kernel
theorem dX4_hasRoom_15 : decode cX4_hasRoom 15 = .ok (.iadd, 1) := by decide +kernel
theorem dX4_hasRoom_16 : decode cX4_hasRoom 16 = .ok (.aload_n 0, 1) := by decide +kernel
theorem dX4_hasRoom_17 : decode cX4_hasRoom 17 = .ok (.iload_n 2, 1) := by decide +kernel
theorem dX4_hasRoom_18 : decode cX4_hasRoom 18 = .ok (.invokevirtual 35, 3) := by decide +kernel
theorem dX4_hasRoom_21 : decode cX4_hasRoom 21 = .ok (.iadd, 1) := by decide +kernel
theorem dX4_hasRoom_22 : decode cX4_hasRoom 22 = .ok (.bipush 12, 2) := by decide +kernel
theorem dX4_hasRoom_24 : decode cX4_hasRoom 24 = .ok (.if_icmp .gt 7, 3) := by decide +kernel
theorem dX4_hasRoom_27 : decode cX4_hasRoom 27 = .ok (.iconst 1, 1) := by decide +kernel
theorem dX4_hasRoom_28 : decode cX4_hasRoom 28 = .ok (.goto 4, 3) := by decide +kernel
theorem dX4_hasRoom_31 : decode cX4_hasRoom 31 = .ok (.iconst 0, 1) := by decide +kernel
theorem dX4_hasRoom_32 : decode cX4_hasRoom 32 = .ok (.ireturn, 1) := by decide +kernel
theorem dX4_add_0 : decode cX4_add 0 = .ok (.aload_n 0, 1) := by decide +kernel
theorem dX4_add_1 : decode cX4_add 1 = .ok (.getfield 27, 3) := by decide +kernel
theorem dX4_add_4 : decode cX4_add 4 = .ok (.istore 5, 2) := by decide +kernel
theorem dX4_add_6 : decode cX4_add 6 = .ok (.aload_n 0, 1) := by decide +kernel
theorem dX4_add_7 : decode cX4_add 7 = .ok (.getfield 9, 3) := by decide +kernel
theorem dX4_add_10 : decode cX4_add 10 = .ok (.iload 5, 2) := by decide +kernel
theorem dX4_add_12 : decode cX4_add 12 = .ok (.iload_n 1, 1) := by decide +kernel
theorem dX4_add_13 : decode cX4_add 13 = .ok (.iastore, 1) := by decide +kernel
theorem dX4_add_14 : decode cX4_add 14 = .ok (.aload_n 0, 1) := by decide +kernel
theorem dX4_add_15 : decode cX4_add 15 = .ok (.getfield 15, 3) := by decide +kernel
theorem dX4_add_18 : decode cX4_add 18 = .ok (.iload 5, 2) := by decide +kernel
theorem dX4_add_20 : decode cX4_add 20 = .ok (.iload_n 2, 1) := by decide +kernel
theorem dX4_add_21 : decode cX4_add 21 = .ok (.iastore, 1) := by decide +kernel
theorem dX4_add_22 : decode cX4_add 22 = .ok (.aload_n 0, 1) := by decide +kernel
theorem dX4_add_23 : decode cX4_add 23 = .ok (.getfield 18, 3) := by decide +kernel
theorem dX4_add_26 : decode cX4_add 26 = .ok (.iload 5, 2) := by decide +kernel
theorem dX4_add_28 : decode cX4_add 28 = .ok (.iload_n 3, 1) := by decide +kernel
theorem dX4_add_29 : decode cX4_add 29 = .ok (.iastore, 1) := by decide +kernel
theorem dX4_add_30 : decode cX4_add 30 = .ok (.aload_n 0, 1) := by decide +kernel
theorem dX4_add_31 : decode cX4_add 31 = .ok (.getfield 21, 3) := by decide +kernel
theorem dX4_add_34 : decode cX4_add 34 = .ok (.iload 5, 2) := by decide +kernel
theorem dX4_add_36 : decode cX4_add 36 = .ok (.iload 4, 2) := by decide +kernel
theorem dX4_add_38 : decode cX4_add 38 = .ok (.iastore, 1) := by decide +kernel
theorem dX4_add_39 : decode cX4_add 39 = .ok (.aload_n 0, 1) := by decide +kernel
theorem dX4_add_40 : decode cX4_add 40 = .ok (.getfield 24, 3) := by decide +kernel
theorem dX4_add_43 : decode cX4_add 43 = .ok (.iload 5, 2) := by decide +kernel
theorem dX4_add_45 : decode cX4_add 45 = .ok (.iconst 1, 1) := by decide +kernel
theorem dX4_add_46 : decode cX4_add 46 = .ok (.aload_n 0, 1) := by decide +kernel
theorem dX4_add_47 : decode cX4_add 47 = .ok (.iload_n 3, 1) := by decide +kernel
theorem dX4_add_48 : decode cX4_add 48 = .ok (.invokevirtual 35, 3) := by decide +kernel
theorem dX4_add_51 : decode cX4_add 51 = .ok (.iadd, 1) := by decide +kernel
theorem dX4_add_52 : decode cX4_add 52 = .ok (.aload_n 0, 1) := by decide +kernel
theorem dX4_add_53 : decode cX4_add 53 = .ok (.iload 4, 2) := by decide +kernel
theorem dX4_add_55 : decode cX4_add 55 = .ok (.invokevirtual 35, 3) := by decide +kernel
theorem dX4_add_58 : decode cX4_add 58 = .ok (.iadd, 1) := by decide +kernel
theorem dX4_add_59 : decode cX4_add 59 = .ok (.iastore, 1) := by decide +kernel
theorem dX4_add_60 : decode cX4_add 60 = .ok (.aload_n 0, 1) := by decide +kernel
theorem dX4_add_61 : decode cX4_add 61 = .ok (.iload 5, 2) := by decide +kernel
theorem dX4_add_63 : decode cX4_add 63 = .ok (.iconst 1, 1) := by decide +kernel
theorem dX4_add_64 : decode cX4_add 64 = .ok (.iadd, 1) := by decide +kernel
theorem dX4_add_65 : decode cX4_add 65 = .ok (.putfield 27, 3) := by decide +kernel
theorem dX4_add_68 : decode cX4_add 68 = .ok (.iload 5, 2) := by decide +kernel
theorem dX4_add_70 : decode cX4_add 70 = .ok (.ireturn, 1) := by decide +kernel
theorem dX5_init_0 : decode cX5_init 0 = .ok (.aload_n 0, 1) := by decide +kernel
theorem dX5_init_1 : decode cX5_init 1 = .ok (.invokespecial 3, 3) := by decide +kernel
theorem dX5_init_4 : decode cX5_init 4 = .ok (.aload_n 0, 1) := by decide +kernel
theorem dX5_init_5 : decode cX5_init 5 = .ok (.bipush 8, 2) := by decide +kernel
theorem dX5_init_7 : decode cX5_init 7 = .ok (.newarray .int, 2) := by decide +kernel
theorem dX5_init_9 : decode cX5_init 9 = .ok (.putfield 9, 3) := by decide +kernel
theorem dX5_init_12 : decode cX5_init 12 = .ok (.aload_n 0, 1) := by decide +kernel
theorem dX5_init_13 : decode cX5_init 13 = .ok (.bipush 8, 2) := by decide +kernel
theorem dX5_init_15 : decode cX5_init 15 = .ok (.newarray .boolean, 2) := by decide +kernel
theorem dX5_init_17 : decode cX5_init 17 = .ok (.putfield 15, 3) := by decide +kernel
theorem dX5_init_20 : decode cX5_init 20 = .ok (.aload_n 0, 1) := by decide +kernel
theorem dX5_init_21 : decode cX5_init 21 = .ok (.bipush 8, 2) := by decide +kernel
theorem dX5_init_23 : decode cX5_init 23 = .ok (.newarray .int, 2) := by decide +kernel
theorem dX5_init_25 : decode cX5_init 25 = .ok (.putfield 19, 3) := by decide +kernel
theorem dX5_init_28 : decode cX5_init 28 = .ok (.aload_n 0, 1) := by decide +kernel
theorem dX5_init_29 : decode cX5_init 29 = .ok (.sipush 192, 3) := by decide +kernel
theorem dX5_init_32 : decode cX5_init 32 = .ok (.anewarray 22, 3) := by decide +kernel
theorem dX5_init_35 : decode cX5_init 35 = .ok (.putfield 24, 3) := by decide +kernel
theorem dX5_init_38 : decode cX5_init 38 = .ok (.aload_n 0, 1) := by decide +kernel
theorem dX5_init_39 : decode cX5_init 39 = .ok (.iconst 0, 1) := by decide +kernel
theorem dX5_init_40 : decode cX5_init 40 = .ok (.putfield 28, 3) := by decide +kernel
theorem dX5_init_43 : decode cX5_init 43 = .ok (.aload_n 0, 1) := by decide +kernel
theorem dX5_init_44 : decode cX5_init 44 = .ok (.iconst 0, 1) := by decide +kernel
theorem dX5_init_45 : decode cX5_init 45 = .ok (.putfield 32, 3) := by decide +kernel
theorem dX5_init_48 : decode cX5_init 48 = .ok (.return_, 1) := by decide +kernel
theorem dX5_addFunction_0 : decode cX5_addFunction 0 = .ok (.aload_n 0, 1) := by decide +kernel
theorem dX5_addFunction_1 : decode cX5_addFunction 1 = .ok (.getfield 28, 3) := by decide +kernel
theorem dX5_addFunction_4 : decode cX5_addFunction 4 = .ok (.istore_n 3, 1) := by decide +kernel
theorem dX5_addFunction_5 : decode cX5_addFunction 5 = .ok (.aload_n 0, 1) := by decide +kernel
theorem dX5_addFunction_6 : decode cX5_addFunction 6 = .ok (.getfield 9, 3) := by decide +kernel
theorem dX5_addFunction_9 : decode cX5_addFunction 9 = .ok (.iload_n 3, 1) := by decide +kernel
theorem dX5_addFunction_10 : decode cX5_addFunction 10 = .ok (.iload_n 1, 1) := by decide +kernel
theorem dX5_addFunction_11 : decode cX5_addFunction 11 = .ok (.iastore, 1) := by decide +kernel
theorem dX5_addFunction_12 : decode cX5_addFunction 12 = .ok (.aload_n 0, 1) := by decide +kernel
theorem dX5_addFunction_13 : decode cX5_addFunction 13 = .ok (.getfield 15, 3) := by decide +kernel
theorem dX5_addFunction_16 : decode cX5_addFunction 16 = .ok (.iload_n 3, 1) := by decide +kernel
theorem dX5_addFunction_17 : decode cX5_addFunction 17 = .ok (.iload_n 2, 1) := by decide +kernel
theorem dX5_addFunction_18 : decode cX5_addFunction 18 = .ok (.bastore, 1) := by decide +kernel
theorem dX5_addFunction_19 : decode cX5_addFunction 19 = .ok (.aload_n 0, 1) := by decide +kernel
theorem dX5_addFunction_20 : decode cX5_addFunction 20 = .ok (.iload_n 3, 1) := by decide +kernel
theorem dX5_addFunction_21 : decode cX5_addFunction 21 = .ok (.iconst 1, 1) := by decide +kernel
theorem dX5_addFunction_22 : decode cX5_addFunction 22 = .ok (.iadd, 1) := by decide +kernel
theorem dX5_addFunction_23 : decode cX5_addFunction 23 = .ok (.putfield 28, 3) := by decide +kernel
theorem dX5_addFunction_26 : decode cX5_addFunction 26 = .ok (.iload_n 3, 1) := by decide +kernel
theorem dX5_addFunction_27 : decode cX5_addFunction 27 = .ok (.ireturn, 1) := by decide +kernel
theorem dX5_partsOf_0 : decode cX5_partsOf 0 = .ok (.iload_n 1, 1) := by decide +kernel
theorem dX5_partsOf_1 : decode cX5_partsOf 1 = .ok (.ifCond .lt 20, 3) := by decide +kernel
theorem dX5_partsOf_4 : decode cX5_partsOf 4 = .ok (.iload_n 1, 1) := by decide +kernel
theorem dX5_partsOf_5 : decode cX5_partsOf 5 = .ok (.aload_n 0, 1) := by decide +kernel
theorem dX5_partsOf_6 : decode cX5_partsOf 6 = .ok (.getfield 28, 3) := by decide +kernel
theorem dX5_partsOf_9 : decode cX5_partsOf 9 = .ok (.if_icmp .ge 12, 3) := by decide +kernel
theorem dX5_partsOf_12 : decode cX5_partsOf 12 = .ok (.aload_n 0, 1) := by decide +kernel
theorem dX5_partsOf_13 : decode cX5_partsOf 13 = .ok (.getfield 9, 3) := by decide +kernel
theorem dX5_partsOf_16 : decode cX5_partsOf 16 = .ok (.iload_n 1, 1) := by decide +kernel
theorem dX5_partsOf_17 : decode cX5_partsOf 17 = .ok (.iaload, 1) := by decide +kernel
theorem dX5_partsOf_18 : decode cX5_partsOf 18 = .ok (.goto 4, 3) := by decide +kernel
theorem dX5_partsOf_21 : decode cX5_partsOf 21 = .ok (.iconst 0, 1) := by decide +kernel
theorem dX5_partsOf_22 : decode cX5_partsOf 22 = .ok (.ireturn, 1) := by decide +kernel
theorem dX5_rulesOf_0 : decode cX5_rulesOf 0 = .ok (.iload_n 1, 1) := by decide +kernel
theorem dX5_rulesOf_1 : decode cX5_rulesOf 1 = .ok (.ifCond .lt 20, 3) := by decide +kernel
theorem dX5_rulesOf_4 : decode cX5_rulesOf 4 = .ok (.iload_n 1, 1) := by decide +kernel
theorem dX5_rulesOf_5 : decode cX5_rulesOf 5 = .ok (.aload_n 0, 1) := by decide +kernel
theorem dX5_rulesOf_6 : decode cX5_rulesOf 6 = .ok (.getfield 28, 3) := by decide +kernel
theorem dX5_rulesOf_9 : decode cX5_rulesOf 9 = .ok (.if_icmp .ge 12, 3) := by decide +kernel
theorem dX5_rulesOf_12 : decode cX5_rulesOf 12 = .ok (.aload_n 0, 1) := by decide +kernel
theorem dX5_rulesOf_13 : decode cX5_rulesOf 13 = .ok (.getfield 19, 3) := by decide +kernel
theorem dX5_rulesOf_16 : decode cX5_rulesOf 16 = .ok (.iload_n 1, 1) := by decide +kernel
theorem dX5_rulesOf_17 : decode cX5_rulesOf 17 = .ok (.iaload, 1) := by decide +kernel
theorem dX5_rulesOf_18 : decode cX5_rulesOf 18 = .ok (.goto 4, 3) := by decide +kernel
theorem dX5_rulesOf_21 : decode cX5_rulesOf 21 = .ok (.iconst 0, 1) := by decide +kernel
theorem dX5_rulesOf_22 : decode cX5_rulesOf 22 = .ok (.ireturn, 1) := by decide +kernel
theorem dX5_ruleOf_0 : decode cX5_ruleOf 0 = .ok (.iload_n 2, 1) := by decide +kernel
theorem dX5_ruleOf_1 : decode cX5_ruleOf 1 = .ok (.ifCond .lt 26, 3) := by decide +kernel
theorem dX5_ruleOf_4 : decode cX5_ruleOf 4 = .ok (.iload_n 2, 1) := by decide +kernel
theorem dX5_ruleOf_5 : decode cX5_ruleOf 5 = .ok (.aload_n 0, 1) := by decide +kernel
theorem dX5_ruleOf_6 : decode cX5_ruleOf 6 = .ok (.iload_n 1, 1) := by decide +kernel
theorem dX5_ruleOf_7 : decode cX5_ruleOf 7 = .ok (.invokevirtual 35, 3) := by decide +kernel
theorem dX5_ruleOf_10 : decode cX5_ruleOf 10 = .ok (.if_icmp .ge 17, 3) := by decide +kernel
theorem dX5_ruleOf_13 : decode cX5_ruleOf 13 = .ok (.aload_n 0, 1) := by decide +kernel
theorem dX5_ruleOf_14 : decode cX5_ruleOf 14 = .ok (.getfield 24, 3) := by decide +kernel
theorem dX5_ruleOf_17 : decode cX5_ruleOf 17 = .ok (.iload_n 1, 1) := by decide +kernel
theorem dX5_ruleOf_18 : decode cX5_ruleOf 18 = .ok (.bipush 24, 2) := by decide +kernel
theorem dX5_ruleOf_20 : decode cX5_ruleOf 20 = .ok (.imul, 1) := by decide +kernel
theorem dX5_ruleOf_21 : decode cX5_ruleOf 21 = .ok (.iload_n 2, 1) := by decide +kernel
theorem dX5_ruleOf_22 : decode cX5_ruleOf 22 = .ok (.iadd, 1) := by decide +kernel
theorem dX5_ruleOf_23 : decode cX5_ruleOf 23 = .ok (.aaload, 1) := by decide +kernel
theorem dX5_ruleOf_24 : decode cX5_ruleOf 24 = .ok (.goto 4, 3) := by decide +kernel
theorem dX5_ruleOf_27 : decode cX5_ruleOf 27 = .ok (.aconst_null, 1) := by decide +kernel
theorem dX5_ruleOf_28 : decode cX5_ruleOf 28 = .ok (.areturn, 1) := by decide +kernel
theorem dX5_addRule_0 : decode cX5_addRule 0 = .ok (.aload_n 0, 1) := by decide +kernel
theorem dX5_addRule_1 : decode cX5_addRule 1 = .ok (.getfield 19, 3) := by decide +kernel
theorem dX5_addRule_4 : decode cX5_addRule 4 = .ok (.iload_n 1, 1) := by decide +kernel
theorem dX5_addRule_5 : decode cX5_addRule 5 = .ok (.iaload, 1) := by decide +kernel
theorem dX5_addRule_6 : decode cX5_addRule 6 = .ok (.istore_n 3, 1) := by decide +kernel
theorem dX5_addRule_7 : decode cX5_addRule 7 = .ok (.aload_n 0, 1) := by decide +kernel
theorem dX5_addRule_8 : decode cX5_addRule 8 = .ok (.getfield 24, 3) := by decide +kernel
theorem dX5_addRule_11 : decode cX5_addRule 11 = .ok (.iload_n 1, 1) := by decide +kernel
theorem dX5_addRule_12 : decode cX5_addRule 12 = .ok (.bipush 24, 2) := by decide +kernel
theorem dX5_addRule_14 : decode cX5_addRule 14 = .ok (.imul, 1) := by decide +kernel
theorem dX5_addRule_15 : decode cX5_addRule 15 = .ok (.iload_n 3, 1) := by decide +kernel
theorem dX5_addRule_16 : decode cX5_addRule 16 = .ok (.iadd, 1) := by decide +kernel
theorem dX5_addRule_17 : decode cX5_addRule 17 = .ok (.aload_n 2, 1) := by decide +kernel
theorem dX5_addRule_18 : decode cX5_addRule 18 = .ok (.aastore, 1) := by decide +kernel
theorem dX5_addRule_19 : decode cX5_addRule 19 = .ok (.aload_n 0, 1) := by decide +kernel
theorem dX5_addRule_20 : decode cX5_addRule 20 = .ok (.getfield 19, 3) := by decide +kernel
theorem dX5_addRule_23 : decode cX5_addRule 23 = .ok (.iload_n 1, 1) := by decide +kernel
theorem dX5_addRule_24 : decode cX5_addRule 24 = .ok (.iload_n 3, 1) := by decide +kernel
theorem dX5_addRule_25 : decode cX5_addRule 25 = .ok (.iconst 1, 1) := by decide +kernel
theorem dX5_addRule_26 : decode cX5_addRule 26 = .ok (.iadd, 1) := by decide +kernel
theorem dX5_addRule_27 : decode cX5_addRule 27 = .ok (.iastore, 1) := by decide +kernel
theorem dX5_addRule_28 : decode cX5_addRule 28 = .ok (.aload_n 0, 1) := by decide +kernel
theorem dX5_addRule_29 : decode cX5_addRule 29 = .ok (.dup, 1) := by decide +kernel
theorem dX5_addRule_30 : decode cX5_addRule 30 = .ok (.getfield 32, 3) := by decide +kernel
theorem dX5_addRule_33 : decode cX5_addRule 33 = .ok (.iconst 1, 1) := by decide +kernel
theorem dX5_addRule_34 : decode cX5_addRule 34 = .ok (.iadd, 1) := by decide +kernel
theorem dX5_addRule_35 : decode cX5_addRule 35 = .ok (.putfield 32, 3) := by decide +kernel
theorem dX5_addRule_38 : decode cX5_addRule 38 = .ok (.iload_n 3, 1) := by decide +kernel
theorem dX5_addRule_39 : decode cX5_addRule 39 = .ok (.ireturn, 1) := by decide +kernel
theorem dX5_takeLastRule_0 : decode cX5_takeLastRule 0 = .ok (.aload_n 0, 1) := by decide +kernel
theorem dX5_takeLastRule_1 : decode cX5_takeLastRule 1 = .ok (.getfield 19, 3) := by decide +kernel
theorem dX5_takeLastRule_4 : decode cX5_takeLastRule 4 = .ok (.iload_n 1, 1) := by decide +kernel
theorem dX5_takeLastRule_5 : decode cX5_takeLastRule 5 = .ok (.iaload, 1) := by decide +kernel
theorem dX5_takeLastRule_6 : decode cX5_takeLastRule 6 = .ok (.iconst 1, 1) := by decide +kernel
theorem dX5_takeLastRule_7 : decode cX5_takeLastRule 7 = .ok (.isub, 1) := by decide +kernel
theorem dX5_takeLastRule_8 : decode cX5_takeLastRule 8 = .ok (.istore_n 2, 1) := by decide +kernel
theorem dX5_takeLastRule_9 : decode cX5_takeLastRule 9 = .ok (.aload_n 0, 1) := by decide +kernel
theorem dX5_takeLastRule_10 : decode cX5_takeLastRule 10 = .ok (.getfield 24, 3) := by decide +kernel
theorem dX5_takeLastRule_13 : decode cX5_takeLastRule 13 = .ok (.iload_n 1, 1) := by decide +kernel
theorem dX5_takeLastRule_14 : decode cX5_takeLastRule 14 = .ok (.bipush 24, 2) := by decide +kernel
theorem dX5_takeLastRule_16 : decode cX5_takeLastRule 16 = .ok (.imul, 1) := by decide +kernel
theorem dX5_takeLastRule_17 : decode cX5_takeLastRule 17 = .ok (.iload_n 2, 1) := by decide +kernel
theorem dX5_takeLastRule_18 : decode cX5_takeLastRule 18 = .ok (.iadd, 1) := by decide +kernel
theorem dX5_takeLastRule_19 : decode cX5_takeLastRule 19 = .ok (.aconst_null, 1) := by decide +kernel
theorem dX5_takeLastRule_20 : decode cX5_takeLastRule 20 = .ok (.aastore, 1) := by decide +kernel
theorem dX5_takeLastRule_21 : decode cX5_takeLastRule 21 = .ok (.aload_n 0, 1) := by decide +kernel
theorem dX5_takeLastRule_22 : decode cX5_takeLastRule 22 = .ok (.getfield 19, 3) := by decide +kernel
theorem dX5_takeLastRule_25 : decode cX5_takeLastRule 25 = .ok (.iload_n 1, 1) := by decide +kernel
theorem dX5_takeLastRule_26 : decode cX5_takeLastRule 26 = .ok (.iload_n 2, 1) := by decide +kernel
theorem dX5_takeLastRule_27 : decode cX5_takeLastRule 27 = .ok (.iastore, 1) := by decide +kernel
theorem dX5_takeLastRule_28 : decode cX5_takeLastRule 28 = .ok (.aload_n 0, 1) := by decide +kernel
theorem dX5_takeLastRule_29 : decode cX5_takeLastRule 29 = .ok (.dup, 1) := by decide +kernel
theorem dX5_takeLastRule_30 : decode cX5_takeLastRule 30 = .ok (.getfield 32, 3) := by decide +kernel
theorem dX5_takeLastRule_33 : decode cX5_takeLastRule 33 = .ok (.iconst 1, 1) := by decide +kernel
theorem dX5_takeLastRule_34 : decode cX5_takeLastRule 34 = .ok (.isub, 1) := by decide +kernel
theorem dX5_takeLastRule_35 : decode cX5_takeLastRule 35 = .ok (.putfield 32, 3) := by decide +kernel
theorem dX5_takeLastRule_38 : decode cX5_takeLastRule 38 = .ok (.iload_n 2, 1) := by decide +kernel
theorem dX5_takeLastRule_39 : decode cX5_takeLastRule 39 = .ok (.ireturn, 1) := by decide +kernel
theorem dX5_findMany_0 : decode cX5_findMany 0 = .ok (.iconst 0, 1) := by decide +kernel
theorem dX5_findMany_1 : decode cX5_findMany 1 = .ok (.istore_n 1, 1) := by decide +kernel
theorem dX5_findMany_2 : decode cX5_findMany 2 = .ok (.iconst 0, 1) := by decide +kernel
theorem dX5_findMany_3 : decode cX5_findMany 3 = .ok (.istore_n 2, 1) := by decide +kernel
theorem dX5_findMany_4 : decode cX5_findMany 4 = .ok (.iload_n 2, 1) := by decide +kernel
theorem dX5_findMany_5 : decode cX5_findMany 5 = .ok (.aload_n 0, 1) := by decide +kernel
theorem dX5_findMany_6 : decode cX5_findMany 6 = .ok (.getfield 28, 3) := by decide +kernel
theorem dX5_findMany_9 : decode cX5_findMany 9 = .ok (.if_icmp .ge 40, 3) := by decide +kernel
theorem dX5_findMany_12 : decode cX5_findMany 12 = .ok (.iconst 0, 1) := by decide +kernel
theorem dX5_findMany_13 : decode cX5_findMany 13 = .ok (.istore_n 3, 1) := by decide +kernel
theorem dX5_findMany_14 : decode cX5_findMany 14 = .ok (.iload_n 3, 1) := by decide +kernel
theorem dX5_findMany_15 : decode cX5_findMany 15 = .ok (.aload_n 0, 1) := by decide +kernel
theorem dX5_findMany_16 : decode cX5_findMany 16 = .ok (.getfield 28, 3) := by decide +kernel
theorem dX5_findMany_19 : decode cX5_findMany 19 = .ok (.if_icmp .ge 24, 3) := by decide +kernel
theorem dX5_findMany_22 : decode cX5_findMany 22 = .ok (.aload_n 0, 1) := by decide +kernel
theorem dX5_findMany_23 : decode cX5_findMany 23 = .ok (.iload_n 3, 1) := by decide +kernel
theorem dX5_findMany_24 : decode cX5_findMany 24 = .ok (.iload_n 1, 1) := by decide +kernel
theorem dX5_findMany_25 : decode cX5_findMany 25 = .ok (.invokevirtual 39, 3) := by decide +kernel
theorem dX5_findMany_28 : decode cX5_findMany 28 = .ok (.ifCond .eq 9, 3) := by decide +kernel
theorem dX5_findMany_31 : decode cX5_findMany 31 = .ok (.iload_n 1, 1) := by decide +kernel
theorem dX5_findMany_32 : decode cX5_findMany 32 = .ok (.iconst 1, 1) := by decide +kernel
theorem dX5_findMany_33 : decode cX5_findMany 33 = .ok (.iload_n 3, 1) := by decide +kernel
theorem dX5_findMany_34 : decode cX5_findMany 34 = .ok (.ishl, 1) := by decide +kernel
theorem dX5_findMany_35 : decode cX5_findMany 35 = .ok (.ior, 1) := by decide +kernel
theorem dX5_findMany_36 : decode cX5_findMany 36 = .ok (.istore_n 1, 1) := by decide +kernel
theorem dX5_findMany_37 : decode cX5_findMany 37 = .ok (.iinc 3 1, 3) := by decide +kernel
theorem dX5_findMany_40 : decode cX5_findMany 40 = .ok (.goto (-26), 3) := by decide +kernel
theorem dX5_findMany_43 : decode cX5_findMany 43 = .ok (.iinc 2 1, 3) := by decide +kernel
theorem dX5_findMany_46 : decode cX5_findMany 46 = .ok (.goto (-42), 3) := by decide +kernel
theorem dX5_findMany_49 : decode cX5_findMany 49 = .ok (.iload_n 1, 1) := by decide +kernel
theorem dX5_findMany_50 : decode cX5_findMany 50 = .ok (.ireturn, 1) := by decide +kernel
theorem dX5_isMany_0 : decode cX5_isMany 0 = .ok (.iconst 0, 1) := by decide +kernel
theorem dX5_isMany_1 : decode cX5_isMany 1 = .ok (.istore_n 3, 1) := by decide +kernel
theorem dX5_isMany_2 : decode cX5_isMany 2 = .ok (.iload_n 3, 1) := by decide +kernel
theorem dX5_isMany_3 : decode cX5_isMany 3 = .ok (.aload_n 0, 1) := by decide +kernel
theorem dX5_isMany_4 : decode cX5_isMany 4 = .ok (.getfield 19, 3) := by decide +kernel
theorem dX5_isMany_7 : decode cX5_isMany 7 = .ok (.iload_n 1, 1) := by decide +kernel
theorem dX5_isMany_8 : decode cX5_isMany 8 = .ok (.iaload, 1) := by decide +kernel
theorem dX5_isMany_9 : decode cX5_isMany 9 = .ok (.if_icmp .ge 52, 3) := by decide +kernel
theorem dX5_isMany_12 : decode cX5_isMany 12 = .ok (.aload_n 0, 1) := by decide +kernel
theorem dX5_isMany_13 : decode cX5_isMany 13 = .ok (.iload_n 1, 1) := by decide +kernel
theorem dX5_isMany_14 : decode cX5_isMany 14 = .ok (.iload_n 3, 1) := by decide +kernel
theorem dX5_isMany_15 : decode cX5_isMany 15 = .ok (.invokevirtual 43, 3) := by decide +kernel
theorem dX5_isMany_18 : decode cX5_isMany 18 = .ok (.astore 4, 2) := by decide +kernel
theorem dX5_isMany_20 : decode cX5_isMany 20 = .ok (.aload 4, 2) := by decide +kernel
theorem dX5_isMany_22 : decode cX5_isMany 22 = .ok (.ifnull 33, 3) := by decide +kernel
theorem dX5_isMany_25 : decode cX5_isMany 25 = .ok (.aload 4, 2) := by decide +kernel
theorem dX5_isMany_27 : decode cX5_isMany 27 = .ok (.getfield 47, 3) := by decide +kernel
theorem dX5_isMany_30 : decode cX5_isMany 30 = .ok (.aload 4, 2) := by decide +kernel
theorem dX5_isMany_32 : decode cX5_isMany 32 = .ok (.getfield 51, 3) := by decide +kernel
theorem dX5_isMany_35 : decode cX5_isMany 35 = .ok (.iload_n 2, 1) := by decide +kernel
theorem dX5_isMany_36 : decode cX5_isMany 36 = .ok (.invokevirtual 54, 3) := by decide +kernel
theorem dX5_isMany_39 : decode cX5_isMany 39 = .ok (.ifCond .ne 14, 3) := by decide +kernel
theorem dX5_isMany_42 : decode cX5_isMany 42 = .ok (.aload_n 0, 1) := by decide +kernel
theorem dX5_isMany_43 : decode cX5_isMany 43 = .ok (.iload_n 1, 1) := by decide +kernel
theorem dX5_isMany_44 : decode cX5_isMany 44 = .ok (.iload_n 3, 1) := by decide +kernel
theorem dX5_isMany_45 : decode cX5_isMany 45 = .ok (.aload 4, 2) := by decide +kernel
theorem dX5_isMany_47 : decode cX5_isMany 47 = .ok (.invokevirtual 57, 3) := by decide +kernel
theorem dX5_isMany_50 : decode cX5_isMany 50 = .ok (.ifCond .eq 5, 3) := by decide +kernel
theorem dX5_isMany_53 : decode cX5_isMany 53 = .ok (.iconst 1, 1) := by decide +kernel
theorem dX5_isMany_54 : decode cX5_isMany 54 = .ok (.ireturn, 1) := by decide +kernel
theorem dX5_isMany_55 : decode cX5_isMany 55 = .ok (.iinc 3 1, 3) := by decide +kernel
theorem dX5_isMany_58 : decode cX5_isMany 58 = .ok (.goto (-56), 3) := by decide +kernel
theorem dX5_isMany_61 : decode cX5_isMany 61 = .ok (.iconst 0, 1) := by decide +kernel
theorem dX5_isMany_62 : decode cX5_isMany 62 = .ok (.ireturn, 1) := by decide +kernel
theorem dX5_meetsEarlier_0 : decode cX5_meetsEarlier 0 = .ok (.iconst 0, 1) := by decide +kernel
theorem dX5_meetsEarlier_1 : decode cX5_meetsEarlier 1 = .ok (.istore 4, 2) := by decide +kernel
theorem dX5_meetsEarlier_3 : decode cX5_meetsEarlier 3 = .ok (.iload 4, 2) := by decide +kernel
theorem dX5_meetsEarlier_5 : decode cX5_meetsEarlier 5 = .ok (.iload_n 2, 1) := by decide +kernel
theorem dX5_meetsEarlier_6 : decode cX5_meetsEarlier 6 = .ok (.if_icmp .ge 34, 3) := by decide +kernel
theorem dX5_meetsEarlier_9 : decode cX5_meetsEarlier 9 = .ok (.aload_n 0, 1) := by decide +kernel
theorem dX5_meetsEarlier_10 : decode cX5_meetsEarlier 10 = .ok (.iload_n 1, 1) := by decide +kernel
theorem dX5_meetsEarlier_11 : decode cX5_meetsEarlier 11 = .ok (.iload 4, 2) := by decide +kernel
theorem dX5_meetsEarlier_13 : decode cX5_meetsEarlier 13 = .ok (.invokevirtual 43, 3) := by decide +kernel
theorem dX5_meetsEarlier_16 : decode cX5_meetsEarlier 16 = .ok (.astore 5, 2) := by decide +kernel
theorem dX5_meetsEarlier_18 : decode cX5_meetsEarlier 18 = .ok (.aload 5, 2) := by decide +kernel
theorem dX5_meetsEarlier_20 : decode cX5_meetsEarlier 20 = .ok (.ifnull 14, 3) := by decide +kernel
theorem dX5_meetsEarlier_23 : decode cX5_meetsEarlier 23 = .ok (.aload_n 3, 1) := by decide +kernel
theorem dX5_meetsEarlier_24 : decode cX5_meetsEarlier 24 = .ok (.aload 5, 2) := by decide +kernel
theorem dX5_meetsEarlier_26 : decode cX5_meetsEarlier 26 = .ok (.invokevirtual 61, 3) := by decide +kernel
theorem dX5_meetsEarlier_29 : decode cX5_meetsEarlier 29 = .ok (.ifCond .eq 5, 3) := by decide +kernel
theorem dX5_meetsEarlier_32 : decode cX5_meetsEarlier 32 = .ok (.iconst 1, 1) := by decide +kernel
theorem dX5_meetsEarlier_33 : decode cX5_meetsEarlier 33 = .ok (.ireturn, 1) := by decide +kernel
theorem dX5_meetsEarlier_34 : decode cX5_meetsEarlier 34 = .ok (.iinc 4 1, 3) := by decide +kernel
theorem dX5_meetsEarlier_37 : decode cX5_meetsEarlier 37 = .ok (.goto (-34), 3) := by decide +kernel
theorem dX5_meetsEarlier_40 : decode cX5_meetsEarlier 40 = .ok (.iconst 0, 1) := by decide +kernel
theorem dX5_meetsEarlier_41 : decode cX5_meetsEarlier 41 = .ok (.ireturn, 1) := by decide +kernel
theorem dX6_init_0 : decode cX6_init 0 = .ok (.aload_n 0, 1) := by decide +kernel
theorem dX6_init_1 : decode cX6_init 1 = .ok (.invokespecial 3, 3) := by decide +kernel
theorem dX6_init_4 : decode cX6_init 4 = .ok (.aload_n 0, 1) := by decide +kernel
theorem dX6_init_5 : decode cX6_init 5 = .ok (.aload_n 1, 1) := by decide +kernel
theorem dX6_init_6 : decode cX6_init 6 = .ok (.putfield 9, 3) := by decide +kernel
theorem dX6_init_9 : decode cX6_init 9 = .ok (.aload_n 0, 1) := by decide +kernel
theorem dX6_init_10 : decode cX6_init 10 = .ok (.aload_n 2, 1) := by decide +kernel
theorem dX6_init_11 : decode cX6_init 11 = .ok (.putfield 15, 3) := by decide +kernel
theorem dX6_init_14 : decode cX6_init 14 = .ok (.aload_n 0, 1) := by decide +kernel
theorem dX6_init_15 : decode cX6_init 15 = .ok (.aload_n 3, 1) := by decide +kernel
theorem dX6_init_16 : decode cX6_init 16 = .ok (.putfield 18, 3) := by decide +kernel
theorem dX6_init_19 : decode cX6_init 19 = .ok (.aload_n 1, 1) := by decide +kernel
theorem dX6_init_20 : decode cX6_init 20 = .ok (.iconst 0, 1) := by decide +kernel
theorem dX6_init_21 : decode cX6_init 21 = .ok (.invokestatic 21, 3) := by decide +kernel
theorem dX6_init_24 : decode cX6_init 24 = .ok (.istore 4, 2) := by decide +kernel
theorem dX6_init_26 : decode cX6_init 26 = .ok (.aload_n 2, 1) := by decide +kernel
theorem dX6_init_27 : decode cX6_init 27 = .ok (.iload 4, 2) := by decide +kernel
theorem dX6_init_29 : decode cX6_init 29 = .ok (.invokestatic 21, 3) := by decide +kernel
theorem dX6_init_32 : decode cX6_init 32 = .ok (.istore 4, 2) := by decide +kernel
theorem dX6_init_34 : decode cX6_init 34 = .ok (.aload_n 0, 1) := by decide +kernel
theorem dX6_init_35 : decode cX6_init 35 = .ok (.iload 4, 2) := by decide +kernel
theorem dX6_init_37 : decode cX6_init 37 = .ok (.putfield 25, 3) := by decide +kernel
theorem dX6_init_40 : decode cX6_init 40 = .ok (.aload_n 0, 1) := by decide +kernel
theorem dX6_init_41 : decode cX6_init 41 = .ok (.iload 4, 2) := by decide +kernel
theorem dX6_init_43 : decode cX6_init 43 = .ok (.ifCond .lt 7, 3) := by decide +kernel
theorem dX6_init_46 : decode cX6_init 46 = .ok (.iconst 1, 1) := by decide +kernel
theorem dX6_init_47 : decode cX6_init 47 = .ok (.goto 4, 3) := by decide +kernel
theorem dX6_init_50 : decode cX6_init 50 = .ok (.iconst 0, 1) := by decide +kernel
theorem dX6_init_51 : decode cX6_init 51 = .ok (.putfield 29, 3) := by decide +kernel
theorem dX6_init_54 : decode cX6_init 54 = .ok (.return_, 1) := by decide +kernel
theorem dX6_addNames_0 : decode cX6_addNames 0 = .ok (.iload_n 1, 1) := by decide +kernel
theorem dX6_addNames_1 : decode cX6_addNames 1 = .ok (.istore_n 2, 1) := by decide +kernel
theorem dX6_addNames_2 : decode cX6_addNames 2 = .ok (.aload_n 0, 1) := by decide +kernel
theorem dX6_addNames_3 : decode cX6_addNames 3 = .ok (.ifnonnull 7, 3) := by decide +kernel
theorem dX6_addNames_6 : decode cX6_addNames 6 = .ok (.iconst 0, 1) := by decide +kernel
theorem dX6_addNames_7 : decode cX6_addNames 7 = .ok (.goto 7, 3) := by decide +kernel
theorem dX6_addNames_10 : decode cX6_addNames 10 = .ok (.aload_n 0, 1) := by decide +kernel
theorem dX6_addNames_11 : decode cX6_addNames 11 = .ok (.getfield 33, 3) := by decide +kernel
theorem dX6_addNames_14 : decode cX6_addNames 14 = .ok (.istore_n 3, 1) := by decide +kernel
theorem dX6_addNames_15 : decode cX6_addNames 15 = .ok (.iconst 0, 1) := by decide +kernel
theorem dX6_addNames_16 : decode cX6_addNames 16 = .ok (.istore 4, 2) := by decide +kernel
theorem dX6_addNames_18 : decode cX6_addNames 18 = .ok (.iload 4, 2) := by decide +kernel
theorem dX6_addNames_20 : decode cX6_addNames 20 = .ok (.iload_n 3, 1) := by decide +kernel
theorem dX6_addNames_21 : decode cX6_addNames 21 = .ok (.if_icmp .ge 65, 3) := by decide +kernel
theorem dX6_addNames_24 : decode cX6_addNames 24 = .ok (.iload_n 2, 1) := by decide +kernel
theorem dX6_addNames_25 : decode cX6_addNames 25 = .ok (.ifCond .lt 61, 3) := by decide +kernel
theorem dX6_addNames_28 : decode cX6_addNames 28 = .ok (.aload_n 0, 1) := by decide +kernel
theorem dX6_addNames_29 : decode cX6_addNames 29 = .ok (.getfield 38, 3) := by decide +kernel
theorem dX6_addNames_32 : decode cX6_addNames 32 = .ok (.iload 4, 2) := by decide +kernel
theorem dX6_addNames_34 : decode cX6_addNames 34 = .ok (.iaload, 1) := by decide +kernel
theorem dX6_addNames_35 : decode cX6_addNames 35 = .ok (.ifCond .ne 32, 3) := by decide +kernel
theorem dX6_addNames_38 : decode cX6_addNames 38 = .ok (.iload_n 2, 1) := by decide +kernel
theorem dX6_addNames_39 : decode cX6_addNames 39 = .ok (.aload_n 0, 1) := by decide +kernel
theorem dX6_addNames_40 : decode cX6_addNames 40 = .ok (.getfield 42, 3) := by decide +kernel
theorem dX6_addNames_43 : decode cX6_addNames 43 = .ok (.iload 4, 2) := by decide +kernel
theorem dX6_addNames_45 : decode cX6_addNames 45 = .ok (.iaload, 1) := by decide +kernel
theorem dX6_addNames_46 : decode cX6_addNames 46 = .ok (.ishr, 1) := by decide +kernel
theorem dX6_addNames_47 : decode cX6_addNames 47 = .ok (.iconst 1, 1) := by decide +kernel
theorem dX6_addNames_48 : decode cX6_addNames 48 = .ok (.iand, 1) := by decide +kernel
theorem dX6_addNames_49 : decode cX6_addNames 49 = .ok (.ifCond .ne 18, 3) := by decide +kernel
theorem dX6_addNames_52 : decode cX6_addNames 52 = .ok (.iload_n 2, 1) := by decide +kernel
theorem dX6_addNames_53 : decode cX6_addNames 53 = .ok (.iconst 1, 1) := by decide +kernel
theorem dX6_addNames_54 : decode cX6_addNames 54 = .ok (.aload_n 0, 1) := by decide +kernel
theorem dX6_addNames_55 : decode cX6_addNames 55 = .ok (.getfield 42, 3) := by decide +kernel
theorem dX6_addNames_58 : decode cX6_addNames 58 = .ok (.iload 4, 2) := by decide +kernel
theorem dX6_addNames_60 : decode cX6_addNames 60 = .ok (.iaload, 1) := by decide +kernel
theorem dX6_addNames_61 : decode cX6_addNames 61 = .ok (.ishl, 1) := by decide +kernel
theorem dX6_addNames_62 : decode cX6_addNames 62 = .ok (.ior, 1) := by decide +kernel
theorem dX6_addNames_63 : decode cX6_addNames 63 = .ok (.istore_n 2, 1) := by decide +kernel
theorem dX6_addNames_64 : decode cX6_addNames 64 = .ok (.goto 16, 3) := by decide +kernel
theorem dX6_addNames_67 : decode cX6_addNames 67 = .ok (.aload_n 0, 1) := by decide +kernel
theorem dX6_addNames_68 : decode cX6_addNames 68 = .ok (.getfield 38, 3) := by decide +kernel
theorem dX6_addNames_71 : decode cX6_addNames 71 = .ok (.iload 4, 2) := by decide +kernel
theorem dX6_addNames_73 : decode cX6_addNames 73 = .ok (.iaload, 1) := by decide +kernel
theorem dX6_addNames_74 : decode cX6_addNames 74 = .ok (.iconst 1, 1) := by decide +kernel
theorem dX6_addNames_75 : decode cX6_addNames 75 = .ok (.if_icmp .eq 5, 3) := by decide +kernel
theorem dX6_addNames_78 : decode cX6_addNames 78 = .ok (.iconst (-1), 1) := by decide +kernel
theorem dX6_addNames_79 : decode cX6_addNames 79 = .ok (.istore_n 2, 1) := by decide +kernel
theorem dX6_addNames_80 : decode cX6_addNames 80 = .ok (.iinc 4 1, 3) := by decide +kernel
theorem dX6_addNames_83 : decode cX6_addNames 83 = .ok (.goto (-65), 3) := by decide +kernel
theorem dX6_addNames_86 : decode cX6_addNames 86 = .ok (.iload_n 2, 1) := by decide +kernel
theorem dX6_addNames_87 : decode cX6_addNames 87 = .ok (.ireturn, 1) := by decide +kernel
theorem dX6_meets_0 : decode cX6_meets 0 = .ok (.aload_n 0, 1) := by decide +kernel
theorem dX6_meets_1 : decode cX6_meets 1 = .ok (.getfield 9, 3) := by decide +kernel
theorem dX6_meets_4 : decode cX6_meets 4 = .ok (.ifnull 24, 3) := by decide +kernel
theorem dX6_meets_7 : decode cX6_meets 7 = .ok (.aload_n 1, 1) := by decide +kernel
theorem dX6_meets_8 : decode cX6_meets 8 = .ok (.getfield 9, 3) := by decide +kernel
theorem dX6_meets_11 : decode cX6_meets 11 = .ok (.ifnull 17, 3) := by decide +kernel
theorem dX6_meets_14 : decode cX6_meets 14 = .ok (.aload_n 0, 1) := by decide +kernel
theorem dX6_meets_15 : decode cX6_meets 15 = .ok (.getfield 9, 3) := by decide +kernel
theorem dX6_meets_18 : decode cX6_meets 18 = .ok (.aload_n 1, 1) := by decide +kernel
theorem dX6_meets_19 : decode cX6_meets 19 = .ok (.getfield 9, 3) := by decide +kernel
theorem dX6_meets_22 : decode cX6_meets 22 = .ok (.invokevirtual 45, 3) := by decide +kernel
theorem dX6_meets_25 : decode cX6_meets 25 = .ok (.ifCond .eq 35, 3) := by decide +kernel
theorem dX6_meets_28 : decode cX6_meets 28 = .ok (.aload_n 0, 1) := by decide +kernel
theorem dX6_meets_29 : decode cX6_meets 29 = .ok (.getfield 15, 3) := by decide +kernel
theorem dX6_meets_32 : decode cX6_meets 32 = .ok (.ifnull 24, 3) := by decide +kernel
theorem dX6_meets_35 : decode cX6_meets 35 = .ok (.aload_n 1, 1) := by decide +kernel
theorem dX6_meets_36 : decode cX6_meets 36 = .ok (.getfield 15, 3) := by decide +kernel
theorem dX6_meets_39 : decode cX6_meets 39 = .ok (.ifnull 17, 3) := by decide +kernel
theorem dX6_meets_42 : decode cX6_meets 42 = .ok (.aload_n 0, 1) := by decide +kernel
theorem dX6_meets_43 : decode cX6_meets 43 = .ok (.getfield 15, 3) := by decide +kernel
theorem dX6_meets_46 : decode cX6_meets 46 = .ok (.aload_n 1, 1) := by decide +kernel
theorem dX6_meets_47 : decode cX6_meets 47 = .ok (.getfield 15, 3) := by decide +kernel
theorem dX6_meets_50 : decode cX6_meets 50 = .ok (.invokevirtual 45, 3) := by decide +kernel
theorem dX6_meets_53 : decode cX6_meets 53 = .ok (.ifCond .eq 7, 3) := by decide +kernel
theorem dX6_meets_56 : decode cX6_meets 56 = .ok (.iconst 1, 1) := by decide +kernel
theorem dX6_meets_57 : decode cX6_meets 57 = .ok (.goto 4, 3) := by decide +kernel
theorem dX6_meets_60 : decode cX6_meets 60 = .ok (.iconst 0, 1) := by decide +kernel
theorem dX6_meets_61 : decode cX6_meets 61 = .ok (.ireturn, 1) := by decide +kernel
theorem dX7_init_0 : decode cX7_init 0 = .ok (.aload_n 0, 1) := by decide +kernel
theorem dX7_init_1 : decode cX7_init 1 = .ok (.invokespecial 3, 3) := by decide +kernel
theorem dX7_init_4 : decode cX7_init 4 = .ok (.aload_n 0, 1) := by decide +kernel
theorem dX7_init_5 : decode cX7_init 5 = .ok (.bipush 6, 2) := by decide +kernel
theorem dX7_init_7 : decode cX7_init 7 = .ok (.newarray .int, 2) := by decide +kernel
theorem dX7_init_9 : decode cX7_init 9 = .ok (.putfield 9, 3) := by decide +kernel
theorem dX7_init_12 : decode cX7_init 12 = .ok (.aload_n 0, 1) := by decide +kernel
theorem dX7_init_13 : decode cX7_init 13 = .ok (.aconst_null, 1) := by decide +kernel
theorem dX7_init_14 : decode cX7_init 14 = .ok (.putfield 15, 3) := by decide +kernel
theorem dX7_init_17 : decode cX7_init 17 = .ok (.aload_n 0, 1) := by decide +kernel
theorem dX7_init_18 : decode cX7_init 18 = .ok (.aconst_null, 1) := by decide +kernel
theorem dX7_init_19 : decode cX7_init 19 = .ok (.putfield 19, 3) := by decide +kernel
theorem dX7_init_22 : decode cX7_init 22 = .ok (.aload_n 0, 1) := by decide +kernel
theorem dX7_init_23 : decode cX7_init 23 = .ok (.aconst_null, 1) := by decide +kernel
theorem dX7_init_24 : decode cX7_init 24 = .ok (.putfield 22, 3) := by decide +kernel
theorem dX7_init_27 : decode cX7_init 27 = .ok (.return_, 1) := by decide +kernel
theorem dX7_open_0 : decode cX7_open 0 = .ok (.aload_n 0, 1) := by decide +kernel
theorem dX7_open_1 : decode cX7_open 1 = .ok (.aload_n 1, 1) := by decide +kernel
theorem dX7_open_2 : decode cX7_open 2 = .ok (.putfield 15, 3) := by decide +kernel
theorem dX7_open_5 : decode cX7_open 5 = .ok (.aload_n 0, 1) := by decide +kernel
theorem dX7_open_6 : decode cX7_open 6 = .ok (.aload_n 2, 1) := by decide +kernel
theorem dX7_open_7 : decode cX7_open 7 = .ok (.putfield 19, 3) := by decide +kernel
theorem dX7_open_10 : decode cX7_open 10 = .ok (.aload_n 0, 1) := by decide +kernel
theorem dX7_open_11 : decode cX7_open 11 = .ok (.aload_n 3, 1) := by decide +kernel
theorem dX7_open_12 : decode cX7_open 12 = .ok (.putfield 22, 3) := by decide +kernel
theorem dX7_open_15 : decode cX7_open 15 = .ok (.iconst 0, 1) := by decide +kernel
theorem dX7_open_16 : decode cX7_open 16 = .ok (.istore 4, 2) := by decide +kernel
theorem dX7_open_18 : decode cX7_open 18 = .ok (.iload 4, 2) := by decide +kernel
theorem dX7_open_20 : decode cX7_open 20 = .ok (.bipush 6, 2) := by decide +kernel
theorem dX7_open_22 : decode cX7_open 22 = .ok (.if_icmp .ge 17, 3) := by decide +kernel
theorem dX7_open_25 : decode cX7_open 25 = .ok (.aload_n 0, 1) := by decide +kernel
theorem dX7_open_26 : decode cX7_open 26 = .ok (.getfield 9, 3) := by decide +kernel
theorem dX7_open_29 : decode cX7_open 29 = .ok (.iload 4, 2) := by decide +kernel
theorem dX7_open_31 : decode cX7_open 31 = .ok (.iconst (-1), 1) := by decide +kernel
theorem dX7_open_32 : decode cX7_open 32 = .ok (.iastore, 1) := by decide +kernel
theorem dX7_open_33 : decode cX7_open 33 = .ok (.iinc 4 1, 3) := by decide +kernel
theorem dX7_open_36 : decode cX7_open 36 = .ok (.goto (-18), 3) := by decide +kernel
theorem dX7_open_39 : decode cX7_open 39 = .ok (.return_, 1) := by decide +kernel
theorem dX8_init_0 : decode cX8_init 0 = .ok (.aload_n 0, 1) := by decide +kernel
theorem dX8_init_1 : decode cX8_init 1 = .ok (.invokespecial 3, 3) := by decide +kernel
theorem dX8_init_4 : decode cX8_init 4 = .ok (.aload_n 0, 1) := by decide +kernel
theorem dX8_init_5 : decode cX8_init 5 = .ok (.bipush 10, 2) := by decide +kernel
theorem dX8_init_7 : decode cX8_init 7 = .ok (.anewarray 9, 3) := by decide +kernel
theorem dX8_init_10 : decode cX8_init 10 = .ok (.putfield 11, 3) := by decide +kernel
theorem dX8_init_13 : decode cX8_init 13 = .ok (.aload_n 0, 1) := by decide +kernel
theorem dX8_init_14 : decode cX8_init 14 = .ok (.bipush 6, 2) := by decide +kernel
theorem dX8_init_16 : decode cX8_init 16 = .ok (.newarray .int, 2) := by decide +kernel
theorem dX8_init_18 : decode cX8_init 18 = .ok (.putfield 17, 3) := by decide +kernel
theorem dX8_init_21 : decode cX8_init 21 = .ok (.aload_n 0, 1) := by decide +kernel
theorem dX8_init_22 : decode cX8_init 22 = .ok (.sipush 4801, 3) := by decide +kernel
theorem dX8_init_25 : decode cX8_init 25 = .ok (.newarray .int, 2) := by decide +kernel
theorem dX8_init_27 : decode cX8_init 27 = .ok (.putfield 21, 3) := by decide +kernel
theorem dX8_init_30 : decode cX8_init 30 = .ok (.aload_n 0, 1) := by decide +kernel
theorem dX8_init_31 : decode cX8_init 31 = .ok (.sipush 4801, 3) := by decide +kernel
theorem dX8_init_34 : decode cX8_init 34 = .ok (.newarray .int, 2) := by decide +kernel
theorem dX8_init_36 : decode cX8_init 36 = .ok (.putfield 24, 3) := by decide +kernel
theorem dX8_init_39 : decode cX8_init 39 = .ok (.aload_n 0, 1) := by decide +kernel
theorem dX8_init_40 : decode cX8_init 40 = .ok (.sipush 4801, 3) := by decide +kernel
theorem dX8_init_43 : decode cX8_init 43 = .ok (.newarray .int, 2) := by decide +kernel
theorem dX8_init_45 : decode cX8_init 45 = .ok (.putfield 27, 3) := by decide +kernel
theorem dX8_init_48 : decode cX8_init 48 = .ok (.aload_n 0, 1) := by decide +kernel
theorem dX8_init_49 : decode cX8_init 49 = .ok (.iconst 0, 1) := by decide +kernel
theorem dX8_init_50 : decode cX8_init 50 = .ok (.putfield 30, 3) := by decide +kernel
theorem dX8_init_53 : decode cX8_init 53 = .ok (.aload_n 0, 1) := by decide +kernel
theorem dX8_init_54 : decode cX8_init 54 = .ok (.sipush 4801, 3) := by decide +kernel
theorem dX8_init_57 : decode cX8_init 57 = .ok (.newarray .int, 2) := by decide +kernel
theorem dX8_init_59 : decode cX8_init 59 = .ok (.putfield 34, 3) := by decide +kernel
theorem dX8_init_62 : decode cX8_init 62 = .ok (.aload_n 0, 1) := by decide +kernel
theorem dX8_init_63 : decode cX8_init 63 = .ok (.iconst 0, 1) := by decide +kernel
theorem dX8_init_64 : decode cX8_init 64 = .ok (.putfield 37, 3) := by decide +kernel
theorem dX8_init_67 : decode cX8_init 67 = .ok (.aload_n 0, 1) := by decide +kernel
theorem dX8_init_68 : decode cX8_init 68 = .ok (.iconst 0, 1) := by decide +kernel
theorem dX8_init_69 : decode cX8_init 69 = .ok (.putfield 40, 3) := by decide +kernel
theorem dX8_init_72 : decode cX8_init 72 = .ok (.aload_n 0, 1) := by decide +kernel
theorem dX8_init_73 : decode cX8_init 73 = .ok (.iconst 0, 1) := by decide +kernel
theorem dX8_init_74 : decode cX8_init 74 = .ok (.putfield 43, 3) := by decide +kernel
theorem dX8_init_77 : decode cX8_init 77 = .ok (.aload_n 0, 1) := by decide +kernel
theorem dX8_init_78 : decode cX8_init 78 = .ok (.aload_n 1, 1) := by decide +kernel
theorem dX8_init_79 : decode cX8_init 79 = .ok (.putfield 46, 3) := by decide +kernel
theorem dX8_init_82 : decode cX8_init 82 = .ok (.iconst 0, 1) := by decide +kernel
theorem dX8_init_83 : decode cX8_init 83 = .ok (.istore_n 2, 1) := by decide +kernel
theorem dX8_init_84 : decode cX8_init 84 = .ok (.iload_n 2, 1) := by decide +kernel
theorem dX8_init_85 : decode cX8_init 85 = .ok (.bipush 10, 2) := by decide +kernel
theorem dX8_init_87 : decode cX8_init 87 = .ok (.if_icmp .ge 22, 3) := by decide +kernel
theorem dX8_init_90 : decode cX8_init 90 = .ok (.aload_n 0, 1) := by decide +kernel
theorem dX8_init_91 : decode cX8_init 91 = .ok (.getfield 11, 3) := by decide +kernel
theorem dX8_init_94 : decode cX8_init 94 = .ok (.iload_n 2, 1) := by decide +kernel
theorem dX8_init_95 : decode cX8_init 95 = .ok (.new 9, 3) := by decide +kernel
theorem dX8_init_98 : decode cX8_init 98 = .ok (.dup, 1) := by decide +kernel
theorem dX8_init_99 : decode cX8_init 99 = .ok (.invokespecial 50, 3) := by decide +kernel
theorem dX8_init_102 : decode cX8_init 102 = .ok (.aastore, 1) := by decide +kernel
theorem dX8_init_103 : decode cX8_init 103 = .ok (.iinc 2 1, 3) := by decide +kernel
theorem dX8_init_106 : decode cX8_init 106 = .ok (.goto (-22), 3) := by decide +kernel
theorem dX8_init_109 : decode cX8_init 109 = .ok (.return_, 1) := by decide +kernel
theorem dX8_make_0 : decode cX8_make 0 = .ok (.aload_n 0, 1) := by decide +kernel
theorem dX8_make_1 : decode cX8_make 1 = .ok (.invokevirtual 51, 3) := by decide +kernel
theorem dX8_make_4 : decode cX8_make 4 = .ok (.aload_n 0, 1) := by decide +kernel
theorem dX8_make_5 : decode cX8_make 5 = .ok (.iconst 0, 1) := by decide +kernel
theorem dX8_make_6 : decode cX8_make 6 = .ok (.iconst 0, 1) := by decide +kernel
theorem dX8_make_7 : decode cX8_make 7 = .ok (.iconst 0, 1) := by decide +kernel
theorem dX8_make_8 : decode cX8_make 8 = .ok (.invokevirtual 54, 3) := by decide +kernel
theorem dX8_make_11 : decode cX8_make 11 = .ok (.iload_n 3, 1) := by decide +kernel
theorem dX8_make_12 : decode cX8_make 12 = .ok (.istore 4, 2) := by decide +kernel
theorem dX8_make_14 : decode cX8_make 14 = .ok (.iconst 0, 1) := by decide +kernel
theorem dX8_make_15 : decode cX8_make 15 = .ok (.istore 5, 2) := by decide +kernel
theorem dX8_make_17 : decode cX8_make 17 = .ok (.iload 5, 2) := by decide +kernel
theorem dX8_make_19 : decode cX8_make 19 = .ok (.sipush 200, 3) := by decide +kernel
theorem dX8_make_22 : decode cX8_make 22 = .ok (.if_icmp .ge 144, 3) := by decide +kernel
theorem dX8_make_25 : decode cX8_make 25 = .ok (.aload_n 0, 1) := by decide +kernel
theorem dX8_make_26 : decode cX8_make 26 = .ok (.getfield 37, 3) := by decide +kernel
theorem dX8_make_29 : decode cX8_make 29 = .ok (.aload_n 0, 1) := by decide +kernel
theorem dX8_make_30 : decode cX8_make 30 = .ok (.getfield 40, 3) := by decide +kernel
theorem dX8_make_33 : decode cX8_make 33 = .ok (.if_icmp .ge 133, 3) := by decide +kernel
theorem dX8_make_36 : decode cX8_make 36 = .ok (.iload_n 2, 1) := by decide +kernel
theorem dX8_make_37 : decode cX8_make 37 = .ok (.ifCond .ne 17, 3) := by decide +kernel
theorem dX8_make_40 : decode cX8_make 40 = .ok (.aload_n 0, 1) := by decide +kernel
theorem dX8_make_41 : decode cX8_make 41 = .ok (.getfield 40, 3) := by decide +kernel
theorem dX8_make_44 : decode cX8_make 44 = .ok (.aload_n 0, 1) := by decide +kernel
theorem dX8_make_45 : decode cX8_make 45 = .ok (.getfield 37, 3) := by decide +kernel
theorem dX8_make_48 : decode cX8_make 48 = .ok (.isub, 1) := by decide +kernel
theorem dX8_make_49 : decode cX8_make 49 = .ok (.iconst 1, 1) := by decide +kernel
theorem dX8_make_50 : decode cX8_make 50 = .ok (.isub, 1) := by decide +kernel
theorem dX8_make_51 : decode cX8_make 51 = .ok (.goto 4, 3) := by decide +kernel
theorem dX8_make_54 : decode cX8_make 54 = .ok (.iconst 0, 1) := by decide +kernel
theorem dX8_make_55 : decode cX8_make 55 = .ok (.istore 6, 2) := by decide +kernel
theorem dX8_make_57 : decode cX8_make 57 = .ok (.iload_n 2, 1) := by decide +kernel
theorem dX8_make_58 : decode cX8_make 58 = .ok (.iconst 2, 1) := by decide +kernel
theorem dX8_make_59 : decode cX8_make 59 = .ok (.if_icmp .ne 34, 3) := by decide +kernel
theorem dX8_make_62 : decode cX8_make 62 = .ok (.iload 4, 2) := by decide +kernel
theorem dX8_make_64 : decode cX8_make 64 = .ok (.ldc 58, 2) := by decide +kernel
theorem dX8_make_66 : decode cX8_make 66 = .ok (.imul, 1) := by decide +kernel
theorem dX8_make_67 : decode cX8_make 67 = .ok (.sipush 12345, 3) := by decide +kernel
theorem dX8_make_70 : decode cX8_make 70 = .ok (.iadd, 1) := by decide +kernel
theorem dX8_make_71 : decode cX8_make 71 = .ok (.istore 4, 2) := by decide +kernel
theorem dX8_make_73 : decode cX8_make 73 = .ok (.iload 4, 2) := by decide +kernel
theorem dX8_make_75 : decode cX8_make 75 = .ok (.bipush 16, 2) := by decide +kernel
theorem dX8_make_77 : decode cX8_make 77 = .ok (.iushr, 1) := by decide +kernel
theorem dX8_make_78 : decode cX8_make 78 = .ok (.ldc 59, 2) := by decide +kernel
theorem dX8_make_80 : decode cX8_make 80 = .ok (.iand, 1) := by decide +kernel
theorem dX8_make_81 : decode cX8_make 81 = .ok (.aload_n 0, 1) := by decide +kernel
theorem dX8_make_82 : decode cX8_make 82 = .ok (.getfield 40, 3) := by decide +kernel
theorem dX8_make_85 : decode cX8_make 85 = .ok (.aload_n 0, 1) := by decide +kernel
theorem dX8_make_86 : decode cX8_make 86 = .ok (.getfield 37, 3) := by decide +kernel
theorem dX8_make_89 : decode cX8_make 89 = .ok (.isub, 1) := by decide +kernel
theorem dX8_make_90 : decode cX8_make 90 = .ok (.irem, 1) := by decide +kernel
theorem dX8_make_91 : decode cX8_make 91 = .ok (.istore 6, 2) := by decide +kernel
theorem dX8_make_93 : decode cX8_make 93 = .ok (.aload_n 0, 1) := by decide +kernel
theorem dX8_make_94 : decode cX8_make 94 = .ok (.iload 6, 2) := by decide +kernel
theorem dX8_make_96 : decode cX8_make 96 = .ok (.invokevirtual 60, 3) := by decide +kernel
theorem dX8_make_99 : decode cX8_make 99 = .ok (.istore 7, 2) := by decide +kernel
theorem dX8_make_101 : decode cX8_make 101 = .ok (.aload_n 0, 1) := by decide +kernel
theorem dX8_make_102 : decode cX8_make 102 = .ok (.iload 7, 2) := by decide +kernel
theorem dX8_make_104 : decode cX8_make 104 = .ok (.invokevirtual 64, 3) := by decide +kernel
theorem dX8_make_107 : decode cX8_make 107 = .ok (.aload_n 0, 1) := by decide +kernel
theorem dX8_make_108 : decode cX8_make 108 = .ok (.getfield 46, 3) := by decide +kernel
theorem dX8_make_111 : decode cX8_make 111 = .ok (.aload_n 1, 1) := by decide +kernel
theorem dX8_make_112 : decode cX8_make 112 = .ok (.invokevirtual 68, 3) := by decide +kernel
theorem dX8_make_115 : decode cX8_make 115 = .ok (.istore 8, 2) := by decide +kernel
theorem dX8_make_117 : decode cX8_make 117 = .ok (.aload_n 0, 1) := by decide +kernel
theorem dX8_make_118 : decode cX8_make 118 = .ok (.getfield 17, 3) := by decide +kernel
theorem dX8_make_121 : decode cX8_make 121 = .ok (.iconst 4, 1) := by decide +kernel
theorem dX8_make_122 : decode cX8_make 122 = .ok (.dup2, 1) := by decide +kernel
theorem dX8_make_123 : decode cX8_make 123 = .ok (.iaload, 1) := by decide +kernel
theorem dX8_make_124 : decode cX8_make 124 = .ok (.iconst 1, 1) := by decide +kernel
theorem dX8_make_125 : decode cX8_make 125 = .ok (.iadd, 1) := by decide +kernel
theorem dX8_make_126 : decode cX8_make 126 = .ok (.iastore, 1) := by decide +kernel
theorem dX8_make_127 : decode cX8_make 127 = .ok (.iload 8, 2) := by decide +kernel
theorem dX8_make_129 : decode cX8_make 129 = .ok (.iconst 4, 1) := by decide +kernel
theorem dX8_make_130 : decode cX8_make 130 = .ok (.if_icmp .ne 13, 3) := by decide +kernel
theorem dX8_make_133 : decode cX8_make 133 = .ok (.aload_n 0, 1) := by decide +kernel
theorem dX8_make_134 : decode cX8_make 134 = .ok (.iload 7, 2) := by decide +kernel
theorem dX8_make_136 : decode cX8_make 136 = .ok (.iload_n 2, 1) := by decide +kernel
theorem dX8_make_137 : decode cX8_make 137 = .ok (.invokevirtual 74, 3) := by decide +kernel
theorem dX8_make_140 : decode cX8_make 140 = .ok (.goto 20, 3) := by decide +kernel
theorem dX8_make_143 : decode cX8_make 143 = .ok (.aload_n 0, 1) := by decide +kernel
theorem dX8_make_144 : decode cX8_make 144 = .ok (.getfield 17, 3) := by decide +kernel
theorem dX8_make_147 : decode cX8_make 147 = .ok (.iload 8, 2) := by decide +kernel
theorem dX8_make_149 : decode cX8_make 149 = .ok (.dup2, 1) := by decide +kernel
theorem dX8_make_150 : decode cX8_make 150 = .ok (.iaload, 1) := by decide +kernel
theorem dX8_make_151 : decode cX8_make 151 = .ok (.iconst 1, 1) := by decide +kernel
theorem dX8_make_152 : decode cX8_make 152 = .ok (.iadd, 1) := by decide +kernel
theorem dX8_make_153 : decode cX8_make 153 = .ok (.iastore, 1) := by decide +kernel
theorem dX8_make_154 : decode cX8_make 154 = .ok (.aload_n 0, 1) := by decide +kernel
theorem dX8_make_155 : decode cX8_make 155 = .ok (.iload 8, 2) := by decide +kernel
theorem dX8_make_157 : decode cX8_make 157 = .ok (.invokevirtual 78, 3) := by decide +kernel
theorem dX8_make_160 : decode cX8_make 160 = .ok (.iinc 5 1, 3) := by decide +kernel
theorem dX8_make_163 : decode cX8_make 163 = .ok (.goto (-146), 3) := by decide +kernel
theorem dX8_make_166 : decode cX8_make 166 = .ok (.aload_n 0, 1) := by decide +kernel
theorem dX8_make_167 : decode cX8_make 167 = .ok (.getfield 17, 3) := by decide +kernel
theorem dX8_make_170 : decode cX8_make 170 = .ok (.iconst 5, 1) := by decide +kernel
theorem dX8_make_171 : decode cX8_make 171 = .ok (.aload_n 0, 1) := by decide +kernel
theorem dX8_make_172 : decode cX8_make 172 = .ok (.getfield 37, 3) := by decide +kernel
theorem dX8_make_175 : decode cX8_make 175 = .ok (.aload_n 0, 1) := by decide +kernel
theorem dX8_make_176 : decode cX8_make 176 = .ok (.getfield 40, 3) := by decide +kernel
theorem dX8_make_179 : decode cX8_make 179 = .ok (.if_icmp .ge 7, 3) := by decide +kernel
theorem dX8_make_182 : decode cX8_make 182 = .ok (.iconst 0, 1) := by decide +kernel
theorem dX8_make_183 : decode cX8_make 183 = .ok (.goto 4, 3) := by decide +kernel
theorem dX8_make_186 : decode cX8_make 186 = .ok (.iconst 1, 1) := by decide +kernel
theorem dX8_make_187 : decode cX8_make 187 = .ok (.iastore, 1) := by decide +kernel
theorem dX8_make_188 : decode cX8_make 188 = .ok (.aload_n 0, 1) := by decide +kernel
theorem dX8_make_189 : decode cX8_make 189 = .ok (.getfield 17, 3) := by decide +kernel
theorem dX8_make_192 : decode cX8_make 192 = .ok (.iconst 0, 1) := by decide +kernel
theorem dX8_make_193 : decode cX8_make 193 = .ok (.iaload, 1) := by decide +kernel
theorem dX8_make_194 : decode cX8_make 194 = .ok (.ireturn, 1) := by decide +kernel
theorem dX8_clear_0 : decode cX8_clear 0 = .ok (.iconst 0, 1) := by decide +kernel
theorem dX8_clear_1 : decode cX8_clear 1 = .ok (.istore_n 1, 1) := by decide +kernel
theorem dX8_clear_2 : decode cX8_clear 2 = .ok (.iload_n 1, 1) := by decide +kernel
theorem dX8_clear_3 : decode cX8_clear 3 = .ok (.bipush 6, 2) := by decide +kernel
theorem dX8_clear_5 : decode cX8_clear 5 = .ok (.if_icmp .ge 16, 3) := by decide +kernel
theorem dX8_clear_8 : decode cX8_clear 8 = .ok (.aload_n 0, 1) := by decide +kernel
theorem dX8_clear_9 : decode cX8_clear 9 = .ok (.getfield 17, 3) := by decide +kernel
theorem dX8_clear_12 : decode cX8_clear 12 = .ok (.iload_n 1, 1) := by decide +kernel
theorem dX8_clear_13 : decode cX8_clear 13 = .ok (.iconst 0, 1) := by decide +kernel
theorem dX8_clear_14 : decode cX8_clear 14 = .ok (.iastore, 1) := by decide +kernel
theorem dX8_clear_15 : decode cX8_clear 15 = .ok (.iinc 1 1, 3) := by decide +kernel
theorem dX8_clear_18 : decode cX8_clear 18 = .ok (.goto (-16), 3) := by decide +kernel
theorem dX8_clear_21 : decode cX8_clear 21 = .ok (.aload_n 0, 1) := by decide +kernel
theorem dX8_clear_22 : decode cX8_clear 22 = .ok (.iconst 0, 1) := by decide +kernel
theorem dX8_clear_23 : decode cX8_clear 23 = .ok (.putfield 30, 3) := by decide +kernel
theorem dX8_clear_26 : decode cX8_clear 26 = .ok (.aload_n 0, 1) := by decide +kernel
theorem dX8_clear_27 : decode cX8_clear 27 = .ok (.iconst 0, 1) := by decide +kernel
theorem dX8_clear_28 : decode cX8_clear 28 = .ok (.putfield 37, 3) := by decide +kernel
theorem dX8_clear_31 : decode cX8_clear 31 = .ok (.aload_n 0, 1) := by decide +kernel
theorem dX8_clear_32 : decode cX8_clear 32 = .ok (.iconst 0, 1) := by decide +kernel
theorem dX8_clear_33 : decode cX8_clear 33 = .ok (.putfield 40, 3) := by decide +kernel
theorem dX8_clear_36 : decode cX8_clear 36 = .ok (.aload_n 0, 1) := by decide +kernel
theorem dX8_clear_37 : decode cX8_clear 37 = .ok (.iconst 0, 1) := by decide +kernel
theorem dX8_clear_38 : decode cX8_clear 38 = .ok (.putfield 43, 3) := by decide +kernel
theorem dX8_clear_41 : decode cX8_clear 41 = .ok (.return_, 1) := by decide +kernel
theorem dX8_addRow_0 : decode cX8_addRow 0 = .ok (.aload_n 0, 1) := by decide +kernel
theorem dX8_addRow_1 : decode cX8_addRow 1 = .ok (.getfield 30, 3) := by decide +kernel
theorem dX8_addRow_4 : decode cX8_addRow 4 = .ok (.sipush 4801, 3) := by decide +kernel
theorem dX8_addRow_7 : decode cX8_addRow 7 = .ok (.if_icmp .ge 76, 3) := by decide +kernel
theorem dX8_addRow_10 : decode cX8_addRow 10 = .ok (.aload_n 0, 1) := by decide +kernel
theorem dX8_addRow_11 : decode cX8_addRow 11 = .ok (.getfield 40, 3) := by decide +kernel
theorem dX8_addRow_14 : decode cX8_addRow 14 = .ok (.sipush 4801, 3) := by decide +kernel
theorem dX8_addRow_17 : decode cX8_addRow 17 = .ok (.if_icmp .ge 66, 3) := by decide +kernel
theorem dX8_addRow_20 : decode cX8_addRow 20 = .ok (.aload_n 0, 1) := by decide +kernel
theorem dX8_addRow_21 : decode cX8_addRow 21 = .ok (.getfield 21, 3) := by decide +kernel
theorem dX8_addRow_24 : decode cX8_addRow 24 = .ok (.aload_n 0, 1) := by decide +kernel
theorem dX8_addRow_25 : decode cX8_addRow 25 = .ok (.getfield 30, 3) := by decide +kernel
theorem dX8_addRow_28 : decode cX8_addRow 28 = .ok (.iload_n 1, 1) := by decide +kernel
theorem dX8_addRow_29 : decode cX8_addRow 29 = .ok (.iastore, 1) := by decide +kernel
theorem dX8_addRow_30 : decode cX8_addRow 30 = .ok (.aload_n 0, 1) := by decide +kernel
theorem dX8_addRow_31 : decode cX8_addRow 31 = .ok (.getfield 24, 3) := by decide +kernel
theorem dX8_addRow_34 : decode cX8_addRow 34 = .ok (.aload_n 0, 1) := by decide +kernel
theorem dX8_addRow_35 : decode cX8_addRow 35 = .ok (.getfield 30, 3) := by decide +kernel
theorem dX8_addRow_38 : decode cX8_addRow 38 = .ok (.iload_n 2, 1) := by decide +kernel
theorem dX8_addRow_39 : decode cX8_addRow 39 = .ok (.iastore, 1) := by decide +kernel
theorem dX8_addRow_40 : decode cX8_addRow 40 = .ok (.aload_n 0, 1) := by decide +kernel
theorem dX8_addRow_41 : decode cX8_addRow 41 = .ok (.getfield 27, 3) := by decide +kernel
theorem dX8_addRow_44 : decode cX8_addRow 44 = .ok (.aload_n 0, 1) := by decide +kernel
theorem dX8_addRow_45 : decode cX8_addRow 45 = .ok (.getfield 30, 3) := by decide +kernel
theorem dX8_addRow_48 : decode cX8_addRow 48 = .ok (.iload_n 3, 1) := by decide +kernel
theorem dX8_addRow_49 : decode cX8_addRow 49 = .ok (.iastore, 1) := by decide +kernel
theorem dX8_addRow_50 : decode cX8_addRow 50 = .ok (.aload_n 0, 1) := by decide +kernel
theorem dX8_addRow_51 : decode cX8_addRow 51 = .ok (.getfield 34, 3) := by decide +kernel
theorem dX8_addRow_54 : decode cX8_addRow 54 = .ok (.aload_n 0, 1) := by decide +kernel
theorem dX8_addRow_55 : decode cX8_addRow 55 = .ok (.getfield 40, 3) := by decide +kernel
theorem dX8_addRow_58 : decode cX8_addRow 58 = .ok (.aload_n 0, 1) := by decide +kernel
theorem dX8_addRow_59 : decode cX8_addRow 59 = .ok (.getfield 30, 3) := by decide +kernel
theorem dX8_addRow_62 : decode cX8_addRow 62 = .ok (.iastore, 1) := by decide +kernel
theorem dX8_addRow_63 : decode cX8_addRow 63 = .ok (.aload_n 0, 1) := by decide +kernel
theorem dX8_addRow_64 : decode cX8_addRow 64 = .ok (.dup, 1) := by decide +kernel
theorem dX8_addRow_65 : decode cX8_addRow 65 = .ok (.getfield 30, 3) := by decide +kernel
theorem dX8_addRow_68 : decode cX8_addRow 68 = .ok (.iconst 1, 1) := by decide +kernel
theorem dX8_addRow_69 : decode cX8_addRow 69 = .ok (.iadd, 1) := by decide +kernel
theorem dX8_addRow_70 : decode cX8_addRow 70 = .ok (.putfield 30, 3) := by decide +kernel
theorem dX8_addRow_73 : decode cX8_addRow 73 = .ok (.aload_n 0, 1) := by decide +kernel
theorem dX8_addRow_74 : decode cX8_addRow 74 = .ok (.dup, 1) := by decide +kernel
theorem dX8_addRow_75 : decode cX8_addRow 75 = .ok (.getfield 40, 3) := by decide +kernel
theorem dX8_addRow_78 : decode cX8_addRow 78 = .ok (.iconst 1, 1) := by decide +kernel
theorem dX8_addRow_79 : decode cX8_addRow 79 = .ok (.iadd, 1) := by decide +kernel
theorem dX8_addRow_80 : decode cX8_addRow 80 = .ok (.putfield 40, 3) := by decide +kernel
theorem dX8_addRow_83 : decode cX8_addRow 83 = .ok (.return_, 1) := by decide +kernel
theorem dX8_addBranches_0 : decode cX8_addBranches 0 = .ok (.aload_n 0, 1) := by decide +kernel
theorem dX8_addBranches_1 : decode cX8_addBranches 1 = .ok (.getfield 46, 3) := by decide +kernel
theorem dX8_addBranches_4 : decode cX8_addBranches 4 = .ok (.getfield 81, 3) := by decide +kernel
theorem dX8_addBranches_7 : decode cX8_addBranches 7 = .ok (.istore_n 3, 1) := by decide +kernel
theorem dX8_addBranches_8 : decode cX8_addBranches 8 = .ok (.iconst 0, 1) := by decide +kernel
theorem dX8_addBranches_9 : decode cX8_addBranches 9 = .ok (.istore 4, 2) := by decide +kernel
theorem dX8_addBranches_11 : decode cX8_addBranches 11 = .ok (.iload 4, 2) := by decide +kernel
theorem dX8_addBranches_13 : decode cX8_addBranches 13 = .ok (.iload_n 3, 1) := by decide +kernel
theorem dX8_addBranches_14 : decode cX8_addBranches 14 = .ok (.if_icmp .ge 37, 3) := by decide +kernel
theorem dX8_addBranches_17 : decode cX8_addBranches 17 = .ok (.aload_n 0, 1) := by decide +kernel
theorem dX8_addBranches_18 : decode cX8_addBranches 18 = .ok (.iload_n 1, 1) := by decide +kernel
theorem dX8_addBranches_19 : decode cX8_addBranches 19 = .ok (.iload_n 2, 1) := by decide +kernel
theorem dX8_addBranches_20 : decode cX8_addBranches 20 = .ok (.ifCond .ne 12, 3) := by decide +kernel
theorem dX8_addBranches_23 : decode cX8_addBranches 23 = .ok (.iload_n 3, 1) := by decide +kernel
theorem dX8_addBranches_24 : decode cX8_addBranches 24 = .ok (.iconst 1, 1) := by decide +kernel
theorem dX8_addBranches_25 : decode cX8_addBranches 25 = .ok (.isub, 1) := by decide +kernel
theorem dX8_addBranches_26 : decode cX8_addBranches 26 = .ok (.iload 4, 2) := by decide +kernel
theorem dX8_addBranches_28 : decode cX8_addBranches 28 = .ok (.isub, 1) := by decide +kernel
theorem dX8_addBranches_29 : decode cX8_addBranches 29 = .ok (.goto 5, 3) := by decide +kernel
theorem dX8_addBranches_32 : decode cX8_addBranches 32 = .ok (.iload 4, 2) := by decide +kernel
theorem dX8_addBranches_34 : decode cX8_addBranches 34 = .ok (.aload_n 0, 1) := by decide +kernel
theorem dX8_addBranches_35 : decode cX8_addBranches 35 = .ok (.getfield 27, 3) := by decide +kernel
theorem dX8_addBranches_38 : decode cX8_addBranches 38 = .ok (.iload_n 1, 1) := by decide +kernel
theorem dX8_addBranches_39 : decode cX8_addBranches 39 = .ok (.iaload, 1) := by decide +kernel
theorem dX8_addBranches_40 : decode cX8_addBranches 40 = .ok (.iconst 1, 1) := by decide +kernel
theorem dX8_addBranches_41 : decode cX8_addBranches 41 = .ok (.iadd, 1) := by decide +kernel
theorem dX8_addBranches_42 : decode cX8_addBranches 42 = .ok (.invokevirtual 54, 3) := by decide +kernel
theorem dX8_addBranches_45 : decode cX8_addBranches 45 = .ok (.iinc 4 1, 3) := by decide +kernel
theorem dX8_addBranches_48 : decode cX8_addBranches 48 = .ok (.goto (-37), 3) := by decide +kernel
theorem dX8_addBranches_51 : decode cX8_addBranches 51 = .ok (.return_, 1) := by decide +kernel
theorem dX8_takeRow_0 : decode cX8_takeRow 0 = .ok (.aload_n 0, 1) := by decide +kernel
theorem dX8_takeRow_1 : decode cX8_takeRow 1 = .ok (.getfield 37, 3) := by decide +kernel
theorem dX8_takeRow_4 : decode cX8_takeRow 4 = .ok (.iload_n 1, 1) := by decide +kernel
theorem dX8_takeRow_5 : decode cX8_takeRow 5 = .ok (.iadd, 1) := by decide +kernel
theorem dX8_takeRow_6 : decode cX8_takeRow 6 = .ok (.istore_n 2, 1) := by decide +kernel
theorem dX8_takeRow_7 : decode cX8_takeRow 7 = .ok (.aload_n 0, 1) := by decide +kernel
theorem dX8_takeRow_8 : decode cX8_takeRow 8 = .ok (.getfield 34, 3) := by decide +kernel
theorem dX8_takeRow_11 : decode cX8_takeRow 11 = .ok (.iload_n 2, 1) := by decide +kernel
theorem dX8_takeRow_12 : decode cX8_takeRow 12 = .ok (.iaload, 1) := by decide +kernel
theorem dX8_takeRow_13 : decode cX8_takeRow 13 = .ok (.istore_n 3, 1) := by decide +kernel
theorem dX8_takeRow_14 : decode cX8_takeRow 14 = .ok (.iload_n 1, 1) := by decide +kernel
theorem dX8_takeRow_15 : decode cX8_takeRow 15 = .ok (.ifCond .ne 16, 3) := by decide +kernel
theorem dX8_takeRow_18 : decode cX8_takeRow 18 = .ok (.aload_n 0, 1) := by decide +kernel
theorem dX8_takeRow_19 : decode cX8_takeRow 19 = .ok (.dup, 1) := by decide +kernel
theorem dX8_takeRow_20 : decode cX8_takeRow 20 = .ok (.getfield 37, 3) := by decide +kernel
theorem dX8_takeRow_23 : decode cX8_takeRow 23 = .ok (.iconst 1, 1) := by decide +kernel
theorem dX8_takeRow_24 : decode cX8_takeRow 24 = .ok (.iadd, 1) := by decide +kernel
theorem dX8_takeRow_25 : decode cX8_takeRow 25 = .ok (.putfield 37, 3) := by decide +kernel
theorem dX8_takeRow_28 : decode cX8_takeRow 28 = .ok (.goto 36, 3) := by decide +kernel
theorem dX8_takeRow_31 : decode cX8_takeRow 31 = .ok (.aload_n 0, 1) := by decide +kernel
theorem dX8_takeRow_32 : decode cX8_takeRow 32 = .ok (.getfield 34, 3) := by decide +kernel
theorem dX8_takeRow_35 : decode cX8_takeRow 35 = .ok (.iload_n 2, 1) := by decide +kernel
theorem dX8_takeRow_36 : decode cX8_takeRow 36 = .ok (.iconst 1, 1) := by decide +kernel
theorem dX8_takeRow_37 : decode cX8_takeRow 37 = .ok (.iadd, 1) := by decide +kernel
theorem dX8_takeRow_38 : decode cX8_takeRow 38 = .ok (.aload_n 0, 1) := by decide +kernel
theorem dX8_takeRow_39 : decode cX8_takeRow 39 = .ok (.getfield 34, 3) := by decide +kernel
theorem dX8_takeRow_42 : decode cX8_takeRow 42 = .ok (.iload_n 2, 1) := by decide +kernel
theorem dX8_takeRow_43 : decode cX8_takeRow 43 = .ok (.aload_n 0, 1) := by decide +kernel
theorem dX8_takeRow_44 : decode cX8_takeRow 44 = .ok (.getfield 40, 3) := by decide +kernel
theorem dX8_takeRow_47 : decode cX8_takeRow 47 = .ok (.iload_n 2, 1) := by decide +kernel
theorem dX8_takeRow_48 : decode cX8_takeRow 48 = .ok (.isub, 1) := by decide +kernel
theorem dX8_takeRow_49 : decode cX8_takeRow 49 = .ok (.iconst 1, 1) := by decide +kernel
theorem dX8_takeRow_50 : decode cX8_takeRow 50 = .ok (.isub, 1) := by decide +kernel
theorem dX8_takeRow_51 : decode cX8_takeRow 51 = .ok (.invokestatic 84, 3) := by decide +kernel
theorem dX8_takeRow_54 : decode cX8_takeRow 54 = .ok (.aload_n 0, 1) := by decide +kernel
theorem dX8_takeRow_55 : decode cX8_takeRow 55 = .ok (.dup, 1) := by decide +kernel
theorem dX8_takeRow_56 : decode cX8_takeRow 56 = .ok (.getfield 40, 3) := by decide +kernel
theorem dX8_takeRow_59 : decode cX8_takeRow 59 = .ok (.iconst 1, 1) := by decide +kernel
theorem dX8_takeRow_60 : decode cX8_takeRow 60 = .ok (.isub, 1) := by decide +kernel
theorem dX8_takeRow_61 : decode cX8_takeRow 61 = .ok (.putfield 40, 3) := by decide +kernel
theorem dX8_takeRow_64 : decode cX8_takeRow 64 = .ok (.iload_n 3, 1) := by decide +kernel
theorem dX8_takeRow_65 : decode cX8_takeRow 65 = .ok (.ireturn, 1) := by decide +kernel
theorem dX8_giveWays_0 : decode cX8_giveWays 0 = .ok (.aload_n 0, 1) := by decide +kernel
theorem dX8_giveWays_1 : decode cX8_giveWays 1 = .ok (.getfield 46, 3) := by decide +kernel
theorem dX8_giveWays_4 : decode cX8_giveWays 4 = .ok (.getfield 90, 3) := by decide +kernel
theorem dX8_giveWays_7 : decode cX8_giveWays 7 = .ok (.astore_n 2, 1) := by decide +kernel
theorem dX8_giveWays_8 : decode cX8_giveWays 8 = .ok (.iload_n 1, 1) := by decide +kernel
theorem dX8_giveWays_9 : decode cX8_giveWays 9 = .ok (.istore_n 3, 1) := by decide +kernel
theorem dX8_giveWays_10 : decode cX8_giveWays 10 = .ok (.aload_n 2, 1) := by decide +kernel
theorem dX8_giveWays_11 : decode cX8_giveWays 11 = .ok (.aload_n 0, 1) := by decide +kernel
theorem dX8_giveWays_12 : decode cX8_giveWays 12 = .ok (.getfield 27, 3) := by decide +kernel
theorem dX8_giveWays_15 : decode cX8_giveWays 15 = .ok (.iload_n 1, 1) := by decide +kernel
theorem dX8_giveWays_16 : decode cX8_giveWays 16 = .ok (.iaload, 1) := by decide +kernel
theorem dX8_giveWays_17 : decode cX8_giveWays 17 = .ok (.bipush 40, 2) := by decide +kernel
theorem dX8_giveWays_19 : decode cX8_giveWays 19 = .ok (.if_icmp .ge 12, 3) := by decide +kernel
theorem dX8_giveWays_22 : decode cX8_giveWays 22 = .ok (.aload_n 0, 1) := by decide +kernel
theorem dX8_giveWays_23 : decode cX8_giveWays 23 = .ok (.getfield 27, 3) := by decide +kernel
theorem dX8_giveWays_26 : decode cX8_giveWays 26 = .ok (.iload_n 1, 1) := by decide +kernel
theorem dX8_giveWays_27 : decode cX8_giveWays 27 = .ok (.iaload, 1) := by decide +kernel
theorem dX8_giveWays_28 : decode cX8_giveWays 28 = .ok (.goto 5, 3) := by decide +kernel
theorem dX8_giveWays_31 : decode cX8_giveWays 31 = .ok (.bipush 40, 2) := by decide +kernel
theorem dX8_giveWays_33 : decode cX8_giveWays 33 = .ok (.putfield 94, 3) := by decide +kernel
theorem dX8_giveWays_36 : decode cX8_giveWays 36 = .ok (.aload_n 2, 1) := by decide +kernel
theorem dX8_giveWays_37 : decode cX8_giveWays 37 = .ok (.getfield 94, 3) := by decide +kernel
theorem dX8_giveWays_40 : decode cX8_giveWays 40 = .ok (.iconst 1, 1) := by decide +kernel
theorem dX8_giveWays_41 : decode cX8_giveWays 41 = .ok (.isub, 1) := by decide +kernel
theorem dX8_giveWays_42 : decode cX8_giveWays 42 = .ok (.istore 4, 2) := by decide +kernel
theorem dX8_giveWays_44 : decode cX8_giveWays 44 = .ok (.iload 4, 2) := by decide +kernel
theorem dX8_giveWays_46 : decode cX8_giveWays 46 = .ok (.ifCond .lt 29, 3) := by decide +kernel
theorem dX8_giveWays_49 : decode cX8_giveWays 49 = .ok (.aload_n 2, 1) := by decide +kernel
theorem dX8_giveWays_50 : decode cX8_giveWays 50 = .ok (.getfield 99, 3) := by decide +kernel
theorem dX8_giveWays_53 : decode cX8_giveWays 53 = .ok (.iload 4, 2) := by decide +kernel
theorem dX8_giveWays_55 : decode cX8_giveWays 55 = .ok (.aload_n 0, 1) := by decide +kernel
theorem dX8_giveWays_56 : decode cX8_giveWays 56 = .ok (.getfield 24, 3) := by decide +kernel
theorem dX8_giveWays_59 : decode cX8_giveWays 59 = .ok (.iload_n 3, 1) := by decide +kernel
theorem dX8_giveWays_60 : decode cX8_giveWays 60 = .ok (.iaload, 1) := by decide +kernel
theorem dX8_giveWays_61 : decode cX8_giveWays 61 = .ok (.iastore, 1) := by decide +kernel
theorem dX8_giveWays_62 : decode cX8_giveWays 62 = .ok (.aload_n 0, 1) := by decide +kernel
theorem dX8_giveWays_63 : decode cX8_giveWays 63 = .ok (.getfield 21, 3) := by decide +kernel
theorem dX8_giveWays_66 : decode cX8_giveWays 66 = .ok (.iload_n 3, 1) := by decide +kernel
theorem dX8_giveWays_67 : decode cX8_giveWays 67 = .ok (.iaload, 1) := by decide +kernel
theorem dX8_giveWays_68 : decode cX8_giveWays 68 = .ok (.istore_n 3, 1) := by decide +kernel
theorem dX8_giveWays_69 : decode cX8_giveWays 69 = .ok (.iinc 4 (-1), 3) := by decide +kernel
theorem dX8_giveWays_72 : decode cX8_giveWays 72 = .ok (.goto (-28), 3) := by decide +kernel
theorem dX8_giveWays_75 : decode cX8_giveWays 75 = .ok (.return_, 1) := by decide +kernel
theorem dX8_keepValue_0 : decode cX8_keepValue 0 = .ok (.iload_n 1, 1) := by decide +kernel
theorem dX8_keepValue_1 : decode cX8_keepValue 1 = .ok (.ifCond .ne 45, 3) := by decide +kernel
theorem dX8_keepValue_4 : decode cX8_keepValue 4 = .ok (.aload_n 0, 1) := by decide +kernel
theorem dX8_keepValue_5 : decode cX8_keepValue 5 = .ok (.getfield 43, 3) := by decide +kernel
theorem dX8_keepValue_8 : decode cX8_keepValue 8 = .ok (.bipush 10, 2) := by decide +kernel
theorem dX8_keepValue_10 : decode cX8_keepValue 10 = .ok (.if_icmp .ge 36, 3) := by decide +kernel
theorem dX8_keepValue_13 : decode cX8_keepValue 13 = .ok (.aload_n 0, 1) := by decide +kernel
theorem dX8_keepValue_14 : decode cX8_keepValue 14 = .ok (.getfield 11, 3) := by decide +kernel
theorem dX8_keepValue_17 : decode cX8_keepValue 17 = .ok (.aload_n 0, 1) := by decide +kernel
theorem dX8_keepValue_18 : decode cX8_keepValue 18 = .ok (.getfield 43, 3) := by decide +kernel
theorem dX8_keepValue_21 : decode cX8_keepValue 21 = .ok (.aaload, 1) := by decide +kernel
theorem dX8_keepValue_22 : decode cX8_keepValue 22 = .ok (.aload_n 0, 1) := by decide +kernel
theorem dX8_keepValue_23 : decode cX8_keepValue 23 = .ok (.getfield 46, 3) := by decide +kernel
theorem dX8_keepValue_26 : decode cX8_keepValue 26 = .ok (.aload_n 0, 1) := by decide +kernel
theorem dX8_keepValue_27 : decode cX8_keepValue 27 = .ok (.getfield 46, 3) := by decide +kernel
theorem dX8_keepValue_30 : decode cX8_keepValue 30 = .ok (.getfield 102, 3) := by decide +kernel
theorem dX8_keepValue_33 : decode cX8_keepValue 33 = .ok (.invokevirtual 105, 3) := by decide +kernel
theorem dX8_keepValue_36 : decode cX8_keepValue 36 = .ok (.aload_n 0, 1) := by decide +kernel
theorem dX8_keepValue_37 : decode cX8_keepValue 37 = .ok (.dup, 1) := by decide +kernel
theorem dX8_keepValue_38 : decode cX8_keepValue 38 = .ok (.getfield 43, 3) := by decide +kernel
theorem dX8_keepValue_41 : decode cX8_keepValue 41 = .ok (.iconst 1, 1) := by decide +kernel
theorem dX8_keepValue_42 : decode cX8_keepValue 42 = .ok (.iadd, 1) := by decide +kernel
theorem dX8_keepValue_43 : decode cX8_keepValue 43 = .ok (.putfield 43, 3) := by decide +kernel
theorem dX8_keepValue_46 : decode cX8_keepValue 46 = .ok (.return_, 1) := by decide +kernel
theorem dX8_countWithin_0 : decode cX8_countWithin 0 = .ok (.aload_n 0, 1) := by decide +kernel
theorem dX8_countWithin_1 : decode cX8_countWithin 1 = .ok (.getfield 46, 3) := by decide +kernel
theorem dX8_countWithin_4 : decode cX8_countWithin 4 = .ok (.getfield 90, 3) := by decide +kernel
theorem dX8_countWithin_7 : decode cX8_countWithin 7 = .ok (.astore_n 3, 1) := by decide +kernel
theorem dX8_countWithin_8 : decode cX8_countWithin 8 = .ok (.aload_n 3, 1) := by decide +kernel
theorem dX8_countWithin_9 : decode cX8_countWithin 9 = .ok (.iconst 0, 1) := by decide +kernel
theorem dX8_countWithin_10 : decode cX8_countWithin 10 = .ok (.putfield 94, 3) := by decide +kernel
theorem dX8_countWithin_13 : decode cX8_countWithin 13 = .ok (.iconst 0, 1) := by decide +kernel
theorem dX8_countWithin_14 : decode cX8_countWithin 14 = .ok (.istore 4, 2) := by decide +kernel
theorem dX8_countWithin_16 : decode cX8_countWithin 16 = .ok (.iconst 1, 1) := by decide +kernel
theorem dX8_countWithin_17 : decode cX8_countWithin 17 = .ok (.istore 5, 2) := by decide +kernel
theorem dX8_countWithin_19 : decode cX8_countWithin 19 = .ok (.iload 5, 2) := by decide +kernel
theorem dX8_countWithin_21 : decode cX8_countWithin 21 = .ok (.sipush 600, 3) := by decide +kernel
theorem dX8_countWithin_24 : decode cX8_countWithin 24 = .ok (.if_icmp .ge 58, 3) := by decide +kernel
theorem dX8_countWithin_27 : decode cX8_countWithin 27 = .ok (.aload_n 0, 1) := by decide +kernel
theorem dX8_countWithin_28 : decode cX8_countWithin 28 = .ok (.getfield 46, 3) := by decide +kernel
theorem dX8_countWithin_31 : decode cX8_countWithin 31 = .ok (.aload_n 1, 1) := by decide +kernel
theorem dX8_countWithin_32 : decode cX8_countWithin 32 = .ok (.invokevirtual 68, 3) := by decide +kernel
theorem dX8_countWithin_35 : decode cX8_countWithin 35 = .ok (.istore 6, 2) := by decide +kernel
theorem dX8_countWithin_37 : decode cX8_countWithin 37 = .ok (.iload 6, 2) := by decide +kernel
theorem dX8_countWithin_39 : decode cX8_countWithin 39 = .ok (.ifCond .ne 6, 3) := by decide +kernel
theorem dX8_countWithin_42 : decode cX8_countWithin 42 = .ok (.iinc 4 1, 3) := by decide +kernel
theorem dX8_countWithin_45 : decode cX8_countWithin 45 = .ok (.iload 6, 2) := by decide +kernel
theorem dX8_countWithin_47 : decode cX8_countWithin 47 = .ok (.iconst 4, 1) := by decide +kernel
theorem dX8_countWithin_48 : decode cX8_countWithin 48 = .ok (.if_icmp .ne 18, 3) := by decide +kernel
theorem dX8_countWithin_51 : decode cX8_countWithin 51 = .ok (.aload_n 3, 1) := by decide +kernel
theorem dX8_countWithin_52 : decode cX8_countWithin 52 = .ok (.getfield 94, 3) := by decide +kernel
theorem dX8_countWithin_55 : decode cX8_countWithin 55 = .ok (.iload_n 2, 1) := by decide +kernel
theorem dX8_countWithin_56 : decode cX8_countWithin 56 = .ok (.if_icmp .ge 10, 3) := by decide +kernel
theorem dX8_countWithin_59 : decode cX8_countWithin 59 = .ok (.aload_n 3, 1) := by decide +kernel
theorem dX8_countWithin_60 : decode cX8_countWithin 60 = .ok (.invokevirtual 109, 3) := by decide +kernel
theorem dX8_countWithin_63 : decode cX8_countWithin 63 = .ok (.goto 13, 3) := by decide +kernel
theorem dX8_countWithin_66 : decode cX8_countWithin 66 = .ok (.aload_n 3, 1) := by decide +kernel
theorem dX8_countWithin_67 : decode cX8_countWithin 67 = .ok (.invokevirtual 112, 3) := by decide +kernel
theorem dX8_countWithin_70 : decode cX8_countWithin 70 = .ok (.ifCond .ne 6, 3) := by decide +kernel
theorem dX8_countWithin_73 : decode cX8_countWithin 73 = .ok (.iload 4, 2) := by decide +kernel
theorem dX8_countWithin_75 : decode cX8_countWithin 75 = .ok (.ireturn, 1) := by decide +kernel
theorem dX8_countWithin_76 : decode cX8_countWithin 76 = .ok (.iinc 5 1, 3) := by decide +kernel
theorem dX8_countWithin_79 : decode cX8_countWithin 79 = .ok (.goto (-60), 3) := by decide +kernel
theorem dX8_countWithin_82 : decode cX8_countWithin 82 = .ok (.iconst (-1), 1) := by decide +kernel
theorem dX8_countWithin_83 : decode cX8_countWithin 83 = .ok (.ireturn, 1) := by decide +kernel
theorem dX9_init_0 : decode cX9_init 0 = .ok (.aload_n 0, 1) := by decide +kernel
theorem dX9_init_1 : decode cX9_init 1 = .ok (.invokespecial 3, 3) := by decide +kernel
theorem dX9_init_4 : decode cX9_init 4 = .ok (.aload_n 0, 1) := by decide +kernel
theorem dX9_init_5 : decode cX9_init 5 = .ok (.sipush 5000, 3) := by decide +kernel
theorem dX9_init_8 : decode cX9_init 8 = .ok (.newarray .int, 2) := by decide +kernel
theorem dX9_init_10 : decode cX9_init 10 = .ok (.putfield 9, 3) := by decide +kernel
theorem dX9_init_13 : decode cX9_init 13 = .ok (.aload_n 0, 1) := by decide +kernel
theorem dX9_init_14 : decode cX9_init 14 = .ok (.sipush 5000, 3) := by decide +kernel
theorem dX9_init_17 : decode cX9_init 17 = .ok (.newarray .int, 2) := by decide +kernel
theorem dX9_init_19 : decode cX9_init 19 = .ok (.putfield 15, 3) := by decide +kernel
theorem dX9_init_22 : decode cX9_init 22 = .ok (.aload_n 0, 1) := by decide +kernel
theorem dX9_init_23 : decode cX9_init 23 = .ok (.sipush 5000, 3) := by decide +kernel
theorem dX9_init_26 : decode cX9_init 26 = .ok (.newarray .int, 2) := by decide +kernel
theorem dX9_init_28 : decode cX9_init 28 = .ok (.putfield 18, 3) := by decide +kernel
theorem dX9_init_31 : decode cX9_init 31 = .ok (.aload_n 0, 1) := by decide +kernel
theorem dX9_init_32 : decode cX9_init 32 = .ok (.sipush 5000, 3) := by decide +kernel
theorem dX9_init_35 : decode cX9_init 35 = .ok (.newarray .int, 2) := by decide +kernel
theorem dX9_init_37 : decode cX9_init 37 = .ok (.putfield 21, 3) := by decide +kernel
theorem dX9_init_40 : decode cX9_init 40 = .ok (.aload_n 0, 1) := by decide +kernel
theorem dX9_init_41 : decode cX9_init 41 = .ok (.iconst 0, 1) := by decide +kernel
theorem dX9_init_42 : decode cX9_init 42 = .ok (.putfield 24, 3) := by decide +kernel
theorem dX9_init_45 : decode cX9_init 45 = .ok (.return_, 1) := by decide +kernel
theorem dX9_push_0 : decode cX9_push 0 = .ok (.aload_n 0, 1) := by decide +kernel
theorem dX9_push_1 : decode cX9_push 1 = .ok (.getfield 24, 3) := by decide +kernel
theorem dX9_push_4 : decode cX9_push 4 = .ok (.sipush 5000, 3) := by decide +kernel
theorem dX9_push_7 : decode cX9_push 7 = .ok (.if_icmp .ge 54, 3) := by decide +kernel
theorem dX9_push_10 : decode cX9_push 10 = .ok (.aload_n 0, 1) := by decide +kernel
theorem dX9_push_11 : decode cX9_push 11 = .ok (.getfield 9, 3) := by decide +kernel
theorem dX9_push_14 : decode cX9_push 14 = .ok (.aload_n 0, 1) := by decide +kernel
theorem dX9_push_15 : decode cX9_push 15 = .ok (.getfield 24, 3) := by decide +kernel
theorem dX9_push_18 : decode cX9_push 18 = .ok (.iload_n 1, 1) := by decide +kernel
theorem dX9_push_19 : decode cX9_push 19 = .ok (.iastore, 1) := by decide +kernel
theorem dX9_push_20 : decode cX9_push 20 = .ok (.aload_n 0, 1) := by decide +kernel
theorem dX9_push_21 : decode cX9_push 21 = .ok (.getfield 15, 3) := by decide +kernel
theorem dX9_push_24 : decode cX9_push 24 = .ok (.aload_n 0, 1) := by decide +kernel
theorem dX9_push_25 : decode cX9_push 25 = .ok (.getfield 24, 3) := by decide +kernel
theorem dX9_push_28 : decode cX9_push 28 = .ok (.iload_n 2, 1) := by decide +kernel
theorem dX9_push_29 : decode cX9_push 29 = .ok (.iastore, 1) := by decide +kernel
theorem dX9_push_30 : decode cX9_push 30 = .ok (.aload_n 0, 1) := by decide +kernel
theorem dX9_push_31 : decode cX9_push 31 = .ok (.getfield 18, 3) := by decide +kernel
theorem dX9_push_34 : decode cX9_push 34 = .ok (.aload_n 0, 1) := by decide +kernel
theorem dX9_push_35 : decode cX9_push 35 = .ok (.getfield 24, 3) := by decide +kernel
theorem dX9_push_38 : decode cX9_push 38 = .ok (.iload_n 3, 1) := by decide +kernel
theorem dX9_push_39 : decode cX9_push 39 = .ok (.iastore, 1) := by decide +kernel
theorem dX9_push_40 : decode cX9_push 40 = .ok (.aload_n 0, 1) := by decide +kernel
theorem dX9_push_41 : decode cX9_push 41 = .ok (.getfield 21, 3) := by decide +kernel
theorem dX9_push_44 : decode cX9_push 44 = .ok (.aload_n 0, 1) := by decide +kernel
theorem dX9_push_45 : decode cX9_push 45 = .ok (.getfield 24, 3) := by decide +kernel
theorem dX9_push_48 : decode cX9_push 48 = .ok (.iload 4, 2) := by decide +kernel
theorem dX9_push_50 : decode cX9_push 50 = .ok (.iastore, 1) := by decide +kernel
theorem dX9_push_51 : decode cX9_push 51 = .ok (.aload_n 0, 1) := by decide +kernel
theorem dX9_push_52 : decode cX9_push 52 = .ok (.dup, 1) := by decide +kernel
theorem dX9_push_53 : decode cX9_push 53 = .ok (.getfield 24, 3) := by decide +kernel
theorem dX9_push_56 : decode cX9_push 56 = .ok (.iconst 1, 1) := by decide +kernel
theorem dX9_push_57 : decode cX9_push 57 = .ok (.iadd, 1) := by decide +kernel
theorem dX9_push_58 : decode cX9_push 58 = .ok (.putfield 24, 3) := by decide +kernel
theorem dX9_push_61 : decode cX9_push 61 = .ok (.return_, 1) := by decide +kernel
theorem dX9_push__0 : decode cX9_push_ 0 = .ok (.aload_n 0, 1) := by decide +kernel
theorem dX9_push__1 : decode cX9_push_ 1 = .ok (.iload_n 1, 1) := by decide +kernel
theorem dX9_push__2 : decode cX9_push_ 2 = .ok (.iload_n 2, 1) := by decide +kernel
theorem dX9_push__3 : decode cX9_push_ 3 = .ok (.iconst (-1), 1) := by decide +kernel
theorem dX9_push__4 : decode cX9_push_ 4 = .ok (.iconst (-1), 1) := by decide +kernel
theorem dX9_push__5 : decode cX9_push_ 5 = .ok (.invokevirtual 28, 3) := by decide +kernel
theorem dX9_push__8 : decode cX9_push_ 8 = .ok (.return_, 1) := by decide +kernel
theorem dX10_init_0 : decode cX10_init 0 = .ok (.aload_n 0, 1) := by decide +kernel
theorem dX10_init_1 : decode cX10_init 1 = .ok (.invokespecial 3, 3) := by decide +kernel
theorem dX10_init_4 : decode cX10_init 4 = .ok (.aload_n 0, 1) := by decide +kernel
theorem dX10_init_5 : decode cX10_init 5 = .ok (.sipush 3500, 3) := by decide +kernel
theorem dX10_init_8 : decode cX10_init 8 = .ok (.newarray .int, 2) := by decide +kernel
theorem dX10_init_10 : decode cX10_init 10 = .ok (.putfield 9, 3) := by decide +kernel
theorem dX10_init_13 : decode cX10_init 13 = .ok (.aload_n 0, 1) := by decide +kernel
theorem dX10_init_14 : decode cX10_init 14 = .ok (.sipush 3500, 3) := by decide +kernel
theorem dX10_init_17 : decode cX10_init 17 = .ok (.newarray .int, 2) := by decide +kernel
theorem dX10_init_19 : decode cX10_init 19 = .ok (.putfield 15, 3) := by decide +kernel
theorem dX10_init_22 : decode cX10_init 22 = .ok (.aload_n 0, 1) := by decide +kernel
theorem dX10_init_23 : decode cX10_init 23 = .ok (.sipush 3500, 3) := by decide +kernel
theorem dX10_init_26 : decode cX10_init 26 = .ok (.newarray .int, 2) := by decide +kernel
theorem dX10_init_28 : decode cX10_init 28 = .ok (.putfield 18, 3) := by decide +kernel
theorem dX10_init_31 : decode cX10_init 31 = .ok (.aload_n 0, 1) := by decide +kernel
theorem dX10_init_32 : decode cX10_init 32 = .ok (.sipush 3500, 3) := by decide +kernel
theorem dX10_init_35 : decode cX10_init 35 = .ok (.newarray .int, 2) := by decide +kernel
theorem dX10_init_37 : decode cX10_init 37 = .ok (.putfield 21, 3) := by decide +kernel
theorem dX10_init_40 : decode cX10_init 40 = .ok (.aload_n 0, 1) := by decide +kernel
theorem dX10_init_41 : decode cX10_init 41 = .ok (.sipush 3500, 3) := by decide +kernel
theorem dX10_init_44 : decode cX10_init 44 = .ok (.newarray .int, 2) := by decide +kernel
theorem dX10_init_46 : decode cX10_init 46 = .ok (.putfield 24, 3) := by decide +kernel
theorem dX10_init_49 : decode cX10_init 49 = .ok (.aload_n 0, 1) := by decide +kernel
theorem dX10_init_50 : decode cX10_init 50 = .ok (.sipush 3500, 3) := by decide +kernel
theorem dX10_init_53 : decode cX10_init 53 = .ok (.newarray .int, 2) := by decide +kernel
theorem dX10_init_55 : decode cX10_init 55 = .ok (.putfield 27, 3) := by decide +kernel
theorem dX10_init_58 : decode cX10_init 58 = .ok (.aload_n 0, 1) := by decide +kernel
theorem dX10_init_59 : decode cX10_init 59 = .ok (.sipush 3500, 3) := by decide +kernel
theorem dX10_init_62 : decode cX10_init 62 = .ok (.newarray .int, 2) := by decide +kernel
theorem dX10_init_64 : decode cX10_init 64 = .ok (.putfield 30, 3) := by decide +kernel
theorem dX10_init_67 : decode cX10_init 67 = .ok (.aload_n 0, 1) := by decide +kernel
theorem dX10_init_68 : decode cX10_init 68 = .ok (.sipush 3500, 3) := by decide +kernel
theorem dX10_init_71 : decode cX10_init 71 = .ok (.newarray .int, 2) := by decide +kernel
theorem dX10_init_73 : decode cX10_init 73 = .ok (.putfield 33, 3) := by decide +kernel
theorem dX10_init_76 : decode cX10_init 76 = .ok (.aload_n 0, 1) := by decide +kernel
theorem dX10_init_77 : decode cX10_init 77 = .ok (.sipush 3500, 3) := by decide +kernel
theorem dX10_init_80 : decode cX10_init 80 = .ok (.newarray .int, 2) := by decide +kernel
theorem dX10_init_82 : decode cX10_init 82 = .ok (.putfield 36, 3) := by decide +kernel
theorem dX10_init_85 : decode cX10_init 85 = .ok (.aload_n 0, 1) := by decide +kernel
theorem dX10_init_86 : decode cX10_init 86 = .ok (.iconst 0, 1) := by decide +kernel
theorem dX10_init_87 : decode cX10_init 87 = .ok (.putfield 39, 3) := by decide +kernel
theorem dX10_init_90 : decode cX10_init 90 = .ok (.aload_n 0, 1) := by decide +kernel
theorem dX10_init_91 : decode cX10_init 91 = .ok (.iconst 0, 1) := by decide +kernel
theorem dX10_init_92 : decode cX10_init 92 = .ok (.putfield 43, 3) := by decide +kernel
theorem dX10_init_95 : decode cX10_init 95 = .ok (.return_, 1) := by decide +kernel
theorem dX10_add_0 : decode cX10_add 0 = .ok (.aload_n 0, 1) := by decide +kernel
theorem dX10_add_1 : decode cX10_add 1 = .ok (.getfield 39, 3) := by decide +kernel
theorem dX10_add_4 : decode cX10_add 4 = .ok (.sipush 3500, 3) := by decide +kernel
theorem dX10_add_7 : decode cX10_add 7 = .ok (.if_icmp .ge 10, 3) := by decide +kernel
theorem dX10_add_10 : decode cX10_add 10 = .ok (.aload_n 0, 1) := by decide +kernel
theorem dX10_add_11 : decode cX10_add 11 = .ok (.getfield 39, 3) := by decide +kernel
theorem dX10_add_14 : decode cX10_add 14 = .ok (.goto 6, 3) := by decide +kernel
theorem dX10_add_17 : decode cX10_add 17 = .ok (.sipush 3499, 3) := by decide +kernel
theorem dX10_add_20 : decode cX10_add 20 = .ok (.istore 7, 2) := by decide +kernel
theorem dX10_add_22 : decode cX10_add 22 = .ok (.aload_n 0, 1) := by decide +kernel
theorem dX10_add_23 : decode cX10_add 23 = .ok (.getfield 9, 3) := by decide +kernel
theorem dX10_add_26 : decode cX10_add 26 = .ok (.iload 7, 2) := by decide +kernel
theorem dX10_add_28 : decode cX10_add 28 = .ok (.iload_n 1, 1) := by decide +kernel
theorem dX10_add_29 : decode cX10_add 29 = .ok (.iastore, 1) := by decide +kernel
theorem dX10_add_30 : decode cX10_add 30 = .ok (.aload_n 0, 1) := by decide +kernel
theorem dX10_add_31 : decode cX10_add 31 = .ok (.getfield 15, 3) := by decide +kernel
theorem dX10_add_34 : decode cX10_add 34 = .ok (.iload 7, 2) := by decide +kernel
theorem dX10_add_36 : decode cX10_add 36 = .ok (.iload_n 2, 1) := by decide +kernel
theorem dX10_add_37 : decode cX10_add 37 = .ok (.iastore, 1) := by decide +kernel
theorem dX10_add_38 : decode cX10_add 38 = .ok (.aload_n 0, 1) := by decide +kernel
theorem dX10_add_39 : decode cX10_add 39 = .ok (.getfield 18, 3) := by decide +kernel
theorem dX10_add_42 : decode cX10_add 42 = .ok (.iload 7, 2) := by decide +kernel
theorem dX10_add_44 : decode cX10_add 44 = .ok (.iload_n 3, 1) := by decide +kernel
theorem dX10_add_45 : decode cX10_add 45 = .ok (.iastore, 1) := by decide +kernel
theorem dX10_add_46 : decode cX10_add 46 = .ok (.aload_n 0, 1) := by decide +kernel
theorem dX10_add_47 : decode cX10_add 47 = .ok (.getfield 21, 3) := by decide +kernel
theorem dX10_add_50 : decode cX10_add 50 = .ok (.iload 7, 2) := by decide +kernel
theorem dX10_add_52 : decode cX10_add 52 = .ok (.iload 4, 2) := by decide +kernel
theorem dX10_add_54 : decode cX10_add 54 = .ok (.iastore, 1) := by decide +kernel
theorem dX10_add_55 : decode cX10_add 55 = .ok (.aload_n 0, 1) := by decide +kernel
theorem dX10_add_56 : decode cX10_add 56 = .ok (.getfield 24, 3) := by decide +kernel
theorem dX10_add_59 : decode cX10_add 59 = .ok (.iload 7, 2) := by decide +kernel
theorem dX10_add_61 : decode cX10_add 61 = .ok (.iload 5, 2) := by decide +kernel
theorem dX10_add_63 : decode cX10_add 63 = .ok (.iastore, 1) := by decide +kernel
theorem dX10_add_64 : decode cX10_add 64 = .ok (.aload_n 0, 1) := by decide +kernel
theorem dX10_add_65 : decode cX10_add 65 = .ok (.getfield 27, 3) := by decide +kernel
theorem dX10_add_68 : decode cX10_add 68 = .ok (.iload 7, 2) := by decide +kernel
theorem dX10_add_70 : decode cX10_add 70 = .ok (.iload 6, 2) := by decide +kernel
theorem dX10_add_72 : decode cX10_add 72 = .ok (.iastore, 1) := by decide +kernel
theorem dX10_add_73 : decode cX10_add 73 = .ok (.aload_n 0, 1) := by decide +kernel
theorem dX10_add_74 : decode cX10_add 74 = .ok (.getfield 30, 3) := by decide +kernel
theorem dX10_add_77 : decode cX10_add 77 = .ok (.iload 7, 2) := by decide +kernel
theorem dX10_add_79 : decode cX10_add 79 = .ok (.iconst 0, 1) := by decide +kernel
theorem dX10_add_80 : decode cX10_add 80 = .ok (.iastore, 1) := by decide +kernel
theorem dX10_add_81 : decode cX10_add 81 = .ok (.aload_n 0, 1) := by decide +kernel
theorem dX10_add_82 : decode cX10_add 82 = .ok (.getfield 33, 3) := by decide +kernel
theorem dX10_add_85 : decode cX10_add 85 = .ok (.iload 7, 2) := by decide +kernel
theorem dX10_add_87 : decode cX10_add 87 = .ok (.iconst 0, 1) := by decide +kernel
theorem dX10_add_88 : decode cX10_add 88 = .ok (.iastore, 1) := by decide +kernel
theorem dX10_add_89 : decode cX10_add 89 = .ok (.aload_n 0, 1) := by decide +kernel
theorem dX10_add_90 : decode cX10_add 90 = .ok (.iload 7, 2) := by decide +kernel
theorem dX10_add_92 : decode cX10_add 92 = .ok (.iconst 1, 1) := by decide +kernel
theorem dX10_add_93 : decode cX10_add 93 = .ok (.iadd, 1) := by decide +kernel
theorem dX10_add_94 : decode cX10_add 94 = .ok (.putfield 39, 3) := by decide +kernel
theorem dX10_add_97 : decode cX10_add 97 = .ok (.iload 7, 2) := by decide +kernel
theorem dX10_add_99 : decode cX10_add 99 = .ok (.ireturn, 1) := by decide +kernel
theorem dX10_addOpen_0 : decode cX10_addOpen 0 = .ok (.aload_n 0, 1) := by decide +kernel
theorem dX10_addOpen_1 : decode cX10_addOpen 1 = .ok (.bipush 7, 2) := by decide +kernel
theorem dX10_addOpen_3 : decode cX10_addOpen 3 = .ok (.iconst 0, 1) := by decide +kernel
theorem dX10_addOpen_4 : decode cX10_addOpen 4 = .ok (.iconst (-1), 1) := by decide +kernel
theorem dX10_addOpen_5 : decode cX10_addOpen 5 = .ok (.iconst (-1), 1) := by decide +kernel
theorem dX10_addOpen_6 : decode cX10_addOpen 6 = .ok (.iconst 0, 1) := by decide +kernel
theorem dX10_addOpen_7 : decode cX10_addOpen 7 = .ok (.iload_n 1, 1) := by decide +kernel
theorem dX10_addOpen_8 : decode cX10_addOpen 8 = .ok (.invokevirtual 46, 3) := by decide +kernel
theorem dX10_addOpen_11 : decode cX10_addOpen 11 = .ok (.ireturn, 1) := by decide +kernel
theorem dX10_find_0 : decode cX10_find 0 = .ok (.iload_n 1, 1) := by decide +kernel
theorem dX10_find_1 : decode cX10_find 1 = .ok (.istore_n 2, 1) := by decide +kernel
theorem dX10_find_2 : decode cX10_find 2 = .ok (.iconst 0, 1) := by decide +kernel
theorem dX10_find_3 : decode cX10_find 3 = .ok (.istore_n 3, 1) := by decide +kernel
theorem dX10_find_4 : decode cX10_find 4 = .ok (.iload_n 3, 1) := by decide +kernel
theorem dX10_find_5 : decode cX10_find 5 = .ok (.sipush 3500, 3) := by decide +kernel
theorem dX10_find_8 : decode cX10_find 8 = .ok (.if_icmp .ge 27, 3) := by decide +kernel
theorem dX10_find_11 : decode cX10_find 11 = .ok (.aload_n 0, 1) := by decide +kernel
theorem dX10_find_12 : decode cX10_find 12 = .ok (.getfield 9, 3) := by decide +kernel
theorem dX10_find_15 : decode cX10_find 15 = .ok (.iload_n 2, 1) := by decide +kernel
theorem dX10_find_16 : decode cX10_find 16 = .ok (.iaload, 1) := by decide +kernel
theorem dX10_find_17 : decode cX10_find 17 = .ok (.bipush 8, 2) := by decide +kernel
theorem dX10_find_19 : decode cX10_find 19 = .ok (.if_icmp .ne 16, 3) := by decide +kernel
theorem dX10_find_22 : decode cX10_find 22 = .ok (.aload_n 0, 1) := by decide +kernel
theorem dX10_find_23 : decode cX10_find 23 = .ok (.getfield 18, 3) := by decide +kernel
theorem dX10_find_26 : decode cX10_find 26 = .ok (.iload_n 2, 1) := by decide +kernel
theorem dX10_find_27 : decode cX10_find 27 = .ok (.iaload, 1) := by decide +kernel
theorem dX10_find_28 : decode cX10_find 28 = .ok (.istore_n 2, 1) := by decide +kernel
theorem dX10_find_29 : decode cX10_find 29 = .ok (.iinc 3 1, 3) := by decide +kernel
theorem dX10_find_32 : decode cX10_find 32 = .ok (.goto (-28), 3) := by decide +kernel
theorem dX10_find_35 : decode cX10_find 35 = .ok (.iload_n 2, 1) := by decide +kernel
theorem dX10_find_36 : decode cX10_find 36 = .ok (.ireturn, 1) := by decide +kernel
theorem dX10_become_0 : decode cX10_become 0 = .ok (.aload_n 0, 1) := by decide +kernel
theorem dX10_become_1 : decode cX10_become 1 = .ok (.getfield 9, 3) := by decide +kernel
theorem dX10_become_4 : decode cX10_become 4 = .ok (.iload_n 1, 1) := by decide +kernel
theorem dX10_become_5 : decode cX10_become 5 = .ok (.bipush 8, 2) := by decide +kernel
theorem dX10_become_7 : decode cX10_become 7 = .ok (.iastore, 1) := by decide +kernel
theorem dX10_become_8 : decode cX10_become 8 = .ok (.aload_n 0, 1) := by decide +kernel
theorem dX10_become_9 : decode cX10_become 9 = .ok (.getfield 18, 3) := by decide +kernel
theorem dX10_become_12 : decode cX10_become 12 = .ok (.iload_n 1, 1) := by decide +kernel
theorem dX10_become_13 : decode cX10_become 13 = .ok (.iload_n 2, 1) := by decide +kernel
theorem dX10_become_14 : decode cX10_become 14 = .ok (.iastore, 1) := by decide +kernel
theorem dX10_become_15 : decode cX10_become 15 = .ok (.return_, 1) := by decide +kernel
theorem dX10_becomeData_0 : decode cX10_becomeData 0 = .ok (.aload_n 0, 1) := by decide +kernel
theorem dX10_becomeData_1 : decode cX10_becomeData 1 = .ok (.getfield 9, 3) := by decide +kernel
theorem dX10_becomeData_4 : decode cX10_becomeData 4 = .ok (.iload_n 1, 1) := by decide +kernel
theorem dX10_becomeData_5 : decode cX10_becomeData 5 = .ok (.iconst 1, 1) := by decide +kernel
theorem dX10_becomeData_6 : decode cX10_becomeData 6 = .ok (.iastore, 1) := by decide +kernel
theorem dX10_becomeData_7 : decode cX10_becomeData 7 = .ok (.aload_n 0, 1) := by decide +kernel
theorem dX10_becomeData_8 : decode cX10_becomeData 8 = .ok (.getfield 15, 3) := by decide +kernel
theorem dX10_becomeData_11 : decode cX10_becomeData 11 = .ok (.iload_n 1, 1) := by decide +kernel
theorem dX10_becomeData_12 : decode cX10_becomeData 12 = .ok (.iload_n 2, 1) := by decide +kernel
theorem dX10_becomeData_13 : decode cX10_becomeData 13 = .ok (.iastore, 1) := by decide +kernel
theorem dX10_becomeData_14 : decode cX10_becomeData 14 = .ok (.aload_n 0, 1) := by decide +kernel
theorem dX10_becomeData_15 : decode cX10_becomeData 15 = .ok (.getfield 18, 3) := by decide +kernel
theorem dX10_becomeData_18 : decode cX10_becomeData 18 = .ok (.iload_n 1, 1) := by decide +kernel
theorem dX10_becomeData_19 : decode cX10_becomeData 19 = .ok (.iload_n 3, 1) := by decide +kernel
theorem dX10_becomeData_20 : decode cX10_becomeData 20 = .ok (.iastore, 1) := by decide +kernel
theorem dX10_becomeData_21 : decode cX10_becomeData 21 = .ok (.aload_n 0, 1) := by decide +kernel
theorem dX10_becomeData_22 : decode cX10_becomeData 22 = .ok (.getfield 21, 3) := by decide +kernel
theorem dX10_becomeData_25 : decode cX10_becomeData 25 = .ok (.iload_n 1, 1) := by decide +kernel
theorem dX10_becomeData_26 : decode cX10_becomeData 26 = .ok (.iload 4, 2) := by decide +kernel
theorem dX10_becomeData_28 : decode cX10_becomeData 28 = .ok (.iastore, 1) := by decide +kernel
theorem dX10_becomeData_29 : decode cX10_becomeData 29 = .ok (.return_, 1) := by decide +kernel
theorem dX10_isIn_0 : decode cX10_isIn 0 = .ok (.aload_n 0, 1) := by decide +kernel
theorem dX10_isIn_1 : decode cX10_isIn 1 = .ok (.dup, 1) := by decide +kernel
theorem dX10_isIn_2 : decode cX10_isIn 2 = .ok (.getfield 43, 3) := by decide +kernel
theorem dX10_isIn_5 : decode cX10_isIn 5 = .ok (.iconst 1, 1) := by decide +kernel
theorem dX10_isIn_6 : decode cX10_isIn 6 = .ok (.iadd, 1) := by decide +kernel
theorem dX10_isIn_7 : decode cX10_isIn 7 = .ok (.putfield 43, 3) := by decide +kernel
theorem dX10_isIn_10 : decode cX10_isIn 10 = .ok (.aload_n 0, 1) := by decide +kernel
theorem dX10_isIn_11 : decode cX10_isIn 11 = .ok (.aload_n 0, 1) := by decide +kernel
theorem dX10_isIn_12 : decode cX10_isIn 12 = .ok (.iload_n 2, 1) := by decide +kernel
theorem dX10_isIn_13 : decode cX10_isIn 13 = .ok (.invokevirtual 50, 3) := by decide +kernel
theorem dX10_isIn_16 : decode cX10_isIn 16 = .ok (.iconst 0, 1) := by decide +kernel
theorem dX10_isIn_17 : decode cX10_isIn 17 = .ok (.invokevirtual 54, 3) := by decide +kernel
theorem dX10_isIn_20 : decode cX10_isIn 20 = .ok (.istore_n 3, 1) := by decide +kernel
theorem dX10_isIn_21 : decode cX10_isIn 21 = .ok (.iconst 0, 1) := by decide +kernel
theorem dX10_isIn_22 : decode cX10_isIn 22 = .ok (.istore 4, 2) := by decide +kernel
theorem dX10_isIn_24 : decode cX10_isIn 24 = .ok (.iload 4, 2) := by decide +kernel
theorem dX10_isIn_26 : decode cX10_isIn 26 = .ok (.iload_n 3, 1) := by decide +kernel
theorem dX10_isIn_27 : decode cX10_isIn 27 = .ok (.if_icmp .ge 110, 3) := by decide +kernel
theorem dX10_isIn_30 : decode cX10_isIn 30 = .ok (.iload 4, 2) := by decide +kernel
theorem dX10_isIn_32 : decode cX10_isIn 32 = .ok (.sipush 3500, 3) := by decide +kernel
theorem dX10_isIn_35 : decode cX10_isIn 35 = .ok (.if_icmp .ge 102, 3) := by decide +kernel
theorem dX10_isIn_38 : decode cX10_isIn 38 = .ok (.aload_n 0, 1) := by decide +kernel
theorem dX10_isIn_39 : decode cX10_isIn 39 = .ok (.getfield 36, 3) := by decide +kernel
theorem dX10_isIn_42 : decode cX10_isIn 42 = .ok (.iload 4, 2) := by decide +kernel
theorem dX10_isIn_44 : decode cX10_isIn 44 = .ok (.iaload, 1) := by decide +kernel
theorem dX10_isIn_45 : decode cX10_isIn 45 = .ok (.istore 5, 2) := by decide +kernel
theorem dX10_isIn_47 : decode cX10_isIn 47 = .ok (.iload 5, 2) := by decide +kernel
theorem dX10_isIn_49 : decode cX10_isIn 49 = .ok (.iload_n 1, 1) := by decide +kernel
theorem dX10_isIn_50 : decode cX10_isIn 50 = .ok (.if_icmp .ne 5, 3) := by decide +kernel
theorem dX10_isIn_53 : decode cX10_isIn 53 = .ok (.iconst 1, 1) := by decide +kernel
theorem dX10_isIn_54 : decode cX10_isIn 54 = .ok (.ireturn, 1) := by decide +kernel
theorem dX10_isIn_55 : decode cX10_isIn 55 = .ok (.aload_n 0, 1) := by decide +kernel
theorem dX10_isIn_56 : decode cX10_isIn 56 = .ok (.getfield 9, 3) := by decide +kernel
theorem dX10_isIn_59 : decode cX10_isIn 59 = .ok (.iload 5, 2) := by decide +kernel
theorem dX10_isIn_61 : decode cX10_isIn 61 = .ok (.iaload, 1) := by decide +kernel
theorem dX10_isIn_62 : decode cX10_isIn 62 = .ok (.iconst 1, 1) := by decide +kernel
theorem dX10_isIn_63 : decode cX10_isIn 63 = .ok (.if_icmp .ne 68, 3) := by decide +kernel
theorem dX10_isIn_66 : decode cX10_isIn 66 = .ok (.aload_n 0, 1) := by decide +kernel
theorem dX10_isIn_67 : decode cX10_isIn 67 = .ok (.getfield 15, 3) := by decide +kernel
theorem dX10_isIn_70 : decode cX10_isIn 70 = .ok (.iload 5, 2) := by decide +kernel
theorem dX10_isIn_72 : decode cX10_isIn 72 = .ok (.iaload, 1) := by decide +kernel
theorem dX10_isIn_73 : decode cX10_isIn 73 = .ok (.invokestatic 58, 3) := by decide +kernel
theorem dX10_isIn_76 : decode cX10_isIn 76 = .ok (.istore 6, 2) := by decide +kernel
theorem dX10_isIn_78 : decode cX10_isIn 78 = .ok (.iload 6, 2) := by decide +kernel
theorem dX10_isIn_80 : decode cX10_isIn 80 = .ok (.ifCond .le 22, 3) := by decide +kernel
theorem dX10_isIn_83 : decode cX10_isIn 83 = .ok (.aload_n 0, 1) := by decide +kernel
theorem dX10_isIn_84 : decode cX10_isIn 84 = .ok (.aload_n 0, 1) := by decide +kernel
theorem dX10_isIn_85 : decode cX10_isIn 85 = .ok (.aload_n 0, 1) := by decide +kernel
theorem dX10_isIn_86 : decode cX10_isIn 86 = .ok (.getfield 18, 3) := by decide +kernel
theorem dX10_isIn_89 : decode cX10_isIn 89 = .ok (.iload 5, 2) := by decide +kernel
theorem dX10_isIn_91 : decode cX10_isIn 91 = .ok (.iaload, 1) := by decide +kernel
theorem dX10_isIn_92 : decode cX10_isIn 92 = .ok (.invokevirtual 50, 3) := by decide +kernel
theorem dX10_isIn_95 : decode cX10_isIn 95 = .ok (.iload_n 3, 1) := by decide +kernel
theorem dX10_isIn_96 : decode cX10_isIn 96 = .ok (.invokevirtual 54, 3) := by decide +kernel
theorem dX10_isIn_99 : decode cX10_isIn 99 = .ok (.goto 4, 3) := by decide +kernel
theorem dX10_isIn_102 : decode cX10_isIn 102 = .ok (.iload_n 3, 1) := by decide +kernel
theorem dX10_isIn_103 : decode cX10_isIn 103 = .ok (.istore_n 3, 1) := by decide +kernel
theorem dX10_isIn_104 : decode cX10_isIn 104 = .ok (.iload 6, 2) := by decide +kernel
theorem dX10_isIn_106 : decode cX10_isIn 106 = .ok (.iconst 1, 1) := by decide +kernel
theorem dX10_isIn_107 : decode cX10_isIn 107 = .ok (.if_icmp .le 22, 3) := by decide +kernel
theorem dX10_isIn_110 : decode cX10_isIn 110 = .ok (.aload_n 0, 1) := by decide +kernel
theorem dX10_isIn_111 : decode cX10_isIn 111 = .ok (.aload_n 0, 1) := by decide +kernel
theorem dX10_isIn_112 : decode cX10_isIn 112 = .ok (.aload_n 0, 1) := by decide +kernel
theorem dX10_isIn_113 : decode cX10_isIn 113 = .ok (.getfield 21, 3) := by decide +kernel
theorem dX10_isIn_116 : decode cX10_isIn 116 = .ok (.iload 5, 2) := by decide +kernel
theorem dX10_isIn_118 : decode cX10_isIn 118 = .ok (.iaload, 1) := by decide +kernel
theorem dX10_isIn_119 : decode cX10_isIn 119 = .ok (.invokevirtual 50, 3) := by decide +kernel
theorem dX10_isIn_122 : decode cX10_isIn 122 = .ok (.iload_n 3, 1) := by decide +kernel
theorem dX10_isIn_123 : decode cX10_isIn 123 = .ok (.invokevirtual 54, 3) := by decide +kernel
theorem dX10_isIn_126 : decode cX10_isIn 126 = .ok (.goto 4, 3) := by decide +kernel
theorem dX10_isIn_129 : decode cX10_isIn 129 = .ok (.iload_n 3, 1) := by decide +kernel
theorem dX10_isIn_130 : decode cX10_isIn 130 = .ok (.istore_n 3, 1) := by decide +kernel
theorem dX10_isIn_131 : decode cX10_isIn 131 = .ok (.iinc 4 1, 3) := by decide +kernel
theorem dX10_isIn_134 : decode cX10_isIn 134 = .ok (.goto (-110), 3) := by decide +kernel
theorem dX10_isIn_137 : decode cX10_isIn 137 = .ok (.iconst 0, 1) := by decide +kernel
theorem dX10_isIn_138 : decode cX10_isIn 138 = .ok (.ireturn, 1) := by decide +kernel
theorem dX10_enqueue_0 : decode cX10_enqueue 0 = .ok (.aload_n 0, 1) := by decide +kernel
theorem dX10_enqueue_1 : decode cX10_enqueue 1 = .ok (.getfield 33, 3) := by decide +kernel
theorem dX10_enqueue_4 : decode cX10_enqueue 4 = .ok (.iload_n 1, 1) := by decide +kernel
theorem dX10_enqueue_5 : decode cX10_enqueue 5 = .ok (.iaload, 1) := by decide +kernel
theorem dX10_enqueue_6 : decode cX10_enqueue 6 = .ok (.aload_n 0, 1) := by decide +kernel
theorem dX10_enqueue_7 : decode cX10_enqueue 7 = .ok (.getfield 43, 3) := by decide +kernel
theorem dX10_enqueue_10 : decode cX10_enqueue 10 = .ok (.if_icmp .eq 10, 3) := by decide +kernel
theorem dX10_enqueue_13 : decode cX10_enqueue 13 = .ok (.iload_n 2, 1) := by decide +kernel
theorem dX10_enqueue_14 : decode cX10_enqueue 14 = .ok (.sipush 3500, 3) := by decide +kernel
theorem dX10_enqueue_17 : decode cX10_enqueue 17 = .ok (.if_icmp .lt 5, 3) := by decide +kernel
theorem dX10_enqueue_20 : decode cX10_enqueue 20 = .ok (.iload_n 2, 1) := by decide +kernel
theorem dX10_enqueue_21 : decode cX10_enqueue 21 = .ok (.ireturn, 1) := by decide +kernel
theorem dX10_enqueue_22 : decode cX10_enqueue 22 = .ok (.aload_n 0, 1) := by decide +kernel
theorem dX10_enqueue_23 : decode cX10_enqueue 23 = .ok (.getfield 33, 3) := by decide +kernel
theorem dX10_enqueue_26 : decode cX10_enqueue 26 = .ok (.iload_n 1, 1) := by decide +kernel
theorem dX10_enqueue_27 : decode cX10_enqueue 27 = .ok (.aload_n 0, 1) := by decide +kernel
theorem dX10_enqueue_28 : decode cX10_enqueue 28 = .ok (.getfield 43, 3) := by decide +kernel
theorem dX10_enqueue_31 : decode cX10_enqueue 31 = .ok (.iastore, 1) := by decide +kernel
theorem dX10_enqueue_32 : decode cX10_enqueue 32 = .ok (.aload_n 0, 1) := by decide +kernel
theorem dX10_enqueue_33 : decode cX10_enqueue 33 = .ok (.getfield 36, 3) := by decide +kernel
theorem dX10_enqueue_36 : decode cX10_enqueue 36 = .ok (.iload_n 2, 1) := by decide +kernel
theorem dX10_enqueue_37 : decode cX10_enqueue 37 = .ok (.iload_n 1, 1) := by decide +kernel
theorem dX10_enqueue_38 : decode cX10_enqueue 38 = .ok (.iastore, 1) := by decide +kernel
theorem dX10_enqueue_39 : decode cX10_enqueue 39 = .ok (.iload_n 2, 1) := by decide +kernel
theorem dX10_enqueue_40 : decode cX10_enqueue 40 = .ok (.iconst 1, 1) := by decide +kernel
theorem dX10_enqueue_41 : decode cX10_enqueue 41 = .ok (.iadd, 1) := by decide +kernel
theorem dX10_enqueue_42 : decode cX10_enqueue 42 = .ok (.ireturn, 1) := by decide +kernel
theorem dX11_init_0 : decode cX11_init 0 = .ok (.aload_n 0, 1) := by decide +kernel
theorem dX11_init_1 : decode cX11_init 1 = .ok (.invokespecial 3, 3) := by decide +kernel
theorem dX11_init_4 : decode cX11_init 4 = .ok (.aload_n 0, 1) := by decide +kernel
theorem dX11_init_5 : decode cX11_init 5 = .ok (.new 9, 3) := by decide +kernel
theorem dX11_init_8 : decode cX11_init 8 = .ok (.dup, 1) := by decide +kernel
theorem dX11_init_9 : decode cX11_init 9 = .ok (.invokespecial 11, 3) := by decide +kernel
theorem dX11_init_12 : decode cX11_init 12 = .ok (.putfield 12, 3) := by decide +kernel
theorem dX11_init_15 : decode cX11_init 15 = .ok (.aload_n 0, 1) := by decide +kernel
theorem dX11_init_16 : decode cX11_init 16 = .ok (.new 16, 3) := by decide +kernel
theorem dX11_init_19 : decode cX11_init 19 = .ok (.dup, 1) := by decide +kernel
theorem dX11_init_20 : decode cX11_init 20 = .ok (.invokespecial 18, 3) := by decide +kernel
theorem dX11_init_23 : decode cX11_init 23 = .ok (.putfield 19, 3) := by decide +kernel
theorem dX11_init_26 : decode cX11_init 26 = .ok (.aload_n 0, 1) := by decide +kernel
theorem dX11_init_27 : decode cX11_init 27 = .ok (.new 23, 3) := by decide +kernel
theorem dX11_init_30 : decode cX11_init 30 = .ok (.dup, 1) := by decide +kernel
theorem dX11_init_31 : decode cX11_init 31 = .ok (.aload_n 0, 1) := by decide +kernel
theorem dX11_init_32 : decode cX11_init 32 = .ok (.getfield 19, 3) := by decide +kernel
theorem dX11_init_35 : decode cX11_init 35 = .ok (.invokespecial 25, 3) := by decide +kernel
theorem dX11_init_38 : decode cX11_init 38 = .ok (.putfield 28, 3) := by decide +kernel
theorem dX11_init_41 : decode cX11_init 41 = .ok (.aload_n 0, 1) := by decide +kernel
theorem dX11_init_42 : decode cX11_init 42 = .ok (.new 32, 3) := by decide +kernel
theorem dX11_init_45 : decode cX11_init 45 = .ok (.dup, 1) := by decide +kernel
theorem dX11_init_46 : decode cX11_init 46 = .ok (.aload_n 0, 1) := by decide +kernel
theorem dX11_init_47 : decode cX11_init 47 = .ok (.getfield 28, 3) := by decide +kernel
theorem dX11_init_50 : decode cX11_init 50 = .ok (.invokespecial 34, 3) := by decide +kernel
theorem dX11_init_53 : decode cX11_init 53 = .ok (.putfield 37, 3) := by decide +kernel
theorem dX11_init_56 : decode cX11_init 56 = .ok (.aload_n 0, 1) := by decide +kernel
theorem dX11_init_57 : decode cX11_init 57 = .ok (.aconst_null, 1) := by decide +kernel
theorem dX11_init_58 : decode cX11_init 58 = .ok (.putfield 41, 3) := by decide +kernel
theorem dX11_init_61 : decode cX11_init 61 = .ok (.return_, 1) := by decide +kernel
theorem dX11_function_0 : decode cX11_function 0 = .ok (.iload_n 1, 1) := by decide +kernel
theorem dX11_function_1 : decode cX11_function 1 = .ok (.ifCond .lt 8, 3) := by decide +kernel
theorem dX11_function_4 : decode cX11_function 4 = .ok (.iload_n 1, 1) := by decide +kernel
theorem dX11_function_5 : decode cX11_function 5 = .ok (.iconst 2, 1) := by decide +kernel
theorem dX11_function_6 : decode cX11_function 6 = .ok (.if_icmp .le 13, 3) := by decide +kernel
theorem dX11_function_9 : decode cX11_function 9 = .ok (.new 45, 3) := by decide +kernel
theorem dX11_function_12 : decode cX11_function 12 = .ok (.dup, 1) := by decide +kernel
theorem dX11_function_13 : decode cX11_function 13 = .ok (.ldc 47, 2) := by decide +kernel
theorem dX11_function_15 : decode cX11_function 15 = .ok (.invokespecial 49, 3) := by decide +kernel
theorem dX11_function_18 : decode cX11_function 18 = .ok (.athrow, 1) := by decide +kernel
theorem dX11_function_19 : decode cX11_function 19 = .ok (.aload_n 0, 1) := by decide +kernel
theorem dX11_function_20 : decode cX11_function 20 = .ok (.getfield 19, 3) := by decide +kernel
theorem dX11_function_23 : decode cX11_function 23 = .ok (.getfield 52, 3) := by decide +kernel
theorem dX11_function_26 : decode cX11_function 26 = .ok (.bipush 8, 2) := by decide +kernel
theorem dX11_function_28 : decode cX11_function 28 = .ok (.if_icmp .lt 13, 3) := by decide +kernel
theorem dX11_function_31 : decode cX11_function 31 = .ok (.new 56, 3) := by decide +kernel
theorem dX11_function_34 : decode cX11_function 34 = .ok (.dup, 1) := by decide +kernel
theorem dX11_function_35 : decode cX11_function 35 = .ok (.ldc 58, 2) := by decide +kernel
theorem dX11_function_37 : decode cX11_function 37 = .ok (.invokespecial 60, 3) := by decide +kernel
theorem dX11_function_40 : decode cX11_function 40 = .ok (.athrow, 1) := by decide +kernel
theorem dX11_function_41 : decode cX11_function 41 = .ok (.aload_n 0, 1) := by decide +kernel
theorem dX11_function_42 : decode cX11_function 42 = .ok (.getfield 19, 3) := by decide +kernel
theorem dX11_function_45 : decode cX11_function 45 = .ok (.iload_n 1, 1) := by decide +kernel
theorem dX11_function_46 : decode cX11_function 46 = .ok (.iload_n 2, 1) := by decide +kernel
theorem dX11_function_47 : decode cX11_function 47 = .ok (.invokevirtual 61, 3) := by decide +kernel
theorem dX11_function_50 : decode cX11_function 50 = .ok (.ireturn, 1) := by decide +kernel
theorem dX11_name_0 : decode cX11_name 0 = .ok (.iload_n 1, 1) := by decide +kernel
theorem dX11_name_1 : decode cX11_name 1 = .ok (.ifCond .lt 9, 3) := by decide +kernel
theorem dX11_name_4 : decode cX11_name 4 = .ok (.iload_n 1, 1) := by decide +kernel
theorem dX11_name_5 : decode cX11_name 5 = .ok (.bipush 6, 2) := by decide +kernel
theorem dX11_name_7 : decode cX11_name 7 = .ok (.if_icmp .lt 13, 3) := by decide +kernel
theorem dX11_name_10 : decode cX11_name 10 = .ok (.new 45, 3) := by decide +kernel
theorem dX11_name_13 : decode cX11_name 13 = .ok (.dup, 1) := by decide +kernel
theorem dX11_name_14 : decode cX11_name 14 = .ok (.ldc 65, 2) := by decide +kernel
theorem dX11_name_16 : decode cX11_name 16 = .ok (.invokespecial 49, 3) := by decide +kernel
theorem dX11_name_19 : decode cX11_name 19 = .ok (.athrow, 1) := by decide +kernel
theorem dX11_name_20 : decode cX11_name 20 = .ok (.aload_n 0, 1) := by decide +kernel
theorem dX11_name_21 : decode cX11_name 21 = .ok (.iconst 0, 1) := by decide +kernel
theorem dX11_name_22 : decode cX11_name 22 = .ok (.iload_n 1, 1) := by decide +kernel
theorem dX11_name_23 : decode cX11_name 23 = .ok (.iconst (-1), 1) := by decide +kernel
theorem dX11_name_24 : decode cX11_name 24 = .ok (.iconst (-1), 1) := by decide +kernel
theorem dX11_name_25 : decode cX11_name 25 = .ok (.invokevirtual 67, 3) := by decide +kernel
theorem dX11_name_28 : decode cX11_name 28 = .ok (.ireturn, 1) := by decide +kernel
theorem dX11_data_0 : decode cX11_data 0 = .ok (.iload_n 1, 1) := by decide +kernel
theorem dX11_data_1 : decode cX11_data 1 = .ok (.ifCond .lt 13, 3) := by decide +kernel
theorem dX11_data_4 : decode cX11_data 4 = .ok (.iload_n 1, 1) := by decide +kernel
theorem dX11_data_5 : decode cX11_data 5 = .ok (.bipush 6, 2) := by decide +kernel
theorem dX11_data_7 : decode cX11_data 7 = .ok (.if_icmp .ge 7, 3) := by decide +kernel
theorem dX11_data_10 : decode cX11_data 10 = .ok (.iconst 1, 1) := by decide +kernel
theorem dX11_data_11 : decode cX11_data 11 = .ok (.goto 4, 3) := by decide +kernel
theorem dX11_data_14 : decode cX11_data 14 = .ok (.iconst 0, 1) := by decide +kernel
theorem dX11_data_15 : decode cX11_data 15 = .ok (.istore 4, 2) := by decide +kernel
theorem dX11_data_17 : decode cX11_data 17 = .ok (.iload 4, 2) := by decide +kernel
theorem dX11_data_19 : decode cX11_data 19 = .ok (.ifCond .eq 10, 3) := by decide +kernel
theorem dX11_data_22 : decode cX11_data 22 = .ok (.iload_n 1, 1) := by decide +kernel
theorem dX11_data_23 : decode cX11_data 23 = .ok (.invokestatic 71, 3) := by decide +kernel
theorem dX11_data_26 : decode cX11_data 26 = .ok (.goto 4, 3) := by decide +kernel
theorem dX11_data_29 : decode cX11_data 29 = .ok (.iconst 0, 1) := by decide +kernel
theorem dX11_data_30 : decode cX11_data 30 = .ok (.istore 5, 2) := by decide +kernel
theorem dX11_data_32 : decode cX11_data 32 = .ok (.aload_n 0, 1) := by decide +kernel
theorem dX11_data_33 : decode cX11_data 33 = .ok (.iload 5, 2) := by decide +kernel
theorem dX11_data_35 : decode cX11_data 35 = .ok (.iload_n 2, 1) := by decide +kernel
theorem dX11_data_36 : decode cX11_data 36 = .ok (.iload_n 3, 1) := by decide +kernel
theorem dX11_data_37 : decode cX11_data 37 = .ok (.invokevirtual 75, 3) := by decide +kernel
theorem dX11_data_40 : decode cX11_data 40 = .ok (.iload 4, 2) := by decide +kernel
theorem dX11_data_42 : decode cX11_data 42 = .ok (.ifCond .ne 13, 3) := by decide +kernel
theorem dX11_data_45 : decode cX11_data 45 = .ok (.new 45, 3) := by decide +kernel
theorem dX11_data_48 : decode cX11_data 48 = .ok (.dup, 1) := by decide +kernel
theorem dX11_data_49 : decode cX11_data 49 = .ok (.ldc 79, 2) := by decide +kernel
theorem dX11_data_51 : decode cX11_data 51 = .ok (.invokespecial 49, 3) := by decide +kernel
theorem dX11_data_54 : decode cX11_data 54 = .ok (.athrow, 1) := by decide +kernel
theorem dX11_data_55 : decode cX11_data 55 = .ok (.aload_n 0, 1) := by decide +kernel
theorem dX11_data_56 : decode cX11_data 56 = .ok (.iconst 1, 1) := by decide +kernel
theorem dX11_data_57 : decode cX11_data 57 = .ok (.iload_n 1, 1) := by decide +kernel
theorem dX11_data_58 : decode cX11_data 58 = .ok (.iload 5, 2) := by decide +kernel
theorem dX11_data_60 : decode cX11_data 60 = .ok (.ifCond .le 7, 3) := by decide +kernel
theorem dX11_data_63 : decode cX11_data 63 = .ok (.iload_n 2, 1) := by decide +kernel
theorem dX11_data_64 : decode cX11_data 64 = .ok (.goto 4, 3) := by decide +kernel
theorem dX11_data_67 : decode cX11_data 67 = .ok (.iconst (-1), 1) := by decide +kernel
theorem dX11_data_68 : decode cX11_data 68 = .ok (.iload 5, 2) := by decide +kernel
theorem dX11_data_70 : decode cX11_data 70 = .ok (.iconst 1, 1) := by decide +kernel
theorem dX11_data_71 : decode cX11_data 71 = .ok (.if_icmp .le 7, 3) := by decide +kernel
theorem dX11_data_74 : decode cX11_data 74 = .ok (.iload_n 3, 1) := by decide +kernel
theorem dX11_data_75 : decode cX11_data 75 = .ok (.goto 4, 3) := by decide +kernel
theorem dX11_data_78 : decode cX11_data 78 = .ok (.iconst (-1), 1) := by decide +kernel
theorem dX11_data_79 : decode cX11_data 79 = .ok (.invokevirtual 67, 3) := by decide +kernel
theorem dX11_data_82 : decode cX11_data 82 = .ok (.ireturn, 1) := by decide +kernel
theorem dX11_call_0 : decode cX11_call 0 = .ok (.aload_n 0, 1) := by decide +kernel
theorem dX11_call_1 : decode cX11_call 1 = .ok (.iload_n 1, 1) := by decide +kernel
theorem dX11_call_2 : decode cX11_call 2 = .ok (.invokevirtual 81, 3) := by decide +kernel
theorem dX11_call_5 : decode cX11_call 5 = .ok (.aload_n 0, 1) := by decide +kernel
theorem dX11_call_6 : decode cX11_call 6 = .ok (.getfield 19, 3) := by decide +kernel
theorem dX11_call_9 : decode cX11_call 9 = .ok (.iload_n 1, 1) := by decide +kernel
theorem dX11_call_10 : decode cX11_call 10 = .ok (.invokevirtual 85, 3) := by decide +kernel
theorem dX11_call_13 : decode cX11_call 13 = .ok (.istore 4, 2) := by decide +kernel
theorem dX11_call_15 : decode cX11_call 15 = .ok (.aload_n 0, 1) := by decide +kernel
theorem dX11_call_16 : decode cX11_call 16 = .ok (.iload 4, 2) := by decide +kernel
theorem dX11_call_18 : decode cX11_call 18 = .ok (.iload_n 2, 1) := by decide +kernel
theorem dX11_call_19 : decode cX11_call 19 = .ok (.iload_n 3, 1) := by decide +kernel
theorem dX11_call_20 : decode cX11_call 20 = .ok (.invokevirtual 75, 3) := by decide +kernel
theorem dX11_call_23 : decode cX11_call 23 = .ok (.aload_n 0, 1) := by decide +kernel
theorem dX11_call_24 : decode cX11_call 24 = .ok (.iconst 2, 1) := by decide +kernel
theorem dX11_call_25 : decode cX11_call 25 = .ok (.iload_n 1, 1) := by decide +kernel
theorem dX11_call_26 : decode cX11_call 26 = .ok (.iload 4, 2) := by decide +kernel
theorem dX11_call_28 : decode cX11_call 28 = .ok (.ifCond .le 7, 3) := by decide +kernel
theorem dX11_call_31 : decode cX11_call 31 = .ok (.iload_n 2, 1) := by decide +kernel
theorem dX11_call_32 : decode cX11_call 32 = .ok (.goto 4, 3) := by decide +kernel
theorem dX11_call_35 : decode cX11_call 35 = .ok (.iconst (-1), 1) := by decide +kernel
theorem dX11_call_36 : decode cX11_call 36 = .ok (.iload 4, 2) := by decide +kernel
theorem dX11_call_38 : decode cX11_call 38 = .ok (.iconst 1, 1) := by decide +kernel
theorem dX11_call_39 : decode cX11_call 39 = .ok (.if_icmp .le 7, 3) := by decide +kernel
theorem dX11_call_42 : decode cX11_call 42 = .ok (.iload_n 3, 1) := by decide +kernel
theorem dX11_call_43 : decode cX11_call 43 = .ok (.goto 4, 3) := by decide +kernel
theorem dX11_call_46 : decode cX11_call 46 = .ok (.iconst (-1), 1) := by decide +kernel
theorem dX11_call_47 : decode cX11_call 47 = .ok (.invokevirtual 67, 3) := by decide +kernel
theorem dX11_call_50 : decode cX11_call 50 = .ok (.ireturn, 1) := by decide +kernel
theorem dX11_either_0 : decode cX11_either 0 = .ok (.aload_n 0, 1) := by decide +kernel
theorem dX11_either_1 : decode cX11_either 1 = .ok (.iconst 2, 1) := by decide +kernel
theorem dX11_either_2 : decode cX11_either 2 = .ok (.iload_n 1, 1) := by decide +kernel
theorem dX11_either_3 : decode cX11_either 3 = .ok (.iload_n 2, 1) := by decide +kernel
theorem dX11_either_4 : decode cX11_either 4 = .ok (.invokevirtual 75, 3) := by decide +kernel
theorem dX11_either_7 : decode cX11_either 7 = .ok (.aload_n 0, 1) := by decide +kernel
theorem dX11_either_8 : decode cX11_either 8 = .ok (.iconst 3, 1) := by decide +kernel
theorem dX11_either_9 : decode cX11_either 9 = .ok (.iconst 0, 1) := by decide +kernel
theorem dX11_either_10 : decode cX11_either 10 = .ok (.iload_n 1, 1) := by decide +kernel
theorem dX11_either_11 : decode cX11_either 11 = .ok (.iload_n 2, 1) := by decide +kernel
theorem dX11_either_12 : decode cX11_either 12 = .ok (.invokevirtual 67, 3) := by decide +kernel
theorem dX11_either_15 : decode cX11_either 15 = .ok (.ireturn, 1) := by decide +kernel
theorem dX11_same_0 : decode cX11_same 0 = .ok (.aload_n 0, 1) := by decide +kernel
theorem dX11_same_1 : decode cX11_same 1 = .ok (.iconst 2, 1) := by decide +kernel
theorem dX11_same_2 : decode cX11_same 2 = .ok (.iload_n 1, 1) := by decide +kernel
theorem dX11_same_3 : decode cX11_same 3 = .ok (.iload_n 2, 1) := by decide +kernel
theorem dX11_same_4 : decode cX11_same 4 = .ok (.invokevirtual 75, 3) := by decide +kernel
theorem dX11_same_7 : decode cX11_same 7 = .ok (.aload_n 0, 1) := by decide +kernel
theorem dX11_same_8 : decode cX11_same 8 = .ok (.iconst 4, 1) := by decide +kernel
theorem dX11_same_9 : decode cX11_same 9 = .ok (.iconst 0, 1) := by decide +kernel
theorem dX11_same_10 : decode cX11_same 10 = .ok (.iload_n 1, 1) := by decide +kernel
theorem dX11_same_11 : decode cX11_same 11 = .ok (.iload_n 2, 1) := by decide +kernel
theorem dX11_same_12 : decode cX11_same 12 = .ok (.invokevirtual 67, 3) := by decide +kernel
theorem dX11_same_15 : decode cX11_same 15 = .ok (.ireturn, 1) := by decide +kernel
theorem dX11_unlike_0 : decode cX11_unlike 0 = .ok (.aload_n 0, 1) := by decide +kernel
theorem dX11_unlike_1 : decode cX11_unlike 1 = .ok (.iconst 2, 1) := by decide +kernel
theorem dX11_unlike_2 : decode cX11_unlike 2 = .ok (.iload_n 1, 1) := by decide +kernel
theorem dX11_unlike_3 : decode cX11_unlike 3 = .ok (.iload_n 2, 1) := by decide +kernel
theorem dX11_unlike_4 : decode cX11_unlike 4 = .ok (.invokevirtual 75, 3) := by decide +kernel
theorem dX11_unlike_7 : decode cX11_unlike 7 = .ok (.aload_n 0, 1) := by decide +kernel
theorem dX11_unlike_8 : decode cX11_unlike 8 = .ok (.iconst 5, 1) := by decide +kernel
theorem dX11_unlike_9 : decode cX11_unlike 9 = .ok (.iconst 0, 1) := by decide +kernel
theorem dX11_unlike_10 : decode cX11_unlike 10 = .ok (.iload_n 1, 1) := by decide +kernel
theorem dX11_unlike_11 : decode cX11_unlike 11 = .ok (.iload_n 2, 1) := by decide +kernel
theorem dX11_unlike_12 : decode cX11_unlike 12 = .ok (.invokevirtual 67, 3) := by decide +kernel
theorem dX11_unlike_15 : decode cX11_unlike 15 = .ok (.ireturn, 1) := by decide +kernel
theorem dX11_some_0 : decode cX11_some 0 = .ok (.aload_n 0, 1) := by decide +kernel
theorem dX11_some_1 : decode cX11_some 1 = .ok (.iconst 1, 1) := by decide +kernel
theorem dX11_some_2 : decode cX11_some 2 = .ok (.iload_n 1, 1) := by decide +kernel
theorem dX11_some_3 : decode cX11_some 3 = .ok (.iconst (-1), 1) := by decide +kernel
theorem dX11_some_4 : decode cX11_some 4 = .ok (.invokevirtual 75, 3) := by decide +kernel
theorem dX11_some_7 : decode cX11_some 7 = .ok (.aload_n 0, 1) := by decide +kernel
theorem dX11_some_8 : decode cX11_some 8 = .ok (.bipush 6, 2) := by decide +kernel
theorem dX11_some_10 : decode cX11_some 10 = .ok (.iconst 0, 1) := by decide +kernel
theorem dX11_some_11 : decode cX11_some 11 = .ok (.iload_n 1, 1) := by decide +kernel
theorem dX11_some_12 : decode cX11_some 12 = .ok (.iconst (-1), 1) := by decide +kernel
theorem dX11_some_13 : decode cX11_some 13 = .ok (.invokevirtual 67, 3) := by decide +kernel
theorem dX11_some_16 : decode cX11_some 16 = .ok (.ireturn, 1) := by decide +kernel
theorem dX11_drop_0 : decode cX11_drop 0 = .ok (.aload_n 0, 1) := by decide +kernel
theorem dX11_drop_1 : decode cX11_drop 1 = .ok (.getfield 12, 3) := by decide +kernel
theorem dX11_drop_4 : decode cX11_drop 4 = .ok (.getfield 88, 3) := by decide +kernel
theorem dX11_drop_7 : decode cX11_drop 7 = .ok (.istore_n 1, 1) := by decide +kernel
theorem dX11_drop_8 : decode cX11_drop 8 = .ok (.aload_n 0, 1) := by decide +kernel
theorem dX11_drop_9 : decode cX11_drop 9 = .ok (.getfield 12, 3) := by decide +kernel
theorem dX11_drop_12 : decode cX11_drop 12 = .ok (.iconst 0, 1) := by decide +kernel
theorem dX11_drop_13 : decode cX11_drop 13 = .ok (.putfield 88, 3) := by decide +kernel
theorem dX11_drop_16 : decode cX11_drop 16 = .ok (.iload_n 1, 1) := by decide +kernel
theorem dX11_drop_17 : decode cX11_drop 17 = .ok (.ireturn, 1) := by decide +kernel
theorem dX11_rule_0 : decode cX11_rule 0 = .ok (.aload_n 0, 1) := by decide +kernel
theorem dX11_rule_1 : decode cX11_rule 1 = .ok (.iload_n 1, 1) := by decide +kernel
theorem dX11_rule_2 : decode cX11_rule 2 = .ok (.invokevirtual 81, 3) := by decide +kernel
theorem dX11_rule_5 : decode cX11_rule 5 = .ok (.aload_n 0, 1) := by decide +kernel
theorem dX11_rule_6 : decode cX11_rule 6 = .ok (.getfield 19, 3) := by decide +kernel
theorem dX11_rule_9 : decode cX11_rule 9 = .ok (.iload_n 1, 1) := by decide +kernel
theorem dX11_rule_10 : decode cX11_rule 10 = .ok (.invokevirtual 85, 3) := by decide +kernel
theorem dX11_rule_13 : decode cX11_rule 13 = .ok (.istore 5, 2) := by decide +kernel
theorem dX11_rule_15 : decode cX11_rule 15 = .ok (.aload_n 0, 1) := by decide +kernel
theorem dX11_rule_16 : decode cX11_rule 16 = .ok (.iload 5, 2) := by decide +kernel
theorem dX11_rule_18 : decode cX11_rule 18 = .ok (.iload_n 2, 1) := by decide +kernel
theorem dX11_rule_19 : decode cX11_rule 19 = .ok (.iload_n 3, 1) := by decide +kernel
theorem dX11_rule_20 : decode cX11_rule 20 = .ok (.invokevirtual 75, 3) := by decide +kernel
theorem dX11_rule_23 : decode cX11_rule 23 = .ok (.aload_n 0, 1) := by decide +kernel
theorem dX11_rule_24 : decode cX11_rule 24 = .ok (.iconst 1, 1) := by decide +kernel
theorem dX11_rule_25 : decode cX11_rule 25 = .ok (.iload 4, 2) := by decide +kernel
theorem dX11_rule_27 : decode cX11_rule 27 = .ok (.iconst (-1), 1) := by decide +kernel
theorem dX11_rule_28 : decode cX11_rule 28 = .ok (.invokevirtual 75, 3) := by decide +kernel
theorem dX11_rule_31 : decode cX11_rule 31 = .ok (.new 91, 3) := by decide +kernel
theorem dX11_rule_34 : decode cX11_rule 34 = .ok (.dup, 1) := by decide +kernel
theorem dX11_rule_35 : decode cX11_rule 35 = .ok (.iload 5, 2) := by decide +kernel
theorem dX11_rule_37 : decode cX11_rule 37 = .ok (.ifCond .le 18, 3) := by decide +kernel
theorem dX11_rule_40 : decode cX11_rule 40 = .ok (.new 93, 3) := by decide +kernel
theorem dX11_rule_43 : decode cX11_rule 43 = .ok (.dup, 1) := by decide +kernel
theorem dX11_rule_44 : decode cX11_rule 44 = .ok (.aload_n 0, 1) := by decide +kernel
theorem dX11_rule_45 : decode cX11_rule 45 = .ok (.getfield 12, 3) := by decide +kernel
theorem dX11_rule_48 : decode cX11_rule 48 = .ok (.iload_n 2, 1) := by decide +kernel
theorem dX11_rule_49 : decode cX11_rule 49 = .ok (.invokespecial 95, 3) := by decide +kernel
theorem dX11_rule_52 : decode cX11_rule 52 = .ok (.goto 4, 3) := by decide +kernel
theorem dX11_rule_55 : decode cX11_rule 55 = .ok (.aconst_null, 1) := by decide +kernel
theorem dX11_rule_56 : decode cX11_rule 56 = .ok (.iload 5, 2) := by decide +kernel
theorem dX11_rule_58 : decode cX11_rule 58 = .ok (.iconst 1, 1) := by decide +kernel
theorem dX11_rule_59 : decode cX11_rule 59 = .ok (.if_icmp .le 18, 3) := by decide +kernel
theorem dX11_rule_62 : decode cX11_rule 62 = .ok (.new 93, 3) := by decide +kernel
theorem dX11_rule_65 : decode cX11_rule 65 = .ok (.dup, 1) := by decide +kernel
theorem dX11_rule_66 : decode cX11_rule 66 = .ok (.aload_n 0, 1) := by decide +kernel
theorem dX11_rule_67 : decode cX11_rule 67 = .ok (.getfield 12, 3) := by decide +kernel
theorem dX11_rule_70 : decode cX11_rule 70 = .ok (.iload_n 3, 1) := by decide +kernel
theorem dX11_rule_71 : decode cX11_rule 71 = .ok (.invokespecial 95, 3) := by decide +kernel
theorem dX11_rule_74 : decode cX11_rule 74 = .ok (.goto 4, 3) := by decide +kernel
theorem dX11_rule_77 : decode cX11_rule 77 = .ok (.aconst_null, 1) := by decide +kernel
theorem dX11_rule_78 : decode cX11_rule 78 = .ok (.new 93, 3) := by decide +kernel
theorem dX11_rule_81 : decode cX11_rule 81 = .ok (.dup, 1) := by decide +kernel
theorem dX11_rule_82 : decode cX11_rule 82 = .ok (.aload_n 0, 1) := by decide +kernel
theorem dX11_rule_83 : decode cX11_rule 83 = .ok (.getfield 12, 3) := by decide +kernel
theorem dX11_rule_86 : decode cX11_rule 86 = .ok (.iload 4, 2) := by decide +kernel
theorem dX11_rule_88 : decode cX11_rule 88 = .ok (.invokespecial 95, 3) := by decide +kernel
theorem dX11_rule_91 : decode cX11_rule 91 = .ok (.invokespecial 98, 3) := by decide +kernel
theorem dX11_rule_94 : decode cX11_rule 94 = .ok (.astore 6, 2) := by decide +kernel
theorem dX11_rule_96 : decode cX11_rule 96 = .ok (.aload 6, 2) := by decide +kernel
theorem dX11_rule_98 : decode cX11_rule 98 = .ok (.getfield 101, 3) := by decide +kernel
theorem dX11_rule_101 : decode cX11_rule 101 = .ok (.ifCond .ne 13, 3) := by decide +kernel
theorem dX11_rule_104 : decode cX11_rule 104 = .ok (.new 45, 3) := by decide +kernel
theorem dX11_rule_107 : decode cX11_rule 107 = .ok (.dup, 1) := by decide +kernel
theorem dX11_rule_108 : decode cX11_rule 108 = .ok (.ldc 105, 2) := by decide +kernel
theorem dX11_rule_110 : decode cX11_rule 110 = .ok (.invokespecial 49, 3) := by decide +kernel
theorem dX11_rule_113 : decode cX11_rule 113 = .ok (.athrow, 1) := by decide +kernel
theorem dX11_rule_114 : decode cX11_rule 114 = .ok (.aload_n 0, 1) := by decide +kernel
theorem dX11_rule_115 : decode cX11_rule 115 = .ok (.getfield 19, 3) := by decide +kernel
theorem dX11_rule_118 : decode cX11_rule 118 = .ok (.getfield 107, 3) := by decide +kernel
theorem dX11_rule_121 : decode cX11_rule 121 = .ok (.bipush 24, 2) := by decide +kernel
theorem dX11_rule_123 : decode cX11_rule 123 = .ok (.if_icmp .lt 13, 3) := by decide +kernel
theorem dX11_rule_126 : decode cX11_rule 126 = .ok (.new 56, 3) := by decide +kernel
theorem dX11_rule_129 : decode cX11_rule 129 = .ok (.dup, 1) := by decide +kernel
theorem dX11_rule_130 : decode cX11_rule 130 = .ok (.ldc 110, 2) := by decide +kernel
theorem dX11_rule_132 : decode cX11_rule 132 = .ok (.invokespecial 60, 3) := by decide +kernel
theorem dX11_rule_135 : decode cX11_rule 135 = .ok (.athrow, 1) := by decide +kernel
theorem dX11_rule_136 : decode cX11_rule 136 = .ok (.aload_n 0, 1) := by decide +kernel
theorem dX11_rule_137 : decode cX11_rule 137 = .ok (.getfield 19, 3) := by decide +kernel
theorem dX11_rule_140 : decode cX11_rule 140 = .ok (.iload_n 1, 1) := by decide +kernel
theorem dX11_rule_141 : decode cX11_rule 141 = .ok (.aload 6, 2) := by decide +kernel
theorem dX11_rule_143 : decode cX11_rule 143 = .ok (.invokevirtual 112, 3) := by decide +kernel
theorem dX11_rule_146 : decode cX11_rule 146 = .ok (.ireturn, 1) := by decide +kernel
theorem dX11_unrule_0 : decode cX11_unrule 0 = .ok (.aload_n 0, 1) := by decide +kernel
theorem dX11_unrule_1 : decode cX11_unrule 1 = .ok (.iload_n 1, 1) := by decide +kernel
theorem dX11_unrule_2 : decode cX11_unrule 2 = .ok (.invokevirtual 81, 3) := by decide +kernel
theorem dX11_unrule_5 : decode cX11_unrule 5 = .ok (.aload_n 0, 1) := by decide +kernel
theorem dX11_unrule_6 : decode cX11_unrule 6 = .ok (.getfield 19, 3) := by decide +kernel
theorem dX11_unrule_9 : decode cX11_unrule 9 = .ok (.iload_n 1, 1) := by decide +kernel
theorem dX11_unrule_10 : decode cX11_unrule 10 = .ok (.invokevirtual 116, 3) := by decide +kernel
theorem dX11_unrule_13 : decode cX11_unrule 13 = .ok (.ifCond .ne 13, 3) := by decide +kernel
theorem dX11_unrule_16 : decode cX11_unrule 16 = .ok (.new 56, 3) := by decide +kernel
theorem dX11_unrule_19 : decode cX11_unrule 19 = .ok (.dup, 1) := by decide +kernel
theorem dX11_unrule_20 : decode cX11_unrule 20 = .ok (.ldc 119, 2) := by decide +kernel
theorem dX11_unrule_22 : decode cX11_unrule 22 = .ok (.invokespecial 60, 3) := by decide +kernel
theorem dX11_unrule_25 : decode cX11_unrule 25 = .ok (.athrow, 1) := by decide +kernel
theorem dX11_unrule_26 : decode cX11_unrule 26 = .ok (.aload_n 0, 1) := by decide +kernel
theorem dX11_unrule_27 : decode cX11_unrule 27 = .ok (.getfield 19, 3) := by decide +kernel
theorem dX11_unrule_30 : decode cX11_unrule 30 = .ok (.iload_n 1, 1) := by decide +kernel
theorem dX11_unrule_31 : decode cX11_unrule 31 = .ok (.invokevirtual 121, 3) := by decide +kernel
theorem dX11_unrule_34 : decode cX11_unrule 34 = .ok (.ireturn, 1) := by decide +kernel
theorem dX11_many_0 : decode cX11_many 0 = .ok (.aload_n 0, 1) := by decide +kernel
theorem dX11_many_1 : decode cX11_many 1 = .ok (.getfield 19, 3) := by decide +kernel
theorem dX11_many_4 : decode cX11_many 4 = .ok (.invokevirtual 124, 3) := by decide +kernel
theorem dX11_many_7 : decode cX11_many 7 = .ok (.ireturn, 1) := by decide +kernel
theorem dX11_goal_0 : decode cX11_goal 0 = .ok (.aload_n 0, 1) := by decide +kernel
theorem dX11_goal_1 : decode cX11_goal 1 = .ok (.iconst 1, 1) := by decide +kernel
theorem dX11_goal_2 : decode cX11_goal 2 = .ok (.iload_n 1, 1) := by decide +kernel
theorem dX11_goal_3 : decode cX11_goal 3 = .ok (.iconst (-1), 1) := by decide +kernel
theorem dX11_goal_4 : decode cX11_goal 4 = .ok (.invokevirtual 75, 3) := by decide +kernel
theorem dX11_goal_7 : decode cX11_goal 7 = .ok (.aload_n 0, 1) := by decide +kernel
theorem dX11_goal_8 : decode cX11_goal 8 = .ok (.new 93, 3) := by decide +kernel
theorem dX11_goal_11 : decode cX11_goal 11 = .ok (.dup, 1) := by decide +kernel
theorem dX11_goal_12 : decode cX11_goal 12 = .ok (.aload_n 0, 1) := by decide +kernel
theorem dX11_goal_13 : decode cX11_goal 13 = .ok (.getfield 12, 3) := by decide +kernel
theorem dX11_goal_16 : decode cX11_goal 16 = .ok (.iload_n 1, 1) := by decide +kernel
theorem dX11_goal_17 : decode cX11_goal 17 = .ok (.invokespecial 95, 3) := by decide +kernel
theorem dX11_goal_20 : decode cX11_goal 20 = .ok (.putfield 41, 3) := by decide +kernel
theorem dX11_goal_23 : decode cX11_goal 23 = .ok (.aload_n 0, 1) := by decide +kernel
theorem dX11_goal_24 : decode cX11_goal 24 = .ok (.getfield 37, 3) := by decide +kernel
theorem dX11_goal_27 : decode cX11_goal 27 = .ok (.iconst 0, 1) := by decide +kernel
theorem dX11_goal_28 : decode cX11_goal 28 = .ok (.putfield 128, 3) := by decide +kernel
theorem dX11_goal_31 : decode cX11_goal 31 = .ok (.aload_n 0, 1) := by decide +kernel
theorem dX11_goal_32 : decode cX11_goal 32 = .ok (.getfield 41, 3) := by decide +kernel
theorem dX11_goal_35 : decode cX11_goal 35 = .ok (.getfield 131, 3) := by decide +kernel
theorem dX11_goal_38 : decode cX11_goal 38 = .ok (.ireturn, 1) := by decide +kernel
theorem dX11_search_0 : decode cX11_search 0 = .ok (.iload_n 1, 1) := by decide +kernel
theorem dX11_search_1 : decode cX11_search 1 = .ok (.ifCond .lt 8, 3) := by decide +kernel
theorem dX11_search_4 : decode cX11_search 4 = .ok (.iload_n 1, 1) := by decide +kernel
theorem dX11_search_5 : decode cX11_search 5 = .ok (.iconst 2, 1) := by decide +kernel
theorem dX11_search_6 : decode cX11_search 6 = .ok (.if_icmp .le 13, 3) := by decide +kernel
theorem dX11_search_9 : decode cX11_search 9 = .ok (.new 45, 3) := by decide +kernel
theorem dX11_search_12 : decode cX11_search 12 = .ok (.dup, 1) := by decide +kernel
theorem dX11_search_13 : decode cX11_search 13 = .ok (.ldc 134, 2) := by decide +kernel
theorem dX11_search_15 : decode cX11_search 15 = .ok (.invokespecial 49, 3) := by decide +kernel
theorem dX11_search_18 : decode cX11_search 18 = .ok (.athrow, 1) := by decide +kernel
theorem dX11_search_19 : decode cX11_search 19 = .ok (.aload_n 0, 1) := by decide +kernel
theorem dX11_search_20 : decode cX11_search 20 = .ok (.getfield 41, 3) := by decide +kernel
theorem dX11_search_23 : decode cX11_search 23 = .ok (.ifnonnull 13, 3) := by decide +kernel
theorem dX11_search_26 : decode cX11_search 26 = .ok (.new 56, 3) := by decide +kernel
theorem dX11_search_29 : decode cX11_search 29 = .ok (.dup, 1) := by decide +kernel
theorem dX11_search_30 : decode cX11_search 30 = .ok (.ldc 136, 2) := by decide +kernel
theorem dX11_search_32 : decode cX11_search 32 = .ok (.invokespecial 60, 3) := by decide +kernel
theorem dX11_search_35 : decode cX11_search 35 = .ok (.athrow, 1) := by decide +kernel
theorem dX11_search_36 : decode cX11_search 36 = .ok (.aload_n 0, 1) := by decide +kernel
theorem dX11_search_37 : decode cX11_search 37 = .ok (.getfield 37, 3) := by decide +kernel
theorem dX11_search_40 : decode cX11_search 40 = .ok (.aload_n 0, 1) := by decide +kernel
theorem dX11_search_41 : decode cX11_search 41 = .ok (.getfield 41, 3) := by decide +kernel
theorem dX11_search_44 : decode cX11_search 44 = .ok (.iload_n 1, 1) := by decide +kernel
theorem dX11_search_45 : decode cX11_search 45 = .ok (.iload_n 2, 1) := by decide +kernel
theorem dX11_search_46 : decode cX11_search 46 = .ok (.invokevirtual 138, 3) := by decide +kernel
theorem dX11_search_49 : decode cX11_search 49 = .ok (.ireturn, 1) := by decide +kernel
theorem dX11_count_0 : decode cX11_count 0 = .ok (.iload_n 1, 1) := by decide +kernel
theorem dX11_count_1 : decode cX11_count 1 = .ok (.ifCond .lt 9, 3) := by decide +kernel
theorem dX11_count_4 : decode cX11_count 4 = .ok (.iload_n 1, 1) := by decide +kernel
theorem dX11_count_5 : decode cX11_count 5 = .ok (.bipush 6, 2) := by decide +kernel
theorem dX11_count_7 : decode cX11_count 7 = .ok (.if_icmp .lt 13, 3) := by decide +kernel
theorem dX11_count_10 : decode cX11_count 10 = .ok (.new 45, 3) := by decide +kernel
theorem dX11_count_13 : decode cX11_count 13 = .ok (.dup, 1) := by decide +kernel
theorem dX11_count_14 : decode cX11_count 14 = .ok (.ldc 142, 2) := by decide +kernel
theorem dX11_count_16 : decode cX11_count 16 = .ok (.invokespecial 49, 3) := by decide +kernel
theorem dX11_count_19 : decode cX11_count 19 = .ok (.athrow, 1) := by decide +kernel
theorem dX11_count_20 : decode cX11_count 20 = .ok (.aload_n 0, 1) := by decide +kernel
theorem dX11_count_21 : decode cX11_count 21 = .ok (.getfield 37, 3) := by decide +kernel
theorem dX11_count_24 : decode cX11_count 24 = .ok (.getfield 144, 3) := by decide +kernel
theorem dX11_count_27 : decode cX11_count 27 = .ok (.iload_n 1, 1) := by decide +kernel
theorem dX11_count_28 : decode cX11_count 28 = .ok (.iaload, 1) := by decide +kernel
theorem dX11_count_29 : decode cX11_count 29 = .ok (.ireturn, 1) := by decide +kernel
theorem dX11_part_0 : decode cX11_part 0 = .ok (.aload_n 0, 1) := by decide +kernel
theorem dX11_part_1 : decode cX11_part 1 = .ok (.iload_n 1, 1) := by decide +kernel
theorem dX11_part_2 : decode cX11_part 2 = .ok (.iload_n 2, 1) := by decide +kernel
theorem dX11_part_3 : decode cX11_part 3 = .ok (.invokevirtual 148, 3) := by decide +kernel
theorem dX11_part_6 : decode cX11_part 6 = .ok (.aload_n 0, 1) := by decide +kernel
theorem dX11_part_7 : decode cX11_part 7 = .ok (.getfield 37, 3) := by decide +kernel
theorem dX11_part_10 : decode cX11_part 10 = .ok (.getfield 152, 3) := by decide +kernel
theorem dX11_part_13 : decode cX11_part 13 = .ok (.iload_n 1, 1) := by decide +kernel
theorem dX11_part_14 : decode cX11_part 14 = .ok (.aaload, 1) := by decide +kernel
theorem dX11_part_15 : decode cX11_part 15 = .ok (.getfield 156, 3) := by decide +kernel
theorem dX11_part_18 : decode cX11_part 18 = .ok (.iload_n 2, 1) := by decide +kernel
theorem dX11_part_19 : decode cX11_part 19 = .ok (.invokestatic 161, 3) := by decide +kernel
theorem dX11_part_22 : decode cX11_part 22 = .ok (.ireturn, 1) := by decide +kernel
theorem dX11_bound_0 : decode cX11_bound 0 = .ok (.aload_n 0, 1) := by decide +kernel
theorem dX11_bound_1 : decode cX11_bound 1 = .ok (.iload_n 1, 1) := by decide +kernel
theorem dX11_bound_2 : decode cX11_bound 2 = .ok (.iload_n 3, 1) := by decide +kernel
theorem dX11_bound_3 : decode cX11_bound 3 = .ok (.invokevirtual 148, 3) := by decide +kernel
theorem dX11_bound_6 : decode cX11_bound 6 = .ok (.iload_n 2, 1) := by decide +kernel
theorem dX11_bound_7 : decode cX11_bound 7 = .ok (.ifCond .lt 9, 3) := by decide +kernel
theorem dX11_bound_10 : decode cX11_bound 10 = .ok (.iload_n 2, 1) := by decide +kernel
theorem dX11_bound_11 : decode cX11_bound 11 = .ok (.bipush 6, 2) := by decide +kernel
theorem dX11_bound_13 : decode cX11_bound 13 = .ok (.if_icmp .lt 13, 3) := by decide +kernel
theorem dX11_bound_16 : decode cX11_bound 16 = .ok (.new 165, 3) := by decide +kernel
theorem dX11_bound_19 : decode cX11_bound 19 = .ok (.dup, 1) := by decide +kernel
theorem dX11_bound_20 : decode cX11_bound 20 = .ok (.ldc 167, 2) := by decide +kernel
theorem dX11_bound_22 : decode cX11_bound 22 = .ok (.invokespecial 169, 3) := by decide +kernel
theorem dX11_bound_25 : decode cX11_bound 25 = .ok (.athrow, 1) := by decide +kernel
theorem dX11_bound_26 : decode cX11_bound 26 = .ok (.aload_n 0, 1) := by decide +kernel
theorem dX11_bound_27 : decode cX11_bound 27 = .ok (.getfield 37, 3) := by decide +kernel
theorem dX11_bound_30 : decode cX11_bound 30 = .ok (.getfield 152, 3) := by decide +kernel
theorem dX11_bound_33 : decode cX11_bound 33 = .ok (.iload_n 1, 1) := by decide +kernel
theorem dX11_bound_34 : decode cX11_bound 34 = .ok (.aaload, 1) := by decide +kernel
theorem dX11_bound_35 : decode cX11_bound 35 = .ok (.getfield 170, 3) := by decide +kernel
theorem dX11_bound_38 : decode cX11_bound 38 = .ok (.iload_n 2, 1) := by decide +kernel
theorem dX11_bound_39 : decode cX11_bound 39 = .ok (.aaload, 1) := by decide +kernel
theorem dX11_bound_40 : decode cX11_bound 40 = .ok (.iload_n 3, 1) := by decide +kernel
theorem dX11_bound_41 : decode cX11_bound 41 = .ok (.invokestatic 161, 3) := by decide +kernel
theorem dX11_bound_44 : decode cX11_bound 44 = .ok (.ireturn, 1) := by decide +kernel
theorem dX11_steps_0 : decode cX11_steps 0 = .ok (.aload_n 0, 1) := by decide +kernel
theorem dX11_steps_1 : decode cX11_steps 1 = .ok (.iload_n 1, 1) := by decide +kernel
theorem dX11_steps_2 : decode cX11_steps 2 = .ok (.iconst 0, 1) := by decide +kernel
theorem dX11_steps_3 : decode cX11_steps 3 = .ok (.invokevirtual 148, 3) := by decide +kernel
theorem dX11_steps_6 : decode cX11_steps 6 = .ok (.aload_n 0, 1) := by decide +kernel
theorem dX11_steps_7 : decode cX11_steps 7 = .ok (.getfield 37, 3) := by decide +kernel
theorem dX11_steps_10 : decode cX11_steps 10 = .ok (.getfield 152, 3) := by decide +kernel
theorem dX11_steps_13 : decode cX11_steps 13 = .ok (.iload_n 1, 1) := by decide +kernel
theorem dX11_steps_14 : decode cX11_steps 14 = .ok (.aaload, 1) := by decide +kernel
theorem dX11_steps_15 : decode cX11_steps 15 = .ok (.getfield 174, 3) := by decide +kernel
theorem dX11_steps_18 : decode cX11_steps 18 = .ok (.ireturn, 1) := by decide +kernel
theorem dX11_fate_0 : decode cX11_fate 0 = .ok (.aload_n 0, 1) := by decide +kernel
theorem dX11_fate_1 : decode cX11_fate 1 = .ok (.iload_n 1, 1) := by decide +kernel
theorem dX11_fate_2 : decode cX11_fate 2 = .ok (.iload_n 2, 1) := by decide +kernel
theorem dX11_fate_3 : decode cX11_fate 3 = .ok (.invokevirtual 148, 3) := by decide +kernel
theorem dX11_fate_6 : decode cX11_fate 6 = .ok (.aload_n 0, 1) := by decide +kernel
theorem dX11_fate_7 : decode cX11_fate 7 = .ok (.getfield 37, 3) := by decide +kernel
theorem dX11_fate_10 : decode cX11_fate 10 = .ok (.getfield 152, 3) := by decide +kernel
theorem dX11_fate_13 : decode cX11_fate 13 = .ok (.iload_n 1, 1) := by decide +kernel
theorem dX11_fate_14 : decode cX11_fate 14 = .ok (.aaload, 1) := by decide +kernel
theorem dX11_fate_15 : decode cX11_fate 15 = .ok (.getfield 177, 3) := by decide +kernel
theorem dX11_fate_18 : decode cX11_fate 18 = .ok (.iload_n 2, 1) := by decide +kernel
theorem dX11_fate_19 : decode cX11_fate 19 = .ok (.invokestatic 161, 3) := by decide +kernel
theorem dX11_fate_22 : decode cX11_fate 22 = .ok (.ireturn, 1) := by decide +kernel
theorem dX11_within_0 : decode cX11_within 0 = .ok (.iload_n 1, 1) := by decide +kernel
theorem dX11_within_1 : decode cX11_within 1 = .ok (.ifCond .lt 9, 3) := by decide +kernel
theorem dX11_within_4 : decode cX11_within 4 = .ok (.iload_n 1, 1) := by decide +kernel
theorem dX11_within_5 : decode cX11_within 5 = .ok (.bipush 10, 2) := by decide +kernel
theorem dX11_within_7 : decode cX11_within 7 = .ok (.if_icmp .le 13, 3) := by decide +kernel
theorem dX11_within_10 : decode cX11_within 10 = .ok (.new 45, 3) := by decide +kernel
theorem dX11_within_13 : decode cX11_within 13 = .ok (.dup, 1) := by decide +kernel
theorem dX11_within_14 : decode cX11_within 14 = .ok (.ldc 180, 2) := by decide +kernel
theorem dX11_within_16 : decode cX11_within 16 = .ok (.invokespecial 49, 3) := by decide +kernel
theorem dX11_within_19 : decode cX11_within 19 = .ok (.athrow, 1) := by decide +kernel
theorem dX11_within_20 : decode cX11_within 20 = .ok (.aload_n 0, 1) := by decide +kernel
theorem dX11_within_21 : decode cX11_within 21 = .ok (.getfield 41, 3) := by decide +kernel
theorem dX11_within_24 : decode cX11_within 24 = .ok (.ifnonnull 13, 3) := by decide +kernel
theorem dX11_within_27 : decode cX11_within 27 = .ok (.new 56, 3) := by decide +kernel
theorem dX11_within_30 : decode cX11_within 30 = .ok (.dup, 1) := by decide +kernel
theorem dX11_within_31 : decode cX11_within 31 = .ok (.ldc 136, 2) := by decide +kernel
theorem dX11_within_33 : decode cX11_within 33 = .ok (.invokespecial 60, 3) := by decide +kernel
theorem dX11_within_36 : decode cX11_within 36 = .ok (.athrow, 1) := by decide +kernel
theorem dX11_within_37 : decode cX11_within 37 = .ok (.aload_n 0, 1) := by decide +kernel
theorem dX11_within_38 : decode cX11_within 38 = .ok (.getfield 37, 3) := by decide +kernel
theorem dX11_within_41 : decode cX11_within 41 = .ok (.aload_n 0, 1) := by decide +kernel
theorem dX11_within_42 : decode cX11_within 42 = .ok (.getfield 41, 3) := by decide +kernel
theorem dX11_within_45 : decode cX11_within 45 = .ok (.iload_n 1, 1) := by decide +kernel
theorem dX11_within_46 : decode cX11_within 46 = .ok (.invokevirtual 182, 3) := by decide +kernel
theorem dX11_within_49 : decode cX11_within 49 = .ok (.ireturn, 1) := by decide +kernel
theorem dX11_needFunction_0 : decode cX11_needFunction 0 = .ok (.iload_n 1, 1) := by decide +kernel
theorem dX11_needFunction_1 : decode cX11_needFunction 1 = .ok (.ifCond .lt 14, 3) := by decide +kernel
theorem dX11_needFunction_4 : decode cX11_needFunction 4 = .ok (.iload_n 1, 1) := by decide +kernel
theorem dX11_needFunction_5 : decode cX11_needFunction 5 = .ok (.aload_n 0, 1) := by decide +kernel
theorem dX11_needFunction_6 : decode cX11_needFunction 6 = .ok (.getfield 19, 3) := by decide +kernel
theorem dX11_needFunction_9 : decode cX11_needFunction 9 = .ok (.getfield 52, 3) := by decide +kernel
theorem dX11_needFunction_12 : decode cX11_needFunction 12 = .ok (.if_icmp .lt 13, 3) := by decide +kernel
theorem dX11_needFunction_15 : decode cX11_needFunction 15 = .ok (.new 165, 3) := by decide +kernel
theorem dX11_needFunction_18 : decode cX11_needFunction 18 = .ok (.dup, 1) := by decide +kernel
theorem dX11_needFunction_19 : decode cX11_needFunction 19 = .ok (.ldc 186, 2) := by decide +kernel
theorem dX11_needFunction_21 : decode cX11_needFunction 21 = .ok (.invokespecial 169, 3) := by decide +kernel
theorem dX11_needFunction_24 : decode cX11_needFunction 24 = .ok (.athrow, 1) := by decide +kernel
theorem dX11_needFunction_25 : decode cX11_needFunction 25 = .ok (.return_, 1) := by decide +kernel
theorem dX11_needParts_0 : decode cX11_needParts 0 = .ok (.iload_n 1, 1) := by decide +kernel
theorem dX11_needParts_1 : decode cX11_needParts 1 = .ok (.ifCond .le 14, 3) := by decide +kernel
theorem dX11_needParts_4 : decode cX11_needParts 4 = .ok (.aload_n 0, 1) := by decide +kernel
theorem dX11_needParts_5 : decode cX11_needParts 5 = .ok (.getfield 12, 3) := by decide +kernel
theorem dX11_needParts_8 : decode cX11_needParts 8 = .ok (.iload_n 2, 1) := by decide +kernel
theorem dX11_needParts_9 : decode cX11_needParts 9 = .ok (.invokevirtual 188, 3) := by decide +kernel
theorem dX11_needParts_12 : decode cX11_needParts 12 = .ok (.ifCond .eq 19, 3) := by decide +kernel
theorem dX11_needParts_15 : decode cX11_needParts 15 = .ok (.iload_n 1, 1) := by decide +kernel
theorem dX11_needParts_16 : decode cX11_needParts 16 = .ok (.iconst 1, 1) := by decide +kernel
theorem dX11_needParts_17 : decode cX11_needParts 17 = .ok (.if_icmp .le 24, 3) := by decide +kernel
theorem dX11_needParts_20 : decode cX11_needParts 20 = .ok (.aload_n 0, 1) := by decide +kernel
theorem dX11_needParts_21 : decode cX11_needParts 21 = .ok (.getfield 12, 3) := by decide +kernel
theorem dX11_needParts_24 : decode cX11_needParts 24 = .ok (.iload_n 3, 1) := by decide +kernel
theorem dX11_needParts_25 : decode cX11_needParts 25 = .ok (.invokevirtual 188, 3) := by decide +kernel
theorem dX11_needParts_28 : decode cX11_needParts 28 = .ok (.ifCond .ne 13, 3) := by decide +kernel
theorem dX11_needParts_31 : decode cX11_needParts 31 = .ok (.new 165, 3) := by decide +kernel
theorem dX11_needParts_34 : decode cX11_needParts 34 = .ok (.dup, 1) := by decide +kernel
theorem dX11_needParts_35 : decode cX11_needParts 35 = .ok (.ldc 192, 2) := by decide +kernel
theorem dX11_needParts_37 : decode cX11_needParts 37 = .ok (.invokespecial 169, 3) := by decide +kernel
theorem dX11_needParts_40 : decode cX11_needParts 40 = .ok (.athrow, 1) := by decide +kernel
theorem dX11_needParts_41 : decode cX11_needParts 41 = .ok (.return_, 1) := by decide +kernel
theorem dX11_needPlace_0 : decode cX11_needPlace 0 = .ok (.iload_n 1, 1) := by decide +kernel
theorem dX11_needPlace_1 : decode cX11_needPlace 1 = .ok (.ifCond .lt 14, 3) := by decide +kernel
theorem dX11_needPlace_4 : decode cX11_needPlace 4 = .ok (.iload_n 1, 1) := by decide +kernel
theorem dX11_needPlace_5 : decode cX11_needPlace 5 = .ok (.aload_n 0, 1) := by decide +kernel
theorem dX11_needPlace_6 : decode cX11_needPlace 6 = .ok (.getfield 37, 3) := by decide +kernel
theorem dX11_needPlace_9 : decode cX11_needPlace 9 = .ok (.getfield 128, 3) := by decide +kernel
theorem dX11_needPlace_12 : decode cX11_needPlace 12 = .ok (.if_icmp .lt 13, 3) := by decide +kernel
theorem dX11_needPlace_15 : decode cX11_needPlace 15 = .ok (.new 165, 3) := by decide +kernel
theorem dX11_needPlace_18 : decode cX11_needPlace 18 = .ok (.dup, 1) := by decide +kernel
theorem dX11_needPlace_19 : decode cX11_needPlace 19 = .ok (.ldc 194, 2) := by decide +kernel
theorem dX11_needPlace_21 : decode cX11_needPlace 21 = .ok (.invokespecial 169, 3) := by decide +kernel
theorem dX11_needPlace_24 : decode cX11_needPlace 24 = .ok (.athrow, 1) := by decide +kernel
theorem dX11_needPlace_25 : decode cX11_needPlace 25 = .ok (.iload_n 2, 1) := by decide +kernel
theorem dX11_needPlace_26 : decode cX11_needPlace 26 = .ok (.ifCond .ge 13, 3) := by decide +kernel
theorem dX11_needPlace_29 : decode cX11_needPlace 29 = .ok (.new 165, 3) := by decide +kernel
theorem dX11_needPlace_32 : decode cX11_needPlace 32 = .ok (.dup, 1) := by decide +kernel
theorem dX11_needPlace_33 : decode cX11_needPlace 33 = .ok (.ldc 196, 2) := by decide +kernel
theorem dX11_needPlace_35 : decode cX11_needPlace 35 = .ok (.invokespecial 169, 3) := by decide +kernel
theorem dX11_needPlace_38 : decode cX11_needPlace 38 = .ok (.athrow, 1) := by decide +kernel
theorem dX11_needPlace_39 : decode cX11_needPlace 39 = .ok (.return_, 1) := by decide +kernel
theorem dX11_tell_0 : decode cX11_tell 0 = .ok (.aload_n 0, 1) := by decide +kernel
theorem dX11_tell_1 : decode cX11_tell 1 = .ok (.getfield 12, 3) := by decide +kernel
theorem dX11_tell_4 : decode cX11_tell 4 = .ok (.iload_n 3, 1) := by decide +kernel
theorem dX11_tell_5 : decode cX11_tell 5 = .ok (.iload 4, 2) := by decide +kernel
theorem dX11_tell_7 : decode cX11_tell 7 = .ok (.invokevirtual 198, 3) := by decide +kernel
theorem dX11_tell_10 : decode cX11_tell 10 = .ok (.ifCond .ne 13, 3) := by decide +kernel
theorem dX11_tell_13 : decode cX11_tell 13 = .ok (.new 56, 3) := by decide +kernel
theorem dX11_tell_16 : decode cX11_tell 16 = .ok (.dup, 1) := by decide +kernel
theorem dX11_tell_17 : decode cX11_tell 17 = .ok (.ldc 202, 2) := by decide +kernel
theorem dX11_tell_19 : decode cX11_tell 19 = .ok (.invokespecial 60, 3) := by decide +kernel
theorem dX11_tell_22 : decode cX11_tell 22 = .ok (.athrow, 1) := by decide +kernel
theorem dX11_tell_23 : decode cX11_tell 23 = .ok (.aload_n 0, 1) := by decide +kernel
theorem dX11_tell_24 : decode cX11_tell 24 = .ok (.getfield 12, 3) := by decide +kernel
theorem dX11_tell_27 : decode cX11_tell 27 = .ok (.iload_n 1, 1) := by decide +kernel
theorem dX11_tell_28 : decode cX11_tell 28 = .ok (.iload_n 2, 1) := by decide +kernel
theorem dX11_tell_29 : decode cX11_tell 29 = .ok (.iload_n 3, 1) := by decide +kernel
theorem dX11_tell_30 : decode cX11_tell 30 = .ok (.iload 4, 2) := by decide +kernel
theorem dX11_tell_32 : decode cX11_tell 32 = .ok (.invokevirtual 204, 3) := by decide +kernel
theorem dX11_tell_35 : decode cX11_tell 35 = .ok (.ireturn, 1) := by decide +kernel
theorem dX11_numberAt_0 : decode cX11_numberAt 0 = .ok (.iload_n 1, 1) := by decide +kernel
theorem dX11_numberAt_1 : decode cX11_numberAt 1 = .ok (.ifCond .lt 15, 3) := by decide +kernel
theorem dX11_numberAt_4 : decode cX11_numberAt 4 = .ok (.iload_n 1, 1) := by decide +kernel
theorem dX11_numberAt_5 : decode cX11_numberAt 5 = .ok (.aload_n 0, 1) := by decide +kernel
theorem dX11_numberAt_6 : decode cX11_numberAt 6 = .ok (.arraylength, 1) := by decide +kernel
theorem dX11_numberAt_7 : decode cX11_numberAt 7 = .ok (.if_icmp .ge 9, 3) := by decide +kernel
theorem dX11_numberAt_10 : decode cX11_numberAt 10 = .ok (.aload_n 0, 1) := by decide +kernel
theorem dX11_numberAt_11 : decode cX11_numberAt 11 = .ok (.iload_n 1, 1) := by decide +kernel
theorem dX11_numberAt_12 : decode cX11_numberAt 12 = .ok (.iaload, 1) := by decide +kernel
theorem dX11_numberAt_13 : decode cX11_numberAt 13 = .ok (.goto 4, 3) := by decide +kernel
theorem dX11_numberAt_16 : decode cX11_numberAt 16 = .ok (.iconst (-1), 1) := by decide +kernel
theorem dX11_numberAt_17 : decode cX11_numberAt 17 = .ok (.ireturn, 1) := by decide +kernel
theorem dX11_partsOfKind_0 : decode cX11_partsOfKind 0 = .ok (.iload_n 0, 1) := by decide +kernel
theorem dX11_partsOfKind_1 : decode cX11_partsOfKind 1 = .ok (.iconst 1, 1) := by decide +kernel
theorem dX11_partsOfKind_2 : decode cX11_partsOfKind 2 = .ok (.ishr, 1) := by decide +kernel
theorem dX11_partsOfKind_3 : decode cX11_partsOfKind 3 = .ok (.ireturn, 1) := by decide +kernel

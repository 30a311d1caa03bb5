theorem dX11_init_0 : decode cX11_init 0 = .ok (.aload_n 0, 1) := by decide +kernel
theorem dX11_init_1 : decode cX11_init 1 = .ok (.invokespecial 1, 3) := by decide +kernel
theorem dX11_init_4 : decode cX11_init 4 = .ok (.aload_n 0, 1) := by decide +kernel
theorem dX11_init_5 : decode cX11_init 5 = .ok (.bipush 24, 2) := by decide +kernel
theorem dX11_init_7 : decode cX11_init 7 = .ok (.newarray .int, 2) := by decide +kernel
theorem dX11_init_9 : decode cX11_init 9 = .ok (.putfield 7, 3) := by decide +kernel
theorem dX11_init_12 : decode cX11_init 12 = .ok (.aload_n 0, 1) := by decide +kernel
theorem dX11_init_13 : decode cX11_init 13 = .ok (.bipush 24, 2) := by decide +kernel
theorem dX11_init_15 : decode cX11_init 15 = .ok (.newarray .int, 2) := by decide +kernel
theorem dX11_init_17 : decode cX11_init 17 = .ok (.putfield 13, 3) := by decide +kernel
theorem dX11_init_20 : decode cX11_init 20 = .ok (.aload_n 0, 1) := by decide +kernel
theorem dX11_init_21 : decode cX11_init 21 = .ok (.bipush 24, 2) := by decide +kernel
theorem dX11_init_23 : decode cX11_init 23 = .ok (.newarray .int, 2) := by decide +kernel
theorem dX11_init_25 : decode cX11_init 25 = .ok (.putfield 16, 3) := by decide +kernel
theorem dX11_init_28 : decode cX11_init 28 = .ok (.aload_n 0, 1) := by decide +kernel
theorem dX11_init_29 : decode cX11_init 29 = .ok (.bipush 24, 2) := by decide +kernel
theorem dX11_init_31 : decode cX11_init 31 = .ok (.newarray .int, 2) := by decide +kernel
theorem dX11_init_33 : decode cX11_init 33 = .ok (.putfield 19, 3) := by decide +kernel
theorem dX11_init_36 : decode cX11_init 36 = .ok (.aload_n 0, 1) := by decide +kernel
theorem dX11_init_37 : decode cX11_init 37 = .ok (.bipush 24, 2) := by decide +kernel
theorem dX11_init_39 : decode cX11_init 39 = .ok (.newarray .int, 2) := by decide +kernel
theorem dX11_init_41 : decode cX11_init 41 = .ok (.putfield 22, 3) := by decide +kernel
theorem dX11_init_44 : decode cX11_init 44 = .ok (.aload_n 0, 1) := by decide +kernel
theorem dX11_init_45 : decode cX11_init 45 = .ok (.bipush 24, 2) := by decide +kernel
theorem dX11_init_47 : decode cX11_init 47 = .ok (.newarray .int, 2) := by decide +kernel
theorem dX11_init_49 : decode cX11_init 49 = .ok (.putfield 25, 3) := by decide +kernel
theorem dX11_init_52 : decode cX11_init 52 = .ok (.aload_n 0, 1) := by decide +kernel
theorem dX11_init_53 : decode cX11_init 53 = .ok (.bipush 24, 2) := by decide +kernel
theorem dX11_init_55 : decode cX11_init 55 = .ok (.newarray .int, 2) := by decide +kernel
theorem dX11_init_57 : decode cX11_init 57 = .ok (.putfield 28, 3) := by decide +kernel
theorem dX11_init_60 : decode cX11_init 60 = .ok (.aload_n 0, 1) := by decide +kernel
theorem dX11_init_61 : decode cX11_init 61 = .ok (.bipush 24, 2) := by decide +kernel
theorem dX11_init_63 : decode cX11_init 63 = .ok (.newarray .boolean, 2) := by decide +kernel
theorem dX11_init_65 : decode cX11_init 65 = .ok (.putfield 31, 3) := by decide +kernel
theorem dX11_init_68 : decode cX11_init 68 = .ok (.aload_n 0, 1) := by decide +kernel
theorem dX11_init_69 : decode cX11_init 69 = .ok (.bipush 24, 2) := by decide +kernel
theorem dX11_init_71 : decode cX11_init 71 = .ok (.newarray .boolean, 2) := by decide +kernel
theorem dX11_init_73 : decode cX11_init 73 = .ok (.putfield 35, 3) := by decide +kernel
theorem dX11_init_76 : decode cX11_init 76 = .ok (.aload_n 0, 1) := by decide +kernel
theorem dX11_init_77 : decode cX11_init 77 = .ok (.ldc 38, 2) := by decide +kernel
theorem dX11_init_79 : decode cX11_init 79 = .ok (.newarray .int, 2) := by decide +kernel
theorem dX11_init_81 : decode cX11_init 81 = .ok (.putfield 39, 3) := by decide +kernel
theorem dX11_init_84 : decode cX11_init 84 = .ok (.aload_n 0, 1) := by decide +kernel
theorem dX11_init_85 : decode cX11_init 85 = .ok (.ldc 38, 2) := by decide +kernel
theorem dX11_init_87 : decode cX11_init 87 = .ok (.newarray .int, 2) := by decide +kernel
theorem dX11_init_89 : decode cX11_init 89 = .ok (.putfield 42, 3) := by decide +kernel
theorem dX11_init_92 : decode cX11_init 92 = .ok (.aload_n 0, 1) := by decide +kernel
theorem dX11_init_93 : decode cX11_init 93 = .ok (.ldc 38, 2) := by decide +kernel
theorem dX11_init_95 : decode cX11_init 95 = .ok (.newarray .int, 2) := by decide +kernel
theorem dX11_init_97 : decode cX11_init 97 = .ok (.putfield 45, 3) := by decide +kernel
theorem dX11_init_100 : decode cX11_init 100 = .ok (.aload_n 0, 1) := by decide +kernel
theorem dX11_init_101 : decode cX11_init 101 = .ok (.bipush 60, 2) := by decide +kernel
theorem dX11_init_103 : decode cX11_init 103 = .ok (.newarray .int, 2) := by decide +kernel
theorem dX11_init_105 : decode cX11_init 105 = .ok (.putfield 48, 3) := by decide +kernel
theorem dX11_init_108 : decode cX11_init 108 = .ok (.aload_n 0, 1) := by decide +kernel
theorem dX11_init_109 : decode cX11_init 109 = .ok (.bipush 60, 2) := by decide +kernel
theorem dX11_init_111 : decode cX11_init 111 = .ok (.newarray .int, 2) := by decide +kernel
theorem dX11_init_113 : decode cX11_init 113 = .ok (.putfield 51, 3) := by decide +kernel
theorem dX11_init_116 : decode cX11_init 116 = .ok (.aload_n 0, 1) := by decide +kernel
theorem dX11_init_117 : decode cX11_init 117 = .ok (.bipush 60, 2) := by decide +kernel
theorem dX11_init_119 : decode cX11_init 119 = .ok (.newarray .int, 2) := by decide +kernel
theorem dX11_init_121 : decode cX11_init 121 = .ok (.putfield 54, 3) := by decide +kernel
theorem dX11_init_124 : decode cX11_init 124 = .ok (.aload_n 0, 1) := by decide +kernel
theorem dX11_init_125 : decode cX11_init 125 = .ok (.bipush 60, 2) := by decide +kernel
theorem dX11_init_127 : decode cX11_init 127 = .ok (.newarray .int, 2) := by decide +kernel
theorem dX11_init_129 : decode cX11_init 129 = .ok (.putfield 57, 3) := by decide +kernel
theorem dX11_init_132 : decode cX11_init 132 = .ok (.aload_n 0, 1) := by decide +kernel
theorem dX11_init_133 : decode cX11_init 133 = .ok (.bipush 60, 2) := by decide +kernel
theorem dX11_init_135 : decode cX11_init 135 = .ok (.newarray .int, 2) := by decide +kernel
theorem dX11_init_137 : decode cX11_init 137 = .ok (.putfield 60, 3) := by decide +kernel
theorem dX11_init_140 : decode cX11_init 140 = .ok (.aload_n 0, 1) := by decide +kernel
theorem dX11_init_141 : decode cX11_init 141 = .ok (.iconst 4, 1) := by decide +kernel
theorem dX11_init_142 : decode cX11_init 142 = .ok (.newarray .boolean, 2) := by decide +kernel
theorem dX11_init_144 : decode cX11_init 144 = .ok (.putfield 63, 3) := by decide +kernel
theorem dX11_init_147 : decode cX11_init 147 = .ok (.aload_n 0, 1) := by decide +kernel
theorem dX11_init_148 : decode cX11_init 148 = .ok (.iconst 4, 1) := by decide +kernel
theorem dX11_init_149 : decode cX11_init 149 = .ok (.newarray .int, 2) := by decide +kernel
theorem dX11_init_151 : decode cX11_init 151 = .ok (.putfield 66, 3) := by decide +kernel
theorem dX11_init_154 : decode cX11_init 154 = .ok (.aload_n 0, 1) := by decide +kernel
theorem dX11_init_155 : decode cX11_init 155 = .ok (.iconst 4, 1) := by decide +kernel
theorem dX11_init_156 : decode cX11_init 156 = .ok (.newarray .int, 2) := by decide +kernel
theorem dX11_init_158 : decode cX11_init 158 = .ok (.putfield 69, 3) := by decide +kernel
theorem dX11_init_161 : decode cX11_init 161 = .ok (.aload_n 0, 1) := by decide +kernel
theorem dX11_init_162 : decode cX11_init 162 = .ok (.iconst 3, 1) := by decide +kernel
theorem dX11_init_163 : decode cX11_init 163 = .ok (.newarray .boolean, 2) := by decide +kernel
theorem dX11_init_165 : decode cX11_init 165 = .ok (.putfield 72, 3) := by decide +kernel
theorem dX11_init_168 : decode cX11_init 168 = .ok (.aload_n 0, 1) := by decide +kernel
theorem dX11_init_169 : decode cX11_init 169 = .ok (.iconst 4, 1) := by decide +kernel
theorem dX11_init_170 : decode cX11_init 170 = .ok (.newarray .boolean, 2) := by decide +kernel
theorem dX11_init_172 : decode cX11_init 172 = .ok (.putfield 75, 3) := by decide +kernel
theorem dX11_init_175 : decode cX11_init 175 = .ok (.aload_n 0, 1) := by decide +kernel
theorem dX11_init_176 : decode cX11_init 176 = .ok (.iconst 4, 1) := by decide +kernel
theorem dX11_init_177 : decode cX11_init 177 = .ok (.newarray .int, 2) := by decide +kernel
theorem dX11_init_179 : decode cX11_init 179 = .ok (.putfield 78, 3) := by decide +kernel
theorem dX11_init_182 : decode cX11_init 182 = .ok (.aload_n 0, 1) := by decide +kernel
theorem dX11_init_183 : decode cX11_init 183 = .ok (.bipush 96, 2) := by decide +kernel
theorem dX11_init_185 : decode cX11_init 185 = .ok (.newarray .boolean, 2) := by decide +kernel
theorem dX11_init_187 : decode cX11_init 187 = .ok (.putfield 81, 3) := by decide +kernel
theorem dX11_init_190 : decode cX11_init 190 = .ok (.aload_n 0, 1) := by decide +kernel
theorem dX11_init_191 : decode cX11_init 191 = .ok (.bipush 96, 2) := by decide +kernel
theorem dX11_init_193 : decode cX11_init 193 = .ok (.newarray .int, 2) := by decide +kernel
theorem dX11_init_195 : decode cX11_init 195 = .ok (.putfield 84, 3) := by decide +kernel
theorem dX11_init_198 : decode cX11_init 198 = .ok (.aload_n 0, 1) := by decide +kernel
theorem dX11_init_199 : decode cX11_init 199 = .ok (.iconst 4, 1) := by decide +kernel
theorem dX11_init_200 : decode cX11_init 200 = .ok (.newarray .int, 2) := by decide +kernel
theorem dX11_init_202 : decode cX11_init 202 = .ok (.putfield 87, 3) := by decide +kernel
theorem dX11_init_205 : decode cX11_init 205 = .ok (.aload_n 0, 1) := by decide +kernel
theorem dX11_init_206 : decode cX11_init 206 = .ok (.bipush 32, 2) := by decide +kernel
theorem dX11_init_208 : decode cX11_init 208 = .ok (.newarray .int, 2) := by decide +kernel
theorem dX11_init_210 : decode cX11_init 210 = .ok (.putfield 90, 3) := by decide +kernel
theorem dX11_init_213 : decode cX11_init 213 = .ok (.aload_n 0, 1) := by decide +kernel
theorem dX11_init_214 : decode cX11_init 214 = .ok (.bipush 32, 2) := by decide +kernel
theorem dX11_init_216 : decode cX11_init 216 = .ok (.newarray .int, 2) := by decide +kernel
theorem dX11_init_218 : decode cX11_init 218 = .ok (.putfield 93, 3) := by decide +kernel
theorem dX11_init_221 : decode cX11_init 221 = .ok (.aload_n 0, 1) := by decide +kernel
theorem dX11_init_222 : decode cX11_init 222 = .ok (.bipush 32, 2) := by decide +kernel
theorem dX11_init_224 : decode cX11_init 224 = .ok (.newarray .int, 2) := by decide +kernel
theorem dX11_init_226 : decode cX11_init 226 = .ok (.putfield 96, 3) := by decide +kernel
theorem dX11_init_229 : decode cX11_init 229 = .ok (.aload_n 0, 1) := by decide +kernel
theorem dX11_init_230 : decode cX11_init 230 = .ok (.sipush 240, 3) := by decide +kernel
theorem dX11_init_233 : decode cX11_init 233 = .ok (.newarray .boolean, 2) := by decide +kernel
theorem dX11_init_235 : decode cX11_init 235 = .ok (.putfield 99, 3) := by decide +kernel
theorem dX11_init_238 : decode cX11_init 238 = .ok (.aload_n 0, 1) := by decide +kernel
theorem dX11_init_239 : decode cX11_init 239 = .ok (.bipush 12, 2) := by decide +kernel
theorem dX11_init_241 : decode cX11_init 241 = .ok (.newarray .int, 2) := by decide +kernel
theorem dX11_init_243 : decode cX11_init 243 = .ok (.putfield 102, 3) := by decide +kernel
theorem dX11_init_246 : decode cX11_init 246 = .ok (.aload_n 0, 1) := by decide +kernel
theorem dX11_init_247 : decode cX11_init 247 = .ok (.bipush 12, 2) := by decide +kernel
theorem dX11_init_249 : decode cX11_init 249 = .ok (.newarray .int, 2) := by decide +kernel
theorem dX11_init_251 : decode cX11_init 251 = .ok (.putfield 105, 3) := by decide +kernel
theorem dX11_init_254 : decode cX11_init 254 = .ok (.aload_n 0, 1) := by decide +kernel
theorem dX11_init_255 : decode cX11_init 255 = .ok (.bipush 6, 2) := by decide +kernel
theorem dX11_init_257 : decode cX11_init 257 = .ok (.newarray .int, 2) := by decide +kernel
theorem dX11_init_259 : decode cX11_init 259 = .ok (.putfield 108, 3) := by decide +kernel
theorem dX11_init_262 : decode cX11_init 262 = .ok (.aload_n 0, 1) := by decide +kernel
theorem dX11_init_263 : decode cX11_init 263 = .ok (.bipush 72, 2) := by decide +kernel
theorem dX11_init_265 : decode cX11_init 265 = .ok (.newarray .int, 2) := by decide +kernel
theorem dX11_init_267 : decode cX11_init 267 = .ok (.putfield 111, 3) := by decide +kernel
theorem dX11_init_270 : decode cX11_init 270 = .ok (.aload_n 0, 1) := by decide +kernel
theorem dX11_init_271 : decode cX11_init 271 = .ok (.bipush 72, 2) := by decide +kernel
theorem dX11_init_273 : decode cX11_init 273 = .ok (.newarray .int, 2) := by decide +kernel
theorem dX11_init_275 : decode cX11_init 275 = .ok (.putfield 114, 3) := by decide +kernel
theorem dX11_init_278 : decode cX11_init 278 = .ok (.aload_n 0, 1) := by decide +kernel
theorem dX11_init_279 : decode cX11_init 279 = .ok (.bipush 6, 2) := by decide +kernel
theorem dX11_init_281 : decode cX11_init 281 = .ok (.newarray .int, 2) := by decide +kernel
theorem dX11_init_283 : decode cX11_init 283 = .ok (.putfield 117, 3) := by decide +kernel
theorem dX11_init_286 : decode cX11_init 286 = .ok (.aload_n 0, 1) := by decide +kernel
theorem dX11_init_287 : decode cX11_init 287 = .ok (.bipush 6, 2) := by decide +kernel
theorem dX11_init_289 : decode cX11_init 289 = .ok (.newarray .int, 2) := by decide +kernel
theorem dX11_init_291 : decode cX11_init 291 = .ok (.putfield 120, 3) := by decide +kernel
theorem dX11_init_294 : decode cX11_init 294 = .ok (.aload_n 0, 1) := by decide +kernel
theorem dX11_init_295 : decode cX11_init 295 = .ok (.bipush 6, 2) := by decide +kernel
theorem dX11_init_297 : decode cX11_init 297 = .ok (.newarray .int, 2) := by decide +kernel
theorem dX11_init_299 : decode cX11_init 299 = .ok (.putfield 123, 3) := by decide +kernel
theorem dX11_init_302 : decode cX11_init 302 = .ok (.aload_n 0, 1) := by decide +kernel
theorem dX11_init_303 : decode cX11_init 303 = .ok (.bipush 6, 2) := by decide +kernel
theorem dX11_init_305 : decode cX11_init 305 = .ok (.newarray .boolean, 2) := by decide +kernel
theorem dX11_init_307 : decode cX11_init 307 = .ok (.putfield 126, 3) := by decide +kernel
theorem dX11_init_310 : decode cX11_init 310 = .ok (.aload_n 0, 1) := by decide +kernel
theorem dX11_init_311 : decode cX11_init 311 = .ok (.bipush 96, 2) := by decide +kernel
theorem dX11_init_313 : decode cX11_init 313 = .ok (.newarray .int, 2) := by decide +kernel
theorem dX11_init_315 : decode cX11_init 315 = .ok (.putfield 129, 3) := by decide +kernel
theorem dX11_init_318 : decode cX11_init 318 = .ok (.aload_n 0, 1) := by decide +kernel
theorem dX11_init_319 : decode cX11_init 319 = .ok (.bipush 96, 2) := by decide +kernel
theorem dX11_init_321 : decode cX11_init 321 = .ok (.newarray .int, 2) := by decide +kernel
theorem dX11_init_323 : decode cX11_init 323 = .ok (.putfield 132, 3) := by decide +kernel
theorem dX11_init_326 : decode cX11_init 326 = .ok (.aload_n 0, 1) := by decide +kernel
theorem dX11_init_327 : decode cX11_init 327 = .ok (.sipush 288, 3) := by decide +kernel
theorem dX11_init_330 : decode cX11_init 330 = .ok (.newarray .int, 2) := by decide +kernel
theorem dX11_init_332 : decode cX11_init 332 = .ok (.putfield 135, 3) := by decide +kernel
theorem dX11_init_335 : decode cX11_init 335 = .ok (.iconst 0, 1) := by decide +kernel
theorem dX11_init_336 : decode cX11_init 336 = .ok (.istore_n 1, 1) := by decide +kernel
theorem dX11_init_337 : decode cX11_init 337 = .ok (.iload_n 1, 1) := by decide +kernel
theorem dX11_init_338 : decode cX11_init 338 = .ok (.iconst 4, 1) := by decide +kernel
theorem dX11_init_339 : decode cX11_init 339 = .ok (.if_icmp .ge 16, 3) := by decide +kernel
theorem dX11_init_342 : decode cX11_init 342 = .ok (.aload_n 0, 1) := by decide +kernel
theorem dX11_init_343 : decode cX11_init 343 = .ok (.getfield 66, 3) := by decide +kernel
theorem dX11_init_346 : decode cX11_init 346 = .ok (.iload_n 1, 1) := by decide +kernel
theorem dX11_init_347 : decode cX11_init 347 = .ok (.iconst (-1), 1) := by decide +kernel
theorem dX11_init_348 : decode cX11_init 348 = .ok (.iastore, 1) := by decide +kernel
theorem dX11_init_349 : decode cX11_init 349 = .ok (.iinc 1 1, 3) := by decide +kernel
theorem dX11_init_352 : decode cX11_init 352 = .ok (.goto (-15), 3) := by decide +kernel
theorem dX11_init_355 : decode cX11_init 355 = .ok (.return_, 1) := by decide +kernel
theorem dX11_thrown_0 : decode cX11_thrown 0 = .ok (.aload_n 0, 1) := by decide +kernel
theorem dX11_thrown_1 : decode cX11_thrown 1 = .ok (.getfield 138, 3) := by decide +kernel
theorem dX11_thrown_4 : decode cX11_thrown 4 = .ok (.ireturn, 1) := by decide +kernel
theorem dX11_fails_0 : decode cX11_fails 0 = .ok (.aload_n 0, 1) := by decide +kernel
theorem dX11_fails_1 : decode cX11_fails 1 = .ok (.iload_n 1, 1) := by decide +kernel
theorem dX11_fails_2 : decode cX11_fails 2 = .ok (.putfield 138, 3) := by decide +kernel
theorem dX11_fails_5 : decode cX11_fails 5 = .ok (.iload_n 1, 1) := by decide +kernel
theorem dX11_fails_6 : decode cX11_fails 6 = .ok (.ifCond .le 7, 3) := by decide +kernel
theorem dX11_fails_9 : decode cX11_fails 9 = .ok (.iconst 1, 1) := by decide +kernel
theorem dX11_fails_10 : decode cX11_fails 10 = .ok (.goto 4, 3) := by decide +kernel
theorem dX11_fails_13 : decode cX11_fails 13 = .ok (.iconst 0, 1) := by decide +kernel
theorem dX11_fails_14 : decode cX11_fails 14 = .ok (.ireturn, 1) := by decide +kernel
theorem dX11_isIn_0 : decode cX11_isIn 0 = .ok (.iload_n 0, 1) := by decide +kernel
theorem dX11_isIn_1 : decode cX11_isIn 1 = .ok (.iload_n 1, 1) := by decide +kernel
theorem dX11_isIn_2 : decode cX11_isIn 2 = .ok (.if_icmp .lt 12, 3) := by decide +kernel
theorem dX11_isIn_5 : decode cX11_isIn 5 = .ok (.iload_n 0, 1) := by decide +kernel
theorem dX11_isIn_6 : decode cX11_isIn 6 = .ok (.iload_n 2, 1) := by decide +kernel
theorem dX11_isIn_7 : decode cX11_isIn 7 = .ok (.if_icmp .gt 7, 3) := by decide +kernel
theorem dX11_isIn_10 : decode cX11_isIn 10 = .ok (.iconst 1, 1) := by decide +kernel
theorem dX11_isIn_11 : decode cX11_isIn 11 = .ok (.goto 4, 3) := by decide +kernel
theorem dX11_isIn_14 : decode cX11_isIn 14 = .ok (.iconst 0, 1) := by decide +kernel
theorem dX11_isIn_15 : decode cX11_isIn 15 = .ok (.ireturn, 1) := by decide +kernel
theorem dX11_has_0 : decode cX11_has 0 = .ok (.iload_n 0, 1) := by decide +kernel
theorem dX11_has_1 : decode cX11_has 1 = .ok (.iload_n 1, 1) := by decide +kernel
theorem dX11_has_2 : decode cX11_has 2 = .ok (.ishr, 1) := by decide +kernel
theorem dX11_has_3 : decode cX11_has 3 = .ok (.iconst 1, 1) := by decide +kernel
theorem dX11_has_4 : decode cX11_has 4 = .ok (.iand, 1) := by decide +kernel
theorem dX11_has_5 : decode cX11_has 5 = .ok (.iconst 1, 1) := by decide +kernel
theorem dX11_has_6 : decode cX11_has 6 = .ok (.if_icmp .ne 7, 3) := by decide +kernel
theorem dX11_has_9 : decode cX11_has 9 = .ok (.iconst 1, 1) := by decide +kernel
theorem dX11_has_10 : decode cX11_has 10 = .ok (.goto 4, 3) := by decide +kernel
theorem dX11_has_13 : decode cX11_has 13 = .ok (.iconst 0, 1) := by decide +kernel
theorem dX11_has_14 : decode cX11_has 14 = .ok (.ireturn, 1) := by decide +kernel
theorem dX11_size_0 : decode cX11_size 0 = .ok (.iconst 0, 1) := by decide +kernel
theorem dX11_size_1 : decode cX11_size 1 = .ok (.istore_n 1, 1) := by decide +kernel
theorem dX11_size_2 : decode cX11_size 2 = .ok (.iconst 0, 1) := by decide +kernel
theorem dX11_size_3 : decode cX11_size 3 = .ok (.istore_n 2, 1) := by decide +kernel
theorem dX11_size_4 : decode cX11_size 4 = .ok (.iload_n 2, 1) := by decide +kernel
theorem dX11_size_5 : decode cX11_size 5 = .ok (.bipush 24, 2) := by decide +kernel
theorem dX11_size_7 : decode cX11_size 7 = .ok (.if_icmp .ge 25, 3) := by decide +kernel
theorem dX11_size_10 : decode cX11_size 10 = .ok (.iload_n 1, 1) := by decide +kernel
theorem dX11_size_11 : decode cX11_size 11 = .ok (.iload_n 0, 1) := by decide +kernel
theorem dX11_size_12 : decode cX11_size 12 = .ok (.iload_n 2, 1) := by decide +kernel
theorem dX11_size_13 : decode cX11_size 13 = .ok (.invokestatic 142, 3) := by decide +kernel
theorem dX11_size_16 : decode cX11_size 16 = .ok (.ifCond .eq 7, 3) := by decide +kernel
theorem dX11_size_19 : decode cX11_size 19 = .ok (.iconst 1, 1) := by decide +kernel
theorem dX11_size_20 : decode cX11_size 20 = .ok (.goto 4, 3) := by decide +kernel
theorem dX11_size_23 : decode cX11_size 23 = .ok (.iconst 0, 1) := by decide +kernel
theorem dX11_size_24 : decode cX11_size 24 = .ok (.iadd, 1) := by decide +kernel
theorem dX11_size_25 : decode cX11_size 25 = .ok (.istore_n 1, 1) := by decide +kernel
theorem dX11_size_26 : decode cX11_size 26 = .ok (.iinc 2 1, 3) := by decide +kernel
theorem dX11_size_29 : decode cX11_size 29 = .ok (.goto (-25), 3) := by decide +kernel
theorem dX11_size_32 : decode cX11_size 32 = .ok (.iload_n 1, 1) := by decide +kernel
theorem dX11_size_33 : decode cX11_size 33 = .ok (.ireturn, 1) := by decide +kernel
theorem dX11_isLabel_0 : decode cX11_isLabel 0 = .ok (.iload_n 0, 1) := by decide +kernel
theorem dX11_isLabel_1 : decode cX11_isLabel 1 = .ok (.iconst 0, 1) := by decide +kernel
theorem dX11_isLabel_2 : decode cX11_isLabel 2 = .ok (.iconst 3, 1) := by decide +kernel
theorem dX11_isLabel_3 : decode cX11_isLabel 3 = .ok (.invokestatic 146, 3) := by decide +kernel
theorem dX11_isLabel_6 : decode cX11_isLabel 6 = .ok (.ireturn, 1) := by decide +kernel
theorem dX11_isMachine_0 : decode cX11_isMachine 0 = .ok (.iload_n 0, 1) := by decide +kernel
theorem dX11_isMachine_1 : decode cX11_isMachine 1 = .ok (.iconst 0, 1) := by decide +kernel
theorem dX11_isMachine_2 : decode cX11_isMachine 2 = .ok (.iconst 2, 1) := by decide +kernel
theorem dX11_isMachine_3 : decode cX11_isMachine 3 = .ok (.invokestatic 146, 3) := by decide +kernel
theorem dX11_isMachine_6 : decode cX11_isMachine 6 = .ok (.ireturn, 1) := by decide +kernel
theorem dX11_isNode_0 : decode cX11_isNode 0 = .ok (.iload_n 1, 1) := by decide +kernel
theorem dX11_isNode_1 : decode cX11_isNode 1 = .ok (.iconst 0, 1) := by decide +kernel
theorem dX11_isNode_2 : decode cX11_isNode 2 = .ok (.aload_n 0, 1) := by decide +kernel
theorem dX11_isNode_3 : decode cX11_isNode 3 = .ok (.getfield 150, 3) := by decide +kernel
theorem dX11_isNode_6 : decode cX11_isNode 6 = .ok (.iconst 1, 1) := by decide +kernel
theorem dX11_isNode_7 : decode cX11_isNode 7 = .ok (.isub, 1) := by decide +kernel
theorem dX11_isNode_8 : decode cX11_isNode 8 = .ok (.invokestatic 146, 3) := by decide +kernel
theorem dX11_isNode_11 : decode cX11_isNode 11 = .ok (.ifCond .eq 18, 3) := by decide +kernel
theorem dX11_isNode_14 : decode cX11_isNode 14 = .ok (.aload_n 0, 1) := by decide +kernel
theorem dX11_isNode_15 : decode cX11_isNode 15 = .ok (.getfield 22, 3) := by decide +kernel
theorem dX11_isNode_18 : decode cX11_isNode 18 = .ok (.iload_n 1, 1) := by decide +kernel
theorem dX11_isNode_19 : decode cX11_isNode 19 = .ok (.iaload, 1) := by decide +kernel
theorem dX11_isNode_20 : decode cX11_isNode 20 = .ok (.ldc 153, 2) := by decide +kernel
theorem dX11_isNode_22 : decode cX11_isNode 22 = .ok (.if_icmp .ne 7, 3) := by decide +kernel
theorem dX11_isNode_25 : decode cX11_isNode 25 = .ok (.iconst 1, 1) := by decide +kernel
theorem dX11_isNode_26 : decode cX11_isNode 26 = .ok (.goto 4, 3) := by decide +kernel
theorem dX11_isNode_29 : decode cX11_isNode 29 = .ok (.iconst 0, 1) := by decide +kernel
theorem dX11_isNode_30 : decode cX11_isNode 30 = .ok (.ireturn, 1) := by decide +kernel
theorem dX11_isEdge_0 : decode cX11_isEdge 0 = .ok (.iload_n 1, 1) := by decide +kernel
theorem dX11_isEdge_1 : decode cX11_isEdge 1 = .ok (.iconst 0, 1) := by decide +kernel
theorem dX11_isEdge_2 : decode cX11_isEdge 2 = .ok (.aload_n 0, 1) := by decide +kernel
theorem dX11_isEdge_3 : decode cX11_isEdge 3 = .ok (.getfield 154, 3) := by decide +kernel
theorem dX11_isEdge_6 : decode cX11_isEdge 6 = .ok (.iconst 1, 1) := by decide +kernel
theorem dX11_isEdge_7 : decode cX11_isEdge 7 = .ok (.isub, 1) := by decide +kernel
theorem dX11_isEdge_8 : decode cX11_isEdge 8 = .ok (.invokestatic 146, 3) := by decide +kernel
theorem dX11_isEdge_11 : decode cX11_isEdge 11 = .ok (.ifCond .eq 18, 3) := by decide +kernel
theorem dX11_isEdge_14 : decode cX11_isEdge 14 = .ok (.aload_n 0, 1) := by decide +kernel
theorem dX11_isEdge_15 : decode cX11_isEdge 15 = .ok (.getfield 60, 3) := by decide +kernel
theorem dX11_isEdge_18 : decode cX11_isEdge 18 = .ok (.iload_n 1, 1) := by decide +kernel
theorem dX11_isEdge_19 : decode cX11_isEdge 19 = .ok (.iaload, 1) := by decide +kernel
theorem dX11_isEdge_20 : decode cX11_isEdge 20 = .ok (.ldc 153, 2) := by decide +kernel
theorem dX11_isEdge_22 : decode cX11_isEdge 22 = .ok (.if_icmp .ne 7, 3) := by decide +kernel
theorem dX11_isEdge_25 : decode cX11_isEdge 25 = .ok (.iconst 1, 1) := by decide +kernel
theorem dX11_isEdge_26 : decode cX11_isEdge 26 = .ok (.goto 4, 3) := by decide +kernel
theorem dX11_isEdge_29 : decode cX11_isEdge 29 = .ok (.iconst 0, 1) := by decide +kernel
theorem dX11_isEdge_30 : decode cX11_isEdge 30 = .ok (.ireturn, 1) := by decide +kernel
theorem dX11_wasThere_0 : decode cX11_wasThere 0 = .ok (.iload_n 0, 1) := by decide +kernel
theorem dX11_wasThere_1 : decode cX11_wasThere 1 = .ok (.iload_n 2, 1) := by decide +kernel
theorem dX11_wasThere_2 : decode cX11_wasThere 2 = .ok (.if_icmp .gt 12, 3) := by decide +kernel
theorem dX11_wasThere_5 : decode cX11_wasThere 5 = .ok (.iload_n 2, 1) := by decide +kernel
theorem dX11_wasThere_6 : decode cX11_wasThere 6 = .ok (.iload_n 1, 1) := by decide +kernel
theorem dX11_wasThere_7 : decode cX11_wasThere 7 = .ok (.if_icmp .ge 7, 3) := by decide +kernel
theorem dX11_wasThere_10 : decode cX11_wasThere 10 = .ok (.iconst 1, 1) := by decide +kernel
theorem dX11_wasThere_11 : decode cX11_wasThere 11 = .ok (.goto 4, 3) := by decide +kernel
theorem dX11_wasThere_14 : decode cX11_wasThere 14 = .ok (.iconst 0, 1) := by decide +kernel
theorem dX11_wasThere_15 : decode cX11_wasThere 15 = .ok (.ireturn, 1) := by decide +kernel
theorem dX11_notes_0 : decode cX11_notes 0 = .ok (.aload_n 0, 1) := by decide +kernel
theorem dX11_notes_1 : decode cX11_notes 1 = .ok (.getfield 13, 3) := by decide +kernel
theorem dX11_notes_4 : decode cX11_notes 4 = .ok (.iload_n 1, 1) := by decide +kernel
theorem dX11_notes_5 : decode cX11_notes 5 = .ok (.iload_n 2, 1) := by decide +kernel
theorem dX11_notes_6 : decode cX11_notes 6 = .ok (.iastore, 1) := by decide +kernel
theorem dX11_notes_7 : decode cX11_notes 7 = .ok (.aload_n 0, 1) := by decide +kernel
theorem dX11_notes_8 : decode cX11_notes 8 = .ok (.getfield 39, 3) := by decide +kernel
theorem dX11_notes_11 : decode cX11_notes 11 = .ok (.aload_n 0, 1) := by decide +kernel
theorem dX11_notes_12 : decode cX11_notes 12 = .ok (.getfield 157, 3) := by decide +kernel
theorem dX11_notes_15 : decode cX11_notes 15 = .ok (.iload_n 1, 1) := by decide +kernel
theorem dX11_notes_16 : decode cX11_notes 16 = .ok (.iastore, 1) := by decide +kernel
theorem dX11_notes_17 : decode cX11_notes 17 = .ok (.aload_n 0, 1) := by decide +kernel
theorem dX11_notes_18 : decode cX11_notes 18 = .ok (.getfield 42, 3) := by decide +kernel
theorem dX11_notes_21 : decode cX11_notes 21 = .ok (.aload_n 0, 1) := by decide +kernel
theorem dX11_notes_22 : decode cX11_notes 22 = .ok (.getfield 157, 3) := by decide +kernel
theorem dX11_notes_25 : decode cX11_notes 25 = .ok (.aload_n 0, 1) := by decide +kernel
theorem dX11_notes_26 : decode cX11_notes 26 = .ok (.getfield 160, 3) := by decide +kernel
theorem dX11_notes_29 : decode cX11_notes 29 = .ok (.iastore, 1) := by decide +kernel
theorem dX11_notes_30 : decode cX11_notes 30 = .ok (.aload_n 0, 1) := by decide +kernel
theorem dX11_notes_31 : decode cX11_notes 31 = .ok (.getfield 45, 3) := by decide +kernel
theorem dX11_notes_34 : decode cX11_notes 34 = .ok (.aload_n 0, 1) := by decide +kernel
theorem dX11_notes_35 : decode cX11_notes 35 = .ok (.getfield 157, 3) := by decide +kernel
theorem dX11_notes_38 : decode cX11_notes 38 = .ok (.iload_n 2, 1) := by decide +kernel
theorem dX11_notes_39 : decode cX11_notes 39 = .ok (.iastore, 1) := by decide +kernel
theorem dX11_notes_40 : decode cX11_notes 40 = .ok (.aload_n 0, 1) := by decide +kernel
theorem dX11_notes_41 : decode cX11_notes 41 = .ok (.dup, 1) := by decide +kernel
theorem dX11_notes_42 : decode cX11_notes 42 = .ok (.getfield 157, 3) := by decide +kernel
theorem dX11_notes_45 : decode cX11_notes 45 = .ok (.iconst 1, 1) := by decide +kernel
theorem dX11_notes_46 : decode cX11_notes 46 = .ok (.iadd, 1) := by decide +kernel
theorem dX11_notes_47 : decode cX11_notes 47 = .ok (.putfield 157, 3) := by decide +kernel
theorem dX11_notes_50 : decode cX11_notes 50 = .ok (.aload_n 0, 1) := by decide +kernel
theorem dX11_notes_51 : decode cX11_notes 51 = .ok (.getfield 25, 3) := by decide +kernel
theorem dX11_notes_54 : decode cX11_notes 54 = .ok (.iload_n 1, 1) := by decide +kernel
theorem dX11_notes_55 : decode cX11_notes 55 = .ok (.aload_n 0, 1) := by decide +kernel
theorem dX11_notes_56 : decode cX11_notes 56 = .ok (.getfield 160, 3) := by decide +kernel
theorem dX11_notes_59 : decode cX11_notes 59 = .ok (.iastore, 1) := by decide +kernel
theorem dX11_notes_60 : decode cX11_notes 60 = .ok (.return_, 1) := by decide +kernel
theorem dX11_valueThen_0 : decode cX11_valueThen 0 = .ok (.iconst 0, 1) := by decide +kernel
theorem dX11_valueThen_1 : decode cX11_valueThen 1 = .ok (.istore_n 3, 1) := by decide +kernel
theorem dX11_valueThen_2 : decode cX11_valueThen 2 = .ok (.iconst 0, 1) := by decide +kernel
theorem dX11_valueThen_3 : decode cX11_valueThen 3 = .ok (.istore 4, 2) := by decide +kernel
theorem dX11_valueThen_5 : decode cX11_valueThen 5 = .ok (.iload 4, 2) := by decide +kernel
theorem dX11_valueThen_7 : decode cX11_valueThen 7 = .ok (.aload_n 0, 1) := by decide +kernel
theorem dX11_valueThen_8 : decode cX11_valueThen 8 = .ok (.getfield 157, 3) := by decide +kernel
theorem dX11_valueThen_11 : decode cX11_valueThen 11 = .ok (.if_icmp .ge 43, 3) := by decide +kernel
theorem dX11_valueThen_14 : decode cX11_valueThen 14 = .ok (.aload_n 0, 1) := by decide +kernel
theorem dX11_valueThen_15 : decode cX11_valueThen 15 = .ok (.getfield 39, 3) := by decide +kernel
theorem dX11_valueThen_18 : decode cX11_valueThen 18 = .ok (.iload 4, 2) := by decide +kernel
theorem dX11_valueThen_20 : decode cX11_valueThen 20 = .ok (.iaload, 1) := by decide +kernel
theorem dX11_valueThen_21 : decode cX11_valueThen 21 = .ok (.iload_n 1, 1) := by decide +kernel
theorem dX11_valueThen_22 : decode cX11_valueThen 22 = .ok (.if_icmp .ne 24, 3) := by decide +kernel
theorem dX11_valueThen_25 : decode cX11_valueThen 25 = .ok (.aload_n 0, 1) := by decide +kernel
theorem dX11_valueThen_26 : decode cX11_valueThen 26 = .ok (.getfield 42, 3) := by decide +kernel
theorem dX11_valueThen_29 : decode cX11_valueThen 29 = .ok (.iload 4, 2) := by decide +kernel
theorem dX11_valueThen_31 : decode cX11_valueThen 31 = .ok (.iaload, 1) := by decide +kernel
theorem dX11_valueThen_32 : decode cX11_valueThen 32 = .ok (.iload_n 2, 1) := by decide +kernel
theorem dX11_valueThen_33 : decode cX11_valueThen 33 = .ok (.if_icmp .gt 13, 3) := by decide +kernel
theorem dX11_valueThen_36 : decode cX11_valueThen 36 = .ok (.aload_n 0, 1) := by decide +kernel
theorem dX11_valueThen_37 : decode cX11_valueThen 37 = .ok (.getfield 45, 3) := by decide +kernel
theorem dX11_valueThen_40 : decode cX11_valueThen 40 = .ok (.iload 4, 2) := by decide +kernel
theorem dX11_valueThen_42 : decode cX11_valueThen 42 = .ok (.iaload, 1) := by decide +kernel
theorem dX11_valueThen_43 : decode cX11_valueThen 43 = .ok (.goto 4, 3) := by decide +kernel
theorem dX11_valueThen_46 : decode cX11_valueThen 46 = .ok (.iload_n 3, 1) := by decide +kernel
theorem dX11_valueThen_47 : decode cX11_valueThen 47 = .ok (.istore_n 3, 1) := by decide +kernel
theorem dX11_valueThen_48 : decode cX11_valueThen 48 = .ok (.iinc 4 1, 3) := by decide +kernel
theorem dX11_valueThen_51 : decode cX11_valueThen 51 = .ok (.goto (-46), 3) := by decide +kernel
theorem dX11_valueThen_54 : decode cX11_valueThen 54 = .ok (.iload_n 3, 1) := by decide +kernel
theorem dX11_valueThen_55 : decode cX11_valueThen 55 = .ok (.ireturn, 1) := by decide +kernel
theorem dX11_breaksKey_0 : decode cX11_breaksKey 0 = .ok (.iconst 0, 1) := by decide +kernel
theorem dX11_breaksKey_1 : decode cX11_breaksKey 1 = .ok (.istore 4, 2) := by decide +kernel
theorem dX11_breaksKey_3 : decode cX11_breaksKey 3 = .ok (.iconst 0, 1) := by decide +kernel
theorem dX11_breaksKey_4 : decode cX11_breaksKey 4 = .ok (.istore 5, 2) := by decide +kernel
theorem dX11_breaksKey_6 : decode cX11_breaksKey 6 = .ok (.iload 5, 2) := by decide +kernel
theorem dX11_breaksKey_8 : decode cX11_breaksKey 8 = .ok (.aload_n 0, 1) := by decide +kernel
theorem dX11_breaksKey_9 : decode cX11_breaksKey 9 = .ok (.getfield 150, 3) := by decide +kernel
theorem dX11_breaksKey_12 : decode cX11_breaksKey 12 = .ok (.if_icmp .ge 58, 3) := by decide +kernel
theorem dX11_breaksKey_15 : decode cX11_breaksKey 15 = .ok (.iload 4, 2) := by decide +kernel
theorem dX11_breaksKey_17 : decode cX11_breaksKey 17 = .ok (.ifCond .ne 40, 3) := by decide +kernel
theorem dX11_breaksKey_20 : decode cX11_breaksKey 20 = .ok (.iload 5, 2) := by decide +kernel
theorem dX11_breaksKey_22 : decode cX11_breaksKey 22 = .ok (.iload_n 1, 1) := by decide +kernel
theorem dX11_breaksKey_23 : decode cX11_breaksKey 23 = .ok (.if_icmp .eq 38, 3) := by decide +kernel
theorem dX11_breaksKey_26 : decode cX11_breaksKey 26 = .ok (.aload_n 0, 1) := by decide +kernel
theorem dX11_breaksKey_27 : decode cX11_breaksKey 27 = .ok (.iload 5, 2) := by decide +kernel
theorem dX11_breaksKey_29 : decode cX11_breaksKey 29 = .ok (.invokevirtual 163, 3) := by decide +kernel
theorem dX11_breaksKey_32 : decode cX11_breaksKey 32 = .ok (.ifCond .eq 29, 3) := by decide +kernel
theorem dX11_breaksKey_35 : decode cX11_breaksKey 35 = .ok (.aload_n 0, 1) := by decide +kernel
theorem dX11_breaksKey_36 : decode cX11_breaksKey 36 = .ok (.getfield 7, 3) := by decide +kernel
theorem dX11_breaksKey_39 : decode cX11_breaksKey 39 = .ok (.iload 5, 2) := by decide +kernel
theorem dX11_breaksKey_41 : decode cX11_breaksKey 41 = .ok (.iaload, 1) := by decide +kernel
theorem dX11_breaksKey_42 : decode cX11_breaksKey 42 = .ok (.iload_n 2, 1) := by decide +kernel
theorem dX11_breaksKey_43 : decode cX11_breaksKey 43 = .ok (.if_icmp .ne 18, 3) := by decide +kernel
theorem dX11_breaksKey_46 : decode cX11_breaksKey 46 = .ok (.aload_n 0, 1) := by decide +kernel
theorem dX11_breaksKey_47 : decode cX11_breaksKey 47 = .ok (.getfield 13, 3) := by decide +kernel
theorem dX11_breaksKey_50 : decode cX11_breaksKey 50 = .ok (.iload 5, 2) := by decide +kernel
theorem dX11_breaksKey_52 : decode cX11_breaksKey 52 = .ok (.iaload, 1) := by decide +kernel
theorem dX11_breaksKey_53 : decode cX11_breaksKey 53 = .ok (.iload_n 3, 1) := by decide +kernel
theorem dX11_breaksKey_54 : decode cX11_breaksKey 54 = .ok (.if_icmp .ne 7, 3) := by decide +kernel
theorem dX11_breaksKey_57 : decode cX11_breaksKey 57 = .ok (.iconst 1, 1) := by decide +kernel
theorem dX11_breaksKey_58 : decode cX11_breaksKey 58 = .ok (.goto 4, 3) := by decide +kernel
theorem dX11_breaksKey_61 : decode cX11_breaksKey 61 = .ok (.iconst 0, 1) := by decide +kernel
theorem dX11_breaksKey_62 : decode cX11_breaksKey 62 = .ok (.istore 4, 2) := by decide +kernel
theorem dX11_breaksKey_64 : decode cX11_breaksKey 64 = .ok (.iinc 5 1, 3) := by decide +kernel
theorem dX11_breaksKey_67 : decode cX11_breaksKey 67 = .ok (.goto (-61), 3) := by decide +kernel
theorem dX11_breaksKey_70 : decode cX11_breaksKey 70 = .ok (.aload_n 0, 1) := by decide +kernel
theorem dX11_breaksKey_71 : decode cX11_breaksKey 71 = .ok (.getfield 63, 3) := by decide +kernel
theorem dX11_breaksKey_74 : decode cX11_breaksKey 74 = .ok (.iload_n 2, 1) := by decide +kernel
theorem dX11_breaksKey_75 : decode cX11_breaksKey 75 = .ok (.baload, 1) := by decide +kernel
theorem dX11_breaksKey_76 : decode cX11_breaksKey 76 = .ok (.ifCond .eq 12, 3) := by decide +kernel
theorem dX11_breaksKey_79 : decode cX11_breaksKey 79 = .ok (.iload 4, 2) := by decide +kernel
theorem dX11_breaksKey_81 : decode cX11_breaksKey 81 = .ok (.ifCond .eq 7, 3) := by decide +kernel
theorem dX11_breaksKey_84 : decode cX11_breaksKey 84 = .ok (.iconst 1, 1) := by decide +kernel
theorem dX11_breaksKey_85 : decode cX11_breaksKey 85 = .ok (.goto 4, 3) := by decide +kernel
theorem dX11_breaksKey_88 : decode cX11_breaksKey 88 = .ok (.iconst 0, 1) := by decide +kernel
theorem dX11_breaksKey_89 : decode cX11_breaksKey 89 = .ok (.ireturn, 1) := by decide +kernel
theorem dX11_nodesOn_0 : decode cX11_nodesOn 0 = .ok (.iconst 0, 1) := by decide +kernel
theorem dX11_nodesOn_1 : decode cX11_nodesOn 1 = .ok (.istore_n 2, 1) := by decide +kernel
theorem dX11_nodesOn_2 : decode cX11_nodesOn 2 = .ok (.iconst 0, 1) := by decide +kernel
theorem dX11_nodesOn_3 : decode cX11_nodesOn 3 = .ok (.istore_n 3, 1) := by decide +kernel
theorem dX11_nodesOn_4 : decode cX11_nodesOn 4 = .ok (.iload_n 3, 1) := by decide +kernel
theorem dX11_nodesOn_5 : decode cX11_nodesOn 5 = .ok (.aload_n 0, 1) := by decide +kernel
theorem dX11_nodesOn_6 : decode cX11_nodesOn 6 = .ok (.getfield 150, 3) := by decide +kernel
theorem dX11_nodesOn_9 : decode cX11_nodesOn 9 = .ok (.if_icmp .ge 35, 3) := by decide +kernel
theorem dX11_nodesOn_12 : decode cX11_nodesOn 12 = .ok (.iload_n 2, 1) := by decide +kernel
theorem dX11_nodesOn_13 : decode cX11_nodesOn 13 = .ok (.aload_n 0, 1) := by decide +kernel
theorem dX11_nodesOn_14 : decode cX11_nodesOn 14 = .ok (.iload_n 3, 1) := by decide +kernel
theorem dX11_nodesOn_15 : decode cX11_nodesOn 15 = .ok (.invokevirtual 163, 3) := by decide +kernel
theorem dX11_nodesOn_18 : decode cX11_nodesOn 18 = .ok (.ifCond .eq 17, 3) := by decide +kernel
theorem dX11_nodesOn_21 : decode cX11_nodesOn 21 = .ok (.aload_n 0, 1) := by decide +kernel
theorem dX11_nodesOn_22 : decode cX11_nodesOn 22 = .ok (.getfield 16, 3) := by decide +kernel
theorem dX11_nodesOn_25 : decode cX11_nodesOn 25 = .ok (.iload_n 3, 1) := by decide +kernel
theorem dX11_nodesOn_26 : decode cX11_nodesOn 26 = .ok (.iaload, 1) := by decide +kernel
theorem dX11_nodesOn_27 : decode cX11_nodesOn 27 = .ok (.iload_n 1, 1) := by decide +kernel
theorem dX11_nodesOn_28 : decode cX11_nodesOn 28 = .ok (.if_icmp .ne 7, 3) := by decide +kernel
theorem dX11_nodesOn_31 : decode cX11_nodesOn 31 = .ok (.iconst 1, 1) := by decide +kernel
theorem dX11_nodesOn_32 : decode cX11_nodesOn 32 = .ok (.goto 4, 3) := by decide +kernel
theorem dX11_nodesOn_35 : decode cX11_nodesOn 35 = .ok (.iconst 0, 1) := by decide +kernel
theorem dX11_nodesOn_36 : decode cX11_nodesOn 36 = .ok (.iadd, 1) := by decide +kernel
theorem dX11_nodesOn_37 : decode cX11_nodesOn 37 = .ok (.istore_n 2, 1) := by decide +kernel
theorem dX11_nodesOn_38 : decode cX11_nodesOn 38 = .ok (.iinc 3 1, 3) := by decide +kernel
theorem dX11_nodesOn_41 : decode cX11_nodesOn 41 = .ok (.goto (-37), 3) := by decide +kernel
theorem dX11_nodesOn_44 : decode cX11_nodesOn 44 = .ok (.iload_n 2, 1) := by decide +kernel
theorem dX11_nodesOn_45 : decode cX11_nodesOn 45 = .ok (.ireturn, 1) := by decide +kernel
theorem dX11_emptiest_0 : decode cX11_emptiest 0 = .ok (.iconst (-1), 1) := by decide +kernel
theorem dX11_emptiest_1 : decode cX11_emptiest 1 = .ok (.istore_n 1, 1) := by decide +kernel
theorem dX11_emptiest_2 : decode cX11_emptiest 2 = .ok (.iconst 0, 1) := by decide +kernel
theorem dX11_emptiest_3 : decode cX11_emptiest 3 = .ok (.istore_n 2, 1) := by decide +kernel
theorem dX11_emptiest_4 : decode cX11_emptiest 4 = .ok (.iload_n 2, 1) := by decide +kernel
theorem dX11_emptiest_5 : decode cX11_emptiest 5 = .ok (.iconst 3, 1) := by decide +kernel
theorem dX11_emptiest_6 : decode cX11_emptiest 6 = .ok (.if_icmp .ge 42, 3) := by decide +kernel
theorem dX11_emptiest_9 : decode cX11_emptiest 9 = .ok (.aload_n 0, 1) := by decide +kernel
theorem dX11_emptiest_10 : decode cX11_emptiest 10 = .ok (.getfield 72, 3) := by decide +kernel
theorem dX11_emptiest_13 : decode cX11_emptiest 13 = .ok (.iload_n 2, 1) := by decide +kernel
theorem dX11_emptiest_14 : decode cX11_emptiest 14 = .ok (.baload, 1) := by decide +kernel
theorem dX11_emptiest_15 : decode cX11_emptiest 15 = .ok (.ifCond .ne 25, 3) := by decide +kernel
theorem dX11_emptiest_18 : decode cX11_emptiest 18 = .ok (.iload_n 1, 1) := by decide +kernel
theorem dX11_emptiest_19 : decode cX11_emptiest 19 = .ok (.iconst (-1), 1) := by decide +kernel
theorem dX11_emptiest_20 : decode cX11_emptiest 20 = .ok (.if_icmp .eq 16, 3) := by decide +kernel
theorem dX11_emptiest_23 : decode cX11_emptiest 23 = .ok (.aload_n 0, 1) := by decide +kernel
theorem dX11_emptiest_24 : decode cX11_emptiest 24 = .ok (.iload_n 2, 1) := by decide +kernel
theorem dX11_emptiest_25 : decode cX11_emptiest 25 = .ok (.invokevirtual 167, 3) := by decide +kernel
theorem dX11_emptiest_28 : decode cX11_emptiest 28 = .ok (.aload_n 0, 1) := by decide +kernel
theorem dX11_emptiest_29 : decode cX11_emptiest 29 = .ok (.iload_n 1, 1) := by decide +kernel
theorem dX11_emptiest_30 : decode cX11_emptiest 30 = .ok (.invokevirtual 167, 3) := by decide +kernel
theorem dX11_emptiest_33 : decode cX11_emptiest 33 = .ok (.if_icmp .ge 7, 3) := by decide +kernel
theorem dX11_emptiest_36 : decode cX11_emptiest 36 = .ok (.iload_n 2, 1) := by decide +kernel
theorem dX11_emptiest_37 : decode cX11_emptiest 37 = .ok (.goto 4, 3) := by decide +kernel
theorem dX11_emptiest_40 : decode cX11_emptiest 40 = .ok (.iload_n 1, 1) := by decide +kernel
theorem dX11_emptiest_41 : decode cX11_emptiest 41 = .ok (.istore_n 1, 1) := by decide +kernel
theorem dX11_emptiest_42 : decode cX11_emptiest 42 = .ok (.iinc 2 1, 3) := by decide +kernel
theorem dX11_emptiest_45 : decode cX11_emptiest 45 = .ok (.goto (-41), 3) := by decide +kernel
theorem dX11_emptiest_48 : decode cX11_emptiest 48 = .ok (.iload_n 1, 1) := by decide +kernel
theorem dX11_emptiest_49 : decode cX11_emptiest 49 = .ok (.ireturn, 1) := by decide +kernel
theorem dX11_node_0 : decode cX11_node 0 = .ok (.iload_n 1, 1) := by decide +kernel
theorem dX11_node_1 : decode cX11_node 1 = .ok (.invokestatic 171, 3) := by decide +kernel
theorem dX11_node_4 : decode cX11_node 4 = .ok (.ifCond .eq 34, 3) := by decide +kernel
theorem dX11_node_7 : decode cX11_node 7 = .ok (.aload_n 0, 1) := by decide +kernel
theorem dX11_node_8 : decode cX11_node 8 = .ok (.getfield 150, 3) := by decide +kernel
theorem dX11_node_11 : decode cX11_node 11 = .ok (.bipush 24, 2) := by decide +kernel
theorem dX11_node_13 : decode cX11_node 13 = .ok (.if_icmp .ge 25, 3) := by decide +kernel
theorem dX11_node_16 : decode cX11_node 16 = .ok (.aload_n 0, 1) := by decide +kernel
theorem dX11_node_17 : decode cX11_node 17 = .ok (.invokevirtual 174, 3) := by decide +kernel
theorem dX11_node_20 : decode cX11_node 20 = .ok (.iconst (-1), 1) := by decide +kernel
theorem dX11_node_21 : decode cX11_node 21 = .ok (.if_icmp .eq 17, 3) := by decide +kernel
theorem dX11_node_24 : decode cX11_node 24 = .ok (.aload_n 0, 1) := by decide +kernel
theorem dX11_node_25 : decode cX11_node 25 = .ok (.iconst (-1), 1) := by decide +kernel
theorem dX11_node_26 : decode cX11_node 26 = .ok (.iload_n 1, 1) := by decide +kernel
theorem dX11_node_27 : decode cX11_node 27 = .ok (.iload_n 2, 1) := by decide +kernel
theorem dX11_node_28 : decode cX11_node 28 = .ok (.invokevirtual 178, 3) := by decide +kernel
theorem dX11_node_31 : decode cX11_node 31 = .ok (.ifCond .ne 7, 3) := by decide +kernel
theorem dX11_node_34 : decode cX11_node 34 = .ok (.iconst 1, 1) := by decide +kernel
theorem dX11_node_35 : decode cX11_node 35 = .ok (.goto 4, 3) := by decide +kernel
theorem dX11_node_38 : decode cX11_node 38 = .ok (.iconst 0, 1) := by decide +kernel
theorem dX11_node_39 : decode cX11_node 39 = .ok (.istore_n 3, 1) := by decide +kernel
theorem dX11_node_40 : decode cX11_node 40 = .ok (.aload_n 0, 1) := by decide +kernel
theorem dX11_node_41 : decode cX11_node 41 = .ok (.iload_n 1, 1) := by decide +kernel
theorem dX11_node_42 : decode cX11_node 42 = .ok (.invokestatic 171, 3) := by decide +kernel
theorem dX11_node_45 : decode cX11_node 45 = .ok (.ifCond .ne 7, 3) := by decide +kernel
theorem dX11_node_48 : decode cX11_node 48 = .ok (.iconst 1, 1) := by decide +kernel
theorem dX11_node_49 : decode cX11_node 49 = .ok (.goto 12, 3) := by decide +kernel
theorem dX11_node_52 : decode cX11_node 52 = .ok (.iload_n 3, 1) := by decide +kernel
theorem dX11_node_53 : decode cX11_node 53 = .ok (.ifCond .eq 7, 3) := by decide +kernel
theorem dX11_node_56 : decode cX11_node 56 = .ok (.iconst 0, 1) := by decide +kernel
theorem dX11_node_57 : decode cX11_node 57 = .ok (.goto 4, 3) := by decide +kernel
theorem dX11_node_60 : decode cX11_node 60 = .ok (.iconst 2, 1) := by decide +kernel
theorem dX11_node_61 : decode cX11_node 61 = .ok (.invokevirtual 181, 3) := by decide +kernel
theorem dX11_node_64 : decode cX11_node 64 = .ok (.ifCond .eq 5, 3) := by decide +kernel
theorem dX11_node_67 : decode cX11_node 67 = .ok (.iconst 0, 1) := by decide +kernel
theorem dX11_node_68 : decode cX11_node 68 = .ok (.ireturn, 1) := by decide +kernel
theorem dX11_node_69 : decode cX11_node 69 = .ok (.aload_n 0, 1) := by decide +kernel
theorem dX11_node_70 : decode cX11_node 70 = .ok (.getfield 150, 3) := by decide +kernel
theorem dX11_node_73 : decode cX11_node 73 = .ok (.istore 4, 2) := by decide +kernel
theorem dX11_node_75 : decode cX11_node 75 = .ok (.aload_n 0, 1) := by decide +kernel
theorem dX11_node_76 : decode cX11_node 76 = .ok (.invokevirtual 174, 3) := by decide +kernel
theorem dX11_node_79 : decode cX11_node 79 = .ok (.istore 5, 2) := by decide +kernel
theorem dX11_node_81 : decode cX11_node 81 = .ok (.aload_n 0, 1) := by decide +kernel
theorem dX11_node_82 : decode cX11_node 82 = .ok (.dup, 1) := by decide +kernel
theorem dX11_node_83 : decode cX11_node 83 = .ok (.getfield 160, 3) := by decide +kernel
theorem dX11_node_86 : decode cX11_node 86 = .ok (.iconst 1, 1) := by decide +kernel
theorem dX11_node_87 : decode cX11_node 87 = .ok (.iadd, 1) := by decide +kernel
theorem dX11_node_88 : decode cX11_node 88 = .ok (.putfield 160, 3) := by decide +kernel
theorem dX11_node_91 : decode cX11_node 91 = .ok (.aload_n 0, 1) := by decide +kernel
theorem dX11_node_92 : decode cX11_node 92 = .ok (.getfield 7, 3) := by decide +kernel
theorem dX11_node_95 : decode cX11_node 95 = .ok (.iload 4, 2) := by decide +kernel
theorem dX11_node_97 : decode cX11_node 97 = .ok (.iload_n 1, 1) := by decide +kernel
theorem dX11_node_98 : decode cX11_node 98 = .ok (.iastore, 1) := by decide +kernel
theorem dX11_node_99 : decode cX11_node 99 = .ok (.aload_n 0, 1) := by decide +kernel
theorem dX11_node_100 : decode cX11_node 100 = .ok (.getfield 16, 3) := by decide +kernel
theorem dX11_node_103 : decode cX11_node 103 = .ok (.iload 4, 2) := by decide +kernel
theorem dX11_node_105 : decode cX11_node 105 = .ok (.iload 5, 2) := by decide +kernel
theorem dX11_node_107 : decode cX11_node 107 = .ok (.iastore, 1) := by decide +kernel
theorem dX11_node_108 : decode cX11_node 108 = .ok (.aload_n 0, 1) := by decide +kernel
theorem dX11_node_109 : decode cX11_node 109 = .ok (.getfield 19, 3) := by decide +kernel
theorem dX11_node_112 : decode cX11_node 112 = .ok (.iload 4, 2) := by decide +kernel
theorem dX11_node_114 : decode cX11_node 114 = .ok (.aload_n 0, 1) := by decide +kernel
theorem dX11_node_115 : decode cX11_node 115 = .ok (.getfield 160, 3) := by decide +kernel
theorem dX11_node_118 : decode cX11_node 118 = .ok (.iastore, 1) := by decide +kernel
theorem dX11_node_119 : decode cX11_node 119 = .ok (.aload_n 0, 1) := by decide +kernel
theorem dX11_node_120 : decode cX11_node 120 = .ok (.getfield 22, 3) := by decide +kernel
theorem dX11_node_123 : decode cX11_node 123 = .ok (.iload 4, 2) := by decide +kernel
theorem dX11_node_125 : decode cX11_node 125 = .ok (.ldc 153, 2) := by decide +kernel
theorem dX11_node_127 : decode cX11_node 127 = .ok (.iastore, 1) := by decide +kernel
theorem dX11_node_128 : decode cX11_node 128 = .ok (.aload_n 0, 1) := by decide +kernel
theorem dX11_node_129 : decode cX11_node 129 = .ok (.getfield 28, 3) := by decide +kernel
theorem dX11_node_132 : decode cX11_node 132 = .ok (.iload 4, 2) := by decide +kernel
theorem dX11_node_134 : decode cX11_node 134 = .ok (.iload 4, 2) := by decide +kernel
theorem dX11_node_136 : decode cX11_node 136 = .ok (.iastore, 1) := by decide +kernel
theorem dX11_node_137 : decode cX11_node 137 = .ok (.aload_n 0, 1) := by decide +kernel
theorem dX11_node_138 : decode cX11_node 138 = .ok (.getfield 31, 3) := by decide +kernel
theorem dX11_node_141 : decode cX11_node 141 = .ok (.iload 4, 2) := by decide +kernel
theorem dX11_node_143 : decode cX11_node 143 = .ok (.iconst 1, 1) := by decide +kernel
theorem dX11_node_144 : decode cX11_node 144 = .ok (.bastore, 1) := by decide +kernel
theorem dX11_node_145 : decode cX11_node 145 = .ok (.aload_n 0, 1) := by decide +kernel
theorem dX11_node_146 : decode cX11_node 146 = .ok (.dup, 1) := by decide +kernel
theorem dX11_node_147 : decode cX11_node 147 = .ok (.getfield 150, 3) := by decide +kernel
theorem dX11_node_150 : decode cX11_node 150 = .ok (.iconst 1, 1) := by decide +kernel
theorem dX11_node_151 : decode cX11_node 151 = .ok (.iadd, 1) := by decide +kernel
theorem dX11_node_152 : decode cX11_node 152 = .ok (.putfield 150, 3) := by decide +kernel
theorem dX11_node_155 : decode cX11_node 155 = .ok (.aload_n 0, 1) := by decide +kernel
theorem dX11_node_156 : decode cX11_node 156 = .ok (.iload 4, 2) := by decide +kernel
theorem dX11_node_158 : decode cX11_node 158 = .ok (.iload_n 2, 1) := by decide +kernel
theorem dX11_node_159 : decode cX11_node 159 = .ok (.invokevirtual 184, 3) := by decide +kernel
theorem dX11_node_162 : decode cX11_node 162 = .ok (.iload 4, 2) := by decide +kernel
theorem dX11_node_164 : decode cX11_node 164 = .ok (.ireturn, 1) := by decide +kernel
theorem dX11_fitsShape_0 : decode cX11_fitsShape 0 = .ok (.aload_n 0, 1) := by decide +kernel
theorem dX11_fitsShape_1 : decode cX11_fitsShape 1 = .ok (.getfield 66, 3) := by decide +kernel
theorem dX11_fitsShape_4 : decode cX11_fitsShape 4 = .ok (.iload_n 1, 1) := by decide +kernel
theorem dX11_fitsShape_5 : decode cX11_fitsShape 5 = .ok (.iaload, 1) := by decide +kernel
theorem dX11_fitsShape_6 : decode cX11_fitsShape 6 = .ok (.iconst (-1), 1) := by decide +kernel
theorem dX11_fitsShape_7 : decode cX11_fitsShape 7 = .ok (.if_icmp .eq 33, 3) := by decide +kernel
theorem dX11_fitsShape_10 : decode cX11_fitsShape 10 = .ok (.aload_n 0, 1) := by decide +kernel
theorem dX11_fitsShape_11 : decode cX11_fitsShape 11 = .ok (.getfield 7, 3) := by decide +kernel
theorem dX11_fitsShape_14 : decode cX11_fitsShape 14 = .ok (.iload_n 2, 1) := by decide +kernel
theorem dX11_fitsShape_15 : decode cX11_fitsShape 15 = .ok (.iaload, 1) := by decide +kernel
theorem dX11_fitsShape_16 : decode cX11_fitsShape 16 = .ok (.aload_n 0, 1) := by decide +kernel
theorem dX11_fitsShape_17 : decode cX11_fitsShape 17 = .ok (.getfield 66, 3) := by decide +kernel
theorem dX11_fitsShape_20 : decode cX11_fitsShape 20 = .ok (.iload_n 1, 1) := by decide +kernel
theorem dX11_fitsShape_21 : decode cX11_fitsShape 21 = .ok (.iaload, 1) := by decide +kernel
theorem dX11_fitsShape_22 : decode cX11_fitsShape 22 = .ok (.if_icmp .ne 22, 3) := by decide +kernel
theorem dX11_fitsShape_25 : decode cX11_fitsShape 25 = .ok (.aload_n 0, 1) := by decide +kernel
theorem dX11_fitsShape_26 : decode cX11_fitsShape 26 = .ok (.getfield 7, 3) := by decide +kernel
theorem dX11_fitsShape_29 : decode cX11_fitsShape 29 = .ok (.iload_n 3, 1) := by decide +kernel
theorem dX11_fitsShape_30 : decode cX11_fitsShape 30 = .ok (.iaload, 1) := by decide +kernel
theorem dX11_fitsShape_31 : decode cX11_fitsShape 31 = .ok (.aload_n 0, 1) := by decide +kernel
theorem dX11_fitsShape_32 : decode cX11_fitsShape 32 = .ok (.getfield 69, 3) := by decide +kernel
theorem dX11_fitsShape_35 : decode cX11_fitsShape 35 = .ok (.iload_n 1, 1) := by decide +kernel
theorem dX11_fitsShape_36 : decode cX11_fitsShape 36 = .ok (.iaload, 1) := by decide +kernel
theorem dX11_fitsShape_37 : decode cX11_fitsShape 37 = .ok (.if_icmp .ne 7, 3) := by decide +kernel
theorem dX11_fitsShape_40 : decode cX11_fitsShape 40 = .ok (.iconst 1, 1) := by decide +kernel
theorem dX11_fitsShape_41 : decode cX11_fitsShape 41 = .ok (.goto 4, 3) := by decide +kernel
theorem dX11_fitsShape_44 : decode cX11_fitsShape 44 = .ok (.iconst 0, 1) := by decide +kernel
theorem dX11_fitsShape_45 : decode cX11_fitsShape 45 = .ok (.ireturn, 1) := by decide +kernel
theorem dX11_adds_0 : decode cX11_adds 0 = .ok (.aload_n 0, 1) := by decide +kernel
theorem dX11_adds_1 : decode cX11_adds 1 = .ok (.getfield 48, 3) := by decide +kernel
theorem dX11_adds_4 : decode cX11_adds 4 = .ok (.aload_n 0, 1) := by decide +kernel
theorem dX11_adds_5 : decode cX11_adds 5 = .ok (.getfield 154, 3) := by decide +kernel
theorem dX11_adds_8 : decode cX11_adds 8 = .ok (.iload_n 1, 1) := by decide +kernel
theorem dX11_adds_9 : decode cX11_adds 9 = .ok (.iastore, 1) := by decide +kernel
theorem dX11_adds_10 : decode cX11_adds 10 = .ok (.aload_n 0, 1) := by decide +kernel
theorem dX11_adds_11 : decode cX11_adds 11 = .ok (.getfield 51, 3) := by decide +kernel
theorem dX11_adds_14 : decode cX11_adds 14 = .ok (.aload_n 0, 1) := by decide +kernel
theorem dX11_adds_15 : decode cX11_adds 15 = .ok (.getfield 154, 3) := by decide +kernel
theorem dX11_adds_18 : decode cX11_adds 18 = .ok (.iload_n 3, 1) := by decide +kernel
theorem dX11_adds_19 : decode cX11_adds 19 = .ok (.iastore, 1) := by decide +kernel
theorem dX11_adds_20 : decode cX11_adds 20 = .ok (.aload_n 0, 1) := by decide +kernel
theorem dX11_adds_21 : decode cX11_adds 21 = .ok (.getfield 54, 3) := by decide +kernel
theorem dX11_adds_24 : decode cX11_adds 24 = .ok (.aload_n 0, 1) := by decide +kernel
theorem dX11_adds_25 : decode cX11_adds 25 = .ok (.getfield 154, 3) := by decide +kernel
theorem dX11_adds_28 : decode cX11_adds 28 = .ok (.iload_n 2, 1) := by decide +kernel
theorem dX11_adds_29 : decode cX11_adds 29 = .ok (.iastore, 1) := by decide +kernel
theorem dX11_adds_30 : decode cX11_adds 30 = .ok (.aload_n 0, 1) := by decide +kernel
theorem dX11_adds_31 : decode cX11_adds 31 = .ok (.getfield 57, 3) := by decide +kernel
theorem dX11_adds_34 : decode cX11_adds 34 = .ok (.aload_n 0, 1) := by decide +kernel
theorem dX11_adds_35 : decode cX11_adds 35 = .ok (.getfield 154, 3) := by decide +kernel
theorem dX11_adds_38 : decode cX11_adds 38 = .ok (.aload_n 0, 1) := by decide +kernel
theorem dX11_adds_39 : decode cX11_adds 39 = .ok (.getfield 160, 3) := by decide +kernel
theorem dX11_adds_42 : decode cX11_adds 42 = .ok (.iastore, 1) := by decide +kernel
theorem dX11_adds_43 : decode cX11_adds 43 = .ok (.aload_n 0, 1) := by decide +kernel
theorem dX11_adds_44 : decode cX11_adds 44 = .ok (.getfield 60, 3) := by decide +kernel
theorem dX11_adds_47 : decode cX11_adds 47 = .ok (.aload_n 0, 1) := by decide +kernel
theorem dX11_adds_48 : decode cX11_adds 48 = .ok (.getfield 154, 3) := by decide +kernel
theorem dX11_adds_51 : decode cX11_adds 51 = .ok (.ldc 153, 2) := by decide +kernel
theorem dX11_adds_53 : decode cX11_adds 53 = .ok (.iastore, 1) := by decide +kernel
theorem dX11_adds_54 : decode cX11_adds 54 = .ok (.aload_n 0, 1) := by decide +kernel
theorem dX11_adds_55 : decode cX11_adds 55 = .ok (.dup, 1) := by decide +kernel
theorem dX11_adds_56 : decode cX11_adds 56 = .ok (.getfield 154, 3) := by decide +kernel
theorem dX11_adds_59 : decode cX11_adds 59 = .ok (.iconst 1, 1) := by decide +kernel
theorem dX11_adds_60 : decode cX11_adds 60 = .ok (.iadd, 1) := by decide +kernel
theorem dX11_adds_61 : decode cX11_adds 61 = .ok (.putfield 154, 3) := by decide +kernel
theorem dX11_adds_64 : decode cX11_adds 64 = .ok (.aload_n 0, 1) := by decide +kernel
theorem dX11_adds_65 : decode cX11_adds 65 = .ok (.getfield 25, 3) := by decide +kernel
theorem dX11_adds_68 : decode cX11_adds 68 = .ok (.iload_n 1, 1) := by decide +kernel
theorem dX11_adds_69 : decode cX11_adds 69 = .ok (.aload_n 0, 1) := by decide +kernel
theorem dX11_adds_70 : decode cX11_adds 70 = .ok (.getfield 160, 3) := by decide +kernel
theorem dX11_adds_73 : decode cX11_adds 73 = .ok (.iastore, 1) := by decide +kernel
theorem dX11_adds_74 : decode cX11_adds 74 = .ok (.aload_n 0, 1) := by decide +kernel
theorem dX11_adds_75 : decode cX11_adds 75 = .ok (.getfield 25, 3) := by decide +kernel
theorem dX11_adds_78 : decode cX11_adds 78 = .ok (.iload_n 3, 1) := by decide +kernel
theorem dX11_adds_79 : decode cX11_adds 79 = .ok (.aload_n 0, 1) := by decide +kernel
theorem dX11_adds_80 : decode cX11_adds 80 = .ok (.getfield 160, 3) := by decide +kernel
theorem dX11_adds_83 : decode cX11_adds 83 = .ok (.iastore, 1) := by decide +kernel
theorem dX11_adds_84 : decode cX11_adds 84 = .ok (.aload_n 0, 1) := by decide +kernel
theorem dX11_adds_85 : decode cX11_adds 85 = .ok (.getfield 31, 3) := by decide +kernel
theorem dX11_adds_88 : decode cX11_adds 88 = .ok (.iload_n 1, 1) := by decide +kernel
theorem dX11_adds_89 : decode cX11_adds 89 = .ok (.iconst 1, 1) := by decide +kernel
theorem dX11_adds_90 : decode cX11_adds 90 = .ok (.bastore, 1) := by decide +kernel
theorem dX11_adds_91 : decode cX11_adds 91 = .ok (.aload_n 0, 1) := by decide +kernel
theorem dX11_adds_92 : decode cX11_adds 92 = .ok (.getfield 31, 3) := by decide +kernel
theorem dX11_adds_95 : decode cX11_adds 95 = .ok (.iload_n 3, 1) := by decide +kernel
theorem dX11_adds_96 : decode cX11_adds 96 = .ok (.iconst 1, 1) := by decide +kernel
theorem dX11_adds_97 : decode cX11_adds 97 = .ok (.bastore, 1) := by decide +kernel
theorem dX11_adds_98 : decode cX11_adds 98 = .ok (.aload_n 0, 1) := by decide +kernel
theorem dX11_adds_99 : decode cX11_adds 99 = .ok (.getfield 154, 3) := by decide +kernel
theorem dX11_adds_102 : decode cX11_adds 102 = .ok (.iconst 1, 1) := by decide +kernel
theorem dX11_adds_103 : decode cX11_adds 103 = .ok (.isub, 1) := by decide +kernel
theorem dX11_adds_104 : decode cX11_adds 104 = .ok (.ireturn, 1) := by decide +kernel
theorem dX11_edge_0 : decode cX11_edge 0 = .ok (.aload_n 0, 1) := by decide +kernel
theorem dX11_edge_1 : decode cX11_edge 1 = .ok (.iload_n 1, 1) := by decide +kernel
theorem dX11_edge_2 : decode cX11_edge 2 = .ok (.invokevirtual 163, 3) := by decide +kernel
theorem dX11_edge_5 : decode cX11_edge 5 = .ok (.ifCond .eq 22, 3) := by decide +kernel
theorem dX11_edge_8 : decode cX11_edge 8 = .ok (.aload_n 0, 1) := by decide +kernel
theorem dX11_edge_9 : decode cX11_edge 9 = .ok (.iload_n 3, 1) := by decide +kernel
theorem dX11_edge_10 : decode cX11_edge 10 = .ok (.invokevirtual 163, 3) := by decide +kernel
theorem dX11_edge_13 : decode cX11_edge 13 = .ok (.ifCond .eq 14, 3) := by decide +kernel
theorem dX11_edge_16 : decode cX11_edge 16 = .ok (.iload_n 2, 1) := by decide +kernel
theorem dX11_edge_17 : decode cX11_edge 17 = .ok (.invokestatic 171, 3) := by decide +kernel
theorem dX11_edge_20 : decode cX11_edge 20 = .ok (.ifCond .eq 7, 3) := by decide +kernel
theorem dX11_edge_23 : decode cX11_edge 23 = .ok (.iconst 1, 1) := by decide +kernel
theorem dX11_edge_24 : decode cX11_edge 24 = .ok (.goto 4, 3) := by decide +kernel
theorem dX11_edge_27 : decode cX11_edge 27 = .ok (.iconst 0, 1) := by decide +kernel
theorem dX11_edge_28 : decode cX11_edge 28 = .ok (.istore 4, 2) := by decide +kernel
theorem dX11_edge_30 : decode cX11_edge 30 = .ok (.aload_n 0, 1) := by decide +kernel
theorem dX11_edge_31 : decode cX11_edge 31 = .ok (.iload 4, 2) := by decide +kernel
theorem dX11_edge_33 : decode cX11_edge 33 = .ok (.ifCond .ne 7, 3) := by decide +kernel
theorem dX11_edge_36 : decode cX11_edge 36 = .ok (.iconst 1, 1) := by decide +kernel
theorem dX11_edge_37 : decode cX11_edge 37 = .ok (.goto 27, 3) := by decide +kernel
theorem dX11_edge_40 : decode cX11_edge 40 = .ok (.aload_n 0, 1) := by decide +kernel
theorem dX11_edge_41 : decode cX11_edge 41 = .ok (.getfield 154, 3) := by decide +kernel
theorem dX11_edge_44 : decode cX11_edge 44 = .ok (.bipush 60, 2) := by decide +kernel
theorem dX11_edge_46 : decode cX11_edge 46 = .ok (.if_icmp .eq 13, 3) := by decide +kernel
theorem dX11_edge_49 : decode cX11_edge 49 = .ok (.aload_n 0, 1) := by decide +kernel
theorem dX11_edge_50 : decode cX11_edge 50 = .ok (.iload_n 2, 1) := by decide +kernel
theorem dX11_edge_51 : decode cX11_edge 51 = .ok (.iload_n 1, 1) := by decide +kernel
theorem dX11_edge_52 : decode cX11_edge 52 = .ok (.iload_n 3, 1) := by decide +kernel
theorem dX11_edge_53 : decode cX11_edge 53 = .ok (.invokevirtual 188, 3) := by decide +kernel
theorem dX11_edge_56 : decode cX11_edge 56 = .ok (.ifCond .ne 7, 3) := by decide +kernel
theorem dX11_edge_59 : decode cX11_edge 59 = .ok (.iconst 2, 1) := by decide +kernel
theorem dX11_edge_60 : decode cX11_edge 60 = .ok (.goto 4, 3) := by decide +kernel
theorem dX11_edge_63 : decode cX11_edge 63 = .ok (.iconst 0, 1) := by decide +kernel
theorem dX11_edge_64 : decode cX11_edge 64 = .ok (.invokevirtual 181, 3) := by decide +kernel
theorem dX11_edge_67 : decode cX11_edge 67 = .ok (.ifCond .eq 5, 3) := by decide +kernel
theorem dX11_edge_70 : decode cX11_edge 70 = .ok (.iconst 0, 1) := by decide +kernel
theorem dX11_edge_71 : decode cX11_edge 71 = .ok (.ireturn, 1) := by decide +kernel
theorem dX11_edge_72 : decode cX11_edge 72 = .ok (.aload_n 0, 1) := by decide +kernel
theorem dX11_edge_73 : decode cX11_edge 73 = .ok (.dup, 1) := by decide +kernel
theorem dX11_edge_74 : decode cX11_edge 74 = .ok (.getfield 160, 3) := by decide +kernel
theorem dX11_edge_77 : decode cX11_edge 77 = .ok (.iconst 1, 1) := by decide +kernel
theorem dX11_edge_78 : decode cX11_edge 78 = .ok (.iadd, 1) := by decide +kernel
theorem dX11_edge_79 : decode cX11_edge 79 = .ok (.putfield 160, 3) := by decide +kernel
theorem dX11_edge_82 : decode cX11_edge 82 = .ok (.aload_n 0, 1) := by decide +kernel
theorem dX11_edge_83 : decode cX11_edge 83 = .ok (.iload_n 1, 1) := by decide +kernel
theorem dX11_edge_84 : decode cX11_edge 84 = .ok (.iload_n 2, 1) := by decide +kernel
theorem dX11_edge_85 : decode cX11_edge 85 = .ok (.iload_n 3, 1) := by decide +kernel
theorem dX11_edge_86 : decode cX11_edge 86 = .ok (.invokevirtual 191, 3) := by decide +kernel
theorem dX11_edge_89 : decode cX11_edge 89 = .ok (.ireturn, 1) := by decide +kernel
theorem dX11_set_0 : decode cX11_set 0 = .ok (.aload_n 0, 1) := by decide +kernel
theorem dX11_set_1 : decode cX11_set 1 = .ok (.iload_n 1, 1) := by decide +kernel
theorem dX11_set_2 : decode cX11_set 2 = .ok (.invokevirtual 163, 3) := by decide +kernel
theorem dX11_set_5 : decode cX11_set 5 = .ok (.istore_n 3, 1) := by decide +kernel
theorem dX11_set_6 : decode cX11_set 6 = .ok (.aload_n 0, 1) := by decide +kernel
theorem dX11_set_7 : decode cX11_set 7 = .ok (.iload_n 3, 1) := by decide +kernel
theorem dX11_set_8 : decode cX11_set 8 = .ok (.ifCond .ne 7, 3) := by decide +kernel
theorem dX11_set_11 : decode cX11_set 11 = .ok (.iconst 1, 1) := by decide +kernel
theorem dX11_set_12 : decode cX11_set 12 = .ok (.goto 23, 3) := by decide +kernel
theorem dX11_set_15 : decode cX11_set 15 = .ok (.aload_n 0, 1) := by decide +kernel
theorem dX11_set_16 : decode cX11_set 16 = .ok (.iload_n 1, 1) := by decide +kernel
theorem dX11_set_17 : decode cX11_set 17 = .ok (.aload_n 0, 1) := by decide +kernel
theorem dX11_set_18 : decode cX11_set 18 = .ok (.getfield 7, 3) := by decide +kernel
theorem dX11_set_21 : decode cX11_set 21 = .ok (.iload_n 1, 1) := by decide +kernel
theorem dX11_set_22 : decode cX11_set 22 = .ok (.iaload, 1) := by decide +kernel
theorem dX11_set_23 : decode cX11_set 23 = .ok (.iload_n 2, 1) := by decide +kernel
theorem dX11_set_24 : decode cX11_set 24 = .ok (.invokevirtual 178, 3) := by decide +kernel
theorem dX11_set_27 : decode cX11_set 27 = .ok (.ifCond .eq 7, 3) := by decide +kernel
theorem dX11_set_30 : decode cX11_set 30 = .ok (.iconst 2, 1) := by decide +kernel
theorem dX11_set_31 : decode cX11_set 31 = .ok (.goto 4, 3) := by decide +kernel
theorem dX11_set_34 : decode cX11_set 34 = .ok (.iconst 0, 1) := by decide +kernel
theorem dX11_set_35 : decode cX11_set 35 = .ok (.invokevirtual 181, 3) := by decide +kernel
theorem dX11_set_38 : decode cX11_set 38 = .ok (.ifCond .eq 5, 3) := by decide +kernel
theorem dX11_set_41 : decode cX11_set 41 = .ok (.iconst 0, 1) := by decide +kernel
theorem dX11_set_42 : decode cX11_set 42 = .ok (.ireturn, 1) := by decide +kernel
theorem dX11_set_43 : decode cX11_set 43 = .ok (.aload_n 0, 1) := by decide +kernel
theorem dX11_set_44 : decode cX11_set 44 = .ok (.getfield 13, 3) := by decide +kernel
theorem dX11_set_47 : decode cX11_set 47 = .ok (.iload_n 1, 1) := by decide +kernel
theorem dX11_set_48 : decode cX11_set 48 = .ok (.iaload, 1) := by decide +kernel
theorem dX11_set_49 : decode cX11_set 49 = .ok (.istore 4, 2) := by decide +kernel
theorem dX11_set_51 : decode cX11_set 51 = .ok (.aload_n 0, 1) := by decide +kernel
theorem dX11_set_52 : decode cX11_set 52 = .ok (.dup, 1) := by decide +kernel
theorem dX11_set_53 : decode cX11_set 53 = .ok (.getfield 160, 3) := by decide +kernel
theorem dX11_set_56 : decode cX11_set 56 = .ok (.iconst 1, 1) := by decide +kernel
theorem dX11_set_57 : decode cX11_set 57 = .ok (.iadd, 1) := by decide +kernel
theorem dX11_set_58 : decode cX11_set 58 = .ok (.putfield 160, 3) := by decide +kernel
theorem dX11_set_61 : decode cX11_set 61 = .ok (.aload_n 0, 1) := by decide +kernel
theorem dX11_set_62 : decode cX11_set 62 = .ok (.iload_n 1, 1) := by decide +kernel
theorem dX11_set_63 : decode cX11_set 63 = .ok (.iload_n 2, 1) := by decide +kernel
theorem dX11_set_64 : decode cX11_set 64 = .ok (.invokevirtual 184, 3) := by decide +kernel
theorem dX11_set_67 : decode cX11_set 67 = .ok (.iload 4, 2) := by decide +kernel
theorem dX11_set_69 : decode cX11_set 69 = .ok (.ireturn, 1) := by decide +kernel
theorem dX11_wakes_0 : decode cX11_wakes 0 = .ok (.iconst 0, 1) := by decide +kernel
theorem dX11_wakes_1 : decode cX11_wakes 1 = .ok (.istore_n 1, 1) := by decide +kernel
theorem dX11_wakes_2 : decode cX11_wakes 2 = .ok (.iload_n 1, 1) := by decide +kernel
theorem dX11_wakes_3 : decode cX11_wakes 3 = .ok (.aload_n 0, 1) := by decide +kernel
theorem dX11_wakes_4 : decode cX11_wakes 4 = .ok (.getfield 150, 3) := by decide +kernel
theorem dX11_wakes_7 : decode cX11_wakes 7 = .ok (.if_icmp .ge 27, 3) := by decide +kernel
theorem dX11_wakes_10 : decode cX11_wakes 10 = .ok (.aload_n 0, 1) := by decide +kernel
theorem dX11_wakes_11 : decode cX11_wakes 11 = .ok (.getfield 28, 3) := by decide +kernel
theorem dX11_wakes_14 : decode cX11_wakes 14 = .ok (.iload_n 1, 1) := by decide +kernel
theorem dX11_wakes_15 : decode cX11_wakes 15 = .ok (.iload_n 1, 1) := by decide +kernel
theorem dX11_wakes_16 : decode cX11_wakes 16 = .ok (.iastore, 1) := by decide +kernel
theorem dX11_wakes_17 : decode cX11_wakes 17 = .ok (.aload_n 0, 1) := by decide +kernel
theorem dX11_wakes_18 : decode cX11_wakes 18 = .ok (.getfield 31, 3) := by decide +kernel
theorem dX11_wakes_21 : decode cX11_wakes 21 = .ok (.iload_n 1, 1) := by decide +kernel
theorem dX11_wakes_22 : decode cX11_wakes 22 = .ok (.aload_n 0, 1) := by decide +kernel
theorem dX11_wakes_23 : decode cX11_wakes 23 = .ok (.iload_n 1, 1) := by decide +kernel
theorem dX11_wakes_24 : decode cX11_wakes 24 = .ok (.invokevirtual 163, 3) := by decide +kernel
theorem dX11_wakes_27 : decode cX11_wakes 27 = .ok (.bastore, 1) := by decide +kernel
theorem dX11_wakes_28 : decode cX11_wakes 28 = .ok (.iinc 1 1, 3) := by decide +kernel
theorem dX11_wakes_31 : decode cX11_wakes 31 = .ok (.goto (-29), 3) := by decide +kernel
theorem dX11_wakes_34 : decode cX11_wakes 34 = .ok (.return_, 1) := by decide +kernel
theorem dX11_drops_0 : decode cX11_drops 0 = .ok (.aload_n 0, 1) := by decide +kernel
theorem dX11_drops_1 : decode cX11_drops 1 = .ok (.getfield 60, 3) := by decide +kernel
theorem dX11_drops_4 : decode cX11_drops 4 = .ok (.iload_n 1, 1) := by decide +kernel
theorem dX11_drops_5 : decode cX11_drops 5 = .ok (.aload_n 0, 1) := by decide +kernel
theorem dX11_drops_6 : decode cX11_drops 6 = .ok (.getfield 160, 3) := by decide +kernel
theorem dX11_drops_9 : decode cX11_drops 9 = .ok (.iastore, 1) := by decide +kernel
theorem dX11_drops_10 : decode cX11_drops 10 = .ok (.aload_n 0, 1) := by decide +kernel
theorem dX11_drops_11 : decode cX11_drops 11 = .ok (.getfield 25, 3) := by decide +kernel
theorem dX11_drops_14 : decode cX11_drops 14 = .ok (.aload_n 0, 1) := by decide +kernel
theorem dX11_drops_15 : decode cX11_drops 15 = .ok (.getfield 48, 3) := by decide +kernel
theorem dX11_drops_18 : decode cX11_drops 18 = .ok (.iload_n 1, 1) := by decide +kernel
theorem dX11_drops_19 : decode cX11_drops 19 = .ok (.iaload, 1) := by decide +kernel
theorem dX11_drops_20 : decode cX11_drops 20 = .ok (.aload_n 0, 1) := by decide +kernel
theorem dX11_drops_21 : decode cX11_drops 21 = .ok (.getfield 160, 3) := by decide +kernel
theorem dX11_drops_24 : decode cX11_drops 24 = .ok (.iastore, 1) := by decide +kernel
theorem dX11_drops_25 : decode cX11_drops 25 = .ok (.aload_n 0, 1) := by decide +kernel
theorem dX11_drops_26 : decode cX11_drops 26 = .ok (.getfield 25, 3) := by decide +kernel
theorem dX11_drops_29 : decode cX11_drops 29 = .ok (.aload_n 0, 1) := by decide +kernel
theorem dX11_drops_30 : decode cX11_drops 30 = .ok (.getfield 51, 3) := by decide +kernel
theorem dX11_drops_33 : decode cX11_drops 33 = .ok (.iload_n 1, 1) := by decide +kernel
theorem dX11_drops_34 : decode cX11_drops 34 = .ok (.iaload, 1) := by decide +kernel
theorem dX11_drops_35 : decode cX11_drops 35 = .ok (.aload_n 0, 1) := by decide +kernel
theorem dX11_drops_36 : decode cX11_drops 36 = .ok (.getfield 160, 3) := by decide +kernel
theorem dX11_drops_39 : decode cX11_drops 39 = .ok (.iastore, 1) := by decide +kernel
theorem dX11_drops_40 : decode cX11_drops 40 = .ok (.return_, 1) := by decide +kernel
theorem dX11_dropEdge_0 : decode cX11_dropEdge 0 = .ok (.aload_n 0, 1) := by decide +kernel
theorem dX11_dropEdge_1 : decode cX11_dropEdge 1 = .ok (.aload_n 0, 1) := by decide +kernel
theorem dX11_dropEdge_2 : decode cX11_dropEdge 2 = .ok (.iload_n 1, 1) := by decide +kernel
theorem dX11_dropEdge_3 : decode cX11_dropEdge 3 = .ok (.invokevirtual 195, 3) := by decide +kernel
theorem dX11_dropEdge_6 : decode cX11_dropEdge 6 = .ok (.ifCond .eq 7, 3) := by decide +kernel
theorem dX11_dropEdge_9 : decode cX11_dropEdge 9 = .ok (.iconst 0, 1) := by decide +kernel
theorem dX11_dropEdge_10 : decode cX11_dropEdge 10 = .ok (.goto 4, 3) := by decide +kernel
theorem dX11_dropEdge_13 : decode cX11_dropEdge 13 = .ok (.iconst 1, 1) := by decide +kernel
theorem dX11_dropEdge_14 : decode cX11_dropEdge 14 = .ok (.invokevirtual 181, 3) := by decide +kernel
theorem dX11_dropEdge_17 : decode cX11_dropEdge 17 = .ok (.ifCond .eq 5, 3) := by decide +kernel
theorem dX11_dropEdge_20 : decode cX11_dropEdge 20 = .ok (.iconst 0, 1) := by decide +kernel
theorem dX11_dropEdge_21 : decode cX11_dropEdge 21 = .ok (.ireturn, 1) := by decide +kernel
theorem dX11_dropEdge_22 : decode cX11_dropEdge 22 = .ok (.aload_n 0, 1) := by decide +kernel
theorem dX11_dropEdge_23 : decode cX11_dropEdge 23 = .ok (.dup, 1) := by decide +kernel
theorem dX11_dropEdge_24 : decode cX11_dropEdge 24 = .ok (.getfield 160, 3) := by decide +kernel
theorem dX11_dropEdge_27 : decode cX11_dropEdge 27 = .ok (.iconst 1, 1) := by decide +kernel
theorem dX11_dropEdge_28 : decode cX11_dropEdge 28 = .ok (.iadd, 1) := by decide +kernel
theorem dX11_dropEdge_29 : decode cX11_dropEdge 29 = .ok (.putfield 160, 3) := by decide +kernel
theorem dX11_dropEdge_32 : decode cX11_dropEdge 32 = .ok (.aload_n 0, 1) := by decide +kernel
theorem dX11_dropEdge_33 : decode cX11_dropEdge 33 = .ok (.iload_n 1, 1) := by decide +kernel
theorem dX11_dropEdge_34 : decode cX11_dropEdge 34 = .ok (.invokevirtual 198, 3) := by decide +kernel
theorem dX11_dropEdge_37 : decode cX11_dropEdge 37 = .ok (.aload_n 0, 1) := by decide +kernel
theorem dX11_dropEdge_38 : decode cX11_dropEdge 38 = .ok (.invokevirtual 202, 3) := by decide +kernel
theorem dX11_dropEdge_41 : decode cX11_dropEdge 41 = .ok (.aload_n 0, 1) := by decide +kernel
theorem dX11_dropEdge_42 : decode cX11_dropEdge 42 = .ok (.getfield 160, 3) := by decide +kernel
theorem dX11_dropEdge_45 : decode cX11_dropEdge 45 = .ok (.ireturn, 1) := by decide +kernel
theorem dX11_dropNode_0 : decode cX11_dropNode 0 = .ok (.aload_n 0, 1) := by decide +kernel
theorem dX11_dropNode_1 : decode cX11_dropNode 1 = .ok (.aload_n 0, 1) := by decide +kernel
theorem dX11_dropNode_2 : decode cX11_dropNode 2 = .ok (.iload_n 1, 1) := by decide +kernel
theorem dX11_dropNode_3 : decode cX11_dropNode 3 = .ok (.invokevirtual 163, 3) := by decide +kernel
theorem dX11_dropNode_6 : decode cX11_dropNode 6 = .ok (.ifCond .eq 7, 3) := by decide +kernel
theorem dX11_dropNode_9 : decode cX11_dropNode 9 = .ok (.iconst 0, 1) := by decide +kernel
theorem dX11_dropNode_10 : decode cX11_dropNode 10 = .ok (.goto 4, 3) := by decide +kernel
theorem dX11_dropNode_13 : decode cX11_dropNode 13 = .ok (.iconst 1, 1) := by decide +kernel
theorem dX11_dropNode_14 : decode cX11_dropNode 14 = .ok (.invokevirtual 181, 3) := by decide +kernel
theorem dX11_dropNode_17 : decode cX11_dropNode 17 = .ok (.ifCond .eq 5, 3) := by decide +kernel
theorem dX11_dropNode_20 : decode cX11_dropNode 20 = .ok (.iconst 0, 1) := by decide +kernel
theorem dX11_dropNode_21 : decode cX11_dropNode 21 = .ok (.ireturn, 1) := by decide +kernel
theorem dX11_dropNode_22 : decode cX11_dropNode 22 = .ok (.aload_n 0, 1) := by decide +kernel
theorem dX11_dropNode_23 : decode cX11_dropNode 23 = .ok (.dup, 1) := by decide +kernel
theorem dX11_dropNode_24 : decode cX11_dropNode 24 = .ok (.getfield 160, 3) := by decide +kernel
theorem dX11_dropNode_27 : decode cX11_dropNode 27 = .ok (.iconst 1, 1) := by decide +kernel
theorem dX11_dropNode_28 : decode cX11_dropNode 28 = .ok (.iadd, 1) := by decide +kernel
theorem dX11_dropNode_29 : decode cX11_dropNode 29 = .ok (.putfield 160, 3) := by decide +kernel
theorem dX11_dropNode_32 : decode cX11_dropNode 32 = .ok (.iconst 0, 1) := by decide +kernel
theorem dX11_dropNode_33 : decode cX11_dropNode 33 = .ok (.istore_n 2, 1) := by decide +kernel
theorem dX11_dropNode_34 : decode cX11_dropNode 34 = .ok (.iconst 0, 1) := by decide +kernel
theorem dX11_dropNode_35 : decode cX11_dropNode 35 = .ok (.istore_n 3, 1) := by decide +kernel
theorem dX11_dropNode_36 : decode cX11_dropNode 36 = .ok (.iload_n 3, 1) := by decide +kernel
theorem dX11_dropNode_37 : decode cX11_dropNode 37 = .ok (.aload_n 0, 1) := by decide +kernel
theorem dX11_dropNode_38 : decode cX11_dropNode 38 = .ok (.getfield 154, 3) := by decide +kernel
theorem dX11_dropNode_41 : decode cX11_dropNode 41 = .ok (.if_icmp .ge 45, 3) := by decide +kernel
theorem dX11_dropNode_44 : decode cX11_dropNode 44 = .ok (.aload_n 0, 1) := by decide +kernel
theorem dX11_dropNode_45 : decode cX11_dropNode 45 = .ok (.iload_n 3, 1) := by decide +kernel
theorem dX11_dropNode_46 : decode cX11_dropNode 46 = .ok (.invokevirtual 195, 3) := by decide +kernel
theorem dX11_dropNode_49 : decode cX11_dropNode 49 = .ok (.ifCond .eq 31, 3) := by decide +kernel
theorem dX11_dropNode_52 : decode cX11_dropNode 52 = .ok (.aload_n 0, 1) := by decide +kernel
theorem dX11_dropNode_53 : decode cX11_dropNode 53 = .ok (.getfield 48, 3) := by decide +kernel
theorem dX11_dropNode_56 : decode cX11_dropNode 56 = .ok (.iload_n 3, 1) := by decide +kernel
theorem dX11_dropNode_57 : decode cX11_dropNode 57 = .ok (.iaload, 1) := by decide +kernel
theorem dX11_dropNode_58 : decode cX11_dropNode 58 = .ok (.iload_n 1, 1) := by decide +kernel
theorem dX11_dropNode_59 : decode cX11_dropNode 59 = .ok (.if_icmp .eq 13, 3) := by decide +kernel
theorem dX11_dropNode_62 : decode cX11_dropNode 62 = .ok (.aload_n 0, 1) := by decide +kernel
theorem dX11_dropNode_63 : decode cX11_dropNode 63 = .ok (.getfield 51, 3) := by decide +kernel
theorem dX11_dropNode_66 : decode cX11_dropNode 66 = .ok (.iload_n 3, 1) := by decide +kernel
theorem dX11_dropNode_67 : decode cX11_dropNode 67 = .ok (.iaload, 1) := by decide +kernel
theorem dX11_dropNode_68 : decode cX11_dropNode 68 = .ok (.iload_n 1, 1) := by decide +kernel
theorem dX11_dropNode_69 : decode cX11_dropNode 69 = .ok (.if_icmp .ne 11, 3) := by decide +kernel
theorem dX11_dropNode_72 : decode cX11_dropNode 72 = .ok (.aload_n 0, 1) := by decide +kernel
theorem dX11_dropNode_73 : decode cX11_dropNode 73 = .ok (.iload_n 3, 1) := by decide +kernel
theorem dX11_dropNode_74 : decode cX11_dropNode 74 = .ok (.invokevirtual 198, 3) := by decide +kernel
theorem dX11_dropNode_77 : decode cX11_dropNode 77 = .ok (.iinc 2 1, 3) := by decide +kernel
theorem dX11_dropNode_80 : decode cX11_dropNode 80 = .ok (.iinc 3 1, 3) := by decide +kernel
theorem dX11_dropNode_83 : decode cX11_dropNode 83 = .ok (.goto (-47), 3) := by decide +kernel
theorem dX11_dropNode_86 : decode cX11_dropNode 86 = .ok (.aload_n 0, 1) := by decide +kernel
theorem dX11_dropNode_87 : decode cX11_dropNode 87 = .ok (.getfield 22, 3) := by decide +kernel
theorem dX11_dropNode_90 : decode cX11_dropNode 90 = .ok (.iload_n 1, 1) := by decide +kernel
theorem dX11_dropNode_91 : decode cX11_dropNode 91 = .ok (.aload_n 0, 1) := by decide +kernel
theorem dX11_dropNode_92 : decode cX11_dropNode 92 = .ok (.getfield 160, 3) := by decide +kernel
theorem dX11_dropNode_95 : decode cX11_dropNode 95 = .ok (.iastore, 1) := by decide +kernel
theorem dX11_dropNode_96 : decode cX11_dropNode 96 = .ok (.aload_n 0, 1) := by decide +kernel
theorem dX11_dropNode_97 : decode cX11_dropNode 97 = .ok (.getfield 25, 3) := by decide +kernel
theorem dX11_dropNode_100 : decode cX11_dropNode 100 = .ok (.iload_n 1, 1) := by decide +kernel
theorem dX11_dropNode_101 : decode cX11_dropNode 101 = .ok (.aload_n 0, 1) := by decide +kernel
theorem dX11_dropNode_102 : decode cX11_dropNode 102 = .ok (.getfield 160, 3) := by decide +kernel
theorem dX11_dropNode_105 : decode cX11_dropNode 105 = .ok (.iastore, 1) := by decide +kernel
theorem dX11_dropNode_106 : decode cX11_dropNode 106 = .ok (.aload_n 0, 1) := by decide +kernel
theorem dX11_dropNode_107 : decode cX11_dropNode 107 = .ok (.invokevirtual 202, 3) := by decide +kernel
theorem dX11_dropNode_110 : decode cX11_dropNode 110 = .ok (.iload_n 2, 1) := by decide +kernel
theorem dX11_dropNode_111 : decode cX11_dropNode 111 = .ok (.ireturn, 1) := by decide +kernel
theorem dX11_isUnlike_0 : decode cX11_isUnlike 0 = .ok (.iconst 1, 1) := by decide +kernel
theorem dX11_isUnlike_1 : decode cX11_isUnlike 1 = .ok (.istore_n 2, 1) := by decide +kernel
theorem dX11_isUnlike_2 : decode cX11_isUnlike 2 = .ok (.iconst 0, 1) := by decide +kernel
theorem dX11_isUnlike_3 : decode cX11_isUnlike 3 = .ok (.istore_n 3, 1) := by decide +kernel
theorem dX11_isUnlike_4 : decode cX11_isUnlike 4 = .ok (.iload_n 3, 1) := by decide +kernel
theorem dX11_isUnlike_5 : decode cX11_isUnlike 5 = .ok (.aload_n 0, 1) := by decide +kernel
theorem dX11_isUnlike_6 : decode cX11_isUnlike 6 = .ok (.getfield 150, 3) := by decide +kernel
theorem dX11_isUnlike_9 : decode cX11_isUnlike 9 = .ok (.if_icmp .ge 88, 3) := by decide +kernel
theorem dX11_isUnlike_12 : decode cX11_isUnlike 12 = .ok (.iconst 0, 1) := by decide +kernel
theorem dX11_isUnlike_13 : decode cX11_isUnlike 13 = .ok (.istore 4, 2) := by decide +kernel
theorem dX11_isUnlike_15 : decode cX11_isUnlike 15 = .ok (.iload 4, 2) := by decide +kernel
theorem dX11_isUnlike_17 : decode cX11_isUnlike 17 = .ok (.iload_n 3, 1) := by decide +kernel
theorem dX11_isUnlike_18 : decode cX11_isUnlike 18 = .ok (.if_icmp .ge 73, 3) := by decide +kernel
theorem dX11_isUnlike_21 : decode cX11_isUnlike 21 = .ok (.iload_n 2, 1) := by decide +kernel
theorem dX11_isUnlike_22 : decode cX11_isUnlike 22 = .ok (.ifCond .eq 61, 3) := by decide +kernel
theorem dX11_isUnlike_25 : decode cX11_isUnlike 25 = .ok (.aload_n 0, 1) := by decide +kernel
theorem dX11_isUnlike_26 : decode cX11_isUnlike 26 = .ok (.iload_n 3, 1) := by decide +kernel
theorem dX11_isUnlike_27 : decode cX11_isUnlike 27 = .ok (.invokevirtual 163, 3) := by decide +kernel
theorem dX11_isUnlike_30 : decode cX11_isUnlike 30 = .ok (.ifCond .eq 49, 3) := by decide +kernel
theorem dX11_isUnlike_33 : decode cX11_isUnlike 33 = .ok (.aload_n 0, 1) := by decide +kernel
theorem dX11_isUnlike_34 : decode cX11_isUnlike 34 = .ok (.iload 4, 2) := by decide +kernel
theorem dX11_isUnlike_36 : decode cX11_isUnlike 36 = .ok (.invokevirtual 163, 3) := by decide +kernel
theorem dX11_isUnlike_39 : decode cX11_isUnlike 39 = .ok (.ifCond .eq 40, 3) := by decide +kernel
theorem dX11_isUnlike_42 : decode cX11_isUnlike 42 = .ok (.aload_n 0, 1) := by decide +kernel
theorem dX11_isUnlike_43 : decode cX11_isUnlike 43 = .ok (.getfield 7, 3) := by decide +kernel
theorem dX11_isUnlike_46 : decode cX11_isUnlike 46 = .ok (.iload_n 3, 1) := by decide +kernel
theorem dX11_isUnlike_47 : decode cX11_isUnlike 47 = .ok (.iaload, 1) := by decide +kernel
theorem dX11_isUnlike_48 : decode cX11_isUnlike 48 = .ok (.iload_n 1, 1) := by decide +kernel
theorem dX11_isUnlike_49 : decode cX11_isUnlike 49 = .ok (.if_icmp .ne 30, 3) := by decide +kernel
theorem dX11_isUnlike_52 : decode cX11_isUnlike 52 = .ok (.aload_n 0, 1) := by decide +kernel
theorem dX11_isUnlike_53 : decode cX11_isUnlike 53 = .ok (.getfield 7, 3) := by decide +kernel
theorem dX11_isUnlike_56 : decode cX11_isUnlike 56 = .ok (.iload 4, 2) := by decide +kernel
theorem dX11_isUnlike_58 : decode cX11_isUnlike 58 = .ok (.iaload, 1) := by decide +kernel
theorem dX11_isUnlike_59 : decode cX11_isUnlike 59 = .ok (.iload_n 1, 1) := by decide +kernel
theorem dX11_isUnlike_60 : decode cX11_isUnlike 60 = .ok (.if_icmp .ne 19, 3) := by decide +kernel
theorem dX11_isUnlike_63 : decode cX11_isUnlike 63 = .ok (.aload_n 0, 1) := by decide +kernel
theorem dX11_isUnlike_64 : decode cX11_isUnlike 64 = .ok (.getfield 13, 3) := by decide +kernel
theorem dX11_isUnlike_67 : decode cX11_isUnlike 67 = .ok (.iload_n 3, 1) := by decide +kernel
theorem dX11_isUnlike_68 : decode cX11_isUnlike 68 = .ok (.iaload, 1) := by decide +kernel
theorem dX11_isUnlike_69 : decode cX11_isUnlike 69 = .ok (.aload_n 0, 1) := by decide +kernel
theorem dX11_isUnlike_70 : decode cX11_isUnlike 70 = .ok (.getfield 13, 3) := by decide +kernel
theorem dX11_isUnlike_73 : decode cX11_isUnlike 73 = .ok (.iload 4, 2) := by decide +kernel
theorem dX11_isUnlike_75 : decode cX11_isUnlike 75 = .ok (.iaload, 1) := by decide +kernel
theorem dX11_isUnlike_76 : decode cX11_isUnlike 76 = .ok (.if_icmp .eq 7, 3) := by decide +kernel
theorem dX11_isUnlike_79 : decode cX11_isUnlike 79 = .ok (.iconst 1, 1) := by decide +kernel
theorem dX11_isUnlike_80 : decode cX11_isUnlike 80 = .ok (.goto 4, 3) := by decide +kernel
theorem dX11_isUnlike_83 : decode cX11_isUnlike 83 = .ok (.iconst 0, 1) := by decide +kernel
theorem dX11_isUnlike_84 : decode cX11_isUnlike 84 = .ok (.istore_n 2, 1) := by decide +kernel
theorem dX11_isUnlike_85 : decode cX11_isUnlike 85 = .ok (.iinc 4 1, 3) := by decide +kernel
theorem dX11_isUnlike_88 : decode cX11_isUnlike 88 = .ok (.goto (-73), 3) := by decide +kernel
theorem dX11_isUnlike_91 : decode cX11_isUnlike 91 = .ok (.iinc 3 1, 3) := by decide +kernel
theorem dX11_isUnlike_94 : decode cX11_isUnlike 94 = .ok (.goto (-90), 3) := by decide +kernel
theorem dX11_isUnlike_97 : decode cX11_isUnlike 97 = .ok (.iload_n 2, 1) := by decide +kernel
theorem dX11_isUnlike_98 : decode cX11_isUnlike 98 = .ok (.ireturn, 1) := by decide +kernel
theorem dX11_key_0 : decode cX11_key 0 = .ok (.aload_n 0, 1) := by decide +kernel
theorem dX11_key_1 : decode cX11_key 1 = .ok (.iload_n 1, 1) := by decide +kernel
theorem dX11_key_2 : decode cX11_key 2 = .ok (.invokestatic 171, 3) := by decide +kernel
theorem dX11_key_5 : decode cX11_key 5 = .ok (.ifCond .ne 7, 3) := by decide +kernel
theorem dX11_key_8 : decode cX11_key 8 = .ok (.iconst 1, 1) := by decide +kernel
theorem dX11_key_9 : decode cX11_key 9 = .ok (.goto 25, 3) := by decide +kernel
theorem dX11_key_12 : decode cX11_key 12 = .ok (.aload_n 0, 1) := by decide +kernel
theorem dX11_key_13 : decode cX11_key 13 = .ok (.getfield 63, 3) := by decide +kernel
theorem dX11_key_16 : decode cX11_key 16 = .ok (.iload_n 1, 1) := by decide +kernel
theorem dX11_key_17 : decode cX11_key 17 = .ok (.baload, 1) := by decide +kernel
theorem dX11_key_18 : decode cX11_key 18 = .ok (.ifCond .ne 11, 3) := by decide +kernel
theorem dX11_key_21 : decode cX11_key 21 = .ok (.aload_n 0, 1) := by decide +kernel
theorem dX11_key_22 : decode cX11_key 22 = .ok (.iload_n 1, 1) := by decide +kernel
theorem dX11_key_23 : decode cX11_key 23 = .ok (.invokevirtual 205, 3) := by decide +kernel
theorem dX11_key_26 : decode cX11_key 26 = .ok (.ifCond .eq 7, 3) := by decide +kernel
theorem dX11_key_29 : decode cX11_key 29 = .ok (.iconst 0, 1) := by decide +kernel
theorem dX11_key_30 : decode cX11_key 30 = .ok (.goto 4, 3) := by decide +kernel
theorem dX11_key_33 : decode cX11_key 33 = .ok (.iconst 2, 1) := by decide +kernel
theorem dX11_key_34 : decode cX11_key 34 = .ok (.invokevirtual 181, 3) := by decide +kernel
theorem dX11_key_37 : decode cX11_key 37 = .ok (.ifCond .eq 5, 3) := by decide +kernel
theorem dX11_key_40 : decode cX11_key 40 = .ok (.iconst 0, 1) := by decide +kernel
theorem dX11_key_41 : decode cX11_key 41 = .ok (.ireturn, 1) := by decide +kernel
theorem dX11_key_42 : decode cX11_key 42 = .ok (.aload_n 0, 1) := by decide +kernel
theorem dX11_key_43 : decode cX11_key 43 = .ok (.getfield 63, 3) := by decide +kernel

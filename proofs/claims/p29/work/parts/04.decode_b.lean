theorem dL_law_0 : decode cL_law 0 = .ok (.new 19, 3) := by decide +kernel
theorem dL_law_3 : decode cL_law 3 = .ok (.dup, 1) := by decide +kernel
theorem dL_law_4 : decode cL_law 4 = .ok (.invokespecial 113, 3) := by decide +kernel
theorem dL_law_7 : decode cL_law 7 = .ok (.astore_n 1, 1) := by decide +kernel
theorem dL_law_8 : decode cL_law 8 = .ok (.bipush 20, 2) := by decide +kernel
theorem dL_law_10 : decode cL_law 10 = .ok (.newarray .int, 2) := by decide +kernel
theorem dL_law_12 : decode cL_law 12 = .ok (.astore_n 2, 1) := by decide +kernel
theorem dL_law_13 : decode cL_law 13 = .ok (.bipush 20, 2) := by decide +kernel
theorem dL_law_15 : decode cL_law 15 = .ok (.newarray .int, 2) := by decide +kernel
theorem dL_law_17 : decode cL_law 17 = .ok (.astore_n 3, 1) := by decide +kernel
theorem dL_law_18 : decode cL_law 18 = .ok (.bipush 12, 2) := by decide +kernel
theorem dL_law_20 : decode cL_law 20 = .ok (.newarray .int, 2) := by decide +kernel
theorem dL_law_22 : decode cL_law 22 = .ok (.astore 4, 2) := by decide +kernel
theorem dL_law_24 : decode cL_law 24 = .ok (.bipush 20, 2) := by decide +kernel
theorem dL_law_26 : decode cL_law 26 = .ok (.newarray .int, 2) := by decide +kernel
theorem dL_law_28 : decode cL_law 28 = .ok (.astore 5, 2) := by decide +kernel
theorem dL_law_30 : decode cL_law 30 = .ok (.bipush 6, 2) := by decide +kernel
theorem dL_law_32 : decode cL_law 32 = .ok (.newarray .int, 2) := by decide +kernel
theorem dL_law_34 : decode cL_law 34 = .ok (.astore 6, 2) := by decide +kernel
theorem dL_law_36 : decode cL_law 36 = .ok (.aload 6, 2) := by decide +kernel
theorem dL_law_38 : decode cL_law 38 = .ok (.iconst 0, 1) := by decide +kernel
theorem dL_law_39 : decode cL_law 39 = .ok (.bipush 60, 2) := by decide +kernel
theorem dL_law_41 : decode cL_law 41 = .ok (.iastore, 1) := by decide +kernel
theorem dL_law_42 : decode cL_law 42 = .ok (.aload 6, 2) := by decide +kernel
theorem dL_law_44 : decode cL_law 44 = .ok (.iconst 1, 1) := by decide +kernel
theorem dL_law_45 : decode cL_law 45 = .ok (.bipush 10, 2) := by decide +kernel
theorem dL_law_47 : decode cL_law 47 = .ok (.iastore, 1) := by decide +kernel
theorem dL_law_48 : decode cL_law 48 = .ok (.iconst 0, 1) := by decide +kernel
theorem dL_law_49 : decode cL_law 49 = .ok (.istore 7, 2) := by decide +kernel
theorem dL_law_51 : decode cL_law 51 = .ok (.iload 7, 2) := by decide +kernel
theorem dL_law_53 : decode cL_law 53 = .ok (.bipush 60, 2) := by decide +kernel
theorem dL_law_55 : decode cL_law 55 = .ok (.if_icmp .ge 1354, 3) := by decide +kernel
theorem dL_law_58 : decode cL_law 58 = .ok (.aload_n 0, 1) := by decide +kernel
theorem dL_law_59 : decode cL_law 59 = .ok (.iload 7, 2) := by decide +kernel
theorem dL_law_61 : decode cL_law 61 = .ok (.invokestatic 114, 3) := by decide +kernel
theorem dL_law_64 : decode cL_law 64 = .ok (.istore 8, 2) := by decide +kernel
theorem dL_law_66 : decode cL_law 66 = .ok (.iload 8, 2) := by decide +kernel
theorem dL_law_68 : decode cL_law 68 = .ok (.bipush 20, 2) := by decide +kernel
theorem dL_law_70 : decode cL_law 70 = .ok (.invokestatic 117, 3) := by decide +kernel
theorem dL_law_73 : decode cL_law 73 = .ok (.istore 9, 2) := by decide +kernel
theorem dL_law_75 : decode cL_law 75 = .ok (.iload 8, 2) := by decide +kernel
theorem dL_law_77 : decode cL_law 77 = .ok (.iconst 5, 1) := by decide +kernel
theorem dL_law_78 : decode cL_law 78 = .ok (.ishr, 1) := by decide +kernel
theorem dL_law_79 : decode cL_law 79 = .ok (.iconst 4, 1) := by decide +kernel
theorem dL_law_80 : decode cL_law 80 = .ok (.invokestatic 117, 3) := by decide +kernel
theorem dL_law_83 : decode cL_law 83 = .ok (.istore 10, 2) := by decide +kernel
theorem dL_law_85 : decode cL_law 85 = .ok (.iconst 1, 1) := by decide +kernel
theorem dL_law_86 : decode cL_law 86 = .ok (.istore 11, 2) := by decide +kernel
theorem dL_law_88 : decode cL_law 88 = .ok (.iload 9, 2) := by decide +kernel
theorem dL_law_90 : decode cL_law 90 = .ok (.iconst 5, 1) := by decide +kernel
theorem dL_law_91 : decode cL_law 91 = .ok (.if_icmp .lt 11, 3) := by decide +kernel
theorem dL_law_94 : decode cL_law 94 = .ok (.aload 6, 2) := by decide +kernel
theorem dL_law_96 : decode cL_law 96 = .ok (.iconst 4, 1) := by decide +kernel
theorem dL_law_97 : decode cL_law 97 = .ok (.iaload, 1) := by decide +kernel
theorem dL_law_98 : decode cL_law 98 = .ok (.iconst 4, 1) := by decide +kernel
theorem dL_law_99 : decode cL_law 99 = .ok (.if_icmp .ge 233, 3) := by decide +kernel
theorem dL_law_102 : decode cL_law 102 = .ok (.aload 6, 2) := by decide +kernel
theorem dL_law_104 : decode cL_law 104 = .ok (.iconst 4, 1) := by decide +kernel
theorem dL_law_105 : decode cL_law 105 = .ok (.iaload, 1) := by decide +kernel
theorem dL_law_106 : decode cL_law 106 = .ok (.bipush 20, 2) := by decide +kernel
theorem dL_law_108 : decode cL_law 108 = .ok (.if_icmp .ge 224, 3) := by decide +kernel
theorem dL_law_111 : decode cL_law 111 = .ok (.iload 8, 2) := by decide +kernel
theorem dL_law_113 : decode cL_law 113 = .ok (.bipush 7, 2) := by decide +kernel
theorem dL_law_115 : decode cL_law 115 = .ok (.ishr, 1) := by decide +kernel
theorem dL_law_116 : decode cL_law 116 = .ok (.iload 8, 2) := by decide +kernel
theorem dL_law_118 : decode cL_law 118 = .ok (.bipush 25, 2) := by decide +kernel
theorem dL_law_120 : decode cL_law 120 = .ok (.ishr, 1) := by decide +kernel
theorem dL_law_121 : decode cL_law 121 = .ok (.iconst 2, 1) := by decide +kernel
theorem dL_law_122 : decode cL_law 122 = .ok (.invokestatic 117, 3) := by decide +kernel
theorem dL_law_125 : decode cL_law 125 = .ok (.ifCond .ne 8, 3) := by decide +kernel
theorem dL_law_128 : decode cL_law 128 = .ok (.bipush 10, 2) := by decide +kernel
theorem dL_law_130 : decode cL_law 130 = .ok (.goto 4, 3) := by decide +kernel
theorem dL_law_133 : decode cL_law 133 = .ok (.iconst 5, 1) := by decide +kernel
theorem dL_law_134 : decode cL_law 134 = .ok (.invokestatic 117, 3) := by decide +kernel
theorem dL_law_137 : decode cL_law 137 = .ok (.istore 12, 2) := by decide +kernel
theorem dL_law_139 : decode cL_law 139 = .ok (.iload 8, 2) := by decide +kernel
theorem dL_law_141 : decode cL_law 141 = .ok (.bipush 11, 2) := by decide +kernel
theorem dL_law_143 : decode cL_law 143 = .ok (.ishr, 1) := by decide +kernel
theorem dL_law_144 : decode cL_law 144 = .ok (.iload 8, 2) := by decide +kernel
theorem dL_law_146 : decode cL_law 146 = .ok (.bipush 25, 2) := by decide +kernel
theorem dL_law_148 : decode cL_law 148 = .ok (.ishr, 1) := by decide +kernel
theorem dL_law_149 : decode cL_law 149 = .ok (.iconst 2, 1) := by decide +kernel
theorem dL_law_150 : decode cL_law 150 = .ok (.invokestatic 117, 3) := by decide +kernel
theorem dL_law_153 : decode cL_law 153 = .ok (.ifCond .ne 8, 3) := by decide +kernel
theorem dL_law_156 : decode cL_law 156 = .ok (.bipush 10, 2) := by decide +kernel
theorem dL_law_158 : decode cL_law 158 = .ok (.goto 4, 3) := by decide +kernel
theorem dL_law_161 : decode cL_law 161 = .ok (.iconst 5, 1) := by decide +kernel
theorem dL_law_162 : decode cL_law 162 = .ok (.invokestatic 117, 3) := by decide +kernel
theorem dL_law_165 : decode cL_law 165 = .ok (.istore 13, 2) := by decide +kernel
theorem dL_law_167 : decode cL_law 167 = .ok (.iload 12, 2) := by decide +kernel
theorem dL_law_169 : decode cL_law 169 = .ok (.iload 13, 2) := by decide +kernel
theorem dL_law_171 : decode cL_law 171 = .ok (.if_icmp .ne 7, 3) := by decide +kernel
theorem dL_law_174 : decode cL_law 174 = .ok (.iconst 1, 1) := by decide +kernel
theorem dL_law_175 : decode cL_law 175 = .ok (.goto 4, 3) := by decide +kernel
theorem dL_law_178 : decode cL_law 178 = .ok (.iconst 0, 1) := by decide +kernel
theorem dL_law_179 : decode cL_law 179 = .ok (.istore 14, 2) := by decide +kernel
theorem dL_law_181 : decode cL_law 181 = .ok (.aload 6, 2) := by decide +kernel
theorem dL_law_183 : decode cL_law 183 = .ok (.iconst 4, 1) := by decide +kernel
theorem dL_law_184 : decode cL_law 184 = .ok (.iaload, 1) := by decide +kernel
theorem dL_law_185 : decode cL_law 185 = .ok (.istore 15, 2) := by decide +kernel
theorem dL_law_187 : decode cL_law 187 = .ok (.iload 14, 2) := by decide +kernel
theorem dL_law_189 : decode cL_law 189 = .ok (.ifCond .ne 86, 3) := by decide +kernel
theorem dL_law_192 : decode cL_law 192 = .ok (.aload_n 2, 1) := by decide +kernel
theorem dL_law_193 : decode cL_law 193 = .ok (.iload 15, 2) := by decide +kernel
theorem dL_law_195 : decode cL_law 195 = .ok (.iload 12, 2) := by decide +kernel
theorem dL_law_197 : decode cL_law 197 = .ok (.iload 13, 2) := by decide +kernel
theorem dL_law_199 : decode cL_law 199 = .ok (.if_icmp .ge 8, 3) := by decide +kernel
theorem dL_law_202 : decode cL_law 202 = .ok (.iload 12, 2) := by decide +kernel
theorem dL_law_204 : decode cL_law 204 = .ok (.goto 5, 3) := by decide +kernel
theorem dL_law_207 : decode cL_law 207 = .ok (.iload 13, 2) := by decide +kernel
theorem dL_law_209 : decode cL_law 209 = .ok (.bipush 16, 2) := by decide +kernel
theorem dL_law_211 : decode cL_law 211 = .ok (.iload 12, 2) := by decide +kernel
theorem dL_law_213 : decode cL_law 213 = .ok (.iload 13, 2) := by decide +kernel
theorem dL_law_215 : decode cL_law 215 = .ok (.if_icmp .ge 8, 3) := by decide +kernel
theorem dL_law_218 : decode cL_law 218 = .ok (.iload 13, 2) := by decide +kernel
theorem dL_law_220 : decode cL_law 220 = .ok (.goto 5, 3) := by decide +kernel
theorem dL_law_223 : decode cL_law 223 = .ok (.iload 12, 2) := by decide +kernel
theorem dL_law_225 : decode cL_law 225 = .ok (.imul, 1) := by decide +kernel
theorem dL_law_226 : decode cL_law 226 = .ok (.iadd, 1) := by decide +kernel
theorem dL_law_227 : decode cL_law 227 = .ok (.sipush 256, 3) := by decide +kernel
theorem dL_law_230 : decode cL_law 230 = .ok (.iconst 1, 1) := by decide +kernel
theorem dL_law_231 : decode cL_law 231 = .ok (.iload 8, 2) := by decide +kernel
theorem dL_law_233 : decode cL_law 233 = .ok (.bipush 15, 2) := by decide +kernel
theorem dL_law_235 : decode cL_law 235 = .ok (.ishr, 1) := by decide +kernel
theorem dL_law_236 : decode cL_law 236 = .ok (.bipush 9, 2) := by decide +kernel
theorem dL_law_238 : decode cL_law 238 = .ok (.invokestatic 117, 3) := by decide +kernel
theorem dL_law_241 : decode cL_law 241 = .ok (.iadd, 1) := by decide +kernel
theorem dL_law_242 : decode cL_law 242 = .ok (.imul, 1) := by decide +kernel
theorem dL_law_243 : decode cL_law 243 = .ok (.iadd, 1) := by decide +kernel
theorem dL_law_244 : decode cL_law 244 = .ok (.sipush 4096, 3) := by decide +kernel
theorem dL_law_247 : decode cL_law 247 = .ok (.iconst 1, 1) := by decide +kernel
theorem dL_law_248 : decode cL_law 248 = .ok (.iload 8, 2) := by decide +kernel
theorem dL_law_250 : decode cL_law 250 = .ok (.bipush 18, 2) := by decide +kernel
theorem dL_law_252 : decode cL_law 252 = .ok (.ishr, 1) := by decide +kernel
theorem dL_law_253 : decode cL_law 253 = .ok (.bipush 9, 2) := by decide +kernel
theorem dL_law_255 : decode cL_law 255 = .ok (.invokestatic 117, 3) := by decide +kernel
theorem dL_law_258 : decode cL_law 258 = .ok (.iadd, 1) := by decide +kernel
theorem dL_law_259 : decode cL_law 259 = .ok (.imul, 1) := by decide +kernel
theorem dL_law_260 : decode cL_law 260 = .ok (.iadd, 1) := by decide +kernel
theorem dL_law_261 : decode cL_law 261 = .ok (.iastore, 1) := by decide +kernel
theorem dL_law_262 : decode cL_law 262 = .ok (.aload_n 3, 1) := by decide +kernel
theorem dL_law_263 : decode cL_law 263 = .ok (.iload 15, 2) := by decide +kernel
theorem dL_law_265 : decode cL_law 265 = .ok (.iconst 0, 1) := by decide +kernel
theorem dL_law_266 : decode cL_law 266 = .ok (.iastore, 1) := by decide +kernel
theorem dL_law_267 : decode cL_law 267 = .ok (.aload 6, 2) := by decide +kernel
theorem dL_law_269 : decode cL_law 269 = .ok (.iconst 4, 1) := by decide +kernel
theorem dL_law_270 : decode cL_law 270 = .ok (.dup2, 1) := by decide +kernel
theorem dL_law_271 : decode cL_law 271 = .ok (.iaload, 1) := by decide +kernel
theorem dL_law_272 : decode cL_law 272 = .ok (.iconst 1, 1) := by decide +kernel
theorem dL_law_273 : decode cL_law 273 = .ok (.iadd, 1) := by decide +kernel
theorem dL_law_274 : decode cL_law 274 = .ok (.iastore, 1) := by decide +kernel
theorem dL_law_275 : decode cL_law 275 = .ok (.aload_n 1, 1) := by decide +kernel
theorem dL_law_276 : decode cL_law 276 = .ok (.iload 12, 2) := by decide +kernel
theorem dL_law_278 : decode cL_law 278 = .ok (.iload 13, 2) := by decide +kernel
theorem dL_law_280 : decode cL_law 280 = .ok (.iconst 1, 1) := by decide +kernel
theorem dL_law_281 : decode cL_law 281 = .ok (.iload 8, 2) := by decide +kernel
theorem dL_law_283 : decode cL_law 283 = .ok (.bipush 15, 2) := by decide +kernel
theorem dL_law_285 : decode cL_law 285 = .ok (.ishr, 1) := by decide +kernel
theorem dL_law_286 : decode cL_law 286 = .ok (.bipush 9, 2) := by decide +kernel
theorem dL_law_288 : decode cL_law 288 = .ok (.invokestatic 117, 3) := by decide +kernel
theorem dL_law_291 : decode cL_law 291 = .ok (.iadd, 1) := by decide +kernel
theorem dL_law_292 : decode cL_law 292 = .ok (.iconst 1, 1) := by decide +kernel
theorem dL_law_293 : decode cL_law 293 = .ok (.iload 8, 2) := by decide +kernel
theorem dL_law_295 : decode cL_law 295 = .ok (.bipush 18, 2) := by decide +kernel
theorem dL_law_297 : decode cL_law 297 = .ok (.ishr, 1) := by decide +kernel
theorem dL_law_298 : decode cL_law 298 = .ok (.bipush 9, 2) := by decide +kernel
theorem dL_law_300 : decode cL_law 300 = .ok (.invokestatic 117, 3) := by decide +kernel
theorem dL_law_303 : decode cL_law 303 = .ok (.iadd, 1) := by decide +kernel
theorem dL_law_304 : decode cL_law 304 = .ok (.invokevirtual 120, 3) := by decide +kernel
theorem dL_law_307 : decode cL_law 307 = .ok (.iload 14, 2) := by decide +kernel
theorem dL_law_309 : decode cL_law 309 = .ok (.ifCond .eq 8, 3) := by decide +kernel
theorem dL_law_312 : decode cL_law 312 = .ok (.bipush (-2), 2) := by decide +kernel
theorem dL_law_314 : decode cL_law 314 = .ok (.goto 5, 3) := by decide +kernel
theorem dL_law_317 : decode cL_law 317 = .ok (.iload 15, 2) := by decide +kernel
theorem dL_law_319 : decode cL_law 319 = .ok (.if_icmp .ne 7, 3) := by decide +kernel
theorem dL_law_322 : decode cL_law 322 = .ok (.iconst 1, 1) := by decide +kernel
theorem dL_law_323 : decode cL_law 323 = .ok (.goto 4, 3) := by decide +kernel
theorem dL_law_326 : decode cL_law 326 = .ok (.iconst 0, 1) := by decide +kernel
theorem dL_law_327 : decode cL_law 327 = .ok (.istore 11, 2) := by decide +kernel
theorem dL_law_329 : decode cL_law 329 = .ok (.goto 919, 3) := by decide +kernel
theorem dL_law_332 : decode cL_law 332 = .ok (.iload 9, 2) := by decide +kernel
theorem dL_law_334 : decode cL_law 334 = .ok (.iconst 5, 1) := by decide +kernel
theorem dL_law_335 : decode cL_law 335 = .ok (.if_icmp .ne 108, 3) := by decide +kernel
theorem dL_law_338 : decode cL_law 338 = .ok (.aload 6, 2) := by decide +kernel
theorem dL_law_340 : decode cL_law 340 = .ok (.iconst 5, 1) := by decide +kernel
theorem dL_law_341 : decode cL_law 341 = .ok (.iaload, 1) := by decide +kernel
theorem dL_law_342 : decode cL_law 342 = .ok (.iconst 5, 1) := by decide +kernel
theorem dL_law_343 : decode cL_law 343 = .ok (.if_icmp .ge 100, 3) := by decide +kernel
theorem dL_law_346 : decode cL_law 346 = .ok (.aload 6, 2) := by decide +kernel
theorem dL_law_348 : decode cL_law 348 = .ok (.iconst 5, 1) := by decide +kernel
theorem dL_law_349 : decode cL_law 349 = .ok (.iaload, 1) := by decide +kernel
theorem dL_law_350 : decode cL_law 350 = .ok (.istore 12, 2) := by decide +kernel
theorem dL_law_352 : decode cL_law 352 = .ok (.aload 5, 2) := by decide +kernel
theorem dL_law_354 : decode cL_law 354 = .ok (.iload 12, 2) := by decide +kernel
theorem dL_law_356 : decode cL_law 356 = .ok (.iload 8, 2) := by decide +kernel
theorem dL_law_358 : decode cL_law 358 = .ok (.bipush 7, 2) := by decide +kernel
theorem dL_law_360 : decode cL_law 360 = .ok (.ishr, 1) := by decide +kernel
theorem dL_law_361 : decode cL_law 361 = .ok (.bipush 10, 2) := by decide +kernel
theorem dL_law_363 : decode cL_law 363 = .ok (.invokestatic 117, 3) := by decide +kernel
theorem dL_law_366 : decode cL_law 366 = .ok (.iastore, 1) := by decide +kernel
theorem dL_law_367 : decode cL_law 367 = .ok (.aload 5, 2) := by decide +kernel
theorem dL_law_369 : decode cL_law 369 = .ok (.iconst 5, 1) := by decide +kernel
theorem dL_law_370 : decode cL_law 370 = .ok (.iload 12, 2) := by decide +kernel
theorem dL_law_372 : decode cL_law 372 = .ok (.iadd, 1) := by decide +kernel
theorem dL_law_373 : decode cL_law 373 = .ok (.iconst 1, 1) := by decide +kernel
theorem dL_law_374 : decode cL_law 374 = .ok (.iload 8, 2) := by decide +kernel
theorem dL_law_376 : decode cL_law 376 = .ok (.bipush 11, 2) := by decide +kernel
theorem dL_law_378 : decode cL_law 378 = .ok (.ishr, 1) := by decide +kernel
theorem dL_law_379 : decode cL_law 379 = .ok (.bipush 9, 2) := by decide +kernel
theorem dL_law_381 : decode cL_law 381 = .ok (.invokestatic 117, 3) := by decide +kernel
theorem dL_law_384 : decode cL_law 384 = .ok (.iadd, 1) := by decide +kernel
theorem dL_law_385 : decode cL_law 385 = .ok (.iastore, 1) := by decide +kernel
theorem dL_law_386 : decode cL_law 386 = .ok (.aload 5, 2) := by decide +kernel
theorem dL_law_388 : decode cL_law 388 = .ok (.bipush 10, 2) := by decide +kernel
theorem dL_law_390 : decode cL_law 390 = .ok (.iload 12, 2) := by decide +kernel
theorem dL_law_392 : decode cL_law 392 = .ok (.iadd, 1) := by decide +kernel
theorem dL_law_393 : decode cL_law 393 = .ok (.iconst 0, 1) := by decide +kernel
theorem dL_law_394 : decode cL_law 394 = .ok (.iastore, 1) := by decide +kernel
theorem dL_law_395 : decode cL_law 395 = .ok (.aload 5, 2) := by decide +kernel
theorem dL_law_397 : decode cL_law 397 = .ok (.bipush 15, 2) := by decide +kernel
theorem dL_law_399 : decode cL_law 399 = .ok (.iload 12, 2) := by decide +kernel
theorem dL_law_401 : decode cL_law 401 = .ok (.iadd, 1) := by decide +kernel
theorem dL_law_402 : decode cL_law 402 = .ok (.iconst 0, 1) := by decide +kernel
theorem dL_law_403 : decode cL_law 403 = .ok (.iastore, 1) := by decide +kernel
theorem dL_law_404 : decode cL_law 404 = .ok (.aload 6, 2) := by decide +kernel
theorem dL_law_406 : decode cL_law 406 = .ok (.iconst 5, 1) := by decide +kernel
theorem dL_law_407 : decode cL_law 407 = .ok (.dup2, 1) := by decide +kernel
theorem dL_law_408 : decode cL_law 408 = .ok (.iaload, 1) := by decide +kernel
theorem dL_law_409 : decode cL_law 409 = .ok (.iconst 1, 1) := by decide +kernel
theorem dL_law_410 : decode cL_law 410 = .ok (.iadd, 1) := by decide +kernel
theorem dL_law_411 : decode cL_law 411 = .ok (.iastore, 1) := by decide +kernel
theorem dL_law_412 : decode cL_law 412 = .ok (.aload_n 1, 1) := by decide +kernel
theorem dL_law_413 : decode cL_law 413 = .ok (.aload 5, 2) := by decide +kernel
theorem dL_law_415 : decode cL_law 415 = .ok (.iload 12, 2) := by decide +kernel
theorem dL_law_417 : decode cL_law 417 = .ok (.iaload, 1) := by decide +kernel
theorem dL_law_418 : decode cL_law 418 = .ok (.aload 5, 2) := by decide +kernel
theorem dL_law_420 : decode cL_law 420 = .ok (.iconst 5, 1) := by decide +kernel
theorem dL_law_421 : decode cL_law 421 = .ok (.iload 12, 2) := by decide +kernel
theorem dL_law_423 : decode cL_law 423 = .ok (.iadd, 1) := by decide +kernel
theorem dL_law_424 : decode cL_law 424 = .ok (.iaload, 1) := by decide +kernel
theorem dL_law_425 : decode cL_law 425 = .ok (.invokevirtual 124, 3) := by decide +kernel
theorem dL_law_428 : decode cL_law 428 = .ok (.iload 12, 2) := by decide +kernel
theorem dL_law_430 : decode cL_law 430 = .ok (.if_icmp .ne 7, 3) := by decide +kernel
theorem dL_law_433 : decode cL_law 433 = .ok (.iconst 1, 1) := by decide +kernel
theorem dL_law_434 : decode cL_law 434 = .ok (.goto 4, 3) := by decide +kernel
theorem dL_law_437 : decode cL_law 437 = .ok (.iconst 0, 1) := by decide +kernel
theorem dL_law_438 : decode cL_law 438 = .ok (.istore 11, 2) := by decide +kernel
theorem dL_law_440 : decode cL_law 440 = .ok (.goto 808, 3) := by decide +kernel
theorem dL_law_443 : decode cL_law 443 = .ok (.iload 9, 2) := by decide +kernel
theorem dL_law_445 : decode cL_law 445 = .ok (.bipush 6, 2) := by decide +kernel
theorem dL_law_447 : decode cL_law 447 = .ok (.if_icmp .ne 206, 3) := by decide +kernel
theorem dL_law_450 : decode cL_law 450 = .ok (.iload 8, 2) := by decide +kernel
theorem dL_law_452 : decode cL_law 452 = .ok (.bipush 7, 2) := by decide +kernel
theorem dL_law_454 : decode cL_law 454 = .ok (.ishr, 1) := by decide +kernel
theorem dL_law_455 : decode cL_law 455 = .ok (.aload 6, 2) := by decide +kernel
theorem dL_law_457 : decode cL_law 457 = .ok (.iconst 4, 1) := by decide +kernel
theorem dL_law_458 : decode cL_law 458 = .ok (.iaload, 1) := by decide +kernel
theorem dL_law_459 : decode cL_law 459 = .ok (.iconst 1, 1) := by decide +kernel
theorem dL_law_460 : decode cL_law 460 = .ok (.iadd, 1) := by decide +kernel
theorem dL_law_461 : decode cL_law 461 = .ok (.invokestatic 117, 3) := by decide +kernel
theorem dL_law_464 : decode cL_law 464 = .ok (.istore 12, 2) := by decide +kernel
theorem dL_law_466 : decode cL_law 466 = .ok (.iload 12, 2) := by decide +kernel
theorem dL_law_468 : decode cL_law 468 = .ok (.aload 6, 2) := by decide +kernel
theorem dL_law_470 : decode cL_law 470 = .ok (.iconst 4, 1) := by decide +kernel
theorem dL_law_471 : decode cL_law 471 = .ok (.iaload, 1) := by decide +kernel
theorem dL_law_472 : decode cL_law 472 = .ok (.if_icmp .ne 7, 3) := by decide +kernel
theorem dL_law_475 : decode cL_law 475 = .ok (.iconst 1, 1) := by decide +kernel
theorem dL_law_476 : decode cL_law 476 = .ok (.goto 4, 3) := by decide +kernel
theorem dL_law_479 : decode cL_law 479 = .ok (.iconst 0, 1) := by decide +kernel
theorem dL_law_480 : decode cL_law 480 = .ok (.istore 13, 2) := by decide +kernel
theorem dL_law_482 : decode cL_law 482 = .ok (.iload 13, 2) := by decide +kernel
theorem dL_law_484 : decode cL_law 484 = .ok (.ifCond .ne 137, 3) := by decide +kernel
theorem dL_law_487 : decode cL_law 487 = .ok (.aload 6, 2) := by decide +kernel
theorem dL_law_489 : decode cL_law 489 = .ok (.iconst 4, 1) := by decide +kernel
theorem dL_law_490 : decode cL_law 490 = .ok (.dup2, 1) := by decide +kernel
theorem dL_law_491 : decode cL_law 491 = .ok (.iaload, 1) := by decide +kernel
theorem dL_law_492 : decode cL_law 492 = .ok (.iconst 1, 1) := by decide +kernel
theorem dL_law_493 : decode cL_law 493 = .ok (.isub, 1) := by decide +kernel
theorem dL_law_494 : decode cL_law 494 = .ok (.iastore, 1) := by decide +kernel
theorem dL_law_495 : decode cL_law 495 = .ok (.iload 12, 2) := by decide +kernel
theorem dL_law_497 : decode cL_law 497 = .ok (.istore 14, 2) := by decide +kernel
theorem dL_law_499 : decode cL_law 499 = .ok (.iload 14, 2) := by decide +kernel
theorem dL_law_501 : decode cL_law 501 = .ok (.aload 6, 2) := by decide +kernel
theorem dL_law_503 : decode cL_law 503 = .ok (.iconst 4, 1) := by decide +kernel
theorem dL_law_504 : decode cL_law 504 = .ok (.iaload, 1) := by decide +kernel
theorem dL_law_505 : decode cL_law 505 = .ok (.if_icmp .ge 29, 3) := by decide +kernel
theorem dL_law_508 : decode cL_law 508 = .ok (.aload_n 2, 1) := by decide +kernel
theorem dL_law_509 : decode cL_law 509 = .ok (.iload 14, 2) := by decide +kernel
theorem dL_law_511 : decode cL_law 511 = .ok (.aload_n 2, 1) := by decide +kernel
theorem dL_law_512 : decode cL_law 512 = .ok (.iload 14, 2) := by decide +kernel
theorem dL_law_514 : decode cL_law 514 = .ok (.iconst 1, 1) := by decide +kernel
theorem dL_law_515 : decode cL_law 515 = .ok (.iadd, 1) := by decide +kernel
theorem dL_law_516 : decode cL_law 516 = .ok (.iaload, 1) := by decide +kernel
theorem dL_law_517 : decode cL_law 517 = .ok (.iastore, 1) := by decide +kernel
theorem dL_law_518 : decode cL_law 518 = .ok (.aload_n 3, 1) := by decide +kernel
theorem dL_law_519 : decode cL_law 519 = .ok (.iload 14, 2) := by decide +kernel
theorem dL_law_521 : decode cL_law 521 = .ok (.aload_n 3, 1) := by decide +kernel
theorem dL_law_522 : decode cL_law 522 = .ok (.iload 14, 2) := by decide +kernel
theorem dL_law_524 : decode cL_law 524 = .ok (.iconst 1, 1) := by decide +kernel
theorem dL_law_525 : decode cL_law 525 = .ok (.iadd, 1) := by decide +kernel
theorem dL_law_526 : decode cL_law 526 = .ok (.iaload, 1) := by decide +kernel
theorem dL_law_527 : decode cL_law 527 = .ok (.iastore, 1) := by decide +kernel
theorem dL_law_528 : decode cL_law 528 = .ok (.iinc 14 1, 3) := by decide +kernel
theorem dL_law_531 : decode cL_law 531 = .ok (.goto (-32), 3) := by decide +kernel
theorem dL_law_534 : decode cL_law 534 = .ok (.iconst 4, 1) := by decide +kernel
theorem dL_law_535 : decode cL_law 535 = .ok (.istore 14, 2) := by decide +kernel
theorem dL_law_537 : decode cL_law 537 = .ok (.iload 14, 2) := by decide +kernel
theorem dL_law_539 : decode cL_law 539 = .ok (.bipush 8, 2) := by decide +kernel
theorem dL_law_541 : decode cL_law 541 = .ok (.if_icmp .ge 80, 3) := by decide +kernel
theorem dL_law_544 : decode cL_law 544 = .ok (.iconst 0, 1) := by decide +kernel
theorem dL_law_545 : decode cL_law 545 = .ok (.istore 15, 2) := by decide +kernel
theorem dL_law_547 : decode cL_law 547 = .ok (.iconst 0, 1) := by decide +kernel
theorem dL_law_548 : decode cL_law 548 = .ok (.istore 16, 2) := by decide +kernel
theorem dL_law_550 : decode cL_law 550 = .ok (.iload 16, 2) := by decide +kernel
theorem dL_law_552 : decode cL_law 552 = .ok (.aload 6, 2) := by decide +kernel
theorem dL_law_554 : decode cL_law 554 = .ok (.iconst 4, 1) := by decide +kernel
theorem dL_law_555 : decode cL_law 555 = .ok (.iaload, 1) := by decide +kernel
theorem dL_law_556 : decode cL_law 556 = .ok (.if_icmp .gt 52, 3) := by decide +kernel
theorem dL_law_559 : decode cL_law 559 = .ok (.iload 15, 2) := by decide +kernel
theorem dL_law_561 : decode cL_law 561 = .ok (.iload 16, 2) := by decide +kernel
theorem dL_law_563 : decode cL_law 563 = .ok (.iload 12, 2) := by decide +kernel
theorem dL_law_565 : decode cL_law 565 = .ok (.if_icmp .ne 7, 3) := by decide +kernel
theorem dL_law_568 : decode cL_law 568 = .ok (.iconst 0, 1) := by decide +kernel
theorem dL_law_569 : decode cL_law 569 = .ok (.goto 30, 3) := by decide +kernel
theorem dL_law_572 : decode cL_law 572 = .ok (.aload 4, 2) := by decide +kernel
theorem dL_law_574 : decode cL_law 574 = .ok (.iload 14, 2) := by decide +kernel
theorem dL_law_576 : decode cL_law 576 = .ok (.iaload, 1) := by decide +kernel
theorem dL_law_577 : decode cL_law 577 = .ok (.iload 16, 2) := by decide +kernel
theorem dL_law_579 : decode cL_law 579 = .ok (.ishr, 1) := by decide +kernel
theorem dL_law_580 : decode cL_law 580 = .ok (.iconst 1, 1) := by decide +kernel
theorem dL_law_581 : decode cL_law 581 = .ok (.iand, 1) := by decide +kernel
theorem dL_law_582 : decode cL_law 582 = .ok (.iload 16, 2) := by decide +kernel
theorem dL_law_584 : decode cL_law 584 = .ok (.iload 12, 2) := by decide +kernel
theorem dL_law_586 : decode cL_law 586 = .ok (.if_icmp .ge 8, 3) := by decide +kernel
theorem dL_law_589 : decode cL_law 589 = .ok (.iload 16, 2) := by decide +kernel
theorem dL_law_591 : decode cL_law 591 = .ok (.goto 7, 3) := by decide +kernel
theorem dL_law_594 : decode cL_law 594 = .ok (.iload 16, 2) := by decide +kernel
theorem dL_law_596 : decode cL_law 596 = .ok (.iconst 1, 1) := by decide +kernel
theorem dL_law_597 : decode cL_law 597 = .ok (.isub, 1) := by decide +kernel
theorem dL_law_598 : decode cL_law 598 = .ok (.ishl, 1) := by decide +kernel
theorem dL_law_599 : decode cL_law 599 = .ok (.ior, 1) := by decide +kernel
theorem dL_law_600 : decode cL_law 600 = .ok (.istore 15, 2) := by decide +kernel
theorem dL_law_602 : decode cL_law 602 = .ok (.iinc 16 1, 3) := by decide +kernel
theorem dL_law_605 : decode cL_law 605 = .ok (.goto (-55), 3) := by decide +kernel
theorem dL_law_608 : decode cL_law 608 = .ok (.aload 4, 2) := by decide +kernel
theorem dL_law_610 : decode cL_law 610 = .ok (.iload 14, 2) := by decide +kernel
theorem dL_law_612 : decode cL_law 612 = .ok (.iload 15, 2) := by decide +kernel
theorem dL_law_614 : decode cL_law 614 = .ok (.iastore, 1) := by decide +kernel
theorem dL_law_615 : decode cL_law 615 = .ok (.iinc 14 1, 3) := by decide +kernel
theorem dL_law_618 : decode cL_law 618 = .ok (.goto (-81), 3) := by decide +kernel
theorem dL_law_621 : decode cL_law 621 = .ok (.aload_n 1, 1) := by decide +kernel
theorem dL_law_622 : decode cL_law 622 = .ok (.iload 12, 2) := by decide +kernel
theorem dL_law_624 : decode cL_law 624 = .ok (.invokevirtual 127, 3) := by decide +kernel
theorem dL_law_627 : decode cL_law 627 = .ok (.iload 13, 2) := by decide +kernel
theorem dL_law_629 : decode cL_law 629 = .ok (.ifCond .eq 7, 3) := by decide +kernel
theorem dL_law_632 : decode cL_law 632 = .ok (.iconst (-1), 1) := by decide +kernel
theorem dL_law_633 : decode cL_law 633 = .ok (.goto 7, 3) := by decide +kernel
theorem dL_law_636 : decode cL_law 636 = .ok (.aload 6, 2) := by decide +kernel
theorem dL_law_638 : decode cL_law 638 = .ok (.iconst 4, 1) := by decide +kernel
theorem dL_law_639 : decode cL_law 639 = .ok (.iaload, 1) := by decide +kernel
theorem dL_law_640 : decode cL_law 640 = .ok (.if_icmp .ne 7, 3) := by decide +kernel
theorem dL_law_643 : decode cL_law 643 = .ok (.iconst 1, 1) := by decide +kernel
theorem dL_law_644 : decode cL_law 644 = .ok (.goto 4, 3) := by decide +kernel
theorem dL_law_647 : decode cL_law 647 = .ok (.iconst 0, 1) := by decide +kernel
theorem dL_law_648 : decode cL_law 648 = .ok (.istore 11, 2) := by decide +kernel
theorem dL_law_650 : decode cL_law 650 = .ok (.goto 598, 3) := by decide +kernel
theorem dL_law_653 : decode cL_law 653 = .ok (.iload 9, 2) := by decide +kernel
theorem dL_law_655 : decode cL_law 655 = .ok (.bipush 7, 2) := by decide +kernel
theorem dL_law_657 : decode cL_law 657 = .ok (.if_icmp .ne 115, 3) := by decide +kernel
theorem dL_law_660 : decode cL_law 660 = .ok (.iload 8, 2) := by decide +kernel
theorem dL_law_662 : decode cL_law 662 = .ok (.bipush 7, 2) := by decide +kernel
theorem dL_law_664 : decode cL_law 664 = .ok (.ishr, 1) := by decide +kernel
theorem dL_law_665 : decode cL_law 665 = .ok (.iconst 2, 1) := by decide +kernel
theorem dL_law_666 : decode cL_law 666 = .ok (.invokestatic 117, 3) := by decide +kernel
theorem dL_law_669 : decode cL_law 669 = .ok (.istore 12, 2) := by decide +kernel
theorem dL_law_671 : decode cL_law 671 = .ok (.iload 12, 2) := by decide +kernel
theorem dL_law_673 : decode cL_law 673 = .ok (.ifCond .ne 37, 3) := by decide +kernel
theorem dL_law_676 : decode cL_law 676 = .ok (.bipush 10, 2) := by decide +kernel
theorem dL_law_678 : decode cL_law 678 = .ok (.iload 8, 2) := by decide +kernel
theorem dL_law_680 : decode cL_law 680 = .ok (.bipush 8, 2) := by decide +kernel
theorem dL_law_682 : decode cL_law 682 = .ok (.ishr, 1) := by decide +kernel
theorem dL_law_683 : decode cL_law 683 = .ok (.iload 8, 2) := by decide +kernel
theorem dL_law_685 : decode cL_law 685 = .ok (.bipush 25, 2) := by decide +kernel
theorem dL_law_687 : decode cL_law 687 = .ok (.ishr, 1) := by decide +kernel
theorem dL_law_688 : decode cL_law 688 = .ok (.iconst 2, 1) := by decide +kernel
theorem dL_law_689 : decode cL_law 689 = .ok (.invokestatic 117, 3) := by decide +kernel
theorem dL_law_692 : decode cL_law 692 = .ok (.ifCond .ne 9, 3) := by decide +kernel
theorem dL_law_695 : decode cL_law 695 = .ok (.sipush 191, 3) := by decide +kernel
theorem dL_law_698 : decode cL_law 698 = .ok (.goto 5, 3) := by decide +kernel
theorem dL_law_701 : decode cL_law 701 = .ok (.bipush 20, 2) := by decide +kernel
theorem dL_law_703 : decode cL_law 703 = .ok (.invokestatic 117, 3) := by decide +kernel
theorem dL_law_706 : decode cL_law 706 = .ok (.iadd, 1) := by decide +kernel
theorem dL_law_707 : decode cL_law 707 = .ok (.goto 30, 3) := by decide +kernel
theorem dL_law_710 : decode cL_law 710 = .ok (.iload 8, 2) := by decide +kernel
theorem dL_law_712 : decode cL_law 712 = .ok (.bipush 8, 2) := by decide +kernel
theorem dL_law_714 : decode cL_law 714 = .ok (.ishr, 1) := by decide +kernel
theorem dL_law_715 : decode cL_law 715 = .ok (.iload 8, 2) := by decide +kernel
theorem dL_law_717 : decode cL_law 717 = .ok (.bipush 25, 2) := by decide +kernel
theorem dL_law_719 : decode cL_law 719 = .ok (.ishr, 1) := by decide +kernel
theorem dL_law_720 : decode cL_law 720 = .ok (.iconst 2, 1) := by decide +kernel
theorem dL_law_721 : decode cL_law 721 = .ok (.invokestatic 117, 3) := by decide +kernel
theorem dL_law_724 : decode cL_law 724 = .ok (.ifCond .ne 8, 3) := by decide +kernel
theorem dL_law_727 : decode cL_law 727 = .ok (.bipush 61, 2) := by decide +kernel
theorem dL_law_729 : decode cL_law 729 = .ok (.goto 5, 3) := by decide +kernel
theorem dL_law_732 : decode cL_law 732 = .ok (.bipush 8, 2) := by decide +kernel
theorem dL_law_734 : decode cL_law 734 = .ok (.invokestatic 117, 3) := by decide +kernel
theorem dL_law_737 : decode cL_law 737 = .ok (.istore 13, 2) := by decide +kernel
theorem dL_law_739 : decode cL_law 739 = .ok (.aload_n 1, 1) := by decide +kernel
theorem dL_law_740 : decode cL_law 740 = .ok (.iload 12, 2) := by decide +kernel
theorem dL_law_742 : decode cL_law 742 = .ok (.iload 13, 2) := by decide +kernel
theorem dL_law_744 : decode cL_law 744 = .ok (.invokevirtual 130, 3) := by decide +kernel
theorem dL_law_747 : decode cL_law 747 = .ok (.aload 6, 2) := by decide +kernel
theorem dL_law_749 : decode cL_law 749 = .ok (.iload 12, 2) := by decide +kernel
theorem dL_law_751 : decode cL_law 751 = .ok (.iaload, 1) := by decide +kernel
theorem dL_law_752 : decode cL_law 752 = .ok (.if_icmp .ne 7, 3) := by decide +kernel
theorem dL_law_755 : decode cL_law 755 = .ok (.iconst 1, 1) := by decide +kernel
theorem dL_law_756 : decode cL_law 756 = .ok (.goto 4, 3) := by decide +kernel
theorem dL_law_759 : decode cL_law 759 = .ok (.iconst 0, 1) := by decide +kernel
theorem dL_law_760 : decode cL_law 760 = .ok (.istore 11, 2) := by decide +kernel
theorem dL_law_762 : decode cL_law 762 = .ok (.aload 6, 2) := by decide +kernel
theorem dL_law_764 : decode cL_law 764 = .ok (.iload 12, 2) := by decide +kernel
theorem dL_law_766 : decode cL_law 766 = .ok (.iload 13, 2) := by decide +kernel
theorem dL_law_768 : decode cL_law 768 = .ok (.iastore, 1) := by decide +kernel
theorem dL_law_769 : decode cL_law 769 = .ok (.goto 479, 3) := by decide +kernel
theorem dL_law_772 : decode cL_law 772 = .ok (.iload 9, 2) := by decide +kernel
theorem dL_law_774 : decode cL_law 774 = .ok (.bipush 8, 2) := by decide +kernel
theorem dL_law_776 : decode cL_law 776 = .ok (.if_icmp .ne 48, 3) := by decide +kernel
theorem dL_law_779 : decode cL_law 779 = .ok (.iload 8, 2) := by decide +kernel
theorem dL_law_781 : decode cL_law 781 = .ok (.bipush 7, 2) := by decide +kernel
theorem dL_law_783 : decode cL_law 783 = .ok (.ishr, 1) := by decide +kernel
theorem dL_law_784 : decode cL_law 784 = .ok (.bipush 10, 2) := by decide +kernel
theorem dL_law_786 : decode cL_law 786 = .ok (.invokestatic 117, 3) := by decide +kernel
theorem dL_law_789 : decode cL_law 789 = .ok (.istore 12, 2) := by decide +kernel
theorem dL_law_791 : decode cL_law 791 = .ok (.aload_n 1, 1) := by decide +kernel
theorem dL_law_792 : decode cL_law 792 = .ok (.iload 10, 2) := by decide +kernel
theorem dL_law_794 : decode cL_law 794 = .ok (.iload 12, 2) := by decide +kernel
theorem dL_law_796 : decode cL_law 796 = .ok (.invokevirtual 133, 3) := by decide +kernel
theorem dL_law_799 : decode cL_law 799 = .ok (.aload 4, 2) := by decide +kernel
theorem dL_law_801 : decode cL_law 801 = .ok (.iload 10, 2) := by decide +kernel
theorem dL_law_803 : decode cL_law 803 = .ok (.iaload, 1) := by decide +kernel
theorem dL_law_804 : decode cL_law 804 = .ok (.if_icmp .ne 7, 3) := by decide +kernel
theorem dL_law_807 : decode cL_law 807 = .ok (.iconst 1, 1) := by decide +kernel
theorem dL_law_808 : decode cL_law 808 = .ok (.goto 4, 3) := by decide +kernel
theorem dL_law_811 : decode cL_law 811 = .ok (.iconst 0, 1) := by decide +kernel
theorem dL_law_812 : decode cL_law 812 = .ok (.istore 11, 2) := by decide +kernel
theorem dL_law_814 : decode cL_law 814 = .ok (.aload 4, 2) := by decide +kernel
theorem dL_law_816 : decode cL_law 816 = .ok (.iload 10, 2) := by decide +kernel
theorem dL_law_818 : decode cL_law 818 = .ok (.iload 12, 2) := by decide +kernel
theorem dL_law_820 : decode cL_law 820 = .ok (.iastore, 1) := by decide +kernel
theorem dL_law_821 : decode cL_law 821 = .ok (.goto 427, 3) := by decide +kernel
theorem dL_law_824 : decode cL_law 824 = .ok (.iload 9, 2) := by decide +kernel
theorem dL_law_826 : decode cL_law 826 = .ok (.bipush 15, 2) := by decide +kernel
theorem dL_law_828 : decode cL_law 828 = .ok (.if_icmp .ge 172, 3) := by decide +kernel
theorem dL_law_831 : decode cL_law 831 = .ok (.iload 8, 2) := by decide +kernel
theorem dL_law_833 : decode cL_law 833 = .ok (.bipush 7, 2) := by decide +kernel
theorem dL_law_835 : decode cL_law 835 = .ok (.ishr, 1) := by decide +kernel
theorem dL_law_836 : decode cL_law 836 = .ok (.aload 6, 2) := by decide +kernel
theorem dL_law_838 : decode cL_law 838 = .ok (.iconst 4, 1) := by decide +kernel
theorem dL_law_839 : decode cL_law 839 = .ok (.iaload, 1) := by decide +kernel
theorem dL_law_840 : decode cL_law 840 = .ok (.invokestatic 117, 3) := by decide +kernel
theorem dL_law_843 : decode cL_law 843 = .ok (.istore 12, 2) := by decide +kernel
theorem dL_law_845 : decode cL_law 845 = .ok (.iconst 0, 1) := by decide +kernel
theorem dL_law_846 : decode cL_law 846 = .ok (.istore 13, 2) := by decide +kernel
theorem dL_law_848 : decode cL_law 848 = .ok (.iload 13, 2) := by decide +kernel
theorem dL_law_850 : decode cL_law 850 = .ok (.aload 6, 2) := by decide +kernel
theorem dL_law_852 : decode cL_law 852 = .ok (.iconst 4, 1) := by decide +kernel
theorem dL_law_853 : decode cL_law 853 = .ok (.iaload, 1) := by decide +kernel
theorem dL_law_854 : decode cL_law 854 = .ok (.if_icmp .ge 48, 3) := by decide +kernel
theorem dL_law_857 : decode cL_law 857 = .ok (.aload_n 2, 1) := by decide +kernel
theorem dL_law_858 : decode cL_law 858 = .ok (.iload 12, 2) := by decide +kernel
theorem dL_law_860 : decode cL_law 860 = .ok (.invokestatic 10, 3) := by decide +kernel
theorem dL_law_863 : decode cL_law 863 = .ok (.aload 4, 2) := by decide +kernel
theorem dL_law_865 : decode cL_law 865 = .ok (.iload 10, 2) := by decide +kernel
theorem dL_law_867 : decode cL_law 867 = .ok (.iaload, 1) := by decide +kernel
theorem dL_law_868 : decode cL_law 868 = .ok (.if_icmp .eq 34, 3) := by decide +kernel
theorem dL_law_871 : decode cL_law 871 = .ok (.aload_n 2, 1) := by decide +kernel
theorem dL_law_872 : decode cL_law 872 = .ok (.iload 12, 2) := by decide +kernel
theorem dL_law_874 : decode cL_law 874 = .ok (.invokestatic 16, 3) := by decide +kernel
theorem dL_law_877 : decode cL_law 877 = .ok (.aload 4, 2) := by decide +kernel
theorem dL_law_879 : decode cL_law 879 = .ok (.iload 10, 2) := by decide +kernel
theorem dL_law_881 : decode cL_law 881 = .ok (.iaload, 1) := by decide +kernel
theorem dL_law_882 : decode cL_law 882 = .ok (.if_icmp .eq 20, 3) := by decide +kernel
theorem dL_law_885 : decode cL_law 885 = .ok (.iload 12, 2) := by decide +kernel
theorem dL_law_887 : decode cL_law 887 = .ok (.iconst 1, 1) := by decide +kernel
theorem dL_law_888 : decode cL_law 888 = .ok (.iadd, 1) := by decide +kernel
theorem dL_law_889 : decode cL_law 889 = .ok (.aload 6, 2) := by decide +kernel
theorem dL_law_891 : decode cL_law 891 = .ok (.iconst 4, 1) := by decide +kernel
theorem dL_law_892 : decode cL_law 892 = .ok (.iaload, 1) := by decide +kernel
theorem dL_law_893 : decode cL_law 893 = .ok (.irem, 1) := by decide +kernel
theorem dL_law_894 : decode cL_law 894 = .ok (.istore 12, 2) := by decide +kernel
theorem dL_law_896 : decode cL_law 896 = .ok (.iinc 13 1, 3) := by decide +kernel
theorem dL_law_899 : decode cL_law 899 = .ok (.goto (-51), 3) := by decide +kernel
theorem dL_law_902 : decode cL_law 902 = .ok (.aload_n 2, 1) := by decide +kernel
theorem dL_law_903 : decode cL_law 903 = .ok (.iload 12, 2) := by decide +kernel
theorem dL_law_905 : decode cL_law 905 = .ok (.invokestatic 10, 3) := by decide +kernel
theorem dL_law_908 : decode cL_law 908 = .ok (.aload 4, 2) := by decide +kernel
theorem dL_law_910 : decode cL_law 910 = .ok (.iload 10, 2) := by decide +kernel
theorem dL_law_912 : decode cL_law 912 = .ok (.iaload, 1) := by decide +kernel
theorem dL_law_913 : decode cL_law 913 = .ok (.if_icmp .eq 17, 3) := by decide +kernel
theorem dL_law_916 : decode cL_law 916 = .ok (.aload_n 2, 1) := by decide +kernel
theorem dL_law_917 : decode cL_law 917 = .ok (.iload 12, 2) := by decide +kernel
theorem dL_law_919 : decode cL_law 919 = .ok (.invokestatic 16, 3) := by decide +kernel
theorem dL_law_922 : decode cL_law 922 = .ok (.aload 4, 2) := by decide +kernel
theorem dL_law_924 : decode cL_law 924 = .ok (.iload 10, 2) := by decide +kernel
theorem dL_law_926 : decode cL_law 926 = .ok (.iaload, 1) := by decide +kernel
theorem dL_law_927 : decode cL_law 927 = .ok (.if_icmp .ne 24, 3) := by decide +kernel
theorem dL_law_930 : decode cL_law 930 = .ok (.aload_n 2, 1) := by decide +kernel
theorem dL_law_931 : decode cL_law 931 = .ok (.aload 4, 2) := by decide +kernel
theorem dL_law_933 : decode cL_law 933 = .ok (.aload 5, 2) := by decide +kernel
theorem dL_law_935 : decode cL_law 935 = .ok (.aload 6, 2) := by decide +kernel
theorem dL_law_937 : decode cL_law 937 = .ok (.iload 10, 2) := by decide +kernel
theorem dL_law_939 : decode cL_law 939 = .ok (.iload 12, 2) := by decide +kernel
theorem dL_law_941 : decode cL_law 941 = .ok (.invokestatic 40, 3) := by decide +kernel
theorem dL_law_944 : decode cL_law 944 = .ok (.ifCond .eq 7, 3) := by decide +kernel
theorem dL_law_947 : decode cL_law 947 = .ok (.iconst 1, 1) := by decide +kernel
theorem dL_law_948 : decode cL_law 948 = .ok (.goto 4, 3) := by decide +kernel
theorem dL_law_951 : decode cL_law 951 = .ok (.iconst 0, 1) := by decide +kernel
theorem dL_law_952 : decode cL_law 952 = .ok (.istore 13, 2) := by decide +kernel
theorem dL_law_954 : decode cL_law 954 = .ok (.aload_n 1, 1) := by decide +kernel
theorem dL_law_955 : decode cL_law 955 = .ok (.iload 10, 2) := by decide +kernel
theorem dL_law_957 : decode cL_law 957 = .ok (.iload 12, 2) := by decide +kernel
theorem dL_law_959 : decode cL_law 959 = .ok (.invokevirtual 136, 3) := by decide +kernel
theorem dL_law_962 : decode cL_law 962 = .ok (.iload 13, 2) := by decide +kernel
theorem dL_law_964 : decode cL_law 964 = .ok (.ifCond .eq 21, 3) := by decide +kernel
theorem dL_law_967 : decode cL_law 967 = .ok (.aload_n 2, 1) := by decide +kernel
theorem dL_law_968 : decode cL_law 968 = .ok (.aload_n 3, 1) := by decide +kernel
theorem dL_law_969 : decode cL_law 969 = .ok (.aload 4, 2) := by decide +kernel
theorem dL_law_971 : decode cL_law 971 = .ok (.aload 5, 2) := by decide +kernel
theorem dL_law_973 : decode cL_law 973 = .ok (.aload 6, 2) := by decide +kernel
theorem dL_law_975 : decode cL_law 975 = .ok (.iload 10, 2) := by decide +kernel
theorem dL_law_977 : decode cL_law 977 = .ok (.iload 12, 2) := by decide +kernel
theorem dL_law_979 : decode cL_law 979 = .ok (.invokestatic 139, 3) := by decide +kernel
theorem dL_law_982 : decode cL_law 982 = .ok (.goto 5, 3) := by decide +kernel
theorem dL_law_985 : decode cL_law 985 = .ok (.bipush (-5), 2) := by decide +kernel
theorem dL_law_987 : decode cL_law 987 = .ok (.if_icmp .ne 7, 3) := by decide +kernel
theorem dL_law_990 : decode cL_law 990 = .ok (.iconst 1, 1) := by decide +kernel
theorem dL_law_991 : decode cL_law 991 = .ok (.goto 4, 3) := by decide +kernel
theorem dL_law_994 : decode cL_law 994 = .ok (.iconst 0, 1) := by decide +kernel
theorem dL_law_995 : decode cL_law 995 = .ok (.istore 11, 2) := by decide +kernel
theorem dL_law_997 : decode cL_law 997 = .ok (.goto 251, 3) := by decide +kernel
theorem dL_law_1000 : decode cL_law 1000 = .ok (.iload 9, 2) := by decide +kernel
theorem dL_law_1002 : decode cL_law 1002 = .ok (.bipush 17, 2) := by decide +kernel
theorem dL_law_1004 : decode cL_law 1004 = .ok (.if_icmp .ge 181, 3) := by decide +kernel
theorem dL_law_1007 : decode cL_law 1007 = .ok (.iload 8, 2) := by decide +kernel
theorem dL_law_1009 : decode cL_law 1009 = .ok (.bipush 7, 2) := by decide +kernel
theorem dL_law_1011 : decode cL_law 1011 = .ok (.ishr, 1) := by decide +kernel
theorem dL_law_1012 : decode cL_law 1012 = .ok (.bipush 10, 2) := by decide +kernel
theorem dL_law_1014 : decode cL_law 1014 = .ok (.invokestatic 117, 3) := by decide +kernel
theorem dL_law_1017 : decode cL_law 1017 = .ok (.istore 12, 2) := by decide +kernel
theorem dL_law_1019 : decode cL_law 1019 = .ok (.aload_n 2, 1) := by decide +kernel
theorem dL_law_1020 : decode cL_law 1020 = .ok (.aload 4, 2) := by decide +kernel
theorem dL_law_1022 : decode cL_law 1022 = .ok (.aload 5, 2) := by decide +kernel
theorem dL_law_1024 : decode cL_law 1024 = .ok (.aload 6, 2) := by decide +kernel
theorem dL_law_1026 : decode cL_law 1026 = .ok (.iload 10, 2) := by decide +kernel
theorem dL_law_1028 : decode cL_law 1028 = .ok (.invokestatic 56, 3) := by decide +kernel
theorem dL_law_1031 : decode cL_law 1031 = .ok (.istore 13, 2) := by decide +kernel
theorem dL_law_1033 : decode cL_law 1033 = .ok (.aload_n 2, 1) := by decide +kernel
theorem dL_law_1034 : decode cL_law 1034 = .ok (.aload 6, 2) := by decide +kernel
theorem dL_law_1036 : decode cL_law 1036 = .ok (.iload 12, 2) := by decide +kernel
theorem dL_law_1038 : decode cL_law 1038 = .ok (.iload 13, 2) := by decide +kernel
theorem dL_law_1040 : decode cL_law 1040 = .ok (.invokestatic 60, 3) := by decide +kernel
theorem dL_law_1043 : decode cL_law 1043 = .ok (.astore 14, 2) := by decide +kernel
theorem dL_law_1045 : decode cL_law 1045 = .ok (.aload 14, 2) := by decide +kernel
theorem dL_law_1047 : decode cL_law 1047 = .ok (.aload 4, 2) := by decide +kernel
theorem dL_law_1049 : decode cL_law 1049 = .ok (.iload 10, 2) := by decide +kernel
theorem dL_law_1051 : decode cL_law 1051 = .ok (.iaload, 1) := by decide +kernel
theorem dL_law_1052 : decode cL_law 1052 = .ok (.iaload, 1) := by decide +kernel
theorem dL_law_1053 : decode cL_law 1053 = .ok (.ldc 55, 2) := by decide +kernel
theorem dL_law_1055 : decode cL_law 1055 = .ok (.if_icmp .lt 7, 3) := by decide +kernel
theorem dL_law_1058 : decode cL_law 1058 = .ok (.iconst 1, 1) := by decide +kernel
theorem dL_law_1059 : decode cL_law 1059 = .ok (.goto 4, 3) := by decide +kernel
theorem dL_law_1062 : decode cL_law 1062 = .ok (.iconst 0, 1) := by decide +kernel
theorem dL_law_1063 : decode cL_law 1063 = .ok (.istore 15, 2) := by decide +kernel
theorem dL_law_1065 : decode cL_law 1065 = .ok (.iload 15, 2) := by decide +kernel
theorem dL_law_1067 : decode cL_law 1067 = .ok (.ifCond .ne 7, 3) := by decide +kernel
theorem dL_law_1070 : decode cL_law 1070 = .ok (.iconst 1, 1) := by decide +kernel
theorem dL_law_1071 : decode cL_law 1071 = .ok (.goto 4, 3) := by decide +kernel
theorem dL_law_1074 : decode cL_law 1074 = .ok (.iconst 0, 1) := by decide +kernel
theorem dL_law_1075 : decode cL_law 1075 = .ok (.istore 16, 2) := by decide +kernel
theorem dL_law_1077 : decode cL_law 1077 = .ok (.iload 16, 2) := by decide +kernel
theorem dL_law_1079 : decode cL_law 1079 = .ok (.ifCond .eq 70, 3) := by decide +kernel
theorem dL_law_1082 : decode cL_law 1082 = .ok (.aload 4, 2) := by decide +kernel
theorem dL_law_1084 : decode cL_law 1084 = .ok (.iload 10, 2) := by decide +kernel
theorem dL_law_1086 : decode cL_law 1086 = .ok (.iaload, 1) := by decide +kernel
theorem dL_law_1087 : decode cL_law 1087 = .ok (.iload 12, 2) := by decide +kernel
theorem dL_law_1089 : decode cL_law 1089 = .ok (.if_icmp .eq 60, 3) := by decide +kernel
theorem dL_law_1092 : decode cL_law 1092 = .ok (.aload_n 2, 1) := by decide +kernel
theorem dL_law_1093 : decode cL_law 1093 = .ok (.aload 6, 2) := by decide +kernel
theorem dL_law_1095 : decode cL_law 1095 = .ok (.aload 14, 2) := by decide +kernel
theorem dL_law_1097 : decode cL_law 1097 = .ok (.aload 4, 2) := by decide +kernel
theorem dL_law_1099 : decode cL_law 1099 = .ok (.iload 10, 2) := by decide +kernel
theorem dL_law_1101 : decode cL_law 1101 = .ok (.iaload, 1) := by decide +kernel
theorem dL_law_1102 : decode cL_law 1102 = .ok (.iload 13, 2) := by decide +kernel
theorem dL_law_1104 : decode cL_law 1104 = .ok (.invokestatic 72, 3) := by decide +kernel
theorem dL_law_1107 : decode cL_law 1107 = .ok (.istore 17, 2) := by decide +kernel
theorem dL_law_1109 : decode cL_law 1109 = .ok (.aload_n 2, 1) := by decide +kernel
theorem dL_law_1110 : decode cL_law 1110 = .ok (.aload 4, 2) := by decide +kernel
theorem dL_law_1112 : decode cL_law 1112 = .ok (.aload 5, 2) := by decide +kernel
theorem dL_law_1114 : decode cL_law 1114 = .ok (.aload 6, 2) := by decide +kernel
theorem dL_law_1116 : decode cL_law 1116 = .ok (.iload 10, 2) := by decide +kernel
theorem dL_law_1118 : decode cL_law 1118 = .ok (.iload 17, 2) := by decide +kernel
theorem dL_law_1120 : decode cL_law 1120 = .ok (.invokestatic 40, 3) := by decide +kernel
theorem dL_law_1123 : decode cL_law 1123 = .ok (.istore 16, 2) := by decide +kernel
theorem dL_law_1125 : decode cL_law 1125 = .ok (.iload 16, 2) := by decide +kernel
theorem dL_law_1127 : decode cL_law 1127 = .ok (.ifCond .eq 19, 3) := by decide +kernel
theorem dL_law_1130 : decode cL_law 1130 = .ok (.aload_n 2, 1) := by decide +kernel
theorem dL_law_1131 : decode cL_law 1131 = .ok (.aload_n 3, 1) := by decide +kernel
theorem dL_law_1132 : decode cL_law 1132 = .ok (.aload 4, 2) := by decide +kernel
theorem dL_law_1134 : decode cL_law 1134 = .ok (.aload 5, 2) := by decide +kernel
theorem dL_law_1136 : decode cL_law 1136 = .ok (.aload 6, 2) := by decide +kernel
theorem dL_law_1138 : decode cL_law 1138 = .ok (.iload 10, 2) := by decide +kernel
theorem dL_law_1140 : decode cL_law 1140 = .ok (.iload 17, 2) := by decide +kernel
theorem dL_law_1142 : decode cL_law 1142 = .ok (.invokestatic 139, 3) := by decide +kernel
theorem dL_law_1145 : decode cL_law 1145 = .ok (.pop, 1) := by decide +kernel
theorem dL_law_1146 : decode cL_law 1146 = .ok (.goto (-69), 3) := by decide +kernel
theorem dL_law_1149 : decode cL_law 1149 = .ok (.aload_n 1, 1) := by decide +kernel
theorem dL_law_1150 : decode cL_law 1150 = .ok (.iload 10, 2) := by decide +kernel
theorem dL_law_1152 : decode cL_law 1152 = .ok (.iload 12, 2) := by decide +kernel
theorem dL_law_1154 : decode cL_law 1154 = .ok (.invokevirtual 142, 3) := by decide +kernel
theorem dL_law_1157 : decode cL_law 1157 = .ok (.iload 15, 2) := by decide +kernel
theorem dL_law_1159 : decode cL_law 1159 = .ok (.ifCond .eq 8, 3) := by decide +kernel
theorem dL_law_1162 : decode cL_law 1162 = .ok (.bipush (-5), 2) := by decide +kernel
theorem dL_law_1164 : decode cL_law 1164 = .ok (.goto 8, 3) := by decide +kernel
theorem dL_law_1167 : decode cL_law 1167 = .ok (.aload 4, 2) := by decide +kernel
theorem dL_law_1169 : decode cL_law 1169 = .ok (.iload 10, 2) := by decide +kernel
theorem dL_law_1171 : decode cL_law 1171 = .ok (.iaload, 1) := by decide +kernel
theorem dL_law_1172 : decode cL_law 1172 = .ok (.if_icmp .ne 7, 3) := by decide +kernel
theorem dL_law_1175 : decode cL_law 1175 = .ok (.iconst 1, 1) := by decide +kernel
theorem dL_law_1176 : decode cL_law 1176 = .ok (.goto 4, 3) := by decide +kernel
theorem dL_law_1179 : decode cL_law 1179 = .ok (.iconst 0, 1) := by decide +kernel
theorem dL_law_1180 : decode cL_law 1180 = .ok (.istore 11, 2) := by decide +kernel
theorem dL_law_1182 : decode cL_law 1182 = .ok (.goto 66, 3) := by decide +kernel
theorem dL_law_1185 : decode cL_law 1185 = .ok (.iconst 1, 1) := by decide +kernel
theorem dL_law_1186 : decode cL_law 1186 = .ok (.iload 8, 2) := by decide +kernel
theorem dL_law_1188 : decode cL_law 1188 = .ok (.bipush 7, 2) := by decide +kernel
theorem dL_law_1190 : decode cL_law 1190 = .ok (.ishr, 1) := by decide +kernel
theorem dL_law_1191 : decode cL_law 1191 = .ok (.iload 8, 2) := by decide +kernel
theorem dL_law_1193 : decode cL_law 1193 = .ok (.bipush 25, 2) := by decide +kernel
theorem dL_law_1195 : decode cL_law 1195 = .ok (.ishr, 1) := by decide +kernel
theorem dL_law_1196 : decode cL_law 1196 = .ok (.iconst 3, 1) := by decide +kernel
theorem dL_law_1197 : decode cL_law 1197 = .ok (.invokestatic 117, 3) := by decide +kernel
theorem dL_law_1200 : decode cL_law 1200 = .ok (.ifCond .ne 9, 3) := by decide +kernel
theorem dL_law_1203 : decode cL_law 1203 = .ok (.sipush 200, 3) := by decide +kernel
theorem dL_law_1206 : decode cL_law 1206 = .ok (.goto 5, 3) := by decide +kernel
theorem dL_law_1209 : decode cL_law 1209 = .ok (.bipush 20, 2) := by decide +kernel
theorem dL_law_1211 : decode cL_law 1211 = .ok (.invokestatic 117, 3) := by decide +kernel
theorem dL_law_1214 : decode cL_law 1214 = .ok (.iadd, 1) := by decide +kernel
theorem dL_law_1215 : decode cL_law 1215 = .ok (.istore 12, 2) := by decide +kernel
theorem dL_law_1217 : decode cL_law 1217 = .ok (.aload 4, 2) := by decide +kernel
theorem dL_law_1219 : decode cL_law 1219 = .ok (.aload 5, 2) := by decide +kernel
theorem dL_law_1221 : decode cL_law 1221 = .ok (.aload 6, 2) := by decide +kernel
theorem dL_law_1223 : decode cL_law 1223 = .ok (.iload 12, 2) := by decide +kernel
theorem dL_law_1225 : decode cL_law 1225 = .ok (.invokestatic 51, 3) := by decide +kernel
theorem dL_law_1228 : decode cL_law 1228 = .ok (.istore 13, 2) := by decide +kernel
theorem dL_law_1230 : decode cL_law 1230 = .ok (.aload_n 1, 1) := by decide +kernel
theorem dL_law_1231 : decode cL_law 1231 = .ok (.iload 12, 2) := by decide +kernel
theorem dL_law_1233 : decode cL_law 1233 = .ok (.invokevirtual 145, 3) := by decide +kernel
theorem dL_law_1236 : decode cL_law 1236 = .ok (.iload 13, 2) := by decide +kernel
theorem dL_law_1238 : decode cL_law 1238 = .ok (.if_icmp .ne 7, 3) := by decide +kernel
theorem dL_law_1241 : decode cL_law 1241 = .ok (.iconst 1, 1) := by decide +kernel
theorem dL_law_1242 : decode cL_law 1242 = .ok (.goto 4, 3) := by decide +kernel
theorem dL_law_1245 : decode cL_law 1245 = .ok (.iconst 0, 1) := by decide +kernel
theorem dL_law_1246 : decode cL_law 1246 = .ok (.istore 11, 2) := by decide +kernel
theorem dL_law_1248 : decode cL_law 1248 = .ok (.aload_n 0, 1) := by decide +kernel
theorem dL_law_1249 : decode cL_law 1249 = .ok (.bipush 60, 2) := by decide +kernel
theorem dL_law_1251 : decode cL_law 1251 = .ok (.iload 7, 2) := by decide +kernel
theorem dL_law_1253 : decode cL_law 1253 = .ok (.iadd, 1) := by decide +kernel
theorem dL_law_1254 : decode cL_law 1254 = .ok (.invokestatic 114, 3) := by decide +kernel
theorem dL_law_1257 : decode cL_law 1257 = .ok (.istore 12, 2) := by decide +kernel
theorem dL_law_1259 : decode cL_law 1259 = .ok (.iload 11, 2) := by decide +kernel
theorem dL_law_1261 : decode cL_law 1261 = .ok (.ifCond .eq 140, 3) := by decide +kernel
theorem dL_law_1264 : decode cL_law 1264 = .ok (.aload_n 1, 1) := by decide +kernel
theorem dL_law_1265 : decode cL_law 1265 = .ok (.aload_n 2, 1) := by decide +kernel
theorem dL_law_1266 : decode cL_law 1266 = .ok (.aload_n 3, 1) := by decide +kernel
theorem dL_law_1267 : decode cL_law 1267 = .ok (.aload 4, 2) := by decide +kernel
theorem dL_law_1269 : decode cL_law 1269 = .ok (.aload 5, 2) := by decide +kernel
theorem dL_law_1271 : decode cL_law 1271 = .ok (.aload 6, 2) := by decide +kernel
theorem dL_law_1273 : decode cL_law 1273 = .ok (.invokestatic 147, 3) := by decide +kernel
theorem dL_law_1276 : decode cL_law 1276 = .ok (.ifCond .eq 125, 3) := by decide +kernel
theorem dL_law_1279 : decode cL_law 1279 = .ok (.aload_n 1, 1) := by decide +kernel
theorem dL_law_1280 : decode cL_law 1280 = .ok (.aload_n 2, 1) := by decide +kernel
theorem dL_law_1281 : decode cL_law 1281 = .ok (.aload 4, 2) := by decide +kernel
theorem dL_law_1283 : decode cL_law 1283 = .ok (.aload 6, 2) := by decide +kernel
theorem dL_law_1285 : decode cL_law 1285 = .ok (.iload 12, 2) := by decide +kernel
theorem dL_law_1287 : decode cL_law 1287 = .ok (.iconst 4, 1) := by decide +kernel
theorem dL_law_1288 : decode cL_law 1288 = .ok (.invokestatic 117, 3) := by decide +kernel
theorem dL_law_1291 : decode cL_law 1291 = .ok (.invokestatic 150, 3) := by decide +kernel
theorem dL_law_1294 : decode cL_law 1294 = .ok (.ifCond .eq 107, 3) := by decide +kernel
theorem dL_law_1297 : decode cL_law 1297 = .ok (.aload_n 1, 1) := by decide +kernel
theorem dL_law_1298 : decode cL_law 1298 = .ok (.aload_n 2, 1) := by decide +kernel
theorem dL_law_1299 : decode cL_law 1299 = .ok (.aload 4, 2) := by decide +kernel
theorem dL_law_1301 : decode cL_law 1301 = .ok (.aload 5, 2) := by decide +kernel
theorem dL_law_1303 : decode cL_law 1303 = .ok (.aload 6, 2) := by decide +kernel
theorem dL_law_1305 : decode cL_law 1305 = .ok (.iload 12, 2) := by decide +kernel
theorem dL_law_1307 : decode cL_law 1307 = .ok (.iconst 2, 1) := by decide +kernel
theorem dL_law_1308 : decode cL_law 1308 = .ok (.ishr, 1) := by decide +kernel
theorem dL_law_1309 : decode cL_law 1309 = .ok (.iconst 4, 1) := by decide +kernel
theorem dL_law_1310 : decode cL_law 1310 = .ok (.invokestatic 117, 3) := by decide +kernel
theorem dL_law_1313 : decode cL_law 1313 = .ok (.iload 12, 2) := by decide +kernel
theorem dL_law_1315 : decode cL_law 1315 = .ok (.iconst 4, 1) := by decide +kernel
theorem dL_law_1316 : decode cL_law 1316 = .ok (.ishr, 1) := by decide +kernel
theorem dL_law_1317 : decode cL_law 1317 = .ok (.bipush 10, 2) := by decide +kernel
theorem dL_law_1319 : decode cL_law 1319 = .ok (.invokestatic 117, 3) := by decide +kernel
theorem dL_law_1322 : decode cL_law 1322 = .ok (.invokestatic 153, 3) := by decide +kernel
theorem dL_law_1325 : decode cL_law 1325 = .ok (.ifCond .eq 76, 3) := by decide +kernel
theorem dL_law_1328 : decode cL_law 1328 = .ok (.aload_n 1, 1) := by decide +kernel
theorem dL_law_1329 : decode cL_law 1329 = .ok (.iload 12, 2) := by decide +kernel
theorem dL_law_1331 : decode cL_law 1331 = .ok (.bipush 8, 2) := by decide +kernel
theorem dL_law_1333 : decode cL_law 1333 = .ok (.ishr, 1) := by decide +kernel
theorem dL_law_1334 : decode cL_law 1334 = .ok (.bipush 10, 2) := by decide +kernel
theorem dL_law_1336 : decode cL_law 1336 = .ok (.invokestatic 117, 3) := by decide +kernel
theorem dL_law_1339 : decode cL_law 1339 = .ok (.iload 12, 2) := by decide +kernel
theorem dL_law_1341 : decode cL_law 1341 = .ok (.bipush 12, 2) := by decide +kernel
theorem dL_law_1343 : decode cL_law 1343 = .ok (.ishr, 1) := by decide +kernel
theorem dL_law_1344 : decode cL_law 1344 = .ok (.bipush 10, 2) := by decide +kernel
theorem dL_law_1346 : decode cL_law 1346 = .ok (.invokestatic 117, 3) := by decide +kernel
theorem dL_law_1349 : decode cL_law 1349 = .ok (.invokevirtual 157, 3) := by decide +kernel
theorem dL_law_1352 : decode cL_law 1352 = .ok (.aload_n 2, 1) := by decide +kernel
theorem dL_law_1353 : decode cL_law 1353 = .ok (.aload 6, 2) := by decide +kernel
theorem dL_law_1355 : decode cL_law 1355 = .ok (.iload 12, 2) := by decide +kernel
theorem dL_law_1357 : decode cL_law 1357 = .ok (.bipush 8, 2) := by decide +kernel
theorem dL_law_1359 : decode cL_law 1359 = .ok (.ishr, 1) := by decide +kernel
theorem dL_law_1360 : decode cL_law 1360 = .ok (.bipush 10, 2) := by decide +kernel
theorem dL_law_1362 : decode cL_law 1362 = .ok (.invokestatic 117, 3) := by decide +kernel
theorem dL_law_1365 : decode cL_law 1365 = .ok (.iload 12, 2) := by decide +kernel
theorem dL_law_1367 : decode cL_law 1367 = .ok (.bipush 12, 2) := by decide +kernel
theorem dL_law_1369 : decode cL_law 1369 = .ok (.ishr, 1) := by decide +kernel
theorem dL_law_1370 : decode cL_law 1370 = .ok (.bipush 10, 2) := by decide +kernel
theorem dL_law_1372 : decode cL_law 1372 = .ok (.invokestatic 117, 3) := by decide +kernel
theorem dL_law_1375 : decode cL_law 1375 = .ok (.invokestatic 29, 3) := by decide +kernel
theorem dL_law_1378 : decode cL_law 1378 = .ok (.if_icmp .ne 23, 3) := by decide +kernel
theorem dL_law_1381 : decode cL_law 1381 = .ok (.iload 7, 2) := by decide +kernel
theorem dL_law_1383 : decode cL_law 1383 = .ok (.bipush 10, 2) := by decide +kernel
theorem dL_law_1385 : decode cL_law 1385 = .ok (.irem, 1) := by decide +kernel
theorem dL_law_1386 : decode cL_law 1386 = .ok (.bipush 9, 2) := by decide +kernel
theorem dL_law_1388 : decode cL_law 1388 = .ok (.if_icmp .ne 15, 3) := by decide +kernel
theorem dL_law_1391 : decode cL_law 1391 = .ok (.aload_n 1, 1) := by decide +kernel
theorem dL_law_1392 : decode cL_law 1392 = .ok (.aload_n 2, 1) := by decide +kernel
theorem dL_law_1393 : decode cL_law 1393 = .ok (.aload 6, 2) := by decide +kernel
theorem dL_law_1395 : decode cL_law 1395 = .ok (.invokestatic 159, 3) := by decide +kernel
theorem dL_law_1398 : decode cL_law 1398 = .ok (.ifCond .ne 5, 3) := by decide +kernel
theorem dL_law_1401 : decode cL_law 1401 = .ok (.iconst 0, 1) := by decide +kernel
theorem dL_law_1402 : decode cL_law 1402 = .ok (.ireturn, 1) := by decide +kernel
theorem dL_law_1403 : decode cL_law 1403 = .ok (.iinc 7 1, 3) := by decide +kernel
theorem dL_law_1406 : decode cL_law 1406 = .ok (.goto (-1355), 3) := by decide +kernel
theorem dL_law_1409 : decode cL_law 1409 = .ok (.iconst 1, 1) := by decide +kernel
theorem dL_law_1410 : decode cL_law 1410 = .ok (.ireturn, 1) := by decide +kernel
